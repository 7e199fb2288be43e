-- WindowsGive$Pane.<init>(I)V ('P', 'i')
set_option maxRecDepth 100000 in
def f_X1_init (S : wg_Sh) (C : wg_C) (p0 : Nat) (p1 : Int32) : Option (wg_Sh × wg_C) :=
  ck (p0 < S.2.2.2 ∧ S.2.2.1 p0 = 1) <|
  lt_ (wg_up C p0 0 p1) fun C2 =>
  some (S, C2)
set_option maxHeartbeats 4000000 in
set_option maxRecDepth 100000 in
theorem c_X1_init (l : Launch) (E : wg_Ev) (ad : Nat → Nat) (S : wg_Sh) (hw : wg_wf S) (C : wg_C) (M : wg_M) (p0 : Nat) (p1 : Int32) {S0 : wg_Sh} {D0 : wg_C} (h : f_X1_init S C p0 p1 = some (S0, D0)) : wg_Ca l yX1_init cX1_init 2 none 1 24 0 0 E ad S C M [.ref (ad p0), .int p1] (fun _ => none) S0 D0 M := by
  refine wg_start (own := RX1) (by decide +kernel) rfl (Nat.le_of_ble_eq_true rfl) ?_
  intro p e s m below meth c X hr hnm
  refine wg_lv (lv' := [(0, .ref (ad p0)), (1, .int p1)]) rfl ?_
  have hx : wg_ex S ad S ad := wg_ex_rf hw
  unfold f_X1_init at h
  refine wg_aload_n X 0 dX1_init_0 rfl rfl ?_
  refine wg_objI X k_108 k_94 k_95 dX1_init_1 ⟨Nat.le_of_ble_eq_true rfl, Nat.le_of_ble_eq_true rfl⟩ ?_
  refine wg_aload_n X 0 dX1_init_4 rfl rfl ?_
  refine wg_iload_n X 1 dX1_init_5 rfl rfl ?_
  obtain ⟨z1, h⟩ := ck_some h
  obtain ⟨C2, e3, h⟩ := lt_some h
  refine wg_putCF X cl1 z1 0 (by decide) dX1_init_6 k_109 rfl hnm rfl rfl rfl rfl e3 ?_
  refine wg_widen (k := 0) (n := 0) (Nat.le_of_ble_eq_true rfl) (Nat.le_of_ble_eq_true rfl) ?_
  exact wg_avret X hx rfl ⟨(Prod.mk.inj (sm_inj h)).1, (Prod.mk.inj (sm_inj h)).2, rfl⟩ hr dX1_init_9
-- WindowsGive$House.<init>()V (('c', 1),)
set_option maxRecDepth 100000 in
def f_X0_init (N : Nat) (S : wg_Sh) (C : wg_C)  : Option (wg_Sh × wg_C) :=
  ck (1 < S.2.2.2) <|
  ck (S.2.2.2 = 2) <|
  lt_ (wg_nw S 10 32) fun S3 =>
  lt_ (wg_zC C S.2.2.2 (fun _ => 0)) fun C5 =>
  ck (1 < S3.2.2.2 ∧ S3.2.2.1 1 = 0) <|
  ck (2 < S3.2.2.2) <|
  lt_ (wg_sR S3 1 0 (some 2)) fun S12 =>
  ck (1 < S12.2.2.2) <|
  ck (S12.2.2.2 = 3) <|
  lt_ (wg_nw S12 13 8) fun S17 =>
  ck (1 < S17.2.2.2 ∧ S17.2.2.1 1 = 0) <|
  ck (3 < S17.2.2.2) <|
  lt_ (wg_sR S17 1 1 (some 3)) fun S24 =>
  ck (1 < S24.2.2.2 ∧ S24.2.2.1 1 = 0) <|
  ck (S24.1 1 1 = some 3) <|
  ck (1 < S24.2.2.2 ∧ 3 < S24.2.2.2) <|
  ck (S24.2.2.2 = 4) <|
  lt_ (wg_nw S24 1 0) fun S32 =>
  lt_ (wg_zC C5 S24.2.2.2 (fun _ => 0)) fun C34 =>
  ck (1 < S32.2.2.2 ∧ 4 < S32.2.2.2 ∧ 3 < S32.2.2.2) <|
  bd2 (f_X1_init S32 C34 4 (0 : Int32)) fun S41 C42 =>
  ck (3 < S41.2.2.2 ∧ S41.2.2.1 3 = 13) <|
  ck (S41.2.1 3 = 8) <|
  ck (4 < S41.2.2.2 ∧ S41.2.2.1 4 = 1) <|
  ck (inb (0 : Int32) 8) <|
  lt_ (wg_sR S41 3 (0 : Int32).toNatClampNeg (some 4)) fun S50 =>
  ck (1 < S50.2.2.2 ∧ S50.2.2.1 1 = 0) <|
  ck (S50.1 1 1 = some 3) <|
  ck (1 < S50.2.2.2 ∧ 3 < S50.2.2.2) <|
  ck (S50.2.2.2 = 5) <|
  lt_ (wg_nw S50 1 0) fun S58 =>
  lt_ (wg_zC C42 S50.2.2.2 (fun _ => 0)) fun C60 =>
  ck (1 < S58.2.2.2 ∧ 5 < S58.2.2.2 ∧ 3 < S58.2.2.2) <|
  bd2 (f_X1_init S58 C60 5 (1 : Int32)) fun S67 C68 =>
  ck (3 < S67.2.2.2 ∧ S67.2.2.1 3 = 13) <|
  ck (S67.2.1 3 = 8) <|
  ck (5 < S67.2.2.2 ∧ S67.2.2.1 5 = 1) <|
  ck (inb (1 : Int32) 8) <|
  lt_ (wg_sR S67 3 (1 : Int32).toNatClampNeg (some 5)) fun S76 =>
  ck (1 < S76.2.2.2 ∧ S76.2.2.1 1 = 0) <|
  ck (S76.1 1 1 = some 3) <|
  ck (1 < S76.2.2.2 ∧ 3 < S76.2.2.2) <|
  ck (S76.2.2.2 = 6) <|
  lt_ (wg_nw S76 1 0) fun S84 =>
  lt_ (wg_zC C68 S76.2.2.2 (fun _ => 0)) fun C86 =>
  ck (1 < S84.2.2.2 ∧ 6 < S84.2.2.2 ∧ 3 < S84.2.2.2) <|
  bd2 (f_X1_init S84 C86 6 (2 : Int32)) fun S93 C94 =>
  ck (3 < S93.2.2.2 ∧ S93.2.2.1 3 = 13) <|
  ck (S93.2.1 3 = 8) <|
  ck (6 < S93.2.2.2 ∧ S93.2.2.1 6 = 1) <|
  ck (inb (2 : Int32) 8) <|
  lt_ (wg_sR S93 3 (2 : Int32).toNatClampNeg (some 6)) fun S102 =>
  ck (1 < S102.2.2.2 ∧ S102.2.2.1 1 = 0) <|
  ck (S102.1 1 1 = some 3) <|
  ck (1 < S102.2.2.2 ∧ 3 < S102.2.2.2) <|
  ck (S102.2.2.2 = 7) <|
  lt_ (wg_nw S102 1 0) fun S110 =>
  lt_ (wg_zC C94 S102.2.2.2 (fun _ => 0)) fun C112 =>
  ck (1 < S110.2.2.2 ∧ 7 < S110.2.2.2 ∧ 3 < S110.2.2.2) <|
  bd2 (f_X1_init S110 C112 7 (3 : Int32)) fun S119 C120 =>
  ck (3 < S119.2.2.2 ∧ S119.2.2.1 3 = 13) <|
  ck (S119.2.1 3 = 8) <|
  ck (7 < S119.2.2.2 ∧ S119.2.2.1 7 = 1) <|
  ck (inb (3 : Int32) 8) <|
  lt_ (wg_sR S119 3 (3 : Int32).toNatClampNeg (some 7)) fun S128 =>
  ck (1 < S128.2.2.2 ∧ S128.2.2.1 1 = 0) <|
  ck (S128.1 1 1 = some 3) <|
  ck (1 < S128.2.2.2 ∧ 3 < S128.2.2.2) <|
  ck (S128.2.2.2 = 8) <|
  lt_ (wg_nw S128 1 0) fun S136 =>
  lt_ (wg_zC C120 S128.2.2.2 (fun _ => 0)) fun C138 =>
  ck (1 < S136.2.2.2 ∧ 8 < S136.2.2.2 ∧ 3 < S136.2.2.2) <|
  bd2 (f_X1_init S136 C138 8 (4 : Int32)) fun S145 C146 =>
  ck (3 < S145.2.2.2 ∧ S145.2.2.1 3 = 13) <|
  ck (S145.2.1 3 = 8) <|
  ck (8 < S145.2.2.2 ∧ S145.2.2.1 8 = 1) <|
  ck (inb (4 : Int32) 8) <|
  lt_ (wg_sR S145 3 (4 : Int32).toNatClampNeg (some 8)) fun S154 =>
  ck (1 < S154.2.2.2 ∧ S154.2.2.1 1 = 0) <|
  ck (S154.1 1 1 = some 3) <|
  ck (1 < S154.2.2.2 ∧ 3 < S154.2.2.2) <|
  ck (S154.2.2.2 = 9) <|
  lt_ (wg_nw S154 1 0) fun S162 =>
  lt_ (wg_zC C146 S154.2.2.2 (fun _ => 0)) fun C164 =>
  ck (1 < S162.2.2.2 ∧ 9 < S162.2.2.2 ∧ 3 < S162.2.2.2) <|
  bd2 (f_X1_init S162 C164 9 (5 : Int32)) fun S171 C172 =>
  ck (3 < S171.2.2.2 ∧ S171.2.2.1 3 = 13) <|
  ck (S171.2.1 3 = 8) <|
  ck (9 < S171.2.2.2 ∧ S171.2.2.1 9 = 1) <|
  ck (inb (5 : Int32) 8) <|
  lt_ (wg_sR S171 3 (5 : Int32).toNatClampNeg (some 9)) fun S180 =>
  ck (1 < S180.2.2.2 ∧ S180.2.2.1 1 = 0) <|
  ck (S180.1 1 1 = some 3) <|
  ck (1 < S180.2.2.2 ∧ 3 < S180.2.2.2) <|
  ck (S180.2.2.2 = 10) <|
  lt_ (wg_nw S180 1 0) fun S188 =>
  lt_ (wg_zC C172 S180.2.2.2 (fun _ => 0)) fun C190 =>
  ck (1 < S188.2.2.2 ∧ 10 < S188.2.2.2 ∧ 3 < S188.2.2.2) <|
  bd2 (f_X1_init S188 C190 10 (6 : Int32)) fun S197 C198 =>
  ck (3 < S197.2.2.2 ∧ S197.2.2.1 3 = 13) <|
  ck (S197.2.1 3 = 8) <|
  ck (10 < S197.2.2.2 ∧ S197.2.2.1 10 = 1) <|
  ck (inb (6 : Int32) 8) <|
  lt_ (wg_sR S197 3 (6 : Int32).toNatClampNeg (some 10)) fun S206 =>
  ck (1 < S206.2.2.2 ∧ S206.2.2.1 1 = 0) <|
  ck (S206.1 1 1 = some 3) <|
  ck (1 < S206.2.2.2 ∧ 3 < S206.2.2.2) <|
  ck (S206.2.2.2 = 11) <|
  lt_ (wg_nw S206 1 0) fun S214 =>
  lt_ (wg_zC C198 S206.2.2.2 (fun _ => 0)) fun C216 =>
  ck (1 < S214.2.2.2 ∧ 11 < S214.2.2.2 ∧ 3 < S214.2.2.2) <|
  bd2 (f_X1_init S214 C216 11 (7 : Int32)) fun S223 C224 =>
  ck (3 < S223.2.2.2 ∧ S223.2.2.1 3 = 13) <|
  ck (S223.2.1 3 = 8) <|
  ck (11 < S223.2.2.2 ∧ S223.2.2.1 11 = 1) <|
  ck (inb (7 : Int32) 8) <|
  lt_ (wg_sR S223 3 (7 : Int32).toNatClampNeg (some 11)) fun S232 =>
  some (S232, C224)
set_option maxHeartbeats 4000000 in
set_option maxRecDepth 100000 in
theorem c_X0_init (l : Launch) (E : wg_Ev) (ad : Nat → Nat) (S : wg_Sh) (hw : wg_wf S) (N : Nat) (C : wg_C) (M : wg_M)  {S0 : wg_Sh} {D0 : wg_C} (h : f_X0_init N S C  = some (S0, D0)) : wg_Ca l yX0_init cX0_init 2 none 2 45 10 88 E ad S C M [.ref (ad 1)] (fun _ => none) S0 D0 M := by
  refine wg_start (own := RX0) (by decide +kernel) rfl (Nat.le_of_ble_eq_true rfl) ?_
  intro p e s m below meth c X hr hnm
  refine wg_lv (lv' := [(0, .ref (ad 1))]) rfl ?_
  have hx : wg_ex S ad S ad := wg_ex_rf hw
  unfold f_X0_init at h
  refine wg_aload_n X 0 dX0_init_0 rfl rfl ?_
  refine wg_objI X k_101 k_94 k_95 dX0_init_1 ⟨Nat.le_of_ble_eq_true rfl, Nat.le_of_ble_eq_true rfl⟩ ?_
  refine wg_aload_n X 0 dX0_init_4 rfl rfl ?_
  refine wg_bipush (v := 32) X dX0_init_5 (by decide) ?_
  obtain ⟨z1, h⟩ := ck_some h
  obtain ⟨z2, h⟩ := ck_some h
  obtain ⟨S3, e4, h⟩ := lt_some h
  obtain ⟨C5, e6, h⟩ := lt_some h
  refine wg_newaC (L := 32) X hx (by decide) (by decide) (by decide) (Nat.le_of_ble_eq_true rfl) (Nat.le_of_ble_eq_true rfl) k_139 dX0_init_7 e4 e6 (fun ad7 hx8 ha9 => ?_)
  refine wg_cs (k := 1) (n := 32) rfl rfl ?_
  rw [z2]
  refine wg_ren (lv' := [(0, .ref (ad7 1))]) (st' := [.ref (ad7 2), .ref (ad7 1)]) (by first | rfl | simp only [ha9 1 z1]) (by first | rfl | simp only [Option.toList, List.nil_append, List.cons_append, ha9 1 z1]) ?_
  obtain ⟨z10, h⟩ := ck_some h
  obtain ⟨z11, h⟩ := ck_some h
  obtain ⟨S12, e13, h⟩ := lt_some h
  refine wg_putRF X hx8 z11 cl0 z10 0 (by decide) dX0_init_9 k_140 rfl hnm rfl rfl (fun _ => rfl) (fun _ => rfl) e13 (fun hx14 => ?_)
  refine wg_aload_n X 0 dX0_init_12 rfl rfl ?_
  refine wg_bipush (v := 8) X dX0_init_13 (by decide) ?_
  obtain ⟨z15, h⟩ := ck_some h
  obtain ⟨z16, h⟩ := ck_some h
  obtain ⟨S17, e18, h⟩ := lt_some h
  refine wg_newq13 (L := 8) X hx14 (by decide) (by decide) (by decide) (Nat.le_of_ble_eq_true rfl) (Nat.le_of_ble_eq_true rfl) k_102 dX0_init_15 e18 (fun ad19 hx20 ha21 => ?_)
  refine wg_cs (k := 2) (n := 40) rfl rfl ?_
  rw [z16]
  refine wg_ren (lv' := [(0, .ref (ad19 1))]) (st' := [.ref (ad19 3), .ref (ad19 1)]) (by first | rfl | simp only [ha21 1 z15]) (by first | rfl | simp only [Option.toList, List.nil_append, List.cons_append, ha21 1 z15]) ?_
  obtain ⟨z22, h⟩ := ck_some h
  obtain ⟨z23, h⟩ := ck_some h
  obtain ⟨S24, e25, h⟩ := lt_some h
  refine wg_putRF X hx20 z23 cl0 z22 1 (by decide) dX0_init_18 k_143 rfl hnm rfl rfl (fun _ => rfl) (fun _ => rfl) e25 (fun hx26 => ?_)
  refine wg_iconst (v := 0) X dX0_init_21 (by decide) ?_
  refine wg_istore_n (lv' := [(1, .int (0 : Int32)), (0, .ref (ad19 1))]) X dX0_init_22 rfl rfl (by decide) rfl ?_
  refine wg_iload_n X 0 dX0_init_23 rfl rfl ?_
  refine wg_bipush (v := 8) X dX0_init_24 (by decide) ?_
  refine wg_icmp_ge X 49 dX0_init_26 (by decide) (fun c27 => absurd c27 (by decide)) (fun c27 => ?_)
  refine wg_aload_n X 1 dX0_init_29 rfl rfl ?_
  obtain ⟨z28, h⟩ := ck_some h
  obtain ⟨z29, h⟩ := ck_some h
  refine wg_getR (b := 3) X cl0 z28 1 (by decide) dX0_init_30 k_143 rfl z29 ?_
  refine wg_iload_n X 0 dX0_init_33 rfl rfl ?_
  obtain ⟨z30, h⟩ := ck_some h
  obtain ⟨z31, h⟩ := ck_some h
  obtain ⟨S32, e33, h⟩ := lt_some h
  obtain ⟨C34, e35, h⟩ := lt_some h
  refine wg_newC X cl1 (by decide) (by decide) df1 hx26 k_102 k_104 k_72 (Nat.le_of_ble_eq_true rfl) (Nat.le_of_ble_eq_true rfl) dX0_init_34 e33 e35 (fun ad36 hx37 ha38 => ?_)
  refine wg_cs (k := 3) (n := 46) rfl rfl ?_
  rw [z31]
  refine wg_ren (lv' := [(1, .int (0 : Int32)), (0, .ref (ad36 1))]) (st' := [.ref (ad36 4), .int (0 : Int32), .ref (ad36 3)]) (by first | rfl | simp only [ha38 1 z30.1, ha38 3 z30.2]) (by first | rfl | simp only [Option.toList, List.nil_append, List.cons_append, ha38 1 z30.1, ha38 3 z30.2]) ?_
  refine wg_dup X dX0_init_37 rfl ?_
  refine wg_iload_n X 0 dX0_init_38 rfl rfl ?_
  obtain ⟨z39, h⟩ := ck_some h
  obtain ⟨S41, C42, h40, h⟩ := bd2_some h
  refine wg_callIa (As := [.int (0 : Int32)]) (rest := [.ref (ad36 4), .int (0 : Int32), .ref (ad36 3)]) X (c_X1_init l E ad36 S32 hx37.1 C34 M 4 (0 : Int32) h40) T_yX1_init k_105 dX0_init_39 rfl rfl (Nat.le_of_ble_eq_true rfl) ⟨Nat.le_of_ble_eq_true rfl, Nat.le_of_ble_eq_true rfl⟩ ⟨Nat.le_of_ble_eq_true rfl, (Nat.le_of_ble_eq_true rfl)⟩ hx37 (fun ad43 hx44 ha45 => ?_)
  refine wg_cs (k := 3) (n := 46) rfl rfl ?_
  refine wg_ren (lv' := [(1, .int (0 : Int32)), (0, .ref (ad43 1))]) (st' := [.ref (ad43 4), .int (0 : Int32), .ref (ad43 3)]) (by first | rfl | simp only [ha45 1 z39.1, ha45 4 z39.2.1, ha45 3 z39.2.2]) (by first | rfl | simp only [Option.toList, List.nil_append, List.cons_append, ha45 1 z39.1, ha45 4 z39.2.1, ha45 3 z39.2.2]) ?_
  obtain ⟨z46, h⟩ := ck_some h
  obtain ⟨z47, h⟩ := ck_some h
  obtain ⟨z48, h⟩ := ck_some h
  obtain ⟨z49, h⟩ := ck_some h
  obtain ⟨S50, e51, h⟩ := lt_some h
  refine wg_aast13 X hx44 z46 z48 z47 z49 dX0_init_42 e51 (fun hx52 => ?_)
  refine wg_iinc (lv' := [(1, .int (1 : Int32)), (0, .ref (ad43 1))]) X 0 dX0_init_43 rfl (by decide) (by decide) rfl ?_
  refine wg_goto X 23 dX0_init_46 (by decide) ?_
  refine wg_iload_n X 0 dX0_init_23 rfl rfl ?_
  refine wg_bipush (v := 8) X dX0_init_24 (by decide) ?_
  refine wg_icmp_ge X 49 dX0_init_26 (by decide) (fun c53 => absurd c53 (by decide)) (fun c53 => ?_)
  refine wg_aload_n X 1 dX0_init_29 rfl rfl ?_
  obtain ⟨z54, h⟩ := ck_some h
  obtain ⟨z55, h⟩ := ck_some h
  refine wg_getR (b := 3) X cl0 z54 1 (by decide) dX0_init_30 k_143 rfl z55 ?_
  refine wg_iload_n X 0 dX0_init_33 rfl rfl ?_
  obtain ⟨z56, h⟩ := ck_some h
  obtain ⟨z57, h⟩ := ck_some h
  obtain ⟨S58, e59, h⟩ := lt_some h
  obtain ⟨C60, e61, h⟩ := lt_some h
  refine wg_newC X cl1 (by decide) (by decide) df1 hx52 k_102 k_104 k_72 (Nat.le_of_ble_eq_true rfl) (Nat.le_of_ble_eq_true rfl) dX0_init_34 e59 e61 (fun ad62 hx63 ha64 => ?_)
  refine wg_cs (k := 4) (n := 52) rfl rfl ?_
  rw [z57]
  refine wg_ren (lv' := [(1, .int (1 : Int32)), (0, .ref (ad62 1))]) (st' := [.ref (ad62 5), .int (1 : Int32), .ref (ad62 3)]) (by first | rfl | simp only [ha64 1 z56.1, ha64 3 z56.2]) (by first | rfl | simp only [Option.toList, List.nil_append, List.cons_append, ha64 1 z56.1, ha64 3 z56.2]) ?_
  refine wg_dup X dX0_init_37 rfl ?_
  refine wg_iload_n X 0 dX0_init_38 rfl rfl ?_
  obtain ⟨z65, h⟩ := ck_some h
  obtain ⟨S67, C68, h66, h⟩ := bd2_some h
  refine wg_callIa (As := [.int (1 : Int32)]) (rest := [.ref (ad62 5), .int (1 : Int32), .ref (ad62 3)]) X (c_X1_init l E ad62 S58 hx63.1 C60 M 5 (1 : Int32) h66) T_yX1_init k_105 dX0_init_39 rfl rfl (Nat.le_of_ble_eq_true rfl) ⟨Nat.le_of_ble_eq_true rfl, Nat.le_of_ble_eq_true rfl⟩ ⟨Nat.le_of_ble_eq_true rfl, (Nat.le_of_ble_eq_true rfl)⟩ hx63 (fun ad69 hx70 ha71 => ?_)
  refine wg_cs (k := 4) (n := 52) rfl rfl ?_
  refine wg_ren (lv' := [(1, .int (1 : Int32)), (0, .ref (ad69 1))]) (st' := [.ref (ad69 5), .int (1 : Int32), .ref (ad69 3)]) (by first | rfl | simp only [ha71 1 z65.1, ha71 5 z65.2.1, ha71 3 z65.2.2]) (by first | rfl | simp only [Option.toList, List.nil_append, List.cons_append, ha71 1 z65.1, ha71 5 z65.2.1, ha71 3 z65.2.2]) ?_
  obtain ⟨z72, h⟩ := ck_some h
  obtain ⟨z73, h⟩ := ck_some h
  obtain ⟨z74, h⟩ := ck_some h
  obtain ⟨z75, h⟩ := ck_some h
  obtain ⟨S76, e77, h⟩ := lt_some h
  refine wg_aast13 X hx70 z72 z74 z73 z75 dX0_init_42 e77 (fun hx78 => ?_)
  refine wg_iinc (lv' := [(1, .int (2 : Int32)), (0, .ref (ad69 1))]) X 0 dX0_init_43 rfl (by decide) (by decide) rfl ?_
  refine wg_goto X 23 dX0_init_46 (by decide) ?_
  refine wg_iload_n X 0 dX0_init_23 rfl rfl ?_
  refine wg_bipush (v := 8) X dX0_init_24 (by decide) ?_
  refine wg_icmp_ge X 49 dX0_init_26 (by decide) (fun c79 => absurd c79 (by decide)) (fun c79 => ?_)
  refine wg_aload_n X 1 dX0_init_29 rfl rfl ?_
  obtain ⟨z80, h⟩ := ck_some h
  obtain ⟨z81, h⟩ := ck_some h
  refine wg_getR (b := 3) X cl0 z80 1 (by decide) dX0_init_30 k_143 rfl z81 ?_
  refine wg_iload_n X 0 dX0_init_33 rfl rfl ?_
  obtain ⟨z82, h⟩ := ck_some h
  obtain ⟨z83, h⟩ := ck_some h
  obtain ⟨S84, e85, h⟩ := lt_some h
  obtain ⟨C86, e87, h⟩ := lt_some h
  refine wg_newC X cl1 (by decide) (by decide) df1 hx78 k_102 k_104 k_72 (Nat.le_of_ble_eq_true rfl) (Nat.le_of_ble_eq_true rfl) dX0_init_34 e85 e87 (fun ad88 hx89 ha90 => ?_)
  refine wg_cs (k := 5) (n := 58) rfl rfl ?_
  rw [z83]
  refine wg_ren (lv' := [(1, .int (2 : Int32)), (0, .ref (ad88 1))]) (st' := [.ref (ad88 6), .int (2 : Int32), .ref (ad88 3)]) (by first | rfl | simp only [ha90 1 z82.1, ha90 3 z82.2]) (by first | rfl | simp only [Option.toList, List.nil_append, List.cons_append, ha90 1 z82.1, ha90 3 z82.2]) ?_
  refine wg_dup X dX0_init_37 rfl ?_
  refine wg_iload_n X 0 dX0_init_38 rfl rfl ?_
  obtain ⟨z91, h⟩ := ck_some h
  obtain ⟨S93, C94, h92, h⟩ := bd2_some h
  refine wg_callIa (As := [.int (2 : Int32)]) (rest := [.ref (ad88 6), .int (2 : Int32), .ref (ad88 3)]) X (c_X1_init l E ad88 S84 hx89.1 C86 M 6 (2 : Int32) h92) T_yX1_init k_105 dX0_init_39 rfl rfl (Nat.le_of_ble_eq_true rfl) ⟨Nat.le_of_ble_eq_true rfl, Nat.le_of_ble_eq_true rfl⟩ ⟨Nat.le_of_ble_eq_true rfl, (Nat.le_of_ble_eq_true rfl)⟩ hx89 (fun ad95 hx96 ha97 => ?_)
  refine wg_cs (k := 5) (n := 58) rfl rfl ?_
  refine wg_ren (lv' := [(1, .int (2 : Int32)), (0, .ref (ad95 1))]) (st' := [.ref (ad95 6), .int (2 : Int32), .ref (ad95 3)]) (by first | rfl | simp only [ha97 1 z91.1, ha97 6 z91.2.1, ha97 3 z91.2.2]) (by first | rfl | simp only [Option.toList, List.nil_append, List.cons_append, ha97 1 z91.1, ha97 6 z91.2.1, ha97 3 z91.2.2]) ?_
  obtain ⟨z98, h⟩ := ck_some h
  obtain ⟨z99, h⟩ := ck_some h
  obtain ⟨z100, h⟩ := ck_some h
  obtain ⟨z101, h⟩ := ck_some h
  obtain ⟨S102, e103, h⟩ := lt_some h
  refine wg_aast13 X hx96 z98 z100 z99 z101 dX0_init_42 e103 (fun hx104 => ?_)
  refine wg_iinc (lv' := [(1, .int (3 : Int32)), (0, .ref (ad95 1))]) X 0 dX0_init_43 rfl (by decide) (by decide) rfl ?_
  refine wg_goto X 23 dX0_init_46 (by decide) ?_
  refine wg_iload_n X 0 dX0_init_23 rfl rfl ?_
  refine wg_bipush (v := 8) X dX0_init_24 (by decide) ?_
  refine wg_icmp_ge X 49 dX0_init_26 (by decide) (fun c105 => absurd c105 (by decide)) (fun c105 => ?_)
  refine wg_aload_n X 1 dX0_init_29 rfl rfl ?_
  obtain ⟨z106, h⟩ := ck_some h
  obtain ⟨z107, h⟩ := ck_some h
  refine wg_getR (b := 3) X cl0 z106 1 (by decide) dX0_init_30 k_143 rfl z107 ?_
  refine wg_iload_n X 0 dX0_init_33 rfl rfl ?_
  obtain ⟨z108, h⟩ := ck_some h
  obtain ⟨z109, h⟩ := ck_some h
  obtain ⟨S110, e111, h⟩ := lt_some h
  obtain ⟨C112, e113, h⟩ := lt_some h
  refine wg_newC X cl1 (by decide) (by decide) df1 hx104 k_102 k_104 k_72 (Nat.le_of_ble_eq_true rfl) (Nat.le_of_ble_eq_true rfl) dX0_init_34 e111 e113 (fun ad114 hx115 ha116 => ?_)
  refine wg_cs (k := 6) (n := 64) rfl rfl ?_
  rw [z109]
  refine wg_ren (lv' := [(1, .int (3 : Int32)), (0, .ref (ad114 1))]) (st' := [.ref (ad114 7), .int (3 : Int32), .ref (ad114 3)]) (by first | rfl | simp only [ha116 1 z108.1, ha116 3 z108.2]) (by first | rfl | simp only [Option.toList, List.nil_append, List.cons_append, ha116 1 z108.1, ha116 3 z108.2]) ?_
  refine wg_dup X dX0_init_37 rfl ?_
  refine wg_iload_n X 0 dX0_init_38 rfl rfl ?_
  obtain ⟨z117, h⟩ := ck_some h
  obtain ⟨S119, C120, h118, h⟩ := bd2_some h
  refine wg_callIa (As := [.int (3 : Int32)]) (rest := [.ref (ad114 7), .int (3 : Int32), .ref (ad114 3)]) X (c_X1_init l E ad114 S110 hx115.1 C112 M 7 (3 : Int32) h118) T_yX1_init k_105 dX0_init_39 rfl rfl (Nat.le_of_ble_eq_true rfl) ⟨Nat.le_of_ble_eq_true rfl, Nat.le_of_ble_eq_true rfl⟩ ⟨Nat.le_of_ble_eq_true rfl, (Nat.le_of_ble_eq_true rfl)⟩ hx115 (fun ad121 hx122 ha123 => ?_)
  refine wg_cs (k := 6) (n := 64) rfl rfl ?_
  refine wg_ren (lv' := [(1, .int (3 : Int32)), (0, .ref (ad121 1))]) (st' := [.ref (ad121 7), .int (3 : Int32), .ref (ad121 3)]) (by first | rfl | simp only [ha123 1 z117.1, ha123 7 z117.2.1, ha123 3 z117.2.2]) (by first | rfl | simp only [Option.toList, List.nil_append, List.cons_append, ha123 1 z117.1, ha123 7 z117.2.1, ha123 3 z117.2.2]) ?_
  obtain ⟨z124, h⟩ := ck_some h
  obtain ⟨z125, h⟩ := ck_some h
  obtain ⟨z126, h⟩ := ck_some h
  obtain ⟨z127, h⟩ := ck_some h
  obtain ⟨S128, e129, h⟩ := lt_some h
  refine wg_aast13 X hx122 z124 z126 z125 z127 dX0_init_42 e129 (fun hx130 => ?_)
  refine wg_iinc (lv' := [(1, .int (4 : Int32)), (0, .ref (ad121 1))]) X 0 dX0_init_43 rfl (by decide) (by decide) rfl ?_
  refine wg_goto X 23 dX0_init_46 (by decide) ?_
  refine wg_iload_n X 0 dX0_init_23 rfl rfl ?_
  refine wg_bipush (v := 8) X dX0_init_24 (by decide) ?_
  refine wg_icmp_ge X 49 dX0_init_26 (by decide) (fun c131 => absurd c131 (by decide)) (fun c131 => ?_)
  refine wg_aload_n X 1 dX0_init_29 rfl rfl ?_
  obtain ⟨z132, h⟩ := ck_some h
  obtain ⟨z133, h⟩ := ck_some h
  refine wg_getR (b := 3) X cl0 z132 1 (by decide) dX0_init_30 k_143 rfl z133 ?_
  refine wg_iload_n X 0 dX0_init_33 rfl rfl ?_
  obtain ⟨z134, h⟩ := ck_some h
  obtain ⟨z135, h⟩ := ck_some h
  obtain ⟨S136, e137, h⟩ := lt_some h
  obtain ⟨C138, e139, h⟩ := lt_some h
  refine wg_newC X cl1 (by decide) (by decide) df1 hx130 k_102 k_104 k_72 (Nat.le_of_ble_eq_true rfl) (Nat.le_of_ble_eq_true rfl) dX0_init_34 e137 e139 (fun ad140 hx141 ha142 => ?_)
  refine wg_cs (k := 7) (n := 70) rfl rfl ?_
  rw [z135]
  refine wg_ren (lv' := [(1, .int (4 : Int32)), (0, .ref (ad140 1))]) (st' := [.ref (ad140 8), .int (4 : Int32), .ref (ad140 3)]) (by first | rfl | simp only [ha142 1 z134.1, ha142 3 z134.2]) (by first | rfl | simp only [Option.toList, List.nil_append, List.cons_append, ha142 1 z134.1, ha142 3 z134.2]) ?_
  refine wg_dup X dX0_init_37 rfl ?_
  refine wg_iload_n X 0 dX0_init_38 rfl rfl ?_
  obtain ⟨z143, h⟩ := ck_some h
  obtain ⟨S145, C146, h144, h⟩ := bd2_some h
  refine wg_callIa (As := [.int (4 : Int32)]) (rest := [.ref (ad140 8), .int (4 : Int32), .ref (ad140 3)]) X (c_X1_init l E ad140 S136 hx141.1 C138 M 8 (4 : Int32) h144) T_yX1_init k_105 dX0_init_39 rfl rfl (Nat.le_of_ble_eq_true rfl) ⟨Nat.le_of_ble_eq_true rfl, Nat.le_of_ble_eq_true rfl⟩ ⟨Nat.le_of_ble_eq_true rfl, (Nat.le_of_ble_eq_true rfl)⟩ hx141 (fun ad147 hx148 ha149 => ?_)
  refine wg_cs (k := 7) (n := 70) rfl rfl ?_
  refine wg_ren (lv' := [(1, .int (4 : Int32)), (0, .ref (ad147 1))]) (st' := [.ref (ad147 8), .int (4 : Int32), .ref (ad147 3)]) (by first | rfl | simp only [ha149 1 z143.1, ha149 8 z143.2.1, ha149 3 z143.2.2]) (by first | rfl | simp only [Option.toList, List.nil_append, List.cons_append, ha149 1 z143.1, ha149 8 z143.2.1, ha149 3 z143.2.2]) ?_
  obtain ⟨z150, h⟩ := ck_some h
  obtain ⟨z151, h⟩ := ck_some h
  obtain ⟨z152, h⟩ := ck_some h
  obtain ⟨z153, h⟩ := ck_some h
  obtain ⟨S154, e155, h⟩ := lt_some h
  refine wg_aast13 X hx148 z150 z152 z151 z153 dX0_init_42 e155 (fun hx156 => ?_)
  refine wg_iinc (lv' := [(1, .int (5 : Int32)), (0, .ref (ad147 1))]) X 0 dX0_init_43 rfl (by decide) (by decide) rfl ?_
  refine wg_goto X 23 dX0_init_46 (by decide) ?_
  refine wg_iload_n X 0 dX0_init_23 rfl rfl ?_
  refine wg_bipush (v := 8) X dX0_init_24 (by decide) ?_
  refine wg_icmp_ge X 49 dX0_init_26 (by decide) (fun c157 => absurd c157 (by decide)) (fun c157 => ?_)
  refine wg_aload_n X 1 dX0_init_29 rfl rfl ?_
  obtain ⟨z158, h⟩ := ck_some h
  obtain ⟨z159, h⟩ := ck_some h
  refine wg_getR (b := 3) X cl0 z158 1 (by decide) dX0_init_30 k_143 rfl z159 ?_
  refine wg_iload_n X 0 dX0_init_33 rfl rfl ?_
  obtain ⟨z160, h⟩ := ck_some h
  obtain ⟨z161, h⟩ := ck_some h
  obtain ⟨S162, e163, h⟩ := lt_some h
  obtain ⟨C164, e165, h⟩ := lt_some h
  refine wg_newC X cl1 (by decide) (by decide) df1 hx156 k_102 k_104 k_72 (Nat.le_of_ble_eq_true rfl) (Nat.le_of_ble_eq_true rfl) dX0_init_34 e163 e165 (fun ad166 hx167 ha168 => ?_)
  refine wg_cs (k := 8) (n := 76) rfl rfl ?_
  rw [z161]
  refine wg_ren (lv' := [(1, .int (5 : Int32)), (0, .ref (ad166 1))]) (st' := [.ref (ad166 9), .int (5 : Int32), .ref (ad166 3)]) (by first | rfl | simp only [ha168 1 z160.1, ha168 3 z160.2]) (by first | rfl | simp only [Option.toList, List.nil_append, List.cons_append, ha168 1 z160.1, ha168 3 z160.2]) ?_
  refine wg_dup X dX0_init_37 rfl ?_
  refine wg_iload_n X 0 dX0_init_38 rfl rfl ?_
  obtain ⟨z169, h⟩ := ck_some h
  obtain ⟨S171, C172, h170, h⟩ := bd2_some h
  refine wg_callIa (As := [.int (5 : Int32)]) (rest := [.ref (ad166 9), .int (5 : Int32), .ref (ad166 3)]) X (c_X1_init l E ad166 S162 hx167.1 C164 M 9 (5 : Int32) h170) T_yX1_init k_105 dX0_init_39 rfl rfl (Nat.le_of_ble_eq_true rfl) ⟨Nat.le_of_ble_eq_true rfl, Nat.le_of_ble_eq_true rfl⟩ ⟨Nat.le_of_ble_eq_true rfl, (Nat.le_of_ble_eq_true rfl)⟩ hx167 (fun ad173 hx174 ha175 => ?_)
  refine wg_cs (k := 8) (n := 76) rfl rfl ?_
  refine wg_ren (lv' := [(1, .int (5 : Int32)), (0, .ref (ad173 1))]) (st' := [.ref (ad173 9), .int (5 : Int32), .ref (ad173 3)]) (by first | rfl | simp only [ha175 1 z169.1, ha175 9 z169.2.1, ha175 3 z169.2.2]) (by first | rfl | simp only [Option.toList, List.nil_append, List.cons_append, ha175 1 z169.1, ha175 9 z169.2.1, ha175 3 z169.2.2]) ?_
  obtain ⟨z176, h⟩ := ck_some h
  obtain ⟨z177, h⟩ := ck_some h
  obtain ⟨z178, h⟩ := ck_some h
  obtain ⟨z179, h⟩ := ck_some h
  obtain ⟨S180, e181, h⟩ := lt_some h
  refine wg_aast13 X hx174 z176 z178 z177 z179 dX0_init_42 e181 (fun hx182 => ?_)
  refine wg_iinc (lv' := [(1, .int (6 : Int32)), (0, .ref (ad173 1))]) X 0 dX0_init_43 rfl (by decide) (by decide) rfl ?_
  refine wg_goto X 23 dX0_init_46 (by decide) ?_
  refine wg_iload_n X 0 dX0_init_23 rfl rfl ?_
  refine wg_bipush (v := 8) X dX0_init_24 (by decide) ?_
  refine wg_icmp_ge X 49 dX0_init_26 (by decide) (fun c183 => absurd c183 (by decide)) (fun c183 => ?_)
  refine wg_aload_n X 1 dX0_init_29 rfl rfl ?_
  obtain ⟨z184, h⟩ := ck_some h
  obtain ⟨z185, h⟩ := ck_some h
  refine wg_getR (b := 3) X cl0 z184 1 (by decide) dX0_init_30 k_143 rfl z185 ?_
  refine wg_iload_n X 0 dX0_init_33 rfl rfl ?_
  obtain ⟨z186, h⟩ := ck_some h
  obtain ⟨z187, h⟩ := ck_some h
  obtain ⟨S188, e189, h⟩ := lt_some h
  obtain ⟨C190, e191, h⟩ := lt_some h
  refine wg_newC X cl1 (by decide) (by decide) df1 hx182 k_102 k_104 k_72 (Nat.le_of_ble_eq_true rfl) (Nat.le_of_ble_eq_true rfl) dX0_init_34 e189 e191 (fun ad192 hx193 ha194 => ?_)
  refine wg_cs (k := 9) (n := 82) rfl rfl ?_
  rw [z187]
  refine wg_ren (lv' := [(1, .int (6 : Int32)), (0, .ref (ad192 1))]) (st' := [.ref (ad192 10), .int (6 : Int32), .ref (ad192 3)]) (by first | rfl | simp only [ha194 1 z186.1, ha194 3 z186.2]) (by first | rfl | simp only [Option.toList, List.nil_append, List.cons_append, ha194 1 z186.1, ha194 3 z186.2]) ?_
  refine wg_dup X dX0_init_37 rfl ?_
  refine wg_iload_n X 0 dX0_init_38 rfl rfl ?_
  obtain ⟨z195, h⟩ := ck_some h
  obtain ⟨S197, C198, h196, h⟩ := bd2_some h
  refine wg_callIa (As := [.int (6 : Int32)]) (rest := [.ref (ad192 10), .int (6 : Int32), .ref (ad192 3)]) X (c_X1_init l E ad192 S188 hx193.1 C190 M 10 (6 : Int32) h196) T_yX1_init k_105 dX0_init_39 rfl rfl (Nat.le_of_ble_eq_true rfl) ⟨Nat.le_of_ble_eq_true rfl, Nat.le_of_ble_eq_true rfl⟩ ⟨Nat.le_of_ble_eq_true rfl, (Nat.le_of_ble_eq_true rfl)⟩ hx193 (fun ad199 hx200 ha201 => ?_)
  refine wg_cs (k := 9) (n := 82) rfl rfl ?_
  refine wg_ren (lv' := [(1, .int (6 : Int32)), (0, .ref (ad199 1))]) (st' := [.ref (ad199 10), .int (6 : Int32), .ref (ad199 3)]) (by first | rfl | simp only [ha201 1 z195.1, ha201 10 z195.2.1, ha201 3 z195.2.2]) (by first | rfl | simp only [Option.toList, List.nil_append, List.cons_append, ha201 1 z195.1, ha201 10 z195.2.1, ha201 3 z195.2.2]) ?_
  obtain ⟨z202, h⟩ := ck_some h
  obtain ⟨z203, h⟩ := ck_some h
  obtain ⟨z204, h⟩ := ck_some h
  obtain ⟨z205, h⟩ := ck_some h
  obtain ⟨S206, e207, h⟩ := lt_some h
  refine wg_aast13 X hx200 z202 z204 z203 z205 dX0_init_42 e207 (fun hx208 => ?_)
  refine wg_iinc (lv' := [(1, .int (7 : Int32)), (0, .ref (ad199 1))]) X 0 dX0_init_43 rfl (by decide) (by decide) rfl ?_
  refine wg_goto X 23 dX0_init_46 (by decide) ?_
  refine wg_iload_n X 0 dX0_init_23 rfl rfl ?_
  refine wg_bipush (v := 8) X dX0_init_24 (by decide) ?_
  refine wg_icmp_ge X 49 dX0_init_26 (by decide) (fun c209 => absurd c209 (by decide)) (fun c209 => ?_)
  refine wg_aload_n X 1 dX0_init_29 rfl rfl ?_
  obtain ⟨z210, h⟩ := ck_some h
  obtain ⟨z211, h⟩ := ck_some h
  refine wg_getR (b := 3) X cl0 z210 1 (by decide) dX0_init_30 k_143 rfl z211 ?_
  refine wg_iload_n X 0 dX0_init_33 rfl rfl ?_
  obtain ⟨z212, h⟩ := ck_some h
  obtain ⟨z213, h⟩ := ck_some h
  obtain ⟨S214, e215, h⟩ := lt_some h
  obtain ⟨C216, e217, h⟩ := lt_some h
  refine wg_newC X cl1 (by decide) (by decide) df1 hx208 k_102 k_104 k_72 (Nat.le_of_ble_eq_true rfl) (Nat.le_of_ble_eq_true rfl) dX0_init_34 e215 e217 (fun ad218 hx219 ha220 => ?_)
  refine wg_cs (k := 10) (n := 88) rfl rfl ?_
  rw [z213]
  refine wg_ren (lv' := [(1, .int (7 : Int32)), (0, .ref (ad218 1))]) (st' := [.ref (ad218 11), .int (7 : Int32), .ref (ad218 3)]) (by first | rfl | simp only [ha220 1 z212.1, ha220 3 z212.2]) (by first | rfl | simp only [Option.toList, List.nil_append, List.cons_append, ha220 1 z212.1, ha220 3 z212.2]) ?_
  refine wg_dup X dX0_init_37 rfl ?_
  refine wg_iload_n X 0 dX0_init_38 rfl rfl ?_
  obtain ⟨z221, h⟩ := ck_some h
  obtain ⟨S223, C224, h222, h⟩ := bd2_some h
  refine wg_callIa (As := [.int (7 : Int32)]) (rest := [.ref (ad218 11), .int (7 : Int32), .ref (ad218 3)]) X (c_X1_init l E ad218 S214 hx219.1 C216 M 11 (7 : Int32) h222) T_yX1_init k_105 dX0_init_39 rfl rfl (Nat.le_of_ble_eq_true rfl) ⟨Nat.le_of_ble_eq_true rfl, Nat.le_of_ble_eq_true rfl⟩ ⟨Nat.le_of_ble_eq_true rfl, (Nat.le_of_ble_eq_true rfl)⟩ hx219 (fun ad225 hx226 ha227 => ?_)
  refine wg_cs (k := 10) (n := 88) rfl rfl ?_
  refine wg_ren (lv' := [(1, .int (7 : Int32)), (0, .ref (ad225 1))]) (st' := [.ref (ad225 11), .int (7 : Int32), .ref (ad225 3)]) (by first | rfl | simp only [ha227 1 z221.1, ha227 11 z221.2.1, ha227 3 z221.2.2]) (by first | rfl | simp only [Option.toList, List.nil_append, List.cons_append, ha227 1 z221.1, ha227 11 z221.2.1, ha227 3 z221.2.2]) ?_
  obtain ⟨z228, h⟩ := ck_some h
  obtain ⟨z229, h⟩ := ck_some h
  obtain ⟨z230, h⟩ := ck_some h
  obtain ⟨z231, h⟩ := ck_some h
  obtain ⟨S232, e233, h⟩ := lt_some h
  refine wg_aast13 X hx226 z228 z230 z229 z231 dX0_init_42 e233 (fun hx234 => ?_)
  refine wg_iinc (lv' := [(1, .int (8 : Int32)), (0, .ref (ad225 1))]) X 0 dX0_init_43 rfl (by decide) (by decide) rfl ?_
  refine wg_goto X 23 dX0_init_46 (by decide) ?_
  refine wg_iload_n X 0 dX0_init_23 rfl rfl ?_
  refine wg_bipush (v := 8) X dX0_init_24 (by decide) ?_
  refine wg_icmp_ge X 49 dX0_init_26 (by decide) (fun c235 => ?_) (fun c235 => absurd c235 (by decide))
  refine wg_widen (k := 10) (n := 88) (Nat.le_of_ble_eq_true rfl) (Nat.le_of_ble_eq_true rfl) ?_
  exact wg_avret X hx234 rfl ⟨(Prod.mk.inj (sm_inj h)).1, (Prod.mk.inj (sm_inj h)).2, rfl⟩ hr dX0_init_49
-- WindowsGive$House.<init>()V (('c', 12),)
set_option maxRecDepth 100000 in
def f_X0_init_i1 (N : Nat) (S : wg_Sh) (C : wg_C)  : Option (wg_Sh × wg_C) :=
  ck (12 < S.2.2.2) <|
  ck (S.2.2.2 = 13) <|
  lt_ (wg_nw S 10 32) fun S3 =>
  lt_ (wg_zC C S.2.2.2 (fun _ => 0)) fun C5 =>
  ck (12 < S3.2.2.2 ∧ S3.2.2.1 12 = 0) <|
  ck (13 < S3.2.2.2) <|
  lt_ (wg_sR S3 12 0 (some 13)) fun S12 =>
  ck (12 < S12.2.2.2) <|
  ck (S12.2.2.2 = 14) <|
  lt_ (wg_nw S12 13 8) fun S17 =>
  ck (12 < S17.2.2.2 ∧ S17.2.2.1 12 = 0) <|
  ck (14 < S17.2.2.2) <|
  lt_ (wg_sR S17 12 1 (some 14)) fun S24 =>
  ck (12 < S24.2.2.2 ∧ S24.2.2.1 12 = 0) <|
  ck (S24.1 12 1 = some 14) <|
  ck (12 < S24.2.2.2 ∧ 14 < S24.2.2.2) <|
  ck (S24.2.2.2 = 15) <|
  lt_ (wg_nw S24 1 0) fun S32 =>
  lt_ (wg_zC C5 S24.2.2.2 (fun _ => 0)) fun C34 =>
  ck (12 < S32.2.2.2 ∧ 15 < S32.2.2.2 ∧ 14 < S32.2.2.2) <|
  bd2 (f_X1_init S32 C34 15 (0 : Int32)) fun S41 C42 =>
  ck (14 < S41.2.2.2 ∧ S41.2.2.1 14 = 13) <|
  ck (S41.2.1 14 = 8) <|
  ck (15 < S41.2.2.2 ∧ S41.2.2.1 15 = 1) <|
  ck (inb (0 : Int32) 8) <|
  lt_ (wg_sR S41 14 (0 : Int32).toNatClampNeg (some 15)) fun S50 =>
  ck (12 < S50.2.2.2 ∧ S50.2.2.1 12 = 0) <|
  ck (S50.1 12 1 = some 14) <|
  ck (12 < S50.2.2.2 ∧ 14 < S50.2.2.2) <|
  ck (S50.2.2.2 = 16) <|
  lt_ (wg_nw S50 1 0) fun S58 =>
  lt_ (wg_zC C42 S50.2.2.2 (fun _ => 0)) fun C60 =>
  ck (12 < S58.2.2.2 ∧ 16 < S58.2.2.2 ∧ 14 < S58.2.2.2) <|
  bd2 (f_X1_init S58 C60 16 (1 : Int32)) fun S67 C68 =>
  ck (14 < S67.2.2.2 ∧ S67.2.2.1 14 = 13) <|
  ck (S67.2.1 14 = 8) <|
  ck (16 < S67.2.2.2 ∧ S67.2.2.1 16 = 1) <|
  ck (inb (1 : Int32) 8) <|
  lt_ (wg_sR S67 14 (1 : Int32).toNatClampNeg (some 16)) fun S76 =>
  ck (12 < S76.2.2.2 ∧ S76.2.2.1 12 = 0) <|
  ck (S76.1 12 1 = some 14) <|
  ck (12 < S76.2.2.2 ∧ 14 < S76.2.2.2) <|
  ck (S76.2.2.2 = 17) <|
  lt_ (wg_nw S76 1 0) fun S84 =>
  lt_ (wg_zC C68 S76.2.2.2 (fun _ => 0)) fun C86 =>
  ck (12 < S84.2.2.2 ∧ 17 < S84.2.2.2 ∧ 14 < S84.2.2.2) <|
  bd2 (f_X1_init S84 C86 17 (2 : Int32)) fun S93 C94 =>
  ck (14 < S93.2.2.2 ∧ S93.2.2.1 14 = 13) <|
  ck (S93.2.1 14 = 8) <|
  ck (17 < S93.2.2.2 ∧ S93.2.2.1 17 = 1) <|
  ck (inb (2 : Int32) 8) <|
  lt_ (wg_sR S93 14 (2 : Int32).toNatClampNeg (some 17)) fun S102 =>
  ck (12 < S102.2.2.2 ∧ S102.2.2.1 12 = 0) <|
  ck (S102.1 12 1 = some 14) <|
  ck (12 < S102.2.2.2 ∧ 14 < S102.2.2.2) <|
  ck (S102.2.2.2 = 18) <|
  lt_ (wg_nw S102 1 0) fun S110 =>
  lt_ (wg_zC C94 S102.2.2.2 (fun _ => 0)) fun C112 =>
  ck (12 < S110.2.2.2 ∧ 18 < S110.2.2.2 ∧ 14 < S110.2.2.2) <|
  bd2 (f_X1_init S110 C112 18 (3 : Int32)) fun S119 C120 =>
  ck (14 < S119.2.2.2 ∧ S119.2.2.1 14 = 13) <|
  ck (S119.2.1 14 = 8) <|
  ck (18 < S119.2.2.2 ∧ S119.2.2.1 18 = 1) <|
  ck (inb (3 : Int32) 8) <|
  lt_ (wg_sR S119 14 (3 : Int32).toNatClampNeg (some 18)) fun S128 =>
  ck (12 < S128.2.2.2 ∧ S128.2.2.1 12 = 0) <|
  ck (S128.1 12 1 = some 14) <|
  ck (12 < S128.2.2.2 ∧ 14 < S128.2.2.2) <|
  ck (S128.2.2.2 = 19) <|
  lt_ (wg_nw S128 1 0) fun S136 =>
  lt_ (wg_zC C120 S128.2.2.2 (fun _ => 0)) fun C138 =>
  ck (12 < S136.2.2.2 ∧ 19 < S136.2.2.2 ∧ 14 < S136.2.2.2) <|
  bd2 (f_X1_init S136 C138 19 (4 : Int32)) fun S145 C146 =>
  ck (14 < S145.2.2.2 ∧ S145.2.2.1 14 = 13) <|
  ck (S145.2.1 14 = 8) <|
  ck (19 < S145.2.2.2 ∧ S145.2.2.1 19 = 1) <|
  ck (inb (4 : Int32) 8) <|
  lt_ (wg_sR S145 14 (4 : Int32).toNatClampNeg (some 19)) fun S154 =>
  ck (12 < S154.2.2.2 ∧ S154.2.2.1 12 = 0) <|
  ck (S154.1 12 1 = some 14) <|
  ck (12 < S154.2.2.2 ∧ 14 < S154.2.2.2) <|
  ck (S154.2.2.2 = 20) <|
  lt_ (wg_nw S154 1 0) fun S162 =>
  lt_ (wg_zC C146 S154.2.2.2 (fun _ => 0)) fun C164 =>
  ck (12 < S162.2.2.2 ∧ 20 < S162.2.2.2 ∧ 14 < S162.2.2.2) <|
  bd2 (f_X1_init S162 C164 20 (5 : Int32)) fun S171 C172 =>
  ck (14 < S171.2.2.2 ∧ S171.2.2.1 14 = 13) <|
  ck (S171.2.1 14 = 8) <|
  ck (20 < S171.2.2.2 ∧ S171.2.2.1 20 = 1) <|
  ck (inb (5 : Int32) 8) <|
  lt_ (wg_sR S171 14 (5 : Int32).toNatClampNeg (some 20)) fun S180 =>
  ck (12 < S180.2.2.2 ∧ S180.2.2.1 12 = 0) <|
  ck (S180.1 12 1 = some 14) <|
  ck (12 < S180.2.2.2 ∧ 14 < S180.2.2.2) <|
  ck (S180.2.2.2 = 21) <|
  lt_ (wg_nw S180 1 0) fun S188 =>
  lt_ (wg_zC C172 S180.2.2.2 (fun _ => 0)) fun C190 =>
  ck (12 < S188.2.2.2 ∧ 21 < S188.2.2.2 ∧ 14 < S188.2.2.2) <|
  bd2 (f_X1_init S188 C190 21 (6 : Int32)) fun S197 C198 =>
  ck (14 < S197.2.2.2 ∧ S197.2.2.1 14 = 13) <|
  ck (S197.2.1 14 = 8) <|
  ck (21 < S197.2.2.2 ∧ S197.2.2.1 21 = 1) <|
  ck (inb (6 : Int32) 8) <|
  lt_ (wg_sR S197 14 (6 : Int32).toNatClampNeg (some 21)) fun S206 =>
  ck (12 < S206.2.2.2 ∧ S206.2.2.1 12 = 0) <|
  ck (S206.1 12 1 = some 14) <|
  ck (12 < S206.2.2.2 ∧ 14 < S206.2.2.2) <|
  ck (S206.2.2.2 = 22) <|
  lt_ (wg_nw S206 1 0) fun S214 =>
  lt_ (wg_zC C198 S206.2.2.2 (fun _ => 0)) fun C216 =>
  ck (12 < S214.2.2.2 ∧ 22 < S214.2.2.2 ∧ 14 < S214.2.2.2) <|
  bd2 (f_X1_init S214 C216 22 (7 : Int32)) fun S223 C224 =>
  ck (14 < S223.2.2.2 ∧ S223.2.2.1 14 = 13) <|
  ck (S223.2.1 14 = 8) <|
  ck (22 < S223.2.2.2 ∧ S223.2.2.1 22 = 1) <|
  ck (inb (7 : Int32) 8) <|
  lt_ (wg_sR S223 14 (7 : Int32).toNatClampNeg (some 22)) fun S232 =>
  some (S232, C224)
set_option maxHeartbeats 4000000 in
set_option maxRecDepth 100000 in
theorem c_X0_init_i1 (l : Launch) (E : wg_Ev) (ad : Nat → Nat) (S : wg_Sh) (hw : wg_wf S) (N : Nat) (C : wg_C) (M : wg_M)  {S0 : wg_Sh} {D0 : wg_C} (h : f_X0_init_i1 N S C  = some (S0, D0)) : wg_Ca l yX0_init cX0_init 2 none 2 45 10 88 E ad S C M [.ref (ad 12)] (fun _ => none) S0 D0 M := by
  refine wg_start (own := RX0) (by decide +kernel) rfl (Nat.le_of_ble_eq_true rfl) ?_
  intro p e s m below meth c X hr hnm
  refine wg_lv (lv' := [(0, .ref (ad 12))]) rfl ?_
  have hx : wg_ex S ad S ad := wg_ex_rf hw
  unfold f_X0_init_i1 at h
  refine wg_aload_n X 0 dX0_init_0 rfl rfl ?_
  refine wg_objI X k_101 k_94 k_95 dX0_init_1 ⟨Nat.le_of_ble_eq_true rfl, Nat.le_of_ble_eq_true rfl⟩ ?_
  refine wg_aload_n X 0 dX0_init_4 rfl rfl ?_
  refine wg_bipush (v := 32) X dX0_init_5 (by decide) ?_
  obtain ⟨z1, h⟩ := ck_some h
  obtain ⟨z2, h⟩ := ck_some h
  obtain ⟨S3, e4, h⟩ := lt_some h
  obtain ⟨C5, e6, h⟩ := lt_some h
  refine wg_newaC (L := 32) X hx (by decide) (by decide) (by decide) (Nat.le_of_ble_eq_true rfl) (Nat.le_of_ble_eq_true rfl) k_139 dX0_init_7 e4 e6 (fun ad7 hx8 ha9 => ?_)
  refine wg_cs (k := 1) (n := 32) rfl rfl ?_
  rw [z2]
  refine wg_ren (lv' := [(0, .ref (ad7 12))]) (st' := [.ref (ad7 13), .ref (ad7 12)]) (by first | rfl | simp only [ha9 12 z1]) (by first | rfl | simp only [Option.toList, List.nil_append, List.cons_append, ha9 12 z1]) ?_
  obtain ⟨z10, h⟩ := ck_some h
  obtain ⟨z11, h⟩ := ck_some h
  obtain ⟨S12, e13, h⟩ := lt_some h
  refine wg_putRF X hx8 z11 cl0 z10 0 (by decide) dX0_init_9 k_140 rfl hnm rfl rfl (fun _ => rfl) (fun _ => rfl) e13 (fun hx14 => ?_)
  refine wg_aload_n X 0 dX0_init_12 rfl rfl ?_
  refine wg_bipush (v := 8) X dX0_init_13 (by decide) ?_
  obtain ⟨z15, h⟩ := ck_some h
  obtain ⟨z16, h⟩ := ck_some h
  obtain ⟨S17, e18, h⟩ := lt_some h
  refine wg_newq13 (L := 8) X hx14 (by decide) (by decide) (by decide) (Nat.le_of_ble_eq_true rfl) (Nat.le_of_ble_eq_true rfl) k_102 dX0_init_15 e18 (fun ad19 hx20 ha21 => ?_)
  refine wg_cs (k := 2) (n := 40) rfl rfl ?_
  rw [z16]
  refine wg_ren (lv' := [(0, .ref (ad19 12))]) (st' := [.ref (ad19 14), .ref (ad19 12)]) (by first | rfl | simp only [ha21 12 z15]) (by first | rfl | simp only [Option.toList, List.nil_append, List.cons_append, ha21 12 z15]) ?_
  obtain ⟨z22, h⟩ := ck_some h
  obtain ⟨z23, h⟩ := ck_some h
  obtain ⟨S24, e25, h⟩ := lt_some h
  refine wg_putRF X hx20 z23 cl0 z22 1 (by decide) dX0_init_18 k_143 rfl hnm rfl rfl (fun _ => rfl) (fun _ => rfl) e25 (fun hx26 => ?_)
  refine wg_iconst (v := 0) X dX0_init_21 (by decide) ?_
  refine wg_istore_n (lv' := [(1, .int (0 : Int32)), (0, .ref (ad19 12))]) X dX0_init_22 rfl rfl (by decide) rfl ?_
  refine wg_iload_n X 0 dX0_init_23 rfl rfl ?_
  refine wg_bipush (v := 8) X dX0_init_24 (by decide) ?_
  refine wg_icmp_ge X 49 dX0_init_26 (by decide) (fun c27 => absurd c27 (by decide)) (fun c27 => ?_)
  refine wg_aload_n X 1 dX0_init_29 rfl rfl ?_
  obtain ⟨z28, h⟩ := ck_some h
  obtain ⟨z29, h⟩ := ck_some h
  refine wg_getR (b := 14) X cl0 z28 1 (by decide) dX0_init_30 k_143 rfl z29 ?_
  refine wg_iload_n X 0 dX0_init_33 rfl rfl ?_
  obtain ⟨z30, h⟩ := ck_some h
  obtain ⟨z31, h⟩ := ck_some h
  obtain ⟨S32, e33, h⟩ := lt_some h
  obtain ⟨C34, e35, h⟩ := lt_some h
  refine wg_newC X cl1 (by decide) (by decide) df1 hx26 k_102 k_104 k_72 (Nat.le_of_ble_eq_true rfl) (Nat.le_of_ble_eq_true rfl) dX0_init_34 e33 e35 (fun ad36 hx37 ha38 => ?_)
  refine wg_cs (k := 3) (n := 46) rfl rfl ?_
  rw [z31]
  refine wg_ren (lv' := [(1, .int (0 : Int32)), (0, .ref (ad36 12))]) (st' := [.ref (ad36 15), .int (0 : Int32), .ref (ad36 14)]) (by first | rfl | simp only [ha38 12 z30.1, ha38 14 z30.2]) (by first | rfl | simp only [Option.toList, List.nil_append, List.cons_append, ha38 12 z30.1, ha38 14 z30.2]) ?_
  refine wg_dup X dX0_init_37 rfl ?_
  refine wg_iload_n X 0 dX0_init_38 rfl rfl ?_
  obtain ⟨z39, h⟩ := ck_some h
  obtain ⟨S41, C42, h40, h⟩ := bd2_some h
  refine wg_callIa (As := [.int (0 : Int32)]) (rest := [.ref (ad36 15), .int (0 : Int32), .ref (ad36 14)]) X (c_X1_init l E ad36 S32 hx37.1 C34 M 15 (0 : Int32) h40) T_yX1_init k_105 dX0_init_39 rfl rfl (Nat.le_of_ble_eq_true rfl) ⟨Nat.le_of_ble_eq_true rfl, Nat.le_of_ble_eq_true rfl⟩ ⟨Nat.le_of_ble_eq_true rfl, (Nat.le_of_ble_eq_true rfl)⟩ hx37 (fun ad43 hx44 ha45 => ?_)
  refine wg_cs (k := 3) (n := 46) rfl rfl ?_
  refine wg_ren (lv' := [(1, .int (0 : Int32)), (0, .ref (ad43 12))]) (st' := [.ref (ad43 15), .int (0 : Int32), .ref (ad43 14)]) (by first | rfl | simp only [ha45 12 z39.1, ha45 15 z39.2.1, ha45 14 z39.2.2]) (by first | rfl | simp only [Option.toList, List.nil_append, List.cons_append, ha45 12 z39.1, ha45 15 z39.2.1, ha45 14 z39.2.2]) ?_
  obtain ⟨z46, h⟩ := ck_some h
  obtain ⟨z47, h⟩ := ck_some h
  obtain ⟨z48, h⟩ := ck_some h
  obtain ⟨z49, h⟩ := ck_some h
  obtain ⟨S50, e51, h⟩ := lt_some h
  refine wg_aast13 X hx44 z46 z48 z47 z49 dX0_init_42 e51 (fun hx52 => ?_)
  refine wg_iinc (lv' := [(1, .int (1 : Int32)), (0, .ref (ad43 12))]) X 0 dX0_init_43 rfl (by decide) (by decide) rfl ?_
  refine wg_goto X 23 dX0_init_46 (by decide) ?_
  refine wg_iload_n X 0 dX0_init_23 rfl rfl ?_
  refine wg_bipush (v := 8) X dX0_init_24 (by decide) ?_
  refine wg_icmp_ge X 49 dX0_init_26 (by decide) (fun c53 => absurd c53 (by decide)) (fun c53 => ?_)
  refine wg_aload_n X 1 dX0_init_29 rfl rfl ?_
  obtain ⟨z54, h⟩ := ck_some h
  obtain ⟨z55, h⟩ := ck_some h
  refine wg_getR (b := 14) X cl0 z54 1 (by decide) dX0_init_30 k_143 rfl z55 ?_
  refine wg_iload_n X 0 dX0_init_33 rfl rfl ?_
  obtain ⟨z56, h⟩ := ck_some h
  obtain ⟨z57, h⟩ := ck_some h
  obtain ⟨S58, e59, h⟩ := lt_some h
  obtain ⟨C60, e61, h⟩ := lt_some h
  refine wg_newC X cl1 (by decide) (by decide) df1 hx52 k_102 k_104 k_72 (Nat.le_of_ble_eq_true rfl) (Nat.le_of_ble_eq_true rfl) dX0_init_34 e59 e61 (fun ad62 hx63 ha64 => ?_)
  refine wg_cs (k := 4) (n := 52) rfl rfl ?_
  rw [z57]
  refine wg_ren (lv' := [(1, .int (1 : Int32)), (0, .ref (ad62 12))]) (st' := [.ref (ad62 16), .int (1 : Int32), .ref (ad62 14)]) (by first | rfl | simp only [ha64 12 z56.1, ha64 14 z56.2]) (by first | rfl | simp only [Option.toList, List.nil_append, List.cons_append, ha64 12 z56.1, ha64 14 z56.2]) ?_
  refine wg_dup X dX0_init_37 rfl ?_
  refine wg_iload_n X 0 dX0_init_38 rfl rfl ?_
  obtain ⟨z65, h⟩ := ck_some h
  obtain ⟨S67, C68, h66, h⟩ := bd2_some h
  refine wg_callIa (As := [.int (1 : Int32)]) (rest := [.ref (ad62 16), .int (1 : Int32), .ref (ad62 14)]) X (c_X1_init l E ad62 S58 hx63.1 C60 M 16 (1 : Int32) h66) T_yX1_init k_105 dX0_init_39 rfl rfl (Nat.le_of_ble_eq_true rfl) ⟨Nat.le_of_ble_eq_true rfl, Nat.le_of_ble_eq_true rfl⟩ ⟨Nat.le_of_ble_eq_true rfl, (Nat.le_of_ble_eq_true rfl)⟩ hx63 (fun ad69 hx70 ha71 => ?_)
  refine wg_cs (k := 4) (n := 52) rfl rfl ?_
  refine wg_ren (lv' := [(1, .int (1 : Int32)), (0, .ref (ad69 12))]) (st' := [.ref (ad69 16), .int (1 : Int32), .ref (ad69 14)]) (by first | rfl | simp only [ha71 12 z65.1, ha71 16 z65.2.1, ha71 14 z65.2.2]) (by first | rfl | simp only [Option.toList, List.nil_append, List.cons_append, ha71 12 z65.1, ha71 16 z65.2.1, ha71 14 z65.2.2]) ?_
  obtain ⟨z72, h⟩ := ck_some h
  obtain ⟨z73, h⟩ := ck_some h
  obtain ⟨z74, h⟩ := ck_some h
  obtain ⟨z75, h⟩ := ck_some h
  obtain ⟨S76, e77, h⟩ := lt_some h
  refine wg_aast13 X hx70 z72 z74 z73 z75 dX0_init_42 e77 (fun hx78 => ?_)
  refine wg_iinc (lv' := [(1, .int (2 : Int32)), (0, .ref (ad69 12))]) X 0 dX0_init_43 rfl (by decide) (by decide) rfl ?_
  refine wg_goto X 23 dX0_init_46 (by decide) ?_
  refine wg_iload_n X 0 dX0_init_23 rfl rfl ?_
  refine wg_bipush (v := 8) X dX0_init_24 (by decide) ?_
  refine wg_icmp_ge X 49 dX0_init_26 (by decide) (fun c79 => absurd c79 (by decide)) (fun c79 => ?_)
  refine wg_aload_n X 1 dX0_init_29 rfl rfl ?_
  obtain ⟨z80, h⟩ := ck_some h
  obtain ⟨z81, h⟩ := ck_some h
  refine wg_getR (b := 14) X cl0 z80 1 (by decide) dX0_init_30 k_143 rfl z81 ?_
  refine wg_iload_n X 0 dX0_init_33 rfl rfl ?_
  obtain ⟨z82, h⟩ := ck_some h
  obtain ⟨z83, h⟩ := ck_some h
  obtain ⟨S84, e85, h⟩ := lt_some h
  obtain ⟨C86, e87, h⟩ := lt_some h
  refine wg_newC X cl1 (by decide) (by decide) df1 hx78 k_102 k_104 k_72 (Nat.le_of_ble_eq_true rfl) (Nat.le_of_ble_eq_true rfl) dX0_init_34 e85 e87 (fun ad88 hx89 ha90 => ?_)
  refine wg_cs (k := 5) (n := 58) rfl rfl ?_
  rw [z83]
  refine wg_ren (lv' := [(1, .int (2 : Int32)), (0, .ref (ad88 12))]) (st' := [.ref (ad88 17), .int (2 : Int32), .ref (ad88 14)]) (by first | rfl | simp only [ha90 12 z82.1, ha90 14 z82.2]) (by first | rfl | simp only [Option.toList, List.nil_append, List.cons_append, ha90 12 z82.1, ha90 14 z82.2]) ?_
  refine wg_dup X dX0_init_37 rfl ?_
  refine wg_iload_n X 0 dX0_init_38 rfl rfl ?_
  obtain ⟨z91, h⟩ := ck_some h
  obtain ⟨S93, C94, h92, h⟩ := bd2_some h
  refine wg_callIa (As := [.int (2 : Int32)]) (rest := [.ref (ad88 17), .int (2 : Int32), .ref (ad88 14)]) X (c_X1_init l E ad88 S84 hx89.1 C86 M 17 (2 : Int32) h92) T_yX1_init k_105 dX0_init_39 rfl rfl (Nat.le_of_ble_eq_true rfl) ⟨Nat.le_of_ble_eq_true rfl, Nat.le_of_ble_eq_true rfl⟩ ⟨Nat.le_of_ble_eq_true rfl, (Nat.le_of_ble_eq_true rfl)⟩ hx89 (fun ad95 hx96 ha97 => ?_)
  refine wg_cs (k := 5) (n := 58) rfl rfl ?_
  refine wg_ren (lv' := [(1, .int (2 : Int32)), (0, .ref (ad95 12))]) (st' := [.ref (ad95 17), .int (2 : Int32), .ref (ad95 14)]) (by first | rfl | simp only [ha97 12 z91.1, ha97 17 z91.2.1, ha97 14 z91.2.2]) (by first | rfl | simp only [Option.toList, List.nil_append, List.cons_append, ha97 12 z91.1, ha97 17 z91.2.1, ha97 14 z91.2.2]) ?_
  obtain ⟨z98, h⟩ := ck_some h
  obtain ⟨z99, h⟩ := ck_some h
  obtain ⟨z100, h⟩ := ck_some h
  obtain ⟨z101, h⟩ := ck_some h
  obtain ⟨S102, e103, h⟩ := lt_some h
  refine wg_aast13 X hx96 z98 z100 z99 z101 dX0_init_42 e103 (fun hx104 => ?_)
  refine wg_iinc (lv' := [(1, .int (3 : Int32)), (0, .ref (ad95 12))]) X 0 dX0_init_43 rfl (by decide) (by decide) rfl ?_
  refine wg_goto X 23 dX0_init_46 (by decide) ?_
  refine wg_iload_n X 0 dX0_init_23 rfl rfl ?_
  refine wg_bipush (v := 8) X dX0_init_24 (by decide) ?_
  refine wg_icmp_ge X 49 dX0_init_26 (by decide) (fun c105 => absurd c105 (by decide)) (fun c105 => ?_)
  refine wg_aload_n X 1 dX0_init_29 rfl rfl ?_
  obtain ⟨z106, h⟩ := ck_some h
  obtain ⟨z107, h⟩ := ck_some h
  refine wg_getR (b := 14) X cl0 z106 1 (by decide) dX0_init_30 k_143 rfl z107 ?_
  refine wg_iload_n X 0 dX0_init_33 rfl rfl ?_
  obtain ⟨z108, h⟩ := ck_some h
  obtain ⟨z109, h⟩ := ck_some h
  obtain ⟨S110, e111, h⟩ := lt_some h
  obtain ⟨C112, e113, h⟩ := lt_some h
  refine wg_newC X cl1 (by decide) (by decide) df1 hx104 k_102 k_104 k_72 (Nat.le_of_ble_eq_true rfl) (Nat.le_of_ble_eq_true rfl) dX0_init_34 e111 e113 (fun ad114 hx115 ha116 => ?_)
  refine wg_cs (k := 6) (n := 64) rfl rfl ?_
  rw [z109]
  refine wg_ren (lv' := [(1, .int (3 : Int32)), (0, .ref (ad114 12))]) (st' := [.ref (ad114 18), .int (3 : Int32), .ref (ad114 14)]) (by first | rfl | simp only [ha116 12 z108.1, ha116 14 z108.2]) (by first | rfl | simp only [Option.toList, List.nil_append, List.cons_append, ha116 12 z108.1, ha116 14 z108.2]) ?_
  refine wg_dup X dX0_init_37 rfl ?_
  refine wg_iload_n X 0 dX0_init_38 rfl rfl ?_
  obtain ⟨z117, h⟩ := ck_some h
  obtain ⟨S119, C120, h118, h⟩ := bd2_some h
  refine wg_callIa (As := [.int (3 : Int32)]) (rest := [.ref (ad114 18), .int (3 : Int32), .ref (ad114 14)]) X (c_X1_init l E ad114 S110 hx115.1 C112 M 18 (3 : Int32) h118) T_yX1_init k_105 dX0_init_39 rfl rfl (Nat.le_of_ble_eq_true rfl) ⟨Nat.le_of_ble_eq_true rfl, Nat.le_of_ble_eq_true rfl⟩ ⟨Nat.le_of_ble_eq_true rfl, (Nat.le_of_ble_eq_true rfl)⟩ hx115 (fun ad121 hx122 ha123 => ?_)
  refine wg_cs (k := 6) (n := 64) rfl rfl ?_
  refine wg_ren (lv' := [(1, .int (3 : Int32)), (0, .ref (ad121 12))]) (st' := [.ref (ad121 18), .int (3 : Int32), .ref (ad121 14)]) (by first | rfl | simp only [ha123 12 z117.1, ha123 18 z117.2.1, ha123 14 z117.2.2]) (by first | rfl | simp only [Option.toList, List.nil_append, List.cons_append, ha123 12 z117.1, ha123 18 z117.2.1, ha123 14 z117.2.2]) ?_
  obtain ⟨z124, h⟩ := ck_some h
  obtain ⟨z125, h⟩ := ck_some h
  obtain ⟨z126, h⟩ := ck_some h
  obtain ⟨z127, h⟩ := ck_some h
  obtain ⟨S128, e129, h⟩ := lt_some h
  refine wg_aast13 X hx122 z124 z126 z125 z127 dX0_init_42 e129 (fun hx130 => ?_)
  refine wg_iinc (lv' := [(1, .int (4 : Int32)), (0, .ref (ad121 12))]) X 0 dX0_init_43 rfl (by decide) (by decide) rfl ?_
  refine wg_goto X 23 dX0_init_46 (by decide) ?_
  refine wg_iload_n X 0 dX0_init_23 rfl rfl ?_
  refine wg_bipush (v := 8) X dX0_init_24 (by decide) ?_
  refine wg_icmp_ge X 49 dX0_init_26 (by decide) (fun c131 => absurd c131 (by decide)) (fun c131 => ?_)
  refine wg_aload_n X 1 dX0_init_29 rfl rfl ?_
  obtain ⟨z132, h⟩ := ck_some h
  obtain ⟨z133, h⟩ := ck_some h
  refine wg_getR (b := 14) X cl0 z132 1 (by decide) dX0_init_30 k_143 rfl z133 ?_
  refine wg_iload_n X 0 dX0_init_33 rfl rfl ?_
  obtain ⟨z134, h⟩ := ck_some h
  obtain ⟨z135, h⟩ := ck_some h
  obtain ⟨S136, e137, h⟩ := lt_some h
  obtain ⟨C138, e139, h⟩ := lt_some h
  refine wg_newC X cl1 (by decide) (by decide) df1 hx130 k_102 k_104 k_72 (Nat.le_of_ble_eq_true rfl) (Nat.le_of_ble_eq_true rfl) dX0_init_34 e137 e139 (fun ad140 hx141 ha142 => ?_)
  refine wg_cs (k := 7) (n := 70) rfl rfl ?_
  rw [z135]
  refine wg_ren (lv' := [(1, .int (4 : Int32)), (0, .ref (ad140 12))]) (st' := [.ref (ad140 19), .int (4 : Int32), .ref (ad140 14)]) (by first | rfl | simp only [ha142 12 z134.1, ha142 14 z134.2]) (by first | rfl | simp only [Option.toList, List.nil_append, List.cons_append, ha142 12 z134.1, ha142 14 z134.2]) ?_
  refine wg_dup X dX0_init_37 rfl ?_
  refine wg_iload_n X 0 dX0_init_38 rfl rfl ?_
  obtain ⟨z143, h⟩ := ck_some h
  obtain ⟨S145, C146, h144, h⟩ := bd2_some h
  refine wg_callIa (As := [.int (4 : Int32)]) (rest := [.ref (ad140 19), .int (4 : Int32), .ref (ad140 14)]) X (c_X1_init l E ad140 S136 hx141.1 C138 M 19 (4 : Int32) h144) T_yX1_init k_105 dX0_init_39 rfl rfl (Nat.le_of_ble_eq_true rfl) ⟨Nat.le_of_ble_eq_true rfl, Nat.le_of_ble_eq_true rfl⟩ ⟨Nat.le_of_ble_eq_true rfl, (Nat.le_of_ble_eq_true rfl)⟩ hx141 (fun ad147 hx148 ha149 => ?_)
  refine wg_cs (k := 7) (n := 70) rfl rfl ?_
  refine wg_ren (lv' := [(1, .int (4 : Int32)), (0, .ref (ad147 12))]) (st' := [.ref (ad147 19), .int (4 : Int32), .ref (ad147 14)]) (by first | rfl | simp only [ha149 12 z143.1, ha149 19 z143.2.1, ha149 14 z143.2.2]) (by first | rfl | simp only [Option.toList, List.nil_append, List.cons_append, ha149 12 z143.1, ha149 19 z143.2.1, ha149 14 z143.2.2]) ?_
  obtain ⟨z150, h⟩ := ck_some h
  obtain ⟨z151, h⟩ := ck_some h
  obtain ⟨z152, h⟩ := ck_some h
  obtain ⟨z153, h⟩ := ck_some h
  obtain ⟨S154, e155, h⟩ := lt_some h
  refine wg_aast13 X hx148 z150 z152 z151 z153 dX0_init_42 e155 (fun hx156 => ?_)
  refine wg_iinc (lv' := [(1, .int (5 : Int32)), (0, .ref (ad147 12))]) X 0 dX0_init_43 rfl (by decide) (by decide) rfl ?_
  refine wg_goto X 23 dX0_init_46 (by decide) ?_
  refine wg_iload_n X 0 dX0_init_23 rfl rfl ?_
  refine wg_bipush (v := 8) X dX0_init_24 (by decide) ?_
  refine wg_icmp_ge X 49 dX0_init_26 (by decide) (fun c157 => absurd c157 (by decide)) (fun c157 => ?_)
  refine wg_aload_n X 1 dX0_init_29 rfl rfl ?_
  obtain ⟨z158, h⟩ := ck_some h
  obtain ⟨z159, h⟩ := ck_some h
  refine wg_getR (b := 14) X cl0 z158 1 (by decide) dX0_init_30 k_143 rfl z159 ?_
  refine wg_iload_n X 0 dX0_init_33 rfl rfl ?_
  obtain ⟨z160, h⟩ := ck_some h
  obtain ⟨z161, h⟩ := ck_some h
  obtain ⟨S162, e163, h⟩ := lt_some h
  obtain ⟨C164, e165, h⟩ := lt_some h
  refine wg_newC X cl1 (by decide) (by decide) df1 hx156 k_102 k_104 k_72 (Nat.le_of_ble_eq_true rfl) (Nat.le_of_ble_eq_true rfl) dX0_init_34 e163 e165 (fun ad166 hx167 ha168 => ?_)
  refine wg_cs (k := 8) (n := 76) rfl rfl ?_
  rw [z161]
  refine wg_ren (lv' := [(1, .int (5 : Int32)), (0, .ref (ad166 12))]) (st' := [.ref (ad166 20), .int (5 : Int32), .ref (ad166 14)]) (by first | rfl | simp only [ha168 12 z160.1, ha168 14 z160.2]) (by first | rfl | simp only [Option.toList, List.nil_append, List.cons_append, ha168 12 z160.1, ha168 14 z160.2]) ?_
  refine wg_dup X dX0_init_37 rfl ?_
  refine wg_iload_n X 0 dX0_init_38 rfl rfl ?_
  obtain ⟨z169, h⟩ := ck_some h
  obtain ⟨S171, C172, h170, h⟩ := bd2_some h
  refine wg_callIa (As := [.int (5 : Int32)]) (rest := [.ref (ad166 20), .int (5 : Int32), .ref (ad166 14)]) X (c_X1_init l E ad166 S162 hx167.1 C164 M 20 (5 : Int32) h170) T_yX1_init k_105 dX0_init_39 rfl rfl (Nat.le_of_ble_eq_true rfl) ⟨Nat.le_of_ble_eq_true rfl, Nat.le_of_ble_eq_true rfl⟩ ⟨Nat.le_of_ble_eq_true rfl, (Nat.le_of_ble_eq_true rfl)⟩ hx167 (fun ad173 hx174 ha175 => ?_)
  refine wg_cs (k := 8) (n := 76) rfl rfl ?_
  refine wg_ren (lv' := [(1, .int (5 : Int32)), (0, .ref (ad173 12))]) (st' := [.ref (ad173 20), .int (5 : Int32), .ref (ad173 14)]) (by first | rfl | simp only [ha175 12 z169.1, ha175 20 z169.2.1, ha175 14 z169.2.2]) (by first | rfl | simp only [Option.toList, List.nil_append, List.cons_append, ha175 12 z169.1, ha175 20 z169.2.1, ha175 14 z169.2.2]) ?_
  obtain ⟨z176, h⟩ := ck_some h
  obtain ⟨z177, h⟩ := ck_some h
  obtain ⟨z178, h⟩ := ck_some h
  obtain ⟨z179, h⟩ := ck_some h
  obtain ⟨S180, e181, h⟩ := lt_some h
  refine wg_aast13 X hx174 z176 z178 z177 z179 dX0_init_42 e181 (fun hx182 => ?_)
  refine wg_iinc (lv' := [(1, .int (6 : Int32)), (0, .ref (ad173 12))]) X 0 dX0_init_43 rfl (by decide) (by decide) rfl ?_
  refine wg_goto X 23 dX0_init_46 (by decide) ?_
  refine wg_iload_n X 0 dX0_init_23 rfl rfl ?_
  refine wg_bipush (v := 8) X dX0_init_24 (by decide) ?_
  refine wg_icmp_ge X 49 dX0_init_26 (by decide) (fun c183 => absurd c183 (by decide)) (fun c183 => ?_)
  refine wg_aload_n X 1 dX0_init_29 rfl rfl ?_
  obtain ⟨z184, h⟩ := ck_some h
  obtain ⟨z185, h⟩ := ck_some h
  refine wg_getR (b := 14) X cl0 z184 1 (by decide) dX0_init_30 k_143 rfl z185 ?_
  refine wg_iload_n X 0 dX0_init_33 rfl rfl ?_
  obtain ⟨z186, h⟩ := ck_some h
  obtain ⟨z187, h⟩ := ck_some h
  obtain ⟨S188, e189, h⟩ := lt_some h
  obtain ⟨C190, e191, h⟩ := lt_some h
  refine wg_newC X cl1 (by decide) (by decide) df1 hx182 k_102 k_104 k_72 (Nat.le_of_ble_eq_true rfl) (Nat.le_of_ble_eq_true rfl) dX0_init_34 e189 e191 (fun ad192 hx193 ha194 => ?_)
  refine wg_cs (k := 9) (n := 82) rfl rfl ?_
  rw [z187]
  refine wg_ren (lv' := [(1, .int (6 : Int32)), (0, .ref (ad192 12))]) (st' := [.ref (ad192 21), .int (6 : Int32), .ref (ad192 14)]) (by first | rfl | simp only [ha194 12 z186.1, ha194 14 z186.2]) (by first | rfl | simp only [Option.toList, List.nil_append, List.cons_append, ha194 12 z186.1, ha194 14 z186.2]) ?_
  refine wg_dup X dX0_init_37 rfl ?_
  refine wg_iload_n X 0 dX0_init_38 rfl rfl ?_
  obtain ⟨z195, h⟩ := ck_some h
  obtain ⟨S197, C198, h196, h⟩ := bd2_some h
  refine wg_callIa (As := [.int (6 : Int32)]) (rest := [.ref (ad192 21), .int (6 : Int32), .ref (ad192 14)]) X (c_X1_init l E ad192 S188 hx193.1 C190 M 21 (6 : Int32) h196) T_yX1_init k_105 dX0_init_39 rfl rfl (Nat.le_of_ble_eq_true rfl) ⟨Nat.le_of_ble_eq_true rfl, Nat.le_of_ble_eq_true rfl⟩ ⟨Nat.le_of_ble_eq_true rfl, (Nat.le_of_ble_eq_true rfl)⟩ hx193 (fun ad199 hx200 ha201 => ?_)
  refine wg_cs (k := 9) (n := 82) rfl rfl ?_
  refine wg_ren (lv' := [(1, .int (6 : Int32)), (0, .ref (ad199 12))]) (st' := [.ref (ad199 21), .int (6 : Int32), .ref (ad199 14)]) (by first | rfl | simp only [ha201 12 z195.1, ha201 21 z195.2.1, ha201 14 z195.2.2]) (by first | rfl | simp only [Option.toList, List.nil_append, List.cons_append, ha201 12 z195.1, ha201 21 z195.2.1, ha201 14 z195.2.2]) ?_
  obtain ⟨z202, h⟩ := ck_some h
  obtain ⟨z203, h⟩ := ck_some h
  obtain ⟨z204, h⟩ := ck_some h
  obtain ⟨z205, h⟩ := ck_some h
  obtain ⟨S206, e207, h⟩ := lt_some h
  refine wg_aast13 X hx200 z202 z204 z203 z205 dX0_init_42 e207 (fun hx208 => ?_)
  refine wg_iinc (lv' := [(1, .int (7 : Int32)), (0, .ref (ad199 12))]) X 0 dX0_init_43 rfl (by decide) (by decide) rfl ?_
  refine wg_goto X 23 dX0_init_46 (by decide) ?_
  refine wg_iload_n X 0 dX0_init_23 rfl rfl ?_
  refine wg_bipush (v := 8) X dX0_init_24 (by decide) ?_
  refine wg_icmp_ge X 49 dX0_init_26 (by decide) (fun c209 => absurd c209 (by decide)) (fun c209 => ?_)
  refine wg_aload_n X 1 dX0_init_29 rfl rfl ?_
  obtain ⟨z210, h⟩ := ck_some h
  obtain ⟨z211, h⟩ := ck_some h
  refine wg_getR (b := 14) X cl0 z210 1 (by decide) dX0_init_30 k_143 rfl z211 ?_
  refine wg_iload_n X 0 dX0_init_33 rfl rfl ?_
  obtain ⟨z212, h⟩ := ck_some h
  obtain ⟨z213, h⟩ := ck_some h
  obtain ⟨S214, e215, h⟩ := lt_some h
  obtain ⟨C216, e217, h⟩ := lt_some h
  refine wg_newC X cl1 (by decide) (by decide) df1 hx208 k_102 k_104 k_72 (Nat.le_of_ble_eq_true rfl) (Nat.le_of_ble_eq_true rfl) dX0_init_34 e215 e217 (fun ad218 hx219 ha220 => ?_)
  refine wg_cs (k := 10) (n := 88) rfl rfl ?_
  rw [z213]
  refine wg_ren (lv' := [(1, .int (7 : Int32)), (0, .ref (ad218 12))]) (st' := [.ref (ad218 22), .int (7 : Int32), .ref (ad218 14)]) (by first | rfl | simp only [ha220 12 z212.1, ha220 14 z212.2]) (by first | rfl | simp only [Option.toList, List.nil_append, List.cons_append, ha220 12 z212.1, ha220 14 z212.2]) ?_
  refine wg_dup X dX0_init_37 rfl ?_
  refine wg_iload_n X 0 dX0_init_38 rfl rfl ?_
  obtain ⟨z221, h⟩ := ck_some h
  obtain ⟨S223, C224, h222, h⟩ := bd2_some h
  refine wg_callIa (As := [.int (7 : Int32)]) (rest := [.ref (ad218 22), .int (7 : Int32), .ref (ad218 14)]) X (c_X1_init l E ad218 S214 hx219.1 C216 M 22 (7 : Int32) h222) T_yX1_init k_105 dX0_init_39 rfl rfl (Nat.le_of_ble_eq_true rfl) ⟨Nat.le_of_ble_eq_true rfl, Nat.le_of_ble_eq_true rfl⟩ ⟨Nat.le_of_ble_eq_true rfl, (Nat.le_of_ble_eq_true rfl)⟩ hx219 (fun ad225 hx226 ha227 => ?_)
  refine wg_cs (k := 10) (n := 88) rfl rfl ?_
  refine wg_ren (lv' := [(1, .int (7 : Int32)), (0, .ref (ad225 12))]) (st' := [.ref (ad225 22), .int (7 : Int32), .ref (ad225 14)]) (by first | rfl | simp only [ha227 12 z221.1, ha227 22 z221.2.1, ha227 14 z221.2.2]) (by first | rfl | simp only [Option.toList, List.nil_append, List.cons_append, ha227 12 z221.1, ha227 22 z221.2.1, ha227 14 z221.2.2]) ?_
  obtain ⟨z228, h⟩ := ck_some h
  obtain ⟨z229, h⟩ := ck_some h
  obtain ⟨z230, h⟩ := ck_some h
  obtain ⟨z231, h⟩ := ck_some h
  obtain ⟨S232, e233, h⟩ := lt_some h
  refine wg_aast13 X hx226 z228 z230 z229 z231 dX0_init_42 e233 (fun hx234 => ?_)
  refine wg_iinc (lv' := [(1, .int (8 : Int32)), (0, .ref (ad225 12))]) X 0 dX0_init_43 rfl (by decide) (by decide) rfl ?_
  refine wg_goto X 23 dX0_init_46 (by decide) ?_
  refine wg_iload_n X 0 dX0_init_23 rfl rfl ?_
  refine wg_bipush (v := 8) X dX0_init_24 (by decide) ?_
  refine wg_icmp_ge X 49 dX0_init_26 (by decide) (fun c235 => ?_) (fun c235 => absurd c235 (by decide))
  refine wg_widen (k := 10) (n := 88) (Nat.le_of_ble_eq_true rfl) (Nat.le_of_ble_eq_true rfl) ?_
  exact wg_avret X hx234 rfl ⟨(Prod.mk.inj (sm_inj h)).1, (Prod.mk.inj (sm_inj h)).2, rfl⟩ hr dX0_init_49
-- WindowsGive$Tape.<init>()V (('c', 23),)
set_option maxRecDepth 100000 in
def f_X5_init (S : wg_Sh) (C : wg_C)  : Option (wg_Sh × wg_C) :=
  ck (23 < S.2.2.2) <|
  ck (S.2.2.2 = 24) <|
  lt_ (wg_nw S 10 160) fun S3 =>
  lt_ (wg_zC C S.2.2.2 (fun _ => 0)) fun C5 =>
  ck (23 < S3.2.2.2 ∧ S3.2.2.1 23 = 5) <|
  ck (24 < S3.2.2.2) <|
  lt_ (wg_sR S3 23 0 (some 24)) fun S12 =>
  ck (23 < S12.2.2.2) <|
  ck (S12.2.2.2 = 25) <|
  lt_ (wg_nw S12 10 161) fun S17 =>
  lt_ (wg_zC C5 S12.2.2.2 (fun _ => 0)) fun C19 =>
  ck (23 < S17.2.2.2 ∧ S17.2.2.1 23 = 5) <|
  ck (25 < S17.2.2.2) <|
  lt_ (wg_sR S17 23 3 (some 25)) fun S26 =>
  ck (23 < S26.2.2.2) <|
  ck (S26.2.2.2 = 26) <|
  lt_ (wg_nw S26 10 161) fun S31 =>
  lt_ (wg_zC C19 S26.2.2.2 (fun _ => 0)) fun C33 =>
  ck (23 < S31.2.2.2 ∧ S31.2.2.1 23 = 5) <|
  ck (26 < S31.2.2.2) <|
  lt_ (wg_sR S31 23 4 (some 26)) fun S40 =>
  ck (23 < S40.2.2.2) <|
  ck (S40.2.2.2 = 27) <|
  lt_ (wg_nw S40 10 161) fun S45 =>
  lt_ (wg_zC C33 S40.2.2.2 (fun _ => 0)) fun C47 =>
  ck (23 < S45.2.2.2 ∧ S45.2.2.1 23 = 5) <|
  ck (27 < S45.2.2.2) <|
  lt_ (wg_sR S45 23 5 (some 27)) fun S54 =>
  some (S54, C47)
set_option maxHeartbeats 4000000 in
set_option maxRecDepth 100000 in
theorem c_X5_init (l : Launch) (E : wg_Ev) (ad : Nat → Nat) (S : wg_Sh) (hw : wg_wf S) (C : wg_C) (M : wg_M)  {S0 : wg_Sh} {D0 : wg_C} (h : f_X5_init S C  = some (S0, D0)) : wg_Ca l yX5_init cX5_init 1 none 1 24 4 643 E ad S C M [.ref (ad 23)] (fun _ => none) S0 D0 M := by
  refine wg_start (own := RX5) (by decide +kernel) rfl (Nat.le_of_ble_eq_true rfl) ?_
  intro p e s m below meth c X hr hnm
  refine wg_lv (lv' := [(0, .ref (ad 23))]) rfl ?_
  have hx : wg_ex S ad S ad := wg_ex_rf hw
  unfold f_X5_init at h
  refine wg_aload_n X 0 dX5_init_0 rfl rfl ?_
  refine wg_objI X k_166 k_94 k_95 dX5_init_1 ⟨Nat.le_of_ble_eq_true rfl, Nat.le_of_ble_eq_true rfl⟩ ?_
  refine wg_aload_n X 0 dX5_init_4 rfl rfl ?_
  refine wg_sipush (v := 160) X dX5_init_5 (by decide) ?_
  obtain ⟨z1, h⟩ := ck_some h
  obtain ⟨z2, h⟩ := ck_some h
  obtain ⟨S3, e4, h⟩ := lt_some h
  obtain ⟨C5, e6, h⟩ := lt_some h
  refine wg_newaC (L := 160) X hx (by decide) (by decide) (by decide) (Nat.le_of_ble_eq_true rfl) (Nat.le_of_ble_eq_true rfl) k_139 dX5_init_8 e4 e6 (fun ad7 hx8 ha9 => ?_)
  refine wg_cs (k := 1) (n := 160) rfl rfl ?_
  rw [z2]
  refine wg_ren (lv' := [(0, .ref (ad7 23))]) (st' := [.ref (ad7 24), .ref (ad7 23)]) (by first | rfl | simp only [ha9 23 z1]) (by first | rfl | simp only [Option.toList, List.nil_append, List.cons_append, ha9 23 z1]) ?_
  obtain ⟨z10, h⟩ := ck_some h
  obtain ⟨z11, h⟩ := ck_some h
  obtain ⟨S12, e13, h⟩ := lt_some h
  refine wg_putRF X hx8 z11 cl5 z10 0 (by decide) dX5_init_10 k_167 rfl hnm rfl rfl (fun _ => rfl) (fun _ => rfl) e13 (fun hx14 => ?_)
  refine wg_aload_n X 0 dX5_init_13 rfl rfl ?_
  refine wg_sipush (v := 161) X dX5_init_14 (by decide) ?_
  obtain ⟨z15, h⟩ := ck_some h
  obtain ⟨z16, h⟩ := ck_some h
  obtain ⟨S17, e18, h⟩ := lt_some h
  obtain ⟨C19, e20, h⟩ := lt_some h
  refine wg_newaC (L := 161) X hx14 (by decide) (by decide) (by decide) (Nat.le_of_ble_eq_true rfl) (Nat.le_of_ble_eq_true rfl) k_139 dX5_init_17 e18 e20 (fun ad21 hx22 ha23 => ?_)
  refine wg_cs (k := 2) (n := 321) rfl rfl ?_
  rw [z16]
  refine wg_ren (lv' := [(0, .ref (ad21 23))]) (st' := [.ref (ad21 25), .ref (ad21 23)]) (by first | rfl | simp only [ha23 23 z15]) (by first | rfl | simp only [Option.toList, List.nil_append, List.cons_append, ha23 23 z15]) ?_
  obtain ⟨z24, h⟩ := ck_some h
  obtain ⟨z25, h⟩ := ck_some h
  obtain ⟨S26, e27, h⟩ := lt_some h
  refine wg_putRF X hx22 z25 cl5 z24 3 (by decide) dX5_init_19 k_171 rfl hnm rfl rfl (fun _ => rfl) (fun _ => rfl) e27 (fun hx28 => ?_)
  refine wg_aload_n X 0 dX5_init_22 rfl rfl ?_
  refine wg_sipush (v := 161) X dX5_init_23 (by decide) ?_
  obtain ⟨z29, h⟩ := ck_some h
  obtain ⟨z30, h⟩ := ck_some h
  obtain ⟨S31, e32, h⟩ := lt_some h
  obtain ⟨C33, e34, h⟩ := lt_some h
  refine wg_newaC (L := 161) X hx28 (by decide) (by decide) (by decide) (Nat.le_of_ble_eq_true rfl) (Nat.le_of_ble_eq_true rfl) k_139 dX5_init_26 e32 e34 (fun ad35 hx36 ha37 => ?_)
  refine wg_cs (k := 3) (n := 482) rfl rfl ?_
  rw [z30]
  refine wg_ren (lv' := [(0, .ref (ad35 23))]) (st' := [.ref (ad35 26), .ref (ad35 23)]) (by first | rfl | simp only [ha37 23 z29]) (by first | rfl | simp only [Option.toList, List.nil_append, List.cons_append, ha37 23 z29]) ?_
  obtain ⟨z38, h⟩ := ck_some h
  obtain ⟨z39, h⟩ := ck_some h
  obtain ⟨S40, e41, h⟩ := lt_some h
  refine wg_putRF X hx36 z39 cl5 z38 4 (by decide) dX5_init_28 k_173 rfl hnm rfl rfl (fun _ => rfl) (fun _ => rfl) e41 (fun hx42 => ?_)
  refine wg_aload_n X 0 dX5_init_31 rfl rfl ?_
  refine wg_sipush (v := 161) X dX5_init_32 (by decide) ?_
  obtain ⟨z43, h⟩ := ck_some h
  obtain ⟨z44, h⟩ := ck_some h
  obtain ⟨S45, e46, h⟩ := lt_some h
  obtain ⟨C47, e48, h⟩ := lt_some h
  refine wg_newaC (L := 161) X hx42 (by decide) (by decide) (by decide) (Nat.le_of_ble_eq_true rfl) (Nat.le_of_ble_eq_true rfl) k_139 dX5_init_35 e46 e48 (fun ad49 hx50 ha51 => ?_)
  refine wg_cs (k := 4) (n := 643) rfl rfl ?_
  rw [z44]
  refine wg_ren (lv' := [(0, .ref (ad49 23))]) (st' := [.ref (ad49 27), .ref (ad49 23)]) (by first | rfl | simp only [ha51 23 z43]) (by first | rfl | simp only [Option.toList, List.nil_append, List.cons_append, ha51 23 z43]) ?_
  obtain ⟨z52, h⟩ := ck_some h
  obtain ⟨z53, h⟩ := ck_some h
  obtain ⟨S54, e55, h⟩ := lt_some h
  refine wg_putRF X hx50 z53 cl5 z52 5 (by decide) dX5_init_37 k_175 rfl hnm rfl rfl (fun _ => rfl) (fun _ => rfl) e55 (fun hx56 => ?_)
  refine wg_widen (k := 4) (n := 643) (Nat.le_of_ble_eq_true rfl) (Nat.le_of_ble_eq_true rfl) ?_
  exact wg_avret X hx56 rfl ⟨(Prod.mk.inj (sm_inj h)).1, (Prod.mk.inj (sm_inj h)).2, rfl⟩ hr dX5_init_40
-- WindowsGive$Reader.<init>()V (('c', 28),)
set_option maxRecDepth 100000 in
def f_X2_init (S : wg_Sh) (C : wg_C)  : Option (wg_Sh × wg_C) :=
  ck (28 < S.2.2.2) <|
  ck (S.2.2.2 = 29) <|
  lt_ (wg_nw S 10 160) fun S3 =>
  lt_ (wg_zC C S.2.2.2 (fun _ => 0)) fun C5 =>
  ck (28 < S3.2.2.2 ∧ S3.2.2.1 28 = 2) <|
  ck (29 < S3.2.2.2) <|
  lt_ (wg_sR S3 28 4 (some 29)) fun S12 =>
  ck (28 < S12.2.2.2) <|
  ck (S12.2.2.2 = 30) <|
  lt_ (wg_nw S12 10 3) fun S17 =>
  lt_ (wg_zC C5 S12.2.2.2 (fun _ => 0)) fun C19 =>
  ck (28 < S17.2.2.2 ∧ S17.2.2.1 28 = 2) <|
  ck (30 < S17.2.2.2) <|
  lt_ (wg_sR S17 28 5 (some 30)) fun S26 =>
  some (S26, C19)
set_option maxHeartbeats 4000000 in
set_option maxRecDepth 100000 in
theorem c_X2_init (l : Launch) (E : wg_Ev) (ad : Nat → Nat) (S : wg_Sh) (hw : wg_wf S) (C : wg_C) (M : wg_M)  {S0 : wg_Sh} {D0 : wg_C} (h : f_X2_init S C  = some (S0, D0)) : wg_Ca l yX2_init cX2_init 1 none 1 24 2 163 E ad S C M [.ref (ad 28)] (fun _ => none) S0 D0 M := by
  refine wg_start (own := RX2) (by decide +kernel) rfl (Nat.le_of_ble_eq_true rfl) ?_
  intro p e s m below meth c X hr hnm
  refine wg_lv (lv' := [(0, .ref (ad 28))]) rfl ?_
  have hx : wg_ex S ad S ad := wg_ex_rf hw
  unfold f_X2_init at h
  refine wg_aload_n X 0 dX2_init_0 rfl rfl ?_
  refine wg_objI X k_199 k_94 k_95 dX2_init_1 ⟨Nat.le_of_ble_eq_true rfl, Nat.le_of_ble_eq_true rfl⟩ ?_
  refine wg_aload_n X 0 dX2_init_4 rfl rfl ?_
  refine wg_sipush (v := 160) X dX2_init_5 (by decide) ?_
  obtain ⟨z1, h⟩ := ck_some h
  obtain ⟨z2, h⟩ := ck_some h
  obtain ⟨S3, e4, h⟩ := lt_some h
  obtain ⟨C5, e6, h⟩ := lt_some h
  refine wg_newaC (L := 160) X hx (by decide) (by decide) (by decide) (Nat.le_of_ble_eq_true rfl) (Nat.le_of_ble_eq_true rfl) k_139 dX2_init_8 e4 e6 (fun ad7 hx8 ha9 => ?_)
  refine wg_cs (k := 1) (n := 160) rfl rfl ?_
  rw [z2]
  refine wg_ren (lv' := [(0, .ref (ad7 28))]) (st' := [.ref (ad7 29), .ref (ad7 28)]) (by first | rfl | simp only [ha9 28 z1]) (by first | rfl | simp only [Option.toList, List.nil_append, List.cons_append, ha9 28 z1]) ?_
  obtain ⟨z10, h⟩ := ck_some h
  obtain ⟨z11, h⟩ := ck_some h
  obtain ⟨S12, e13, h⟩ := lt_some h
  refine wg_putRF X hx8 z11 cl2 z10 4 (by decide) dX2_init_10 k_205 rfl hnm rfl rfl (fun _ => rfl) (fun _ => rfl) e13 (fun hx14 => ?_)
  refine wg_aload_n X 0 dX2_init_13 rfl rfl ?_
  refine wg_iconst (v := 3) X dX2_init_14 (by decide) ?_
  obtain ⟨z15, h⟩ := ck_some h
  obtain ⟨z16, h⟩ := ck_some h
  obtain ⟨S17, e18, h⟩ := lt_some h
  obtain ⟨C19, e20, h⟩ := lt_some h
  refine wg_newaC (L := 3) X hx14 (by decide) (by decide) (by decide) (Nat.le_of_ble_eq_true rfl) (Nat.le_of_ble_eq_true rfl) k_139 dX2_init_15 e18 e20 (fun ad21 hx22 ha23 => ?_)
  refine wg_cs (k := 2) (n := 163) rfl rfl ?_
  rw [z16]
  refine wg_ren (lv' := [(0, .ref (ad21 28))]) (st' := [.ref (ad21 30), .ref (ad21 28)]) (by first | rfl | simp only [ha23 28 z15]) (by first | rfl | simp only [Option.toList, List.nil_append, List.cons_append, ha23 28 z15]) ?_
  obtain ⟨z24, h⟩ := ck_some h
  obtain ⟨z25, h⟩ := ck_some h
  obtain ⟨S26, e27, h⟩ := lt_some h
  refine wg_putRF X hx22 z25 cl2 z24 5 (by decide) dX2_init_17 k_206 rfl hnm rfl rfl (fun _ => rfl) (fun _ => rfl) e27 (fun hx28 => ?_)
  refine wg_widen (k := 2) (n := 163) (Nat.le_of_ble_eq_true rfl) (Nat.le_of_ble_eq_true rfl) ?_
  exact wg_avret X hx28 rfl ⟨(Prod.mk.inj (sm_inj h)).1, (Prod.mk.inj (sm_inj h)).2, rfl⟩ hr dX2_init_20
-- WindowsGive$Rules.<init>()V (('c', 31),)
set_option maxRecDepth 100000 in
def f_X3_init (S : wg_Sh) (C : wg_C)  : Option (wg_Sh × wg_C) :=
  ck (31 < S.2.2.2) <|
  ck (S.2.2.2 = 32) <|
  lt_ (wg_nw S 15 6) fun S3 =>
  ck (31 < S3.2.2.2 ∧ S3.2.2.1 31 = 3) <|
  ck (32 < S3.2.2.2) <|
  lt_ (wg_sR S3 31 0 (some 32)) fun S10 =>
  ck (31 < S10.2.2.2) <|
  ck (S10.2.2.2 = 33) <|
  lt_ (wg_nw S10 10 6) fun S15 =>
  lt_ (wg_zC C S10.2.2.2 (fun _ => 0)) fun C17 =>
  ck (31 < S15.2.2.2 ∧ S15.2.2.1 31 = 3) <|
  ck (33 < S15.2.2.2) <|
  lt_ (wg_sR S15 31 2 (some 33)) fun S24 =>
  ck (31 < S24.2.2.2) <|
  ck (S24.2.2.2 = 34) <|
  lt_ (wg_nw S24 10 160) fun S29 =>
  lt_ (wg_zC C17 S24.2.2.2 (fun _ => 0)) fun C31 =>
  ck (31 < S29.2.2.2 ∧ S29.2.2.1 31 = 3) <|
  ck (34 < S29.2.2.2) <|
  lt_ (wg_sR S29 31 3 (some 34)) fun S38 =>
  some (S38, C31)
set_option maxHeartbeats 4000000 in
set_option maxRecDepth 100000 in
theorem c_X3_init (l : Launch) (E : wg_Ev) (ad : Nat → Nat) (S : wg_Sh) (hw : wg_wf S) (C : wg_C) (M : wg_M)  {S0 : wg_Sh} {D0 : wg_C} (h : f_X3_init S C  = some (S0, D0)) : wg_Ca l yX3_init cX3_init 1 none 1 24 3 172 E ad S C M [.ref (ad 31)] (fun _ => none) S0 D0 M := by
  refine wg_start (own := RX3) (by decide +kernel) rfl (Nat.le_of_ble_eq_true rfl) ?_
  intro p e s m below meth c X hr hnm
  refine wg_lv (lv' := [(0, .ref (ad 31))]) rfl ?_
  have hx : wg_ex S ad S ad := wg_ex_rf hw
  unfold f_X3_init at h
  refine wg_aload_n X 0 dX3_init_0 rfl rfl ?_
  refine wg_objI X k_225 k_94 k_95 dX3_init_1 ⟨Nat.le_of_ble_eq_true rfl, Nat.le_of_ble_eq_true rfl⟩ ?_
  refine wg_aload_n X 0 dX3_init_4 rfl rfl ?_
  refine wg_bipush (v := 6) X dX3_init_5 (by decide) ?_
  obtain ⟨z1, h⟩ := ck_some h
  obtain ⟨z2, h⟩ := ck_some h
  obtain ⟨S3, e4, h⟩ := lt_some h
  refine wg_newq15 (L := 6) X hx (by decide) (by decide) (by decide) (Nat.le_of_ble_eq_true rfl) (Nat.le_of_ble_eq_true rfl) k_226 dX3_init_7 e4 (fun ad5 hx6 ha7 => ?_)
  refine wg_cs (k := 1) (n := 6) rfl rfl ?_
  rw [z2]
  refine wg_ren (lv' := [(0, .ref (ad5 31))]) (st' := [.ref (ad5 32), .ref (ad5 31)]) (by first | rfl | simp only [ha7 31 z1]) (by first | rfl | simp only [Option.toList, List.nil_append, List.cons_append, ha7 31 z1]) ?_
  obtain ⟨z8, h⟩ := ck_some h
  obtain ⟨z9, h⟩ := ck_some h
  obtain ⟨S10, e11, h⟩ := lt_some h
  refine wg_putRF X hx6 z9 cl3 z8 0 (by decide) dX3_init_10 k_228 rfl hnm rfl rfl (fun _ => rfl) (fun _ => rfl) e11 (fun hx12 => ?_)
  refine wg_aload_n X 0 dX3_init_13 rfl rfl ?_
  refine wg_bipush (v := 6) X dX3_init_14 (by decide) ?_
  obtain ⟨z13, h⟩ := ck_some h
  obtain ⟨z14, h⟩ := ck_some h
  obtain ⟨S15, e16, h⟩ := lt_some h
  obtain ⟨C17, e18, h⟩ := lt_some h
  refine wg_newaC (L := 6) X hx12 (by decide) (by decide) (by decide) (Nat.le_of_ble_eq_true rfl) (Nat.le_of_ble_eq_true rfl) k_139 dX3_init_16 e16 e18 (fun ad19 hx20 ha21 => ?_)
  refine wg_cs (k := 2) (n := 12) rfl rfl ?_
  rw [z14]
  refine wg_ren (lv' := [(0, .ref (ad19 31))]) (st' := [.ref (ad19 33), .ref (ad19 31)]) (by first | rfl | simp only [ha21 31 z13]) (by first | rfl | simp only [Option.toList, List.nil_append, List.cons_append, ha21 31 z13]) ?_
  obtain ⟨z22, h⟩ := ck_some h
  obtain ⟨z23, h⟩ := ck_some h
  obtain ⟨S24, e25, h⟩ := lt_some h
  refine wg_putRF X hx20 z23 cl3 z22 2 (by decide) dX3_init_18 k_231 rfl hnm rfl rfl (fun _ => rfl) (fun _ => rfl) e25 (fun hx26 => ?_)
  refine wg_aload_n X 0 dX3_init_21 rfl rfl ?_
  refine wg_sipush (v := 160) X dX3_init_22 (by decide) ?_
  obtain ⟨z27, h⟩ := ck_some h
  obtain ⟨z28, h⟩ := ck_some h
  obtain ⟨S29, e30, h⟩ := lt_some h
  obtain ⟨C31, e32, h⟩ := lt_some h
  refine wg_newaC (L := 160) X hx26 (by decide) (by decide) (by decide) (Nat.le_of_ble_eq_true rfl) (Nat.le_of_ble_eq_true rfl) k_139 dX3_init_25 e30 e32 (fun ad33 hx34 ha35 => ?_)
  refine wg_cs (k := 3) (n := 172) rfl rfl ?_
  rw [z28]
  refine wg_ren (lv' := [(0, .ref (ad33 31))]) (st' := [.ref (ad33 34), .ref (ad33 31)]) (by first | rfl | simp only [ha35 31 z27]) (by first | rfl | simp only [Option.toList, List.nil_append, List.cons_append, ha35 31 z27]) ?_
  obtain ⟨z36, h⟩ := ck_some h
  obtain ⟨z37, h⟩ := ck_some h
  obtain ⟨S38, e39, h⟩ := lt_some h
  refine wg_putRF X hx34 z37 cl3 z36 3 (by decide) dX3_init_27 k_232 rfl hnm rfl rfl (fun _ => rfl) (fun _ => rfl) e39 (fun hx40 => ?_)
  refine wg_widen (k := 3) (n := 172) (Nat.le_of_ble_eq_true rfl) (Nat.le_of_ble_eq_true rfl) ?_
  exact wg_avret X hx40 rfl ⟨(Prod.mk.inj (sm_inj h)).1, (Prod.mk.inj (sm_inj h)).2, rfl⟩ hr dX3_init_30
-- WindowsGive$Walk.<init>()V (('c', 35),)
set_option maxRecDepth 100000 in
def f_X7_init (S : wg_Sh) (C : wg_C)  : Option (wg_Sh × wg_C) :=
  ck (35 < S.2.2.2) <|
  ck (S.2.2.2 = 36) <|
  lt_ (wg_nw S 10 6) fun S3 =>
  lt_ (wg_zC C S.2.2.2 (fun _ => 0)) fun C5 =>
  ck (35 < S3.2.2.2 ∧ S3.2.2.1 35 = 7) <|
  ck (36 < S3.2.2.2) <|
  lt_ (wg_sR S3 35 0 (some 36)) fun S12 =>
  ck (35 < S12.2.2.2) <|
  ck (S12.2.2.2 = 37) <|
  lt_ (wg_nw S12 10 192) fun S17 =>
  lt_ (wg_zC C5 S12.2.2.2 (fun _ => 0)) fun C19 =>
  ck (35 < S17.2.2.2 ∧ S17.2.2.1 35 = 7) <|
  ck (37 < S17.2.2.2) <|
  lt_ (wg_sR S17 35 1 (some 37)) fun S26 =>
  ck (35 < S26.2.2.2) <|
  ck (S26.2.2.2 = 38) <|
  lt_ (wg_nw S26 10 192) fun S31 =>
  lt_ (wg_zC C19 S26.2.2.2 (fun _ => 0)) fun C33 =>
  ck (35 < S31.2.2.2 ∧ S31.2.2.1 35 = 7) <|
  ck (38 < S31.2.2.2) <|
  lt_ (wg_sR S31 35 2 (some 38)) fun S40 =>
  some (S40, C33)
set_option maxHeartbeats 4000000 in
set_option maxRecDepth 100000 in
theorem c_X7_init (l : Launch) (E : wg_Ev) (ad : Nat → Nat) (S : wg_Sh) (hw : wg_wf S) (C : wg_C) (M : wg_M)  {S0 : wg_Sh} {D0 : wg_C} (h : f_X7_init S C  = some (S0, D0)) : wg_Ca l yX7_init cX7_init 1 none 1 24 3 390 E ad S C M [.ref (ad 35)] (fun _ => none) S0 D0 M := by
  refine wg_start (own := RX7) (by decide +kernel) rfl (Nat.le_of_ble_eq_true rfl) ?_
  intro p e s m below meth c X hr hnm
  refine wg_lv (lv' := [(0, .ref (ad 35))]) rfl ?_
  have hx : wg_ex S ad S ad := wg_ex_rf hw
  unfold f_X7_init at h
  refine wg_aload_n X 0 dX7_init_0 rfl rfl ?_
  refine wg_objI X k_247 k_94 k_95 dX7_init_1 ⟨Nat.le_of_ble_eq_true rfl, Nat.le_of_ble_eq_true rfl⟩ ?_
  refine wg_aload_n X 0 dX7_init_4 rfl rfl ?_
  refine wg_bipush (v := 6) X dX7_init_5 (by decide) ?_
  obtain ⟨z1, h⟩ := ck_some h
  obtain ⟨z2, h⟩ := ck_some h
  obtain ⟨S3, e4, h⟩ := lt_some h
  obtain ⟨C5, e6, h⟩ := lt_some h
  refine wg_newaC (L := 6) X hx (by decide) (by decide) (by decide) (Nat.le_of_ble_eq_true rfl) (Nat.le_of_ble_eq_true rfl) k_139 dX7_init_7 e4 e6 (fun ad7 hx8 ha9 => ?_)
  refine wg_cs (k := 1) (n := 6) rfl rfl ?_
  rw [z2]
  refine wg_ren (lv' := [(0, .ref (ad7 35))]) (st' := [.ref (ad7 36), .ref (ad7 35)]) (by first | rfl | simp only [ha9 35 z1]) (by first | rfl | simp only [Option.toList, List.nil_append, List.cons_append, ha9 35 z1]) ?_
  obtain ⟨z10, h⟩ := ck_some h
  obtain ⟨z11, h⟩ := ck_some h
  obtain ⟨S12, e13, h⟩ := lt_some h
  refine wg_putRF X hx8 z11 cl7 z10 0 (by decide) dX7_init_9 k_248 rfl hnm rfl rfl (fun _ => rfl) (fun _ => rfl) e13 (fun hx14 => ?_)
  refine wg_aload_n X 0 dX7_init_12 rfl rfl ?_
  refine wg_sipush (v := 192) X dX7_init_13 (by decide) ?_
  obtain ⟨z15, h⟩ := ck_some h
  obtain ⟨z16, h⟩ := ck_some h
  obtain ⟨S17, e18, h⟩ := lt_some h
  obtain ⟨C19, e20, h⟩ := lt_some h
  refine wg_newaC (L := 192) X hx14 (by decide) (by decide) (by decide) (Nat.le_of_ble_eq_true rfl) (Nat.le_of_ble_eq_true rfl) k_139 dX7_init_16 e18 e20 (fun ad21 hx22 ha23 => ?_)
  refine wg_cs (k := 2) (n := 198) rfl rfl ?_
  rw [z16]
  refine wg_ren (lv' := [(0, .ref (ad21 35))]) (st' := [.ref (ad21 37), .ref (ad21 35)]) (by first | rfl | simp only [ha23 35 z15]) (by first | rfl | simp only [Option.toList, List.nil_append, List.cons_append, ha23 35 z15]) ?_
  obtain ⟨z24, h⟩ := ck_some h
  obtain ⟨z25, h⟩ := ck_some h
  obtain ⟨S26, e27, h⟩ := lt_some h
  refine wg_putRF X hx22 z25 cl7 z24 1 (by decide) dX7_init_18 k_250 rfl hnm rfl rfl (fun _ => rfl) (fun _ => rfl) e27 (fun hx28 => ?_)
  refine wg_aload_n X 0 dX7_init_21 rfl rfl ?_
  refine wg_sipush (v := 192) X dX7_init_22 (by decide) ?_
  obtain ⟨z29, h⟩ := ck_some h
  obtain ⟨z30, h⟩ := ck_some h
  obtain ⟨S31, e32, h⟩ := lt_some h
  obtain ⟨C33, e34, h⟩ := lt_some h
  refine wg_newaC (L := 192) X hx28 (by decide) (by decide) (by decide) (Nat.le_of_ble_eq_true rfl) (Nat.le_of_ble_eq_true rfl) k_139 dX7_init_25 e32 e34 (fun ad35 hx36 ha37 => ?_)
  refine wg_cs (k := 3) (n := 390) rfl rfl ?_
  rw [z30]
  refine wg_ren (lv' := [(0, .ref (ad35 35))]) (st' := [.ref (ad35 38), .ref (ad35 35)]) (by first | rfl | simp only [ha37 35 z29]) (by first | rfl | simp only [Option.toList, List.nil_append, List.cons_append, ha37 35 z29]) ?_
  obtain ⟨z38, h⟩ := ck_some h
  obtain ⟨z39, h⟩ := ck_some h
  obtain ⟨S40, e41, h⟩ := lt_some h
  refine wg_putRF X hx36 z39 cl7 z38 2 (by decide) dX7_init_27 k_252 rfl hnm rfl rfl (fun _ => rfl) (fun _ => rfl) e41 (fun hx42 => ?_)
  refine wg_widen (k := 3) (n := 390) (Nat.le_of_ble_eq_true rfl) (Nat.le_of_ble_eq_true rfl) ?_
  exact wg_avret X hx42 rfl ⟨(Prod.mk.inj (sm_inj h)).1, (Prod.mk.inj (sm_inj h)).2, rfl⟩ hr dX7_init_30
-- WindowsGive$Sheet.<init>()V (('c', 44),)
set_option maxRecDepth 100000 in
def f_X4_init_i0 (S : wg_Sh) (C : wg_C)  : Option (wg_Sh × wg_C) :=
  ck (44 < S.2.2.2) <|
  ck (S.2.2.2 = 45) <|
  lt_ (wg_nw S 10 40) fun S3 =>
  lt_ (wg_zC C S.2.2.2 (fun _ => 0)) fun C5 =>
  ck (44 < S3.2.2.2 ∧ S3.2.2.1 44 = 4) <|
  ck (45 < S3.2.2.2) <|
  lt_ (wg_sR S3 44 0 (some 45)) fun S12 =>
  ck (44 < S12.2.2.2 ∧ S12.2.2.1 44 = 4) <|
  lt_ (wg_up C5 44 1 (-1 : Int32)) fun C16 =>
  some (S12, C16)
set_option maxHeartbeats 4000000 in
set_option maxRecDepth 100000 in
theorem c_X4_init_i0 (l : Launch) (E : wg_Ev) (ad : Nat → Nat) (S : wg_Sh) (hw : wg_wf S) (C : wg_C) (M : wg_M)  {S0 : wg_Sh} {D0 : wg_C} (h : f_X4_init_i0 S C  = some (S0, D0)) : wg_Ca l yX4_init cX4_init 1 none 1 24 1 40 E ad S C M [.ref (ad 44)] (fun _ => none) S0 D0 M := by
  refine wg_start (own := RX4) (by decide +kernel) rfl (Nat.le_of_ble_eq_true rfl) ?_
  intro p e s m below meth c X hr hnm
  refine wg_lv (lv' := [(0, .ref (ad 44))]) rfl ?_
  have hx : wg_ex S ad S ad := wg_ex_rf hw
  unfold f_X4_init_i0 at h
  refine wg_aload_n X 0 dX4_init_0 rfl rfl ?_
  refine wg_objI X k_268 k_94 k_95 dX4_init_1 ⟨Nat.le_of_ble_eq_true rfl, Nat.le_of_ble_eq_true rfl⟩ ?_
  refine wg_aload_n X 0 dX4_init_4 rfl rfl ?_
  refine wg_bipush (v := 40) X dX4_init_5 (by decide) ?_
  obtain ⟨z1, h⟩ := ck_some h
  obtain ⟨z2, h⟩ := ck_some h
  obtain ⟨S3, e4, h⟩ := lt_some h
  obtain ⟨C5, e6, h⟩ := lt_some h
  refine wg_newaC (L := 40) X hx (by decide) (by decide) (by decide) (Nat.le_of_ble_eq_true rfl) (Nat.le_of_ble_eq_true rfl) k_139 dX4_init_7 e4 e6 (fun ad7 hx8 ha9 => ?_)
  refine wg_cs (k := 1) (n := 40) rfl rfl ?_
  rw [z2]
  refine wg_ren (lv' := [(0, .ref (ad7 44))]) (st' := [.ref (ad7 45), .ref (ad7 44)]) (by first | rfl | simp only [ha9 44 z1]) (by first | rfl | simp only [Option.toList, List.nil_append, List.cons_append, ha9 44 z1]) ?_
  obtain ⟨z10, h⟩ := ck_some h
  obtain ⟨z11, h⟩ := ck_some h
  obtain ⟨S12, e13, h⟩ := lt_some h
  refine wg_putRF X hx8 z11 cl4 z10 0 (by decide) dX4_init_9 k_269 rfl hnm rfl rfl (fun _ => rfl) (fun _ => rfl) e13 (fun hx14 => ?_)
  refine wg_aload_n X 0 dX4_init_12 rfl rfl ?_
  refine wg_iconst (v := -1) X dX4_init_13 (by decide) ?_
  obtain ⟨z15, h⟩ := ck_some h
  obtain ⟨C16, e17, h⟩ := lt_some h
  refine wg_putCe X cl4 z15 1 (by decide) dX4_init_14 k_271 rfl rfl rfl rfl e17 ?_
  refine wg_widen (k := 1) (n := 40) (Nat.le_of_ble_eq_true rfl) (Nat.le_of_ble_eq_true rfl) ?_
  exact wg_avret X hx14 rfl ⟨(Prod.mk.inj (sm_inj h)).1, (Prod.mk.inj (sm_inj h)).2, rfl⟩ hr dX4_init_17
-- WindowsGive$Sheet.<init>()V (('c', 46),)
set_option maxRecDepth 100000 in
def f_X4_init_i1 (S : wg_Sh) (C : wg_C)  : Option (wg_Sh × wg_C) :=
  ck (46 < S.2.2.2) <|
  ck (S.2.2.2 = 47) <|
  lt_ (wg_nw S 10 40) fun S3 =>
  lt_ (wg_zC C S.2.2.2 (fun _ => 0)) fun C5 =>
  ck (46 < S3.2.2.2 ∧ S3.2.2.1 46 = 4) <|
  ck (47 < S3.2.2.2) <|
  lt_ (wg_sR S3 46 0 (some 47)) fun S12 =>
  ck (46 < S12.2.2.2 ∧ S12.2.2.1 46 = 4) <|
  lt_ (wg_up C5 46 1 (-1 : Int32)) fun C16 =>
  some (S12, C16)
set_option maxHeartbeats 4000000 in
set_option maxRecDepth 100000 in
theorem c_X4_init_i1 (l : Launch) (E : wg_Ev) (ad : Nat → Nat) (S : wg_Sh) (hw : wg_wf S) (C : wg_C) (M : wg_M)  {S0 : wg_Sh} {D0 : wg_C} (h : f_X4_init_i1 S C  = some (S0, D0)) : wg_Ca l yX4_init cX4_init 1 none 1 24 1 40 E ad S C M [.ref (ad 46)] (fun _ => none) S0 D0 M := by
  refine wg_start (own := RX4) (by decide +kernel) rfl (Nat.le_of_ble_eq_true rfl) ?_
  intro p e s m below meth c X hr hnm
  refine wg_lv (lv' := [(0, .ref (ad 46))]) rfl ?_
  have hx : wg_ex S ad S ad := wg_ex_rf hw
  unfold f_X4_init_i1 at h
  refine wg_aload_n X 0 dX4_init_0 rfl rfl ?_
  refine wg_objI X k_268 k_94 k_95 dX4_init_1 ⟨Nat.le_of_ble_eq_true rfl, Nat.le_of_ble_eq_true rfl⟩ ?_
  refine wg_aload_n X 0 dX4_init_4 rfl rfl ?_
  refine wg_bipush (v := 40) X dX4_init_5 (by decide) ?_
  obtain ⟨z1, h⟩ := ck_some h
  obtain ⟨z2, h⟩ := ck_some h
  obtain ⟨S3, e4, h⟩ := lt_some h
  obtain ⟨C5, e6, h⟩ := lt_some h
  refine wg_newaC (L := 40) X hx (by decide) (by decide) (by decide) (Nat.le_of_ble_eq_true rfl) (Nat.le_of_ble_eq_true rfl) k_139 dX4_init_7 e4 e6 (fun ad7 hx8 ha9 => ?_)
  refine wg_cs (k := 1) (n := 40) rfl rfl ?_
  rw [z2]
  refine wg_ren (lv' := [(0, .ref (ad7 46))]) (st' := [.ref (ad7 47), .ref (ad7 46)]) (by first | rfl | simp only [ha9 46 z1]) (by first | rfl | simp only [Option.toList, List.nil_append, List.cons_append, ha9 46 z1]) ?_
  obtain ⟨z10, h⟩ := ck_some h
  obtain ⟨z11, h⟩ := ck_some h
  obtain ⟨S12, e13, h⟩ := lt_some h
  refine wg_putRF X hx8 z11 cl4 z10 0 (by decide) dX4_init_9 k_269 rfl hnm rfl rfl (fun _ => rfl) (fun _ => rfl) e13 (fun hx14 => ?_)
  refine wg_aload_n X 0 dX4_init_12 rfl rfl ?_
  refine wg_iconst (v := -1) X dX4_init_13 (by decide) ?_
  obtain ⟨z15, h⟩ := ck_some h
  obtain ⟨C16, e17, h⟩ := lt_some h
  refine wg_putCe X cl4 z15 1 (by decide) dX4_init_14 k_271 rfl rfl rfl rfl e17 ?_
  refine wg_widen (k := 1) (n := 40) (Nat.le_of_ble_eq_true rfl) (Nat.le_of_ble_eq_true rfl) ?_
  exact wg_avret X hx14 rfl ⟨(Prod.mk.inj (sm_inj h)).1, (Prod.mk.inj (sm_inj h)).2, rfl⟩ hr dX4_init_17
-- WindowsGive$Sheet.<init>()V (('c', 48),)
set_option maxRecDepth 100000 in
def f_X4_init_i2 (S : wg_Sh) (C : wg_C)  : Option (wg_Sh × wg_C) :=
  ck (48 < S.2.2.2) <|
  ck (S.2.2.2 = 49) <|
  lt_ (wg_nw S 10 40) fun S3 =>
  lt_ (wg_zC C S.2.2.2 (fun _ => 0)) fun C5 =>
  ck (48 < S3.2.2.2 ∧ S3.2.2.1 48 = 4) <|
  ck (49 < S3.2.2.2) <|
  lt_ (wg_sR S3 48 0 (some 49)) fun S12 =>
  ck (48 < S12.2.2.2 ∧ S12.2.2.1 48 = 4) <|
  lt_ (wg_up C5 48 1 (-1 : Int32)) fun C16 =>
  some (S12, C16)
set_option maxHeartbeats 4000000 in
set_option maxRecDepth 100000 in
theorem c_X4_init_i2 (l : Launch) (E : wg_Ev) (ad : Nat → Nat) (S : wg_Sh) (hw : wg_wf S) (C : wg_C) (M : wg_M)  {S0 : wg_Sh} {D0 : wg_C} (h : f_X4_init_i2 S C  = some (S0, D0)) : wg_Ca l yX4_init cX4_init 1 none 1 24 1 40 E ad S C M [.ref (ad 48)] (fun _ => none) S0 D0 M := by
  refine wg_start (own := RX4) (by decide +kernel) rfl (Nat.le_of_ble_eq_true rfl) ?_
  intro p e s m below meth c X hr hnm
  refine wg_lv (lv' := [(0, .ref (ad 48))]) rfl ?_
  have hx : wg_ex S ad S ad := wg_ex_rf hw
  unfold f_X4_init_i2 at h
  refine wg_aload_n X 0 dX4_init_0 rfl rfl ?_
  refine wg_objI X k_268 k_94 k_95 dX4_init_1 ⟨Nat.le_of_ble_eq_true rfl, Nat.le_of_ble_eq_true rfl⟩ ?_
  refine wg_aload_n X 0 dX4_init_4 rfl rfl ?_
  refine wg_bipush (v := 40) X dX4_init_5 (by decide) ?_
  obtain ⟨z1, h⟩ := ck_some h
  obtain ⟨z2, h⟩ := ck_some h
  obtain ⟨S3, e4, h⟩ := lt_some h
  obtain ⟨C5, e6, h⟩ := lt_some h
  refine wg_newaC (L := 40) X hx (by decide) (by decide) (by decide) (Nat.le_of_ble_eq_true rfl) (Nat.le_of_ble_eq_true rfl) k_139 dX4_init_7 e4 e6 (fun ad7 hx8 ha9 => ?_)
  refine wg_cs (k := 1) (n := 40) rfl rfl ?_
  rw [z2]
  refine wg_ren (lv' := [(0, .ref (ad7 48))]) (st' := [.ref (ad7 49), .ref (ad7 48)]) (by first | rfl | simp only [ha9 48 z1]) (by first | rfl | simp only [Option.toList, List.nil_append, List.cons_append, ha9 48 z1]) ?_
  obtain ⟨z10, h⟩ := ck_some h
  obtain ⟨z11, h⟩ := ck_some h
  obtain ⟨S12, e13, h⟩ := lt_some h
  refine wg_putRF X hx8 z11 cl4 z10 0 (by decide) dX4_init_9 k_269 rfl hnm rfl rfl (fun _ => rfl) (fun _ => rfl) e13 (fun hx14 => ?_)
  refine wg_aload_n X 0 dX4_init_12 rfl rfl ?_
  refine wg_iconst (v := -1) X dX4_init_13 (by decide) ?_
  obtain ⟨z15, h⟩ := ck_some h
  obtain ⟨C16, e17, h⟩ := lt_some h
  refine wg_putCe X cl4 z15 1 (by decide) dX4_init_14 k_271 rfl rfl rfl rfl e17 ?_
  refine wg_widen (k := 1) (n := 40) (Nat.le_of_ble_eq_true rfl) (Nat.le_of_ble_eq_true rfl) ?_
  exact wg_avret X hx14 rfl ⟨(Prod.mk.inj (sm_inj h)).1, (Prod.mk.inj (sm_inj h)).2, rfl⟩ hr dX4_init_17
-- WindowsGive$Sheet.<init>()V (('c', 50),)
set_option maxRecDepth 100000 in
def f_X4_init_i3 (S : wg_Sh) (C : wg_C)  : Option (wg_Sh × wg_C) :=
  ck (50 < S.2.2.2) <|
  ck (S.2.2.2 = 51) <|
  lt_ (wg_nw S 10 40) fun S3 =>
  lt_ (wg_zC C S.2.2.2 (fun _ => 0)) fun C5 =>
  ck (50 < S3.2.2.2 ∧ S3.2.2.1 50 = 4) <|
  ck (51 < S3.2.2.2) <|
  lt_ (wg_sR S3 50 0 (some 51)) fun S12 =>
  ck (50 < S12.2.2.2 ∧ S12.2.2.1 50 = 4) <|
  lt_ (wg_up C5 50 1 (-1 : Int32)) fun C16 =>
  some (S12, C16)
set_option maxHeartbeats 4000000 in
set_option maxRecDepth 100000 in
theorem c_X4_init_i3 (l : Launch) (E : wg_Ev) (ad : Nat → Nat) (S : wg_Sh) (hw : wg_wf S) (C : wg_C) (M : wg_M)  {S0 : wg_Sh} {D0 : wg_C} (h : f_X4_init_i3 S C  = some (S0, D0)) : wg_Ca l yX4_init cX4_init 1 none 1 24 1 40 E ad S C M [.ref (ad 50)] (fun _ => none) S0 D0 M := by
  refine wg_start (own := RX4) (by decide +kernel) rfl (Nat.le_of_ble_eq_true rfl) ?_
  intro p e s m below meth c X hr hnm
  refine wg_lv (lv' := [(0, .ref (ad 50))]) rfl ?_
  have hx : wg_ex S ad S ad := wg_ex_rf hw
  unfold f_X4_init_i3 at h
  refine wg_aload_n X 0 dX4_init_0 rfl rfl ?_
  refine wg_objI X k_268 k_94 k_95 dX4_init_1 ⟨Nat.le_of_ble_eq_true rfl, Nat.le_of_ble_eq_true rfl⟩ ?_
  refine wg_aload_n X 0 dX4_init_4 rfl rfl ?_
  refine wg_bipush (v := 40) X dX4_init_5 (by decide) ?_
  obtain ⟨z1, h⟩ := ck_some h
  obtain ⟨z2, h⟩ := ck_some h
  obtain ⟨S3, e4, h⟩ := lt_some h
  obtain ⟨C5, e6, h⟩ := lt_some h
  refine wg_newaC (L := 40) X hx (by decide) (by decide) (by decide) (Nat.le_of_ble_eq_true rfl) (Nat.le_of_ble_eq_true rfl) k_139 dX4_init_7 e4 e6 (fun ad7 hx8 ha9 => ?_)
  refine wg_cs (k := 1) (n := 40) rfl rfl ?_
  rw [z2]
  refine wg_ren (lv' := [(0, .ref (ad7 50))]) (st' := [.ref (ad7 51), .ref (ad7 50)]) (by first | rfl | simp only [ha9 50 z1]) (by first | rfl | simp only [Option.toList, List.nil_append, List.cons_append, ha9 50 z1]) ?_
  obtain ⟨z10, h⟩ := ck_some h
  obtain ⟨z11, h⟩ := ck_some h
  obtain ⟨S12, e13, h⟩ := lt_some h
  refine wg_putRF X hx8 z11 cl4 z10 0 (by decide) dX4_init_9 k_269 rfl hnm rfl rfl (fun _ => rfl) (fun _ => rfl) e13 (fun hx14 => ?_)
  refine wg_aload_n X 0 dX4_init_12 rfl rfl ?_
  refine wg_iconst (v := -1) X dX4_init_13 (by decide) ?_
  obtain ⟨z15, h⟩ := ck_some h
  obtain ⟨C16, e17, h⟩ := lt_some h
  refine wg_putCe X cl4 z15 1 (by decide) dX4_init_14 k_271 rfl rfl rfl rfl e17 ?_
  refine wg_widen (k := 1) (n := 40) (Nat.le_of_ble_eq_true rfl) (Nat.le_of_ble_eq_true rfl) ?_
  exact wg_avret X hx14 rfl ⟨(Prod.mk.inj (sm_inj h)).1, (Prod.mk.inj (sm_inj h)).2, rfl⟩ hr dX4_init_17
-- WindowsGive$Text.<init>([I[I)V ('T', 'A', 'A')
set_option maxRecDepth 100000 in
def f_X6_init (S : wg_Sh) (C : wg_C) (p0 : Nat) (p1 : Nat) (p2 : Nat) : Option (wg_Sh × wg_C) :=
  ck (p0 < S.2.2.2 ∧ S.2.2.1 p0 = 6) <|
  ck (p1 < S.2.2.2) <|
  lt_ (wg_sR S p0 0 (some p1)) fun S3 =>
  ck (p0 < S3.2.2.2 ∧ S3.2.2.1 p0 = 6) <|
  ck (p2 < S3.2.2.2) <|
  lt_ (wg_sR S3 p0 1 (some p2)) fun S8 =>
  some (S8, C)
set_option maxHeartbeats 4000000 in
set_option maxRecDepth 100000 in
theorem c_X6_init (l : Launch) (E : wg_Ev) (ad : Nat → Nat) (S : wg_Sh) (hw : wg_wf S) (C : wg_C) (M : wg_M) (p0 : Nat) (p1 : Nat) (p2 : Nat) {S0 : wg_Sh} {D0 : wg_C} (h : f_X6_init S C p0 p1 p2 = some (S0, D0)) : wg_Ca l yX6_init cX6_init 3 none 1 24 0 0 E ad S C M [.ref (ad p0), .ref (ad p1), .ref (ad p2)] (fun _ => none) S0 D0 M := by
  refine wg_start (own := RX6) (by decide +kernel) rfl (Nat.le_of_ble_eq_true rfl) ?_
  intro p e s m below meth c X hr hnm
  refine wg_lv (lv' := [(0, .ref (ad p0)), (1, .ref (ad p1)), (2, .ref (ad p2))]) rfl ?_
  have hx : wg_ex S ad S ad := wg_ex_rf hw
  unfold f_X6_init at h
  refine wg_aload_n X 0 dX6_init_0 rfl rfl ?_
  refine wg_objI X k_454 k_94 k_95 dX6_init_1 ⟨Nat.le_of_ble_eq_true rfl, Nat.le_of_ble_eq_true rfl⟩ ?_
  refine wg_aload_n X 0 dX6_init_4 rfl rfl ?_
  refine wg_aload_n X 1 dX6_init_5 rfl rfl ?_
  obtain ⟨z1, h⟩ := ck_some h
  obtain ⟨z2, h⟩ := ck_some h
  obtain ⟨S3, e4, h⟩ := lt_some h
  refine wg_putRF X hx z2 cl6 z1 0 (by decide) dX6_init_6 k_455 rfl hnm rfl rfl (fun _ => rfl) (fun _ => rfl) e4 (fun hx5 => ?_)
  refine wg_aload_n X 0 dX6_init_9 rfl rfl ?_
  refine wg_aload_n X 2 dX6_init_10 rfl rfl ?_
  obtain ⟨z6, h⟩ := ck_some h
  obtain ⟨z7, h⟩ := ck_some h
  obtain ⟨S8, e9, h⟩ := lt_some h
  refine wg_putRF X hx5 z7 cl6 z6 1 (by decide) dX6_init_11 k_457 rfl hnm rfl rfl (fun _ => rfl) (fun _ => rfl) e9 (fun hx10 => ?_)
  refine wg_widen (k := 0) (n := 0) (Nat.le_of_ble_eq_true rfl) (Nat.le_of_ble_eq_true rfl) ?_
  exact wg_avret X hx10 rfl ⟨(Prod.mk.inj (sm_inj h)).1, (Prod.mk.inj (sm_inj h)).2, rfl⟩ hr dX6_init_14
-- java/util/Arrays.copyOf([II)[I ('A', 'i')
set_option maxRecDepth 100000 in
def f_J7_copyOf (S : wg_Sh) (C : wg_C) (p0 : Nat) (p1 : Int32) : Option (Option Nat × wg_Sh × wg_C) :=
  ck (p0 < S.2.2.2 ∧ S.2.2.1 p0 = 10) <|
  lt_ (S.2.1 p0) fun n2 =>
  if p1 = (Int32.ofNat n2) then (
    ck (S.2.1 p0 = p1.toNatClampNeg) <|
    ck (p0 < S.2.2.2) <|
    lt_ S.2.2.2 fun n27 =>
    lt_ (wg_nw S 10 p1.toNatClampNeg) fun S29 =>
    lt_ (wg_zC C S.2.2.2 (C p0)) fun C31 =>
    ck (n27 < S29.2.2.2 ∧ S29.2.2.1 n27 = 10) <|
    some ((some n27), S29, C31))
  else (
    ck (¬ p1 < 0 ∧ p1.toNatClampNeg ≤ 160) <|
    ck (p0 < S.2.2.2) <|
    lt_ S.2.2.2 fun n7 =>
    lt_ (wg_nw S 10 p1.toNatClampNeg) fun S9 =>
    lt_ (wg_zC C S.2.2.2 (fun _ => 0)) fun C11 =>
    ck (p0 < S9.2.2.2 ∧ S9.2.2.1 p0 = 10) <|
    lt_ (S9.2.1 p0) fun n17 =>
    bd (f_J9_min_7cf53 (Int32.ofNat n17) p1) fun r20 =>
    ck (n7 < S9.2.2.2 ∧ S9.2.2.1 n7 = 10) <|
    ck (¬ (0 : Int32) < 0 ∧ ¬ (0 : Int32) < 0 ∧ ¬ r20 < 0 ∧ (0 : Int32).toNatClampNeg + r20.toNatClampNeg ≤ S9.2.1 p0 ∧ (0 : Int32).toNatClampNeg + r20.toNatClampNeg ≤ S9.2.1 n7) <|
    lt_ (wg_cp C11 p0 n7 (0 : Int32).toNatClampNeg (0 : Int32).toNatClampNeg r20.toNatClampNeg) fun C23 =>
    some ((some n7), S9, C23))
set_option maxHeartbeats 4000000 in
set_option maxRecDepth 100000 in
theorem c_J7_copyOf (l : Launch) (E : wg_Ev) (ad : Nat → Nat) (S : wg_Sh) (hw : wg_wf S) (C : wg_C) (M : wg_M) (p0 : Nat) (p1 : Int32) {r0 : Option Nat} {S0 : wg_Sh} {D0 : wg_C} (h : f_J7_copyOf S C p0 p1 = some (r0, S0, D0)) : wg_Ca l yJ7_copyOf_59c91 cJ7_copyOf_59c91 3 (some (.array .int)) 1 30 1 p1.toNatClampNeg E ad S C M [.ref (ad p0), .int p1] (fun ad1 => some (va_re ad1 r0)) S0 D0 M := by
  refine wg_start (own := RJ7) (by decide +kernel) rfl (Nat.le_of_ble_eq_true rfl) ?_
  intro p e s m below meth c X hr hnm
  refine wg_lv (lv' := [(0, .ref (ad p0)), (1, .int p1)]) rfl ?_
  have hx : wg_ex S ad S ad := wg_ex_rf hw
  unfold f_J7_copyOf at h
  refine wg_iload_n X 1 dJ7_copyOf_59c91_0 rfl rfl ?_
  refine wg_aload_n X 0 dJ7_copyOf_59c91_1 rfl rfl ?_
  obtain ⟨z1, h⟩ := ck_some h
  obtain ⟨n2, e3, h⟩ := lt_some h
  refine wg_alenC X z1 e3.symm rfl dJ7_copyOf_59c91_2 ?_
  refine wg_icmp_ne X 14 dJ7_copyOf_59c91_3 (by decide) (fun c4 => ?_) (fun c4 => ?_)
  · have h := if_f c4 h
    refine wg_iload_n X 1 dJ7_copyOf_59c91_14 rfl rfl ?_
    obtain ⟨z5, h⟩ := ck_some h
    obtain ⟨z6, h⟩ := ck_some h
    obtain ⟨n7, e8, h⟩ := lt_some h
    obtain ⟨S9, e10, h⟩ := lt_some h
    obtain ⟨C11, e12, h⟩ := lt_some h
    refine wg_newaC (L := p1.toNatClampNeg) X hx z5.1 rfl (by have := z5.2; omega) (Nat.le_of_ble_eq_true rfl) (show 0 + p1.toNatClampNeg ≤ p1.toNatClampNeg by have := z5.2; omega) k_139 dJ7_copyOf_59c91_15 e10 e12 (fun ad13 hx14 ha15 => ?_)
    refine wg_cs (k := 1) (n := 0 + p1.toNatClampNeg) rfl rfl ?_
    rw [← e8]
    refine wg_ren (lv' := [(0, .ref (ad13 p0)), (1, .int p1)]) (st' := [.ref (ad13 n7)]) (by first | rfl | simp only [ha15 p0 z6]) (by first | rfl | simp only [Option.toList, List.nil_append, List.cons_append, ha15 p0 z6]) ?_
    refine wg_astore_n (lv' := [(2, .ref (ad13 n7)), (0, .ref (ad13 p0)), (1, .int p1)]) X dJ7_copyOf_59c91_17 rfl rfl (by decide) rfl ?_
    refine wg_aload_n X 1 dJ7_copyOf_59c91_18 rfl rfl ?_
    refine wg_iconst (v := 0) X dJ7_copyOf_59c91_19 (by decide) ?_
    refine wg_aload_n X 0 dJ7_copyOf_59c91_20 rfl rfl ?_
    refine wg_iconst (v := 0) X dJ7_copyOf_59c91_21 (by decide) ?_
    refine wg_aload_n X 1 dJ7_copyOf_59c91_22 rfl rfl ?_
    obtain ⟨z16, h⟩ := ck_some h
    obtain ⟨n17, e18, h⟩ := lt_some h
    refine wg_alenC X z16 e18.symm rfl dJ7_copyOf_59c91_23 ?_
    refine wg_iload_n X 2 dJ7_copyOf_59c91_24 rfl rfl ?_
    obtain ⟨r20, h19, h⟩ := bd_some h
    refine wg_callSi (As := [.int (Int32.ofNat n17), .int p1]) (rest := [.int (0 : Int32), .ref (ad13 n7), .int (0 : Int32), .ref (ad13 p0)]) X (c_J9_min_7cf53 l E ad13 S9  C11 M (Int32.ofNat n17) p1  h19) T_yJ9_min_7cf53 k_445 dJ7_copyOf_59c91_25 rfl rfl (Nat.le_of_ble_eq_true rfl) ⟨Nat.le_of_ble_eq_true rfl, Nat.le_of_ble_eq_true rfl⟩ ⟨Nat.le_of_ble_eq_true rfl, (show 0 + p1.toNatClampNeg ≤ p1.toNatClampNeg by have := z5.2; omega)⟩ ?_
    obtain ⟨z21, h⟩ := ck_some h
    obtain ⟨z22, h⟩ := ck_some h
    obtain ⟨C23, e24, h⟩ := lt_some h
    refine wg_acopy X z16 rfl z21 rfl k_448 z22.1 z22.2.1 z22.2.2.1 z22.2.2.2.1 z22.2.2.2.2 ⟨Nat.le_of_ble_eq_true rfl, Nat.le_of_ble_eq_true rfl⟩ dJ7_copyOf_59c91_28 e24 ?_
    refine wg_aload_n X 0 dJ7_copyOf_59c91_31 rfl rfl ?_
    refine wg_widen (k := 1) (n := p1.toNatClampNeg) (Nat.le_of_ble_eq_true rfl) (show 0 + p1.toNatClampNeg ≤ p1.toNatClampNeg by have := z5.2; omega) ?_
    exact wg_aaret X hx14 (by rw [← (Prod.mk.inj (sm_inj h)).1]; rfl) ⟨(Prod.mk.inj (Prod.mk.inj (sm_inj h)).2).1, (Prod.mk.inj (Prod.mk.inj (sm_inj h)).2).2, rfl⟩ hr (Or.inr ⟨_, rfl⟩) (Or.inr ⟨_, rfl⟩) dJ7_copyOf_59c91_32
  · have h := if_t c4 h
    refine wg_aload_n X 0 dJ7_copyOf_59c91_6 rfl rfl ?_
    obtain ⟨z25, h⟩ := ck_some h
    obtain ⟨z26, h⟩ := ck_some h
    obtain ⟨n27, e28, h⟩ := lt_some h
    obtain ⟨S29, e30, h⟩ := lt_some h
    obtain ⟨C31, e32, h⟩ := lt_some h
    refine wg_clone X hx z1 z25 (Nat.le_of_ble_eq_true rfl) (show 0 + p1.toNatClampNeg ≤ p1.toNatClampNeg by  omega) k_438 ⟨Nat.le_of_ble_eq_true rfl, Nat.le_of_ble_eq_true rfl⟩ dJ7_copyOf_59c91_7 e30 e32 (fun ad33 hx34 ha35 => ?_)
    refine wg_cs (k := 1) (n := 0 + p1.toNatClampNeg) rfl rfl ?_
    rw [← e28]
    refine wg_ren (lv' := [(0, .ref (ad33 p0)), (1, .int p1)]) (st' := [.ref (ad33 n27)]) (by first | rfl | simp only [ha35 p0 z26]) (by first | rfl | simp only [Option.toList, List.nil_append, List.cons_append, ha35 p0 z26]) ?_
    obtain ⟨z36, h⟩ := ck_some h
    refine wg_castA X z36 k_444 dJ7_copyOf_59c91_10 ?_
    refine wg_widen (k := 1) (n := p1.toNatClampNeg) (Nat.le_of_ble_eq_true rfl) (show 0 + p1.toNatClampNeg ≤ p1.toNatClampNeg by  omega) ?_
    exact wg_aaret X hx34 (by rw [← (Prod.mk.inj (sm_inj h)).1]; rfl) ⟨(Prod.mk.inj (Prod.mk.inj (sm_inj h)).2).1, (Prod.mk.inj (Prod.mk.inj (sm_inj h)).2).2, rfl⟩ hr (Or.inr ⟨_, rfl⟩) (Or.inr ⟨_, rfl⟩) dJ7_copyOf_59c91_13
-- WindowsGive$Reader.read(LWindowsGive$Tape;)LWindowsGive$Text; (('c', 28), ('c', 23, 5))
set_option maxRecDepth 100000 in
def f_X2_read (N : Nat) (S : wg_Sh) (C : wg_C)  : Option (Option Nat × wg_Sh × wg_C) :=
  ck (wg_SCb S = true) <|
  bd (f_X5_cut N C ) fun C3 =>
  ck (23 < S.2.2.2 ∧ S.2.2.1 23 = 5) <|
  ck (28 < S.2.2.2 ∧ S.2.2.1 28 = 2) <|
  lt_ (wg_up C3 28 1 (0 : Int32)) fun C6 =>
  lt_ (wg_up C6 28 3 (0 : Int32)) fun C8 =>
  lt_ (wg_up C8 28 0 (-1 : Int32)) fun C10 =>
  ck (S.1 23 3 = some 25) <|
  ck (25 < S.2.2.2 ∧ S.2.2.1 25 = 10) <|
  ck (S.2.1 25 = 161) <|
  ck (inb (0 : Int32) 161) <|
  lt_ (wg_up C10 28 2 (C10 25 (0 : Int32).toNatClampNeg)) fun C16 =>
  bd (f_X2_readPart N C16 (3 : Int32) (0 : Int32)) fun C19 =>
  bd (f_X2_readPart N C19 (4 : Int32) (1 : Int32)) fun C21 =>
  bd (f_X2_readPart N C21 (5 : Int32) (2 : Int32)) fun C23 =>
  bd (f_X2_expect C23 (-1 : Int32)) fun C25 =>
  if (C25 28 0) = (-1 : Int32) then (
    ck (28 < S.2.2.2 ∧ 23 < S.2.2.2) <|
    lt_ S.2.2.2 fun n28 =>
    lt_ (wg_nw S 6 0) fun S30 =>
    lt_ (wg_zC C25 S.2.2.2 (fun _ => 0)) fun C32 =>
    ck (28 < S30.2.2.2 ∧ S30.2.2.1 28 = 2) <|
    ck (S30.1 28 4 = some 29) <|
    ck (28 < S30.2.2.2 ∧ 23 < S30.2.2.2 ∧ n28 < S30.2.2.2) <|
    ck ((C32 28 3).toNatClampNeg ≤ 160) <|
    bd3 (f_J7_copyOf S30 C32 29 (C32 28 3)) fun r44 S42 C43 =>
    bd r44 fun t48 =>
    ck (28 < S42.2.2.2 ∧ S42.2.2.1 28 = 2) <|
    ck (S42.1 28 5 = some 30) <|
    ck (28 < S42.2.2.2 ∧ 23 < S42.2.2.2 ∧ t48 < S42.2.2.2 ∧ n28 < S42.2.2.2) <|
    bd3 (f_J7_copyOf S42 C43 30 (3 : Int32)) fun r56 S54 C55 =>
    bd r56 fun t60 =>
    ck (28 < S54.2.2.2 ∧ 23 < S54.2.2.2 ∧ n28 < S54.2.2.2) <|
    bd2 (f_X6_init S54 C55 n28 t48 t60) fun S64 C65 =>
    some ((some n28), S64, C65))
  else (
    some (none, S, C25))
set_option maxHeartbeats 4000000 in
set_option maxRecDepth 100000 in
theorem c_X2_read (l : Launch) (E : wg_Ev) (ad : Nat → Nat) (S : wg_Sh) (hw : wg_wf S) (N : Nat) (C : wg_C) (M : wg_M)  {r0 : Option Nat} {S0 : wg_Sh} {D0 : wg_C} (h : f_X2_read N S C  = some (r0, S0, D0)) : wg_Ca l yX2_read cX2_read 2 (some (.object "WindowsGive$Text")) 74 2906 3 165 E ad S C M [.ref (ad 28), .ref (ad 23)] (fun ad1 => some (va_re ad1 r0)) S0 D0 M := by
  refine wg_start (own := RX2) (by decide +kernel) rfl (Nat.le_of_ble_eq_true rfl) ?_
  intro p e s m below meth c X hr hnm
  refine wg_lv (lv' := [(0, .ref (ad 28)), (1, .ref (ad 23))]) rfl ?_
  have hx : wg_ex S ad S ad := wg_ex_rf hw
  unfold f_X2_read at h
  refine wg_aload_n X 1 dX2_read_0 rfl rfl ?_
  obtain ⟨z1, h⟩ := ck_some h
  obtain ⟨C3, h2, h⟩ := bd_some h
  obtain ⟨z4, h⟩ := ck_some h
  refine wg_callVv (As := []) (rest := []) X (c_X5_cut l E ad S (wg_SCb_iff.mp z1) N C M   h2) T_yX5_cut k_339 cl5 z4 dX2_read_1 rfl rfl (Nat.le_of_ble_eq_true rfl) ⟨Nat.le_of_ble_eq_true rfl, Nat.le_of_ble_eq_true rfl⟩ ⟨Nat.le_of_ble_eq_true rfl, (Nat.le_of_ble_eq_true rfl)⟩ ?_
  refine wg_aload_n X 0 dX2_read_4 rfl rfl ?_
  refine wg_iconst (v := 0) X dX2_read_5 (by decide) ?_
  obtain ⟨z5, h⟩ := ck_some h
  obtain ⟨C6, e7, h⟩ := lt_some h
  refine wg_putCe X cl2 z5 1 (by decide) dX2_read_6 k_202 rfl rfl rfl rfl e7 ?_
  refine wg_aload_n X 0 dX2_read_9 rfl rfl ?_
  refine wg_iconst (v := 0) X dX2_read_10 (by decide) ?_
  obtain ⟨C8, e9, h⟩ := lt_some h
  refine wg_putCe X cl2 z5 3 (by decide) dX2_read_11 k_204 rfl rfl rfl rfl e9 ?_
  refine wg_aload_n X 0 dX2_read_14 rfl rfl ?_
  refine wg_iconst (v := -1) X dX2_read_15 (by decide) ?_
  obtain ⟨C10, e11, h⟩ := lt_some h
  refine wg_putCe X cl2 z5 0 (by decide) dX2_read_16 k_200 rfl rfl rfl rfl e11 ?_
  refine wg_aload_n X 0 dX2_read_19 rfl rfl ?_
  refine wg_aload_n X 1 dX2_read_20 rfl rfl ?_
  obtain ⟨z12, h⟩ := ck_some h
  refine wg_getR (b := 25) X cl5 z4 3 (by decide) dX2_read_21 k_172 rfl z12 ?_
  refine wg_iconst (v := 0) X dX2_read_24 (by decide) ?_
  obtain ⟨z13, h⟩ := ck_some h
  obtain ⟨z14, h⟩ := ck_some h
  obtain ⟨z15, h⟩ := ck_some h
  refine wg_iald X z13 z14 z15 dX2_read_25 ?_
  obtain ⟨C16, e17, h⟩ := lt_some h
  refine wg_putCe X cl2 z5 2 (by decide) dX2_read_26 k_203 rfl rfl rfl rfl e17 ?_
  refine wg_aload_n X 0 dX2_read_29 rfl rfl ?_
  refine wg_aload_n X 1 dX2_read_30 rfl rfl ?_
  refine wg_iconst (v := 3) X dX2_read_31 (by decide) ?_
  refine wg_iconst (v := 0) X dX2_read_32 (by decide) ?_
  obtain ⟨C19, h18, h⟩ := bd_some h
  refine wg_callVv (As := [.ref (ad 23), .int (3 : Int32), .int (0 : Int32)]) (rest := []) X (c_X2_readPart l E ad S (wg_SCb_iff.mp z1) N C16 M (3 : Int32) (0 : Int32)  h18) T_yX2_readPart k_389 cl2 z5 dX2_read_33 rfl rfl (Nat.le_of_ble_eq_true rfl) ⟨Nat.le_of_ble_eq_true rfl, Nat.le_of_ble_eq_true rfl⟩ ⟨Nat.le_of_ble_eq_true rfl, (Nat.le_of_ble_eq_true rfl)⟩ ?_
  refine wg_aload_n X 0 dX2_read_36 rfl rfl ?_
  refine wg_aload_n X 1 dX2_read_37 rfl rfl ?_
  refine wg_iconst (v := 4) X dX2_read_38 (by decide) ?_
  refine wg_iconst (v := 1) X dX2_read_39 (by decide) ?_
  obtain ⟨C21, h20, h⟩ := bd_some h
  refine wg_callVv (As := [.ref (ad 23), .int (4 : Int32), .int (1 : Int32)]) (rest := []) X (c_X2_readPart l E ad S (wg_SCb_iff.mp z1) N C19 M (4 : Int32) (1 : Int32)  h20) T_yX2_readPart k_389 cl2 z5 dX2_read_40 rfl rfl (Nat.le_of_ble_eq_true rfl) ⟨Nat.le_of_ble_eq_true rfl, Nat.le_of_ble_eq_true rfl⟩ ⟨Nat.le_of_ble_eq_true rfl, (Nat.le_of_ble_eq_true rfl)⟩ ?_
  refine wg_aload_n X 0 dX2_read_43 rfl rfl ?_
  refine wg_aload_n X 1 dX2_read_44 rfl rfl ?_
  refine wg_iconst (v := 5) X dX2_read_45 (by decide) ?_
  refine wg_iconst (v := 2) X dX2_read_46 (by decide) ?_
  obtain ⟨C23, h22, h⟩ := bd_some h
  refine wg_callVv (As := [.ref (ad 23), .int (5 : Int32), .int (2 : Int32)]) (rest := []) X (c_X2_readPart l E ad S (wg_SCb_iff.mp z1) N C21 M (5 : Int32) (2 : Int32)  h22) T_yX2_readPart k_389 cl2 z5 dX2_read_47 rfl rfl (Nat.le_of_ble_eq_true rfl) ⟨Nat.le_of_ble_eq_true rfl, Nat.le_of_ble_eq_true rfl⟩ ⟨Nat.le_of_ble_eq_true rfl, (Nat.le_of_ble_eq_true rfl)⟩ ?_
  refine wg_aload_n X 0 dX2_read_50 rfl rfl ?_
  refine wg_aload_n X 1 dX2_read_51 rfl rfl ?_
  refine wg_iconst (v := -1) X dX2_read_52 (by decide) ?_
  obtain ⟨C25, h24, h⟩ := bd_some h
  refine wg_callVv (As := [.ref (ad 23), .int (-1 : Int32)]) (rest := []) X (c_X2_expect l E ad S (wg_SCb_iff.mp z1) C23 M (-1 : Int32)  h24) T_yX2_expect k_393 cl2 z5 dX2_read_53 rfl rfl (Nat.le_of_ble_eq_true rfl) ⟨Nat.le_of_ble_eq_true rfl, Nat.le_of_ble_eq_true rfl⟩ ⟨Nat.le_of_ble_eq_true rfl, (Nat.le_of_ble_eq_true rfl)⟩ ?_
  refine wg_aload_n X 0 dX2_read_56 rfl rfl ?_
  refine wg_getC X cl2 z5 0 (by decide) dX2_read_57 k_200 rfl ?_
  refine wg_iconst (v := -1) X dX2_read_60 (by decide) ?_
  refine wg_icmp_ne X 93 dX2_read_61 (by decide) (fun c26 => ?_) (fun c26 => ?_)
  · have h := if_f c26 h
    refine wg_null X dX2_read_93 ?_
    refine wg_widen (k := 3) (n := 165) (Nat.le_of_ble_eq_true rfl) (Nat.le_of_ble_eq_true rfl) ?_
    exact wg_aaret X hx (by rw [← (Prod.mk.inj (sm_inj h)).1]; rfl) ⟨(Prod.mk.inj (Prod.mk.inj (sm_inj h)).2).1, (Prod.mk.inj (Prod.mk.inj (sm_inj h)).2).2, rfl⟩ hr (Or.inl ⟨_, rfl⟩) (Or.inl rfl) dX2_read_94
  · have h := if_t c26 h
    obtain ⟨z27, h⟩ := ck_some h
    obtain ⟨n28, e29, h⟩ := lt_some h
    obtain ⟨S30, e31, h⟩ := lt_some h
    obtain ⟨C32, e33, h⟩ := lt_some h
    refine wg_newC X cl6 (by decide) (by decide) df6 hx k_433 k_434 k_82 (Nat.le_of_ble_eq_true rfl) (Nat.le_of_ble_eq_true rfl) dX2_read_64 e31 e33 (fun ad34 hx35 ha36 => ?_)
    refine wg_cs (k := 1) (n := 2) rfl rfl ?_
    rw [← e29]
    refine wg_ren (lv' := [(0, .ref (ad34 28)), (1, .ref (ad34 23))]) (st' := [.ref (ad34 n28)]) (by first | rfl | simp only [ha36 28 z27.1, ha36 23 z27.2]) (by first | rfl | simp only [Option.toList, List.nil_append, List.cons_append, ha36 28 z27.1, ha36 23 z27.2]) ?_
    refine wg_dup X dX2_read_67 rfl ?_
    refine wg_aload_n X 0 dX2_read_68 rfl rfl ?_
    obtain ⟨z37, h⟩ := ck_some h
    obtain ⟨z38, h⟩ := ck_some h
    refine wg_getR (b := 29) X cl2 z37 4 (by decide) dX2_read_69 k_205 rfl z38 ?_
    refine wg_aload_n X 0 dX2_read_72 rfl rfl ?_
    refine wg_getC X cl2 z37 3 (by decide) dX2_read_73 k_204 rfl ?_
    obtain ⟨z39, h⟩ := ck_some h
    obtain ⟨z40, h⟩ := ck_some h
    obtain ⟨r44, S42, C43, h41, h⟩ := bd3_some h
    refine wg_callSa (As := [.ref (ad34 29), .int (C32 28 3)]) (rest := [.ref (ad34 n28), .ref (ad34 n28)]) X (c_J7_copyOf l E ad34 S30 hx35.1 C32 M 29 (C32 28 3) h41) T_yJ7_copyOf_59c91 k_435 dX2_read_76 rfl rfl (Nat.le_of_ble_eq_true rfl) ⟨Nat.le_of_ble_eq_true rfl, Nat.le_of_ble_eq_true rfl⟩ ⟨Nat.le_of_ble_eq_true rfl, (show 2 + (C32 28 3).toNatClampNeg ≤ 165 by have := z40; omega)⟩ hx35 (fun ad45 hx46 ha47 => ?_)
    refine wg_cs (k := 2) (n := 2 + (C32 28 3).toNatClampNeg) rfl rfl ?_
    refine wg_ren (lv' := [(0, .ref (ad45 28)), (1, .ref (ad45 23))]) (st' := [va_re ad45 r44, .ref (ad45 n28), .ref (ad45 n28)]) (by first | rfl | simp only [ha47 28 z39.1, ha47 23 z39.2.1, ha47 n28 z39.2.2]) (by first | rfl | simp only [Option.toList, List.nil_append, List.cons_append, ha47 28 z39.1, ha47 23 z39.2.1, ha47 n28 z39.2.2]) ?_
    obtain ⟨t48, e49, h⟩ := bd_some h
    refine wg_some e49 ?_
    refine wg_aload_n X 0 dX2_read_79 rfl rfl ?_
    obtain ⟨z50, h⟩ := ck_some h
    obtain ⟨z51, h⟩ := ck_some h
    refine wg_getR (b := 30) X cl2 z50 5 (by decide) dX2_read_80 k_206 rfl z51 ?_
    refine wg_iconst (v := 3) X dX2_read_83 (by decide) ?_
    obtain ⟨z52, h⟩ := ck_some h
    obtain ⟨r56, S54, C55, h53, h⟩ := bd3_some h
    refine wg_callSa (As := [.ref (ad45 30), .int (3 : Int32)]) (rest := [.ref (ad45 t48), .ref (ad45 n28), .ref (ad45 n28)]) X (c_J7_copyOf l E ad45 S42 hx46.1 C43 M 30 (3 : Int32) h53) T_yJ7_copyOf_59c91 k_435 dX2_read_84 rfl rfl (Nat.le_of_ble_eq_true rfl) ⟨Nat.le_of_ble_eq_true rfl, Nat.le_of_ble_eq_true rfl⟩ ⟨Nat.le_of_ble_eq_true rfl, (show 2 + (C32 28 3).toNatClampNeg + 3 ≤ 165 by have := z40; omega)⟩ hx46 (fun ad57 hx58 ha59 => ?_)
    refine wg_cs (k := 3) (n := 2 + (C32 28 3).toNatClampNeg + 3) rfl rfl ?_
    refine wg_ren (lv' := [(0, .ref (ad57 28)), (1, .ref (ad57 23))]) (st' := [va_re ad57 r56, .ref (ad57 t48), .ref (ad57 n28), .ref (ad57 n28)]) (by first | rfl | simp only [ha59 28 z52.1, ha59 23 z52.2.1, ha59 t48 z52.2.2.1, ha59 n28 z52.2.2.2]) (by first | rfl | simp only [Option.toList, List.nil_append, List.cons_append, ha59 28 z52.1, ha59 23 z52.2.1, ha59 t48 z52.2.2.1, ha59 n28 z52.2.2.2]) ?_
    obtain ⟨t60, e61, h⟩ := bd_some h
    refine wg_some e61 ?_
    obtain ⟨z62, h⟩ := ck_some h
    obtain ⟨S64, C65, h63, h⟩ := bd2_some h
    refine wg_callIa (As := [.ref (ad57 t48), .ref (ad57 t60)]) (rest := [.ref (ad57 n28)]) X (c_X6_init l E ad57 S54 hx58.1 C55 M n28 t48 t60 h63) T_yX6_init k_451 dX2_read_87 rfl rfl (Nat.le_of_ble_eq_true rfl) ⟨Nat.le_of_ble_eq_true rfl, Nat.le_of_ble_eq_true rfl⟩ ⟨Nat.le_of_ble_eq_true rfl, (show 2 + (C32 28 3).toNatClampNeg + 3 + 0 ≤ 165 by have := z40; omega)⟩ hx58 (fun ad66 hx67 ha68 => ?_)
    refine wg_cs (k := 3) (n := 2 + (C32 28 3).toNatClampNeg + 3 + 0) rfl rfl ?_
    refine wg_ren (lv' := [(0, .ref (ad66 28)), (1, .ref (ad66 23))]) (st' := [.ref (ad66 n28)]) (by first | rfl | simp only [ha68 28 z62.1, ha68 23 z62.2.1, ha68 n28 z62.2.2]) (by first | rfl | simp only [Option.toList, List.nil_append, List.cons_append, ha68 28 z62.1, ha68 23 z62.2.1, ha68 n28 z62.2.2]) ?_
    refine wg_goto X 94 dX2_read_90 (by decide) ?_
    refine wg_widen (k := 3) (n := 165) (Nat.le_of_ble_eq_true rfl) (show 2 + (C32 28 3).toNatClampNeg + 3 + 0 ≤ 165 by have := z40; omega) ?_
    exact wg_aaret X hx67 (by rw [← (Prod.mk.inj (sm_inj h)).1]; rfl) ⟨(Prod.mk.inj (Prod.mk.inj (sm_inj h)).2).1, (Prod.mk.inj (Prod.mk.inj (sm_inj h)).2).2, rfl⟩ hr (Or.inl ⟨_, rfl⟩) (Or.inr ⟨_, rfl⟩) dX2_read_94
-- WindowsGive$Rules.add(LWindowsGive$Text;)I (('c', 31), 'T')
set_option maxRecDepth 100000 in
def f_X3_add (S : wg_Sh) (C : wg_C) (p1 : Nat) : Option (Int32 × wg_Sh × wg_C) :=
  ck (31 < S.2.2.2 ∧ S.2.2.1 31 = 3) <|
  if (C 31 1) < (6 : Int32) then (
    ck (S.1 31 0 = some 32) <|
    ck (32 < S.2.2.2 ∧ S.2.2.1 32 = 15) <|
    ck (S.2.1 32 = 6) <|
    ck (p1 < S.2.2.2 ∧ S.2.2.1 p1 = 6) <|
    ck (inb (C 31 1) 6) <|
    lt_ (wg_sR S 32 (C 31 1).toNatClampNeg (some p1)) fun S8 =>
    ck (31 < S8.2.2.2 ∧ S8.2.2.1 31 = 3) <|
    lt_ (wg_up C 31 1 ((C 31 1) + (1 : Int32))) fun C12 =>
    some (((C12 31 1) - (1 : Int32)), S8, C12))
  else (
    some ((-4 : Int32), S, C))
set_option maxHeartbeats 4000000 in
set_option maxRecDepth 100000 in
theorem c_X3_add (l : Launch) (E : wg_Ev) (ad : Nat → Nat) (S : wg_Sh) (hw : wg_wf S) (C : wg_C) (M : wg_M) (p1 : Nat) {r0 : Int32} {S0 : wg_Sh} {D0 : wg_C} (h : f_X3_add S C p1 = some (r0, S0, D0)) : wg_Ca l yX3_add cX3_add 2 (some .int) 0 0 0 0 E ad S C M [.ref (ad 31), .ref (ad p1)] (fun _ => some (.int r0)) S0 D0 M := by
  refine wg_start (own := RX3) (by decide +kernel) rfl (Nat.le_of_ble_eq_true rfl) ?_
  intro p e s m below meth c X hr hnm
  refine wg_lv (lv' := [(0, .ref (ad 31)), (1, .ref (ad p1))]) rfl ?_
  have hx : wg_ex S ad S ad := wg_ex_rf hw
  unfold f_X3_add at h
  refine wg_aload_n X 0 dX3_add_0 rfl rfl ?_
  obtain ⟨z1, h⟩ := ck_some h
  refine wg_getC X cl3 z1 1 (by decide) dX3_add_1 k_229 rfl ?_
  refine wg_bipush (v := 6) X dX3_add_4 (by decide) ?_
  refine wg_icmp_lt X 12 dX3_add_6 (by decide) (fun c2 => ?_) (fun c2 => ?_)
  · have h := if_t c2 h
    refine wg_aload_n X 0 dX3_add_12 rfl rfl ?_
    obtain ⟨z3, h⟩ := ck_some h
    refine wg_getR (b := 32) X cl3 z1 0 (by decide) dX3_add_13 k_228 rfl z3 ?_
    refine wg_aload_n X 0 dX3_add_16 rfl rfl ?_
    refine wg_getC X cl3 z1 1 (by decide) dX3_add_17 k_229 rfl ?_
    refine wg_aload_n X 1 dX3_add_20 rfl rfl ?_
    obtain ⟨z4, h⟩ := ck_some h
    obtain ⟨z5, h⟩ := ck_some h
    obtain ⟨z6, h⟩ := ck_some h
    obtain ⟨z7, h⟩ := ck_some h
    obtain ⟨S8, e9, h⟩ := lt_some h
    refine wg_aast15 X hx z4 z6 z5 z7 dX3_add_21 e9 (fun hx10 => ?_)
    refine wg_aload_n X 0 dX3_add_22 rfl rfl ?_
    refine wg_dup X dX3_add_23 rfl ?_
    obtain ⟨z11, h⟩ := ck_some h
    refine wg_getC X cl3 z11 1 (by decide) dX3_add_24 k_229 rfl ?_
    refine wg_iconst (v := 1) X dX3_add_27 (by decide) ?_
    refine wg_iadd X dX3_add_28 ?_
    obtain ⟨C12, e13, h⟩ := lt_some h
    refine wg_putCe X cl3 z11 1 (by decide) dX3_add_29 k_229 rfl rfl rfl rfl e13 ?_
    refine wg_aload_n X 0 dX3_add_32 rfl rfl ?_
    refine wg_getC X cl3 z11 1 (by decide) dX3_add_33 k_229 rfl ?_
    refine wg_iconst (v := 1) X dX3_add_36 (by decide) ?_
    refine wg_isub X dX3_add_37 ?_
    refine wg_widen (k := 0) (n := 0) (Nat.le_of_ble_eq_true rfl) (Nat.le_of_ble_eq_true rfl) ?_
    exact wg_airet X hx10 (by rw [(Prod.mk.inj (sm_inj h)).1]) ⟨(Prod.mk.inj (Prod.mk.inj (sm_inj h)).2).1, (Prod.mk.inj (Prod.mk.inj (sm_inj h)).2).2, rfl⟩ hr dX3_add_38
  · have h := if_f c2 h
    refine wg_bipush (v := -4) X dX3_add_9 (by decide) ?_
    refine wg_widen (k := 0) (n := 0) (Nat.le_of_ble_eq_true rfl) (Nat.le_of_ble_eq_true rfl) ?_
    exact wg_airet X hx (by rw [(Prod.mk.inj (sm_inj h)).1]) ⟨(Prod.mk.inj (Prod.mk.inj (sm_inj h)).2).1, (Prod.mk.inj (Prod.mk.inj (sm_inj h)).2).2, rfl⟩ hr dX3_add_11
-- WindowsGive.text()I (('c', 0),)
set_option maxRecDepth 100000 in
def f_X8_text (N : Nat) (S : wg_Sh) (C : wg_C)  : Option (Int32 × wg_Sh × wg_C) :=
  ck (0 < S.2.2.2 ∧ S.2.2.1 0 = 8) <|
  ck (S.1 0 5 = some 31) <|
  ck (31 < S.2.2.2 ∧ S.2.2.1 31 = 3) <|
  if (C 31 1) < (6 : Int32) then (
    ck (S.1 0 4 = some 28) <|
    ck (S.1 0 3 = some 23) <|
    ck (0 < S.2.2.2) <|
    ck (28 < S.2.2.2 ∧ S.2.2.1 28 = 2) <|
    bd3 (f_X2_read N S C ) fun r12 S10 C11 =>
    ck (0 < S10.2.2.2 ∧ S10.2.2.1 0 = 8) <|
    ck (S10.1 0 3 = some 23) <|
    ck (wg_SCb S10 = true) <|
    bd (f_X5_empty C11 ) fun C20 =>
    ck (23 < S10.2.2.2 ∧ S10.2.2.1 23 = 5) <|
    oq r12 (
      ck (S10.1 0 4 = some 28) <|
      ck (28 < S10.2.2.2 ∧ S10.2.2.1 28 = 2) <|
      some (((-100 : Int32) - (C20 28 0)), S10, C20))
      (fun t22 =>
      ck (S10.1 0 5 = some 31) <|
      ck (t22 < S10.2.2.2 ∧ 0 < S10.2.2.2) <|
      ck (31 < S10.2.2.2 ∧ S10.2.2.1 31 = 3) <|
      bd3 (f_X3_add S10 C20 t22) fun r32 S30 C31 =>
      some (r32, S30, C31)))
  else (
    some ((-4 : Int32), S, C))
set_option maxHeartbeats 4000000 in
set_option maxRecDepth 100000 in
theorem c_X8_text (l : Launch) (E : wg_Ev) (ad : Nat → Nat) (S : wg_Sh) (hw : wg_wf S) (N : Nat) (C : wg_C) (M : wg_M)  {r0 : Int32} {S0 : wg_Sh} {D0 : wg_C} (h : f_X8_text N S C  = some (r0, S0, D0)) : wg_Ca l yX8_text cX8_text 2 (some .int) 75 2927 3 165 E ad S C M [.ref (ad 0)] (fun _ => some (.int r0)) S0 D0 M := by
  refine wg_start (own := RX8) (by decide +kernel) rfl (Nat.le_of_ble_eq_true rfl) ?_
  intro p e s m below meth c X hr hnm
  refine wg_lv (lv' := [(0, .ref (ad 0))]) rfl ?_
  have hx : wg_ex S ad S ad := wg_ex_rf hw
  unfold f_X8_text at h
  refine wg_aload_n X 0 dX8_text_0 rfl rfl ?_
  obtain ⟨z1, h⟩ := ck_some h
  obtain ⟨z2, h⟩ := ck_some h
  refine wg_getR (b := 31) X cl8 z1 5 (by decide) dX8_text_1 k_477 rfl z2 ?_
  obtain ⟨z3, h⟩ := ck_some h
  refine wg_getC X cl3 z3 1 (by decide) dX8_text_4 k_230 rfl ?_
  refine wg_bipush (v := 6) X dX8_text_7 (by decide) ?_
  refine wg_icmp_lt X 15 dX8_text_9 (by decide) (fun c4 => ?_) (fun c4 => ?_)
  · have h := if_t c4 h
    refine wg_aload_n X 0 dX8_text_15 rfl rfl ?_
    obtain ⟨z5, h⟩ := ck_some h
    refine wg_getR (b := 28) X cl8 z1 4 (by decide) dX8_text_16 k_476 rfl z5 ?_
    refine wg_aload_n X 0 dX8_text_19 rfl rfl ?_
    obtain ⟨z6, h⟩ := ck_some h
    refine wg_getR (b := 23) X cl8 z1 3 (by decide) dX8_text_20 k_475 rfl z6 ?_
    obtain ⟨z7, h⟩ := ck_some h
    obtain ⟨z8, h⟩ := ck_some h
    obtain ⟨r12, S10, C11, h9, h⟩ := bd3_some h
    refine wg_callVa (As := [.ref (ad 23)]) (rest := []) X (c_X2_read l E ad S hx.1 N C M  h9) T_yX2_read k_335 cl2 z8 dX8_text_23 rfl rfl (Nat.le_of_ble_eq_true rfl) ⟨Nat.le_of_ble_eq_true rfl, Nat.le_of_ble_eq_true rfl⟩ ⟨Nat.le_of_ble_eq_true rfl, (Nat.le_of_ble_eq_true rfl)⟩ hx (fun ad13 hx14 ha15 => ?_)
    refine wg_cs (k := 3) (n := 165) rfl rfl ?_
    refine wg_ren (lv' := [(0, .ref (ad13 0))]) (st' := [va_re ad13 r12]) (by first | rfl | simp only [ha15 0 z7]) (by first | rfl | simp only [Option.toList, List.nil_append, List.cons_append, ha15 0 z7]) ?_
    refine wg_astore_nQ (lv' := [(1, va_re ad13 r12), (0, .ref (ad13 0))]) X dX8_text_26 rfl (by decide) rfl ?_
    refine wg_aload_n X 1 dX8_text_27 rfl rfl ?_
    obtain ⟨z16, h⟩ := ck_some h
    obtain ⟨z17, h⟩ := ck_some h
    refine wg_getR (b := 23) X cl8 z16 3 (by decide) dX8_text_28 k_475 rfl z17 ?_
    obtain ⟨z18, h⟩ := ck_some h
    obtain ⟨C20, h19, h⟩ := bd_some h
    obtain ⟨z21, h⟩ := ck_some h
    refine wg_callVv (As := []) (rest := []) X (c_X5_empty l E ad13 S10 (wg_SCb_iff.mp z18) C11 M   h19) T_yX5_empty k_468 cl5 z21 dX8_text_31 rfl rfl (Nat.le_of_ble_eq_true rfl) ⟨Nat.le_of_ble_eq_true rfl, Nat.le_of_ble_eq_true rfl⟩ ⟨Nat.le_of_ble_eq_true rfl, (Nat.le_of_ble_eq_true rfl)⟩ ?_
    refine wg_aload_nQ X 0 dX8_text_34 rfl rfl ?_
    refine wg_nonnullQ X 51 dX8_text_35 (by decide) (fun c23 => ?_) (fun t22 c23 => ?_)
    · have h := oq_n c23 h
      refine wg_bipush (v := -100) X dX8_text_38 (by decide) ?_
      refine wg_aload_n X 1 dX8_text_40 rfl rfl ?_
      obtain ⟨z24, h⟩ := ck_some h
      refine wg_getR (b := 28) X cl8 z16 4 (by decide) dX8_text_41 k_476 rfl z24 ?_
      obtain ⟨z25, h⟩ := ck_some h
      refine wg_getC X cl2 z25 0 (by decide) dX8_text_44 k_201 rfl ?_
      refine wg_isub X dX8_text_47 ?_
      refine wg_goto X 59 dX8_text_48 (by decide) ?_
      refine wg_widen (k := 3) (n := 165) (Nat.le_of_ble_eq_true rfl) (Nat.le_of_ble_eq_true rfl) ?_
      exact wg_airet X hx14 (by rw [(Prod.mk.inj (sm_inj h)).1]) ⟨(Prod.mk.inj (Prod.mk.inj (sm_inj h)).2).1, (Prod.mk.inj (Prod.mk.inj (sm_inj h)).2).2, rfl⟩ hr dX8_text_59
    · have h := oq_s c23 h
      subst c23
      refine wg_lv (lv' := [(1, .ref (ad13 t22)), (0, .ref (ad13 0))]) rfl ?_
      refine wg_aload_n X 1 dX8_text_51 rfl rfl ?_
      obtain ⟨z26, h⟩ := ck_some h
      refine wg_getR (b := 31) X cl8 z16 5 (by decide) dX8_text_52 k_477 rfl z26 ?_
      refine wg_aload_n X 0 dX8_text_55 rfl rfl ?_
      obtain ⟨z27, h⟩ := ck_some h
      obtain ⟨z28, h⟩ := ck_some h
      obtain ⟨r32, S30, C31, h29, h⟩ := bd3_some h
      refine wg_callVa (As := [.ref (ad13 t22)]) (rest := []) X (c_X3_add l E ad13 S10 hx14.1 C20 M t22 h29) T_yX3_add k_464 cl3 z28 dX8_text_56 rfl rfl (Nat.le_of_ble_eq_true rfl) ⟨Nat.le_of_ble_eq_true rfl, Nat.le_of_ble_eq_true rfl⟩ ⟨Nat.le_of_ble_eq_true rfl, (Nat.le_of_ble_eq_true rfl)⟩ hx14 (fun ad33 hx34 ha35 => ?_)
      refine wg_cs (k := 3) (n := 165) rfl rfl ?_
      refine wg_ren (lv' := [(1, .ref (ad33 t22)), (0, .ref (ad33 0))]) (st' := [.int r32]) (by first | rfl | simp only [ha35 t22 z27.1, ha35 0 z27.2]) (by first | rfl | simp only [Option.toList, List.nil_append, List.cons_append, ha35 t22 z27.1, ha35 0 z27.2]) ?_
      refine wg_widen (k := 3) (n := 165) (Nat.le_of_ble_eq_true rfl) (Nat.le_of_ble_eq_true rfl) ?_
      exact wg_airet X hx34 (by rw [(Prod.mk.inj (sm_inj h)).1]) ⟨(Prod.mk.inj (Prod.mk.inj (sm_inj h)).2).1, (Prod.mk.inj (Prod.mk.inj (sm_inj h)).2).2, rfl⟩ hr dX8_text_59
  · have h := if_f c4 h
    refine wg_bipush (v := -4) X dX8_text_12 (by decide) ?_
    refine wg_widen (k := 3) (n := 165) (Nat.le_of_ble_eq_true rfl) (Nat.le_of_ble_eq_true rfl) ?_
    exact wg_airet X hx (by rw [(Prod.mk.inj (sm_inj h)).1]) ⟨(Prod.mk.inj (Prod.mk.inj (sm_inj h)).2).1, (Prod.mk.inj (Prod.mk.inj (sm_inj h)).2).2, rfl⟩ hr dX8_text_14
