-- WindowsGiveModel.<init>()V (('c', 55),)
set_option maxRecDepth 100000 in
def f_X9_init (S : wg_Sh) (M : wg_M)  : Option (wg_Sh × wg_M) :=
  ck (55 < S.2.2.2) <|
  ck (S.2.2.2 = 56) <|
  lt_ (wg_nw S 11 960) fun S3 =>
  lt_ (wg_zM M S.2.2.2) fun M5 =>
  ck (55 < S3.2.2.2 ∧ S3.2.2.1 55 = 9) <|
  ck (56 < S3.2.2.2) <|
  lt_ (wg_sR S3 55 1 (some 56)) fun S12 =>
  ck (55 < S12.2.2.2) <|
  ck (S12.2.2.2 = 57) <|
  lt_ (wg_nw S12 11 6) fun S17 =>
  lt_ (wg_zM M5 S12.2.2.2) fun M19 =>
  ck (55 < S17.2.2.2 ∧ S17.2.2.1 55 = 9) <|
  ck (57 < S17.2.2.2) <|
  lt_ (wg_sR S17 55 2 (some 57)) fun S26 =>
  ck (55 < S26.2.2.2) <|
  ck (S26.2.2.2 = 58) <|
  lt_ (wg_nw S26 11 160) fun S31 =>
  lt_ (wg_zM M19 S26.2.2.2) fun M33 =>
  ck (55 < S31.2.2.2 ∧ S31.2.2.1 55 = 9) <|
  ck (58 < S31.2.2.2) <|
  lt_ (wg_sR S31 55 5 (some 58)) fun S40 =>
  ck (55 < S40.2.2.2) <|
  ck (S40.2.2.2 = 59) <|
  lt_ (wg_nw S40 11 32) fun S45 =>
  lt_ (wg_zM M33 S40.2.2.2) fun M47 =>
  ck (55 < S45.2.2.2 ∧ S45.2.2.1 55 = 9) <|
  ck (59 < S45.2.2.2) <|
  lt_ (wg_sR S45 55 7 (some 59)) fun S54 =>
  ck (55 < S54.2.2.2) <|
  ck (S54.2.2.2 = 60) <|
  lt_ (wg_nw S54 11 8) fun S59 =>
  lt_ (wg_zM M47 S54.2.2.2) fun M61 =>
  ck (55 < S59.2.2.2 ∧ S59.2.2.1 55 = 9) <|
  ck (60 < S59.2.2.2) <|
  lt_ (wg_sR S59 55 8 (some 60)) fun S68 =>
  ck (55 < S68.2.2.2) <|
  ck (S68.2.2.2 = 61) <|
  lt_ (wg_nw S68 11 8) fun S73 =>
  lt_ (wg_zM M61 S68.2.2.2) fun M75 =>
  ck (55 < S73.2.2.2 ∧ S73.2.2.1 55 = 9) <|
  ck (61 < S73.2.2.2) <|
  lt_ (wg_sR S73 55 9 (some 61)) fun S82 =>
  ck (55 < S82.2.2.2) <|
  ck (S82.2.2.2 = 62) <|
  lt_ (wg_nw S82 11 8) fun S87 =>
  lt_ (wg_zM M75 S82.2.2.2) fun M89 =>
  ck (55 < S87.2.2.2 ∧ S87.2.2.1 55 = 9) <|
  ck (62 < S87.2.2.2) <|
  lt_ (wg_sR S87 55 10 (some 62)) fun S96 =>
  ck (55 < S96.2.2.2) <|
  ck (S96.2.2.2 = 63) <|
  lt_ (wg_nw S96 11 8) fun S101 =>
  lt_ (wg_zM M89 S96.2.2.2) fun M103 =>
  ck (55 < S101.2.2.2 ∧ S101.2.2.1 55 = 9) <|
  ck (63 < S101.2.2.2) <|
  lt_ (wg_sR S101 55 11 (some 63)) fun S110 =>
  ck (55 < S110.2.2.2) <|
  ck (S110.2.2.2 = 64) <|
  lt_ (wg_nw S110 11 8) fun S115 =>
  lt_ (wg_zM M103 S110.2.2.2) fun M117 =>
  ck (55 < S115.2.2.2 ∧ S115.2.2.1 55 = 9) <|
  ck (64 < S115.2.2.2) <|
  lt_ (wg_sR S115 55 12 (some 64)) fun S124 =>
  ck (55 < S124.2.2.2) <|
  ck (S124.2.2.2 = 65) <|
  lt_ (wg_nw S124 11 192) fun S129 =>
  lt_ (wg_zM M117 S124.2.2.2) fun M131 =>
  ck (55 < S129.2.2.2 ∧ S129.2.2.1 55 = 9) <|
  ck (65 < S129.2.2.2) <|
  lt_ (wg_sR S129 55 30 (some 65)) fun S138 =>
  ck (55 < S138.2.2.2) <|
  ck (S138.2.2.2 = 66) <|
  lt_ (wg_nw S138 11 256) fun S143 =>
  lt_ (wg_zM M131 S138.2.2.2) fun M145 =>
  ck (55 < S143.2.2.2 ∧ S143.2.2.1 55 = 9) <|
  ck (66 < S143.2.2.2) <|
  lt_ (wg_sR S143 55 31 (some 66)) fun S152 =>
  ck (55 < S152.2.2.2) <|
  ck (S152.2.2.2 = 67) <|
  lt_ (wg_nw S152 11 32) fun S157 =>
  lt_ (wg_zM M145 S152.2.2.2) fun M159 =>
  ck (55 < S157.2.2.2 ∧ S157.2.2.1 55 = 9) <|
  ck (67 < S157.2.2.2) <|
  lt_ (wg_sR S157 55 32 (some 67)) fun S166 =>
  ck (55 < S166.2.2.2) <|
  ck (S166.2.2.2 = 68) <|
  lt_ (wg_nw S166 11 32) fun S171 =>
  lt_ (wg_zM M159 S166.2.2.2) fun M173 =>
  ck (55 < S171.2.2.2 ∧ S171.2.2.1 55 = 9) <|
  ck (68 < S171.2.2.2) <|
  lt_ (wg_sR S171 55 35 (some 68)) fun S180 =>
  ck (55 < S180.2.2.2) <|
  ck (S180.2.2.2 = 69) <|
  lt_ (wg_nw S180 11 32) fun S185 =>
  lt_ (wg_zM M173 S180.2.2.2) fun M187 =>
  ck (55 < S185.2.2.2 ∧ S185.2.2.1 55 = 9) <|
  ck (69 < S185.2.2.2) <|
  lt_ (wg_sR S185 55 36 (some 69)) fun S194 =>
  ck (55 < S194.2.2.2) <|
  ck (S194.2.2.2 = 70) <|
  lt_ (wg_nw S194 11 32) fun S199 =>
  lt_ (wg_zM M187 S194.2.2.2) fun M201 =>
  ck (55 < S199.2.2.2 ∧ S199.2.2.1 55 = 9) <|
  ck (70 < S199.2.2.2) <|
  lt_ (wg_sR S199 55 37 (some 70)) fun S208 =>
  ck (55 < S208.2.2.2 ∧ S208.2.2.1 55 = 9) <|
  lt_ (wg_sM M201 55 38 (-1 : Int32)) fun M212 =>
  ck (55 < S208.2.2.2) <|
  ck (S208.2.2.2 = 71) <|
  lt_ (wg_nw S208 12 4) fun S216 =>
  lt_ (wg_zM M212 S208.2.2.2) fun M218 =>
  ck (55 < S216.2.2.2 ∧ S216.2.2.1 55 = 9) <|
  ck (71 < S216.2.2.2) <|
  lt_ (wg_sR S216 55 40 (some 71)) fun S225 =>
  ck (55 < S225.2.2.2) <|
  ck (S225.2.2.2 = 72) <|
  lt_ (wg_nw S225 11 4) fun S230 =>
  lt_ (wg_zM M218 S225.2.2.2) fun M232 =>
  ck (55 < S230.2.2.2 ∧ S230.2.2.1 55 = 9) <|
  ck (72 < S230.2.2.2) <|
  lt_ (wg_sR S230 55 41 (some 72)) fun S239 =>
  ck (55 < S239.2.2.2) <|
  ck (S239.2.2.2 = 73) <|
  lt_ (wg_nw S239 11 4) fun S244 =>
  lt_ (wg_zM M232 S239.2.2.2) fun M246 =>
  ck (55 < S244.2.2.2 ∧ S244.2.2.1 55 = 9) <|
  ck (73 < S244.2.2.2) <|
  lt_ (wg_sR S244 55 42 (some 73)) fun S253 =>
  ck (55 < S253.2.2.2) <|
  ck (S253.2.2.2 = 74) <|
  lt_ (wg_nw S253 11 160) fun S258 =>
  lt_ (wg_zM M246 S253.2.2.2) fun M260 =>
  ck (55 < S258.2.2.2 ∧ S258.2.2.1 55 = 9) <|
  ck (74 < S258.2.2.2) <|
  lt_ (wg_sR S258 55 43 (some 74)) fun S267 =>
  ck (wg_SMb S267 = true) <|
  bd (f_X9_spell M260 (0 : Int32) (99 : Int32) (111 : Int32) (115 : Int32) (116 : Int32) (115 : Int32) (32 : Int32) (49 : Int32) (32 : Int32)) fun M272 =>
  ck (55 < S267.2.2.2 ∧ S267.2.2.1 55 = 9) <|
  bd (f_X9_spell M272 (8 : Int32) (43 : Int32) (32 : Int32) (110 : Int32) (117 : Int32) (109 : Int32) (98 : Int32) (101 : Int32) (114 : Int32)) fun M275 =>
  bd (f_X9_spell M275 (16 : Int32) (32 : Int32) (59 : Int32) (32 : Int32) (119 : Int32) (101 : Int32) (116 : Int32) (115 : Int32) (32 : Int32)) fun M277 =>
  bd (f_X9_spell M277 (24 : Int32) (119 : Int32) (101 : Int32) (97 : Int32) (116 : Int32) (104 : Int32) (101 : Int32) (114 : Int32) (32 : Int32)) fun M279 =>
  bd (f_X9_spell M279 (32 : Int32) (59 : Int32) (32 : Int32) (112 : Int32) (114 : Int32) (105 : Int32) (99 : Int32) (101 : Int32) (32 : Int32)) fun M281 =>
  bd (f_X9_spell M281 (40 : Int32) (119 : Int32) (101 : Int32) (97 : Int32) (116 : Int32) (104 : Int32) (101 : Int32) (114 : Int32) (32 : Int32)) fun M283 =>
  bd (f_X9_spell M283 (48 : Int32) (42 : Int32) (32 : Int32) (51 : Int32) (32 : Int32) (59 : Int32) (32 : Int32) (32 : Int32) (32 : Int32)) fun M285 =>
  ck (S267.1 55 2 = some 57) <|
  ck (57 < S267.2.2.2 ∧ S267.2.2.1 57 = 11) <|
  ck (S267.2.1 57 = 6) <|
  ck (inb (0 : Int32) 6) <|
  lt_ (wg_sM M285 57 (0 : Int32).toNatClampNeg (56 : Int32)) fun M290 =>
  lt_ (wg_sM M290 55 3 (1 : Int32)) fun M292 =>
  some (S267, M292)
set_option maxHeartbeats 4000000 in
set_option maxRecDepth 100000 in
theorem c_X9_init (l : Launch) (E : wg_Ev) (ad : Nat → Nat) (S : wg_Sh) (hw : wg_wf S) (C : wg_C) (M : wg_M)  {S0 : wg_Sh} {D0 : wg_M} (h : f_X9_init S M  = some (S0, D0)) : wg_Ca l yX9_init cX9_init 1 none 1 29 19 2400 E ad S C M [.ref (ad 55)] (fun _ => none) S0 C D0 := by
  refine wg_start (own := RX9) (by decide +kernel) rfl (Nat.le_of_ble_eq_true rfl) ?_
  intro p e s m below meth c X hr hnm
  refine wg_lv (lv' := [(0, .ref (ad 55))]) rfl ?_
  have hx : wg_ex S ad S ad := wg_ex_rf hw
  unfold f_X9_init at h
  refine wg_aload_n X 0 dX9_init_0 rfl rfl ?_
  refine wg_objI X k_878 k_94 k_95 dX9_init_1 ⟨Nat.le_of_ble_eq_true rfl, Nat.le_of_ble_eq_true rfl⟩ ?_
  refine wg_aload_n X 0 dX9_init_4 rfl rfl ?_
  refine wg_sipush (v := 960) X dX9_init_5 (by decide) ?_
  obtain ⟨z1, h⟩ := ck_some h
  obtain ⟨z2, h⟩ := ck_some h
  obtain ⟨S3, e4, h⟩ := lt_some h
  obtain ⟨M5, e6, h⟩ := lt_some h
  refine wg_newaM (L := 960) X hx (by decide) (by decide) (by decide) (Nat.le_of_ble_eq_true rfl) (Nat.le_of_ble_eq_true rfl) k_139 dX9_init_8 e4 e6 (fun ad7 hx8 ha9 => ?_)
  refine wg_cs (k := 1) (n := 960) rfl rfl ?_
  rw [z2]
  refine wg_ren (lv' := [(0, .ref (ad7 55))]) (st' := [.ref (ad7 56), .ref (ad7 55)]) (by first | rfl | simp only [ha9 55 z1]) (by first | rfl | simp only [Option.toList, List.nil_append, List.cons_append, ha9 55 z1]) ?_
  obtain ⟨z10, h⟩ := ck_some h
  obtain ⟨z11, h⟩ := ck_some h
  obtain ⟨S12, e13, h⟩ := lt_some h
  refine wg_putRF X hx8 z11 cl9 z10 1 (by decide) dX9_init_10 k_883 rfl hnm rfl rfl (fun _ => rfl) (fun _ => rfl) e13 (fun hx14 => ?_)
  refine wg_aload_n X 0 dX9_init_13 rfl rfl ?_
  refine wg_bipush (v := 6) X dX9_init_14 (by decide) ?_
  obtain ⟨z15, h⟩ := ck_some h
  obtain ⟨z16, h⟩ := ck_some h
  obtain ⟨S17, e18, h⟩ := lt_some h
  obtain ⟨M19, e20, h⟩ := lt_some h
  refine wg_newaM (L := 6) X hx14 (by decide) (by decide) (by decide) (Nat.le_of_ble_eq_true rfl) (Nat.le_of_ble_eq_true rfl) k_139 dX9_init_16 e18 e20 (fun ad21 hx22 ha23 => ?_)
  refine wg_cs (k := 2) (n := 966) rfl rfl ?_
  rw [z16]
  refine wg_ren (lv' := [(0, .ref (ad21 55))]) (st' := [.ref (ad21 57), .ref (ad21 55)]) (by first | rfl | simp only [ha23 55 z15]) (by first | rfl | simp only [Option.toList, List.nil_append, List.cons_append, ha23 55 z15]) ?_
  obtain ⟨z24, h⟩ := ck_some h
  obtain ⟨z25, h⟩ := ck_some h
  obtain ⟨S26, e27, h⟩ := lt_some h
  refine wg_putRF X hx22 z25 cl9 z24 2 (by decide) dX9_init_18 k_884 rfl hnm rfl rfl (fun _ => rfl) (fun _ => rfl) e27 (fun hx28 => ?_)
  refine wg_aload_n X 0 dX9_init_21 rfl rfl ?_
  refine wg_sipush (v := 160) X dX9_init_22 (by decide) ?_
  obtain ⟨z29, h⟩ := ck_some h
  obtain ⟨z30, h⟩ := ck_some h
  obtain ⟨S31, e32, h⟩ := lt_some h
  obtain ⟨M33, e34, h⟩ := lt_some h
  refine wg_newaM (L := 160) X hx28 (by decide) (by decide) (by decide) (Nat.le_of_ble_eq_true rfl) (Nat.le_of_ble_eq_true rfl) k_139 dX9_init_25 e32 e34 (fun ad35 hx36 ha37 => ?_)
  refine wg_cs (k := 3) (n := 1126) rfl rfl ?_
  rw [z30]
  refine wg_ren (lv' := [(0, .ref (ad35 55))]) (st' := [.ref (ad35 58), .ref (ad35 55)]) (by first | rfl | simp only [ha37 55 z29]) (by first | rfl | simp only [Option.toList, List.nil_append, List.cons_append, ha37 55 z29]) ?_
  obtain ⟨z38, h⟩ := ck_some h
  obtain ⟨z39, h⟩ := ck_some h
  obtain ⟨S40, e41, h⟩ := lt_some h
  refine wg_putRF X hx36 z39 cl9 z38 5 (by decide) dX9_init_27 k_887 rfl hnm rfl rfl (fun _ => rfl) (fun _ => rfl) e41 (fun hx42 => ?_)
  refine wg_aload_n X 0 dX9_init_30 rfl rfl ?_
  refine wg_bipush (v := 32) X dX9_init_31 (by decide) ?_
  obtain ⟨z43, h⟩ := ck_some h
  obtain ⟨z44, h⟩ := ck_some h
  obtain ⟨S45, e46, h⟩ := lt_some h
  obtain ⟨M47, e48, h⟩ := lt_some h
  refine wg_newaM (L := 32) X hx42 (by decide) (by decide) (by decide) (Nat.le_of_ble_eq_true rfl) (Nat.le_of_ble_eq_true rfl) k_139 dX9_init_33 e46 e48 (fun ad49 hx50 ha51 => ?_)
  refine wg_cs (k := 4) (n := 1158) rfl rfl ?_
  rw [z44]
  refine wg_ren (lv' := [(0, .ref (ad49 55))]) (st' := [.ref (ad49 59), .ref (ad49 55)]) (by first | rfl | simp only [ha51 55 z43]) (by first | rfl | simp only [Option.toList, List.nil_append, List.cons_append, ha51 55 z43]) ?_
  obtain ⟨z52, h⟩ := ck_some h
  obtain ⟨z53, h⟩ := ck_some h
  obtain ⟨S54, e55, h⟩ := lt_some h
  refine wg_putRF X hx50 z53 cl9 z52 7 (by decide) dX9_init_35 k_889 rfl hnm rfl rfl (fun _ => rfl) (fun _ => rfl) e55 (fun hx56 => ?_)
  refine wg_aload_n X 0 dX9_init_38 rfl rfl ?_
  refine wg_bipush (v := 8) X dX9_init_39 (by decide) ?_
  obtain ⟨z57, h⟩ := ck_some h
  obtain ⟨z58, h⟩ := ck_some h
  obtain ⟨S59, e60, h⟩ := lt_some h
  obtain ⟨M61, e62, h⟩ := lt_some h
  refine wg_newaM (L := 8) X hx56 (by decide) (by decide) (by decide) (Nat.le_of_ble_eq_true rfl) (Nat.le_of_ble_eq_true rfl) k_139 dX9_init_41 e60 e62 (fun ad63 hx64 ha65 => ?_)
  refine wg_cs (k := 5) (n := 1166) rfl rfl ?_
  rw [z58]
  refine wg_ren (lv' := [(0, .ref (ad63 55))]) (st' := [.ref (ad63 60), .ref (ad63 55)]) (by first | rfl | simp only [ha65 55 z57]) (by first | rfl | simp only [Option.toList, List.nil_append, List.cons_append, ha65 55 z57]) ?_
  obtain ⟨z66, h⟩ := ck_some h
  obtain ⟨z67, h⟩ := ck_some h
  obtain ⟨S68, e69, h⟩ := lt_some h
  refine wg_putRF X hx64 z67 cl9 z66 8 (by decide) dX9_init_43 k_890 rfl hnm rfl rfl (fun _ => rfl) (fun _ => rfl) e69 (fun hx70 => ?_)
  refine wg_aload_n X 0 dX9_init_46 rfl rfl ?_
  refine wg_bipush (v := 8) X dX9_init_47 (by decide) ?_
  obtain ⟨z71, h⟩ := ck_some h
  obtain ⟨z72, h⟩ := ck_some h
  obtain ⟨S73, e74, h⟩ := lt_some h
  obtain ⟨M75, e76, h⟩ := lt_some h
  refine wg_newaM (L := 8) X hx70 (by decide) (by decide) (by decide) (Nat.le_of_ble_eq_true rfl) (Nat.le_of_ble_eq_true rfl) k_139 dX9_init_49 e74 e76 (fun ad77 hx78 ha79 => ?_)
  refine wg_cs (k := 6) (n := 1174) rfl rfl ?_
  rw [z72]
  refine wg_ren (lv' := [(0, .ref (ad77 55))]) (st' := [.ref (ad77 61), .ref (ad77 55)]) (by first | rfl | simp only [ha79 55 z71]) (by first | rfl | simp only [Option.toList, List.nil_append, List.cons_append, ha79 55 z71]) ?_
  obtain ⟨z80, h⟩ := ck_some h
  obtain ⟨z81, h⟩ := ck_some h
  obtain ⟨S82, e83, h⟩ := lt_some h
  refine wg_putRF X hx78 z81 cl9 z80 9 (by decide) dX9_init_51 k_891 rfl hnm rfl rfl (fun _ => rfl) (fun _ => rfl) e83 (fun hx84 => ?_)
  refine wg_aload_n X 0 dX9_init_54 rfl rfl ?_
  refine wg_bipush (v := 8) X dX9_init_55 (by decide) ?_
  obtain ⟨z85, h⟩ := ck_some h
  obtain ⟨z86, h⟩ := ck_some h
  obtain ⟨S87, e88, h⟩ := lt_some h
  obtain ⟨M89, e90, h⟩ := lt_some h
  refine wg_newaM (L := 8) X hx84 (by decide) (by decide) (by decide) (Nat.le_of_ble_eq_true rfl) (Nat.le_of_ble_eq_true rfl) k_139 dX9_init_57 e88 e90 (fun ad91 hx92 ha93 => ?_)
  refine wg_cs (k := 7) (n := 1182) rfl rfl ?_
  rw [z86]
  refine wg_ren (lv' := [(0, .ref (ad91 55))]) (st' := [.ref (ad91 62), .ref (ad91 55)]) (by first | rfl | simp only [ha93 55 z85]) (by first | rfl | simp only [Option.toList, List.nil_append, List.cons_append, ha93 55 z85]) ?_
  obtain ⟨z94, h⟩ := ck_some h
  obtain ⟨z95, h⟩ := ck_some h
  obtain ⟨S96, e97, h⟩ := lt_some h
  refine wg_putRF X hx92 z95 cl9 z94 10 (by decide) dX9_init_59 k_892 rfl hnm rfl rfl (fun _ => rfl) (fun _ => rfl) e97 (fun hx98 => ?_)
  refine wg_aload_n X 0 dX9_init_62 rfl rfl ?_
  refine wg_bipush (v := 8) X dX9_init_63 (by decide) ?_
  obtain ⟨z99, h⟩ := ck_some h
  obtain ⟨z100, h⟩ := ck_some h
  obtain ⟨S101, e102, h⟩ := lt_some h
  obtain ⟨M103, e104, h⟩ := lt_some h
  refine wg_newaM (L := 8) X hx98 (by decide) (by decide) (by decide) (Nat.le_of_ble_eq_true rfl) (Nat.le_of_ble_eq_true rfl) k_139 dX9_init_65 e102 e104 (fun ad105 hx106 ha107 => ?_)
  refine wg_cs (k := 8) (n := 1190) rfl rfl ?_
  rw [z100]
  refine wg_ren (lv' := [(0, .ref (ad105 55))]) (st' := [.ref (ad105 63), .ref (ad105 55)]) (by first | rfl | simp only [ha107 55 z99]) (by first | rfl | simp only [Option.toList, List.nil_append, List.cons_append, ha107 55 z99]) ?_
  obtain ⟨z108, h⟩ := ck_some h
  obtain ⟨z109, h⟩ := ck_some h
  obtain ⟨S110, e111, h⟩ := lt_some h
  refine wg_putRF X hx106 z109 cl9 z108 11 (by decide) dX9_init_67 k_893 rfl hnm rfl rfl (fun _ => rfl) (fun _ => rfl) e111 (fun hx112 => ?_)
  refine wg_aload_n X 0 dX9_init_70 rfl rfl ?_
  refine wg_bipush (v := 8) X dX9_init_71 (by decide) ?_
  obtain ⟨z113, h⟩ := ck_some h
  obtain ⟨z114, h⟩ := ck_some h
  obtain ⟨S115, e116, h⟩ := lt_some h
  obtain ⟨M117, e118, h⟩ := lt_some h
  refine wg_newaM (L := 8) X hx112 (by decide) (by decide) (by decide) (Nat.le_of_ble_eq_true rfl) (Nat.le_of_ble_eq_true rfl) k_139 dX9_init_73 e116 e118 (fun ad119 hx120 ha121 => ?_)
  refine wg_cs (k := 9) (n := 1198) rfl rfl ?_
  rw [z114]
  refine wg_ren (lv' := [(0, .ref (ad119 55))]) (st' := [.ref (ad119 64), .ref (ad119 55)]) (by first | rfl | simp only [ha121 55 z113]) (by first | rfl | simp only [Option.toList, List.nil_append, List.cons_append, ha121 55 z113]) ?_
  obtain ⟨z122, h⟩ := ck_some h
  obtain ⟨z123, h⟩ := ck_some h
  obtain ⟨S124, e125, h⟩ := lt_some h
  refine wg_putRF X hx120 z123 cl9 z122 12 (by decide) dX9_init_75 k_894 rfl hnm rfl rfl (fun _ => rfl) (fun _ => rfl) e125 (fun hx126 => ?_)
  refine wg_aload_n X 0 dX9_init_78 rfl rfl ?_
  refine wg_sipush (v := 192) X dX9_init_79 (by decide) ?_
  obtain ⟨z127, h⟩ := ck_some h
  obtain ⟨z128, h⟩ := ck_some h
  obtain ⟨S129, e130, h⟩ := lt_some h
  obtain ⟨M131, e132, h⟩ := lt_some h
  refine wg_newaM (L := 192) X hx126 (by decide) (by decide) (by decide) (Nat.le_of_ble_eq_true rfl) (Nat.le_of_ble_eq_true rfl) k_139 dX9_init_82 e130 e132 (fun ad133 hx134 ha135 => ?_)
  refine wg_cs (k := 10) (n := 1390) rfl rfl ?_
  rw [z128]
  refine wg_ren (lv' := [(0, .ref (ad133 55))]) (st' := [.ref (ad133 65), .ref (ad133 55)]) (by first | rfl | simp only [ha135 55 z127]) (by first | rfl | simp only [Option.toList, List.nil_append, List.cons_append, ha135 55 z127]) ?_
  obtain ⟨z136, h⟩ := ck_some h
  obtain ⟨z137, h⟩ := ck_some h
  obtain ⟨S138, e139, h⟩ := lt_some h
  refine wg_putRF X hx134 z137 cl9 z136 30 (by decide) dX9_init_84 k_912 rfl hnm rfl rfl (fun _ => rfl) (fun _ => rfl) e139 (fun hx140 => ?_)
  refine wg_aload_n X 0 dX9_init_87 rfl rfl ?_
  refine wg_sipush (v := 256) X dX9_init_88 (by decide) ?_
  obtain ⟨z141, h⟩ := ck_some h
  obtain ⟨z142, h⟩ := ck_some h
  obtain ⟨S143, e144, h⟩ := lt_some h
  obtain ⟨M145, e146, h⟩ := lt_some h
  refine wg_newaM (L := 256) X hx140 (by decide) (by decide) (by decide) (Nat.le_of_ble_eq_true rfl) (Nat.le_of_ble_eq_true rfl) k_139 dX9_init_91 e144 e146 (fun ad147 hx148 ha149 => ?_)
  refine wg_cs (k := 11) (n := 1646) rfl rfl ?_
  rw [z142]
  refine wg_ren (lv' := [(0, .ref (ad147 55))]) (st' := [.ref (ad147 66), .ref (ad147 55)]) (by first | rfl | simp only [ha149 55 z141]) (by first | rfl | simp only [Option.toList, List.nil_append, List.cons_append, ha149 55 z141]) ?_
  obtain ⟨z150, h⟩ := ck_some h
  obtain ⟨z151, h⟩ := ck_some h
  obtain ⟨S152, e153, h⟩ := lt_some h
  refine wg_putRF X hx148 z151 cl9 z150 31 (by decide) dX9_init_93 k_913 rfl hnm rfl rfl (fun _ => rfl) (fun _ => rfl) e153 (fun hx154 => ?_)
  refine wg_aload_n X 0 dX9_init_96 rfl rfl ?_
  refine wg_bipush (v := 32) X dX9_init_97 (by decide) ?_
  obtain ⟨z155, h⟩ := ck_some h
  obtain ⟨z156, h⟩ := ck_some h
  obtain ⟨S157, e158, h⟩ := lt_some h
  obtain ⟨M159, e160, h⟩ := lt_some h
  refine wg_newaM (L := 32) X hx154 (by decide) (by decide) (by decide) (Nat.le_of_ble_eq_true rfl) (Nat.le_of_ble_eq_true rfl) k_139 dX9_init_99 e158 e160 (fun ad161 hx162 ha163 => ?_)
  refine wg_cs (k := 12) (n := 1678) rfl rfl ?_
  rw [z156]
  refine wg_ren (lv' := [(0, .ref (ad161 55))]) (st' := [.ref (ad161 67), .ref (ad161 55)]) (by first | rfl | simp only [ha163 55 z155]) (by first | rfl | simp only [Option.toList, List.nil_append, List.cons_append, ha163 55 z155]) ?_
  obtain ⟨z164, h⟩ := ck_some h
  obtain ⟨z165, h⟩ := ck_some h
  obtain ⟨S166, e167, h⟩ := lt_some h
  refine wg_putRF X hx162 z165 cl9 z164 32 (by decide) dX9_init_101 k_914 rfl hnm rfl rfl (fun _ => rfl) (fun _ => rfl) e167 (fun hx168 => ?_)
  refine wg_aload_n X 0 dX9_init_104 rfl rfl ?_
  refine wg_bipush (v := 32) X dX9_init_105 (by decide) ?_
  obtain ⟨z169, h⟩ := ck_some h
  obtain ⟨z170, h⟩ := ck_some h
  obtain ⟨S171, e172, h⟩ := lt_some h
  obtain ⟨M173, e174, h⟩ := lt_some h
  refine wg_newaM (L := 32) X hx168 (by decide) (by decide) (by decide) (Nat.le_of_ble_eq_true rfl) (Nat.le_of_ble_eq_true rfl) k_139 dX9_init_107 e172 e174 (fun ad175 hx176 ha177 => ?_)
  refine wg_cs (k := 13) (n := 1710) rfl rfl ?_
  rw [z170]
  refine wg_ren (lv' := [(0, .ref (ad175 55))]) (st' := [.ref (ad175 68), .ref (ad175 55)]) (by first | rfl | simp only [ha177 55 z169]) (by first | rfl | simp only [Option.toList, List.nil_append, List.cons_append, ha177 55 z169]) ?_
  obtain ⟨z178, h⟩ := ck_some h
  obtain ⟨z179, h⟩ := ck_some h
  obtain ⟨S180, e181, h⟩ := lt_some h
  refine wg_putRF X hx176 z179 cl9 z178 35 (by decide) dX9_init_109 k_917 rfl hnm rfl rfl (fun _ => rfl) (fun _ => rfl) e181 (fun hx182 => ?_)
  refine wg_aload_n X 0 dX9_init_112 rfl rfl ?_
  refine wg_bipush (v := 32) X dX9_init_113 (by decide) ?_
  obtain ⟨z183, h⟩ := ck_some h
  obtain ⟨z184, h⟩ := ck_some h
  obtain ⟨S185, e186, h⟩ := lt_some h
  obtain ⟨M187, e188, h⟩ := lt_some h
  refine wg_newaM (L := 32) X hx182 (by decide) (by decide) (by decide) (Nat.le_of_ble_eq_true rfl) (Nat.le_of_ble_eq_true rfl) k_139 dX9_init_115 e186 e188 (fun ad189 hx190 ha191 => ?_)
  refine wg_cs (k := 14) (n := 1742) rfl rfl ?_
  rw [z184]
  refine wg_ren (lv' := [(0, .ref (ad189 55))]) (st' := [.ref (ad189 69), .ref (ad189 55)]) (by first | rfl | simp only [ha191 55 z183]) (by first | rfl | simp only [Option.toList, List.nil_append, List.cons_append, ha191 55 z183]) ?_
  obtain ⟨z192, h⟩ := ck_some h
  obtain ⟨z193, h⟩ := ck_some h
  obtain ⟨S194, e195, h⟩ := lt_some h
  refine wg_putRF X hx190 z193 cl9 z192 36 (by decide) dX9_init_117 k_918 rfl hnm rfl rfl (fun _ => rfl) (fun _ => rfl) e195 (fun hx196 => ?_)
  refine wg_aload_n X 0 dX9_init_120 rfl rfl ?_
  refine wg_bipush (v := 32) X dX9_init_121 (by decide) ?_
  obtain ⟨z197, h⟩ := ck_some h
  obtain ⟨z198, h⟩ := ck_some h
  obtain ⟨S199, e200, h⟩ := lt_some h
  obtain ⟨M201, e202, h⟩ := lt_some h
  refine wg_newaM (L := 32) X hx196 (by decide) (by decide) (by decide) (Nat.le_of_ble_eq_true rfl) (Nat.le_of_ble_eq_true rfl) k_139 dX9_init_123 e200 e202 (fun ad203 hx204 ha205 => ?_)
  refine wg_cs (k := 15) (n := 1774) rfl rfl ?_
  rw [z198]
  refine wg_ren (lv' := [(0, .ref (ad203 55))]) (st' := [.ref (ad203 70), .ref (ad203 55)]) (by first | rfl | simp only [ha205 55 z197]) (by first | rfl | simp only [Option.toList, List.nil_append, List.cons_append, ha205 55 z197]) ?_
  obtain ⟨z206, h⟩ := ck_some h
  obtain ⟨z207, h⟩ := ck_some h
  obtain ⟨S208, e209, h⟩ := lt_some h
  refine wg_putRF X hx204 z207 cl9 z206 37 (by decide) dX9_init_125 k_919 rfl hnm rfl rfl (fun _ => rfl) (fun _ => rfl) e209 (fun hx210 => ?_)
  refine wg_aload_n X 0 dX9_init_128 rfl rfl ?_
  refine wg_iconst (v := -1) X dX9_init_129 (by decide) ?_
  obtain ⟨z211, h⟩ := ck_some h
  obtain ⟨M212, e213, h⟩ := lt_some h
  refine wg_putMe X cl9 z211 38 (by decide) dX9_init_130 k_920 rfl rfl rfl rfl e213 ?_
  refine wg_aload_n X 0 dX9_init_133 rfl rfl ?_
  refine wg_iconst (v := 4) X dX9_init_134 (by decide) ?_
  obtain ⟨z214, h⟩ := ck_some h
  obtain ⟨z215, h⟩ := ck_some h
  obtain ⟨S216, e217, h⟩ := lt_some h
  obtain ⟨M218, e219, h⟩ := lt_some h
  refine wg_newaZ (L := 4) X hx210 (by decide) (by decide) (by decide) (Nat.le_of_ble_eq_true rfl) (Nat.le_of_ble_eq_true rfl) k_1015 dX9_init_135 e217 e219 (fun ad220 hx221 ha222 => ?_)
  refine wg_cs (k := 16) (n := 1778) rfl rfl ?_
  rw [z215]
  refine wg_ren (lv' := [(0, .ref (ad220 55))]) (st' := [.ref (ad220 71), .ref (ad220 55)]) (by first | rfl | simp only [ha222 55 z214]) (by first | rfl | simp only [Option.toList, List.nil_append, List.cons_append, ha222 55 z214]) ?_
  obtain ⟨z223, h⟩ := ck_some h
  obtain ⟨z224, h⟩ := ck_some h
  obtain ⟨S225, e226, h⟩ := lt_some h
  refine wg_putRF X hx221 z224 cl9 z223 40 (by decide) dX9_init_137 k_922 rfl hnm rfl rfl (fun _ => rfl) (fun _ => rfl) e226 (fun hx227 => ?_)
  refine wg_aload_n X 0 dX9_init_140 rfl rfl ?_
  refine wg_iconst (v := 4) X dX9_init_141 (by decide) ?_
  obtain ⟨z228, h⟩ := ck_some h
  obtain ⟨z229, h⟩ := ck_some h
  obtain ⟨S230, e231, h⟩ := lt_some h
  obtain ⟨M232, e233, h⟩ := lt_some h
  refine wg_newaM (L := 4) X hx227 (by decide) (by decide) (by decide) (Nat.le_of_ble_eq_true rfl) (Nat.le_of_ble_eq_true rfl) k_139 dX9_init_142 e231 e233 (fun ad234 hx235 ha236 => ?_)
  refine wg_cs (k := 17) (n := 1782) rfl rfl ?_
  rw [z229]
  refine wg_ren (lv' := [(0, .ref (ad234 55))]) (st' := [.ref (ad234 72), .ref (ad234 55)]) (by first | rfl | simp only [ha236 55 z228]) (by first | rfl | simp only [Option.toList, List.nil_append, List.cons_append, ha236 55 z228]) ?_
  obtain ⟨z237, h⟩ := ck_some h
  obtain ⟨z238, h⟩ := ck_some h
  obtain ⟨S239, e240, h⟩ := lt_some h
  refine wg_putRF X hx235 z238 cl9 z237 41 (by decide) dX9_init_144 k_923 rfl hnm rfl rfl (fun _ => rfl) (fun _ => rfl) e240 (fun hx241 => ?_)
  refine wg_aload_n X 0 dX9_init_147 rfl rfl ?_
  refine wg_iconst (v := 4) X dX9_init_148 (by decide) ?_
  obtain ⟨z242, h⟩ := ck_some h
  obtain ⟨z243, h⟩ := ck_some h
  obtain ⟨S244, e245, h⟩ := lt_some h
  obtain ⟨M246, e247, h⟩ := lt_some h
  refine wg_newaM (L := 4) X hx241 (by decide) (by decide) (by decide) (Nat.le_of_ble_eq_true rfl) (Nat.le_of_ble_eq_true rfl) k_139 dX9_init_149 e245 e247 (fun ad248 hx249 ha250 => ?_)
  refine wg_cs (k := 18) (n := 1786) rfl rfl ?_
  rw [z243]
  refine wg_ren (lv' := [(0, .ref (ad248 55))]) (st' := [.ref (ad248 73), .ref (ad248 55)]) (by first | rfl | simp only [ha250 55 z242]) (by first | rfl | simp only [Option.toList, List.nil_append, List.cons_append, ha250 55 z242]) ?_
  obtain ⟨z251, h⟩ := ck_some h
  obtain ⟨z252, h⟩ := ck_some h
  obtain ⟨S253, e254, h⟩ := lt_some h
  refine wg_putRF X hx249 z252 cl9 z251 42 (by decide) dX9_init_151 k_924 rfl hnm rfl rfl (fun _ => rfl) (fun _ => rfl) e254 (fun hx255 => ?_)
  refine wg_aload_n X 0 dX9_init_154 rfl rfl ?_
  refine wg_sipush (v := 160) X dX9_init_155 (by decide) ?_
  obtain ⟨z256, h⟩ := ck_some h
  obtain ⟨z257, h⟩ := ck_some h
  obtain ⟨S258, e259, h⟩ := lt_some h
  obtain ⟨M260, e261, h⟩ := lt_some h
  refine wg_newaM (L := 160) X hx255 (by decide) (by decide) (by decide) (Nat.le_of_ble_eq_true rfl) (Nat.le_of_ble_eq_true rfl) k_139 dX9_init_158 e259 e261 (fun ad262 hx263 ha264 => ?_)
  refine wg_cs (k := 19) (n := 1946) rfl rfl ?_
  rw [z257]
  refine wg_ren (lv' := [(0, .ref (ad262 55))]) (st' := [.ref (ad262 74), .ref (ad262 55)]) (by first | rfl | simp only [ha264 55 z256]) (by first | rfl | simp only [Option.toList, List.nil_append, List.cons_append, ha264 55 z256]) ?_
  obtain ⟨z265, h⟩ := ck_some h
  obtain ⟨z266, h⟩ := ck_some h
  obtain ⟨S267, e268, h⟩ := lt_some h
  refine wg_putRF X hx263 z266 cl9 z265 43 (by decide) dX9_init_160 k_925 rfl hnm rfl rfl (fun _ => rfl) (fun _ => rfl) e268 (fun hx269 => ?_)
  refine wg_aload_n X 0 dX9_init_163 rfl rfl ?_
  refine wg_iconst (v := 0) X dX9_init_164 (by decide) ?_
  refine wg_bipush (v := 99) X dX9_init_165 (by decide) ?_
  refine wg_bipush (v := 111) X dX9_init_167 (by decide) ?_
  refine wg_bipush (v := 115) X dX9_init_169 (by decide) ?_
  refine wg_bipush (v := 116) X dX9_init_171 (by decide) ?_
  refine wg_bipush (v := 115) X dX9_init_173 (by decide) ?_
  refine wg_bipush (v := 32) X dX9_init_175 (by decide) ?_
  refine wg_bipush (v := 49) X dX9_init_177 (by decide) ?_
  refine wg_bipush (v := 32) X dX9_init_179 (by decide) ?_
  obtain ⟨z270, h⟩ := ck_some h
  obtain ⟨M272, h271, h⟩ := bd_some h
  obtain ⟨z273, h⟩ := ck_some h
  refine wg_callVv (As := [.int (0 : Int32), .int (99 : Int32), .int (111 : Int32), .int (115 : Int32), .int (116 : Int32), .int (115 : Int32), .int (32 : Int32), .int (49 : Int32), .int (32 : Int32)]) (rest := []) X (c_X9_spell l E ad262 S267 (wg_SMb_iff.mp z270) C M260 (0 : Int32) (99 : Int32) (111 : Int32) (115 : Int32) (116 : Int32) (115 : Int32) (32 : Int32) (49 : Int32) (32 : Int32)  h271) T_yX9_spell k_879 cl9 z273 dX9_init_181 rfl rfl (Nat.le_of_ble_eq_true rfl) ⟨Nat.le_of_ble_eq_true rfl, Nat.le_of_ble_eq_true rfl⟩ ⟨Nat.le_of_ble_eq_true rfl, (Nat.le_of_ble_eq_true rfl)⟩ ?_
  refine wg_aload_n X 0 dX9_init_184 rfl rfl ?_
  refine wg_bipush (v := 8) X dX9_init_185 (by decide) ?_
  refine wg_bipush (v := 43) X dX9_init_187 (by decide) ?_
  refine wg_bipush (v := 32) X dX9_init_189 (by decide) ?_
  refine wg_bipush (v := 110) X dX9_init_191 (by decide) ?_
  refine wg_bipush (v := 117) X dX9_init_193 (by decide) ?_
  refine wg_bipush (v := 109) X dX9_init_195 (by decide) ?_
  refine wg_bipush (v := 98) X dX9_init_197 (by decide) ?_
  refine wg_bipush (v := 101) X dX9_init_199 (by decide) ?_
  refine wg_bipush (v := 114) X dX9_init_201 (by decide) ?_
  obtain ⟨M275, h274, h⟩ := bd_some h
  refine wg_callVv (As := [.int (8 : Int32), .int (43 : Int32), .int (32 : Int32), .int (110 : Int32), .int (117 : Int32), .int (109 : Int32), .int (98 : Int32), .int (101 : Int32), .int (114 : Int32)]) (rest := []) X (c_X9_spell l E ad262 S267 (wg_SMb_iff.mp z270) C M272 (8 : Int32) (43 : Int32) (32 : Int32) (110 : Int32) (117 : Int32) (109 : Int32) (98 : Int32) (101 : Int32) (114 : Int32)  h274) T_yX9_spell k_879 cl9 z273 dX9_init_203 rfl rfl (Nat.le_of_ble_eq_true rfl) ⟨Nat.le_of_ble_eq_true rfl, Nat.le_of_ble_eq_true rfl⟩ ⟨Nat.le_of_ble_eq_true rfl, (Nat.le_of_ble_eq_true rfl)⟩ ?_
  refine wg_aload_n X 0 dX9_init_206 rfl rfl ?_
  refine wg_bipush (v := 16) X dX9_init_207 (by decide) ?_
  refine wg_bipush (v := 32) X dX9_init_209 (by decide) ?_
  refine wg_bipush (v := 59) X dX9_init_211 (by decide) ?_
  refine wg_bipush (v := 32) X dX9_init_213 (by decide) ?_
  refine wg_bipush (v := 119) X dX9_init_215 (by decide) ?_
  refine wg_bipush (v := 101) X dX9_init_217 (by decide) ?_
  refine wg_bipush (v := 116) X dX9_init_219 (by decide) ?_
  refine wg_bipush (v := 115) X dX9_init_221 (by decide) ?_
  refine wg_bipush (v := 32) X dX9_init_223 (by decide) ?_
  obtain ⟨M277, h276, h⟩ := bd_some h
  refine wg_callVv (As := [.int (16 : Int32), .int (32 : Int32), .int (59 : Int32), .int (32 : Int32), .int (119 : Int32), .int (101 : Int32), .int (116 : Int32), .int (115 : Int32), .int (32 : Int32)]) (rest := []) X (c_X9_spell l E ad262 S267 (wg_SMb_iff.mp z270) C M275 (16 : Int32) (32 : Int32) (59 : Int32) (32 : Int32) (119 : Int32) (101 : Int32) (116 : Int32) (115 : Int32) (32 : Int32)  h276) T_yX9_spell k_879 cl9 z273 dX9_init_225 rfl rfl (Nat.le_of_ble_eq_true rfl) ⟨Nat.le_of_ble_eq_true rfl, Nat.le_of_ble_eq_true rfl⟩ ⟨Nat.le_of_ble_eq_true rfl, (Nat.le_of_ble_eq_true rfl)⟩ ?_
  refine wg_aload_n X 0 dX9_init_228 rfl rfl ?_
  refine wg_bipush (v := 24) X dX9_init_229 (by decide) ?_
  refine wg_bipush (v := 119) X dX9_init_231 (by decide) ?_
  refine wg_bipush (v := 101) X dX9_init_233 (by decide) ?_
  refine wg_bipush (v := 97) X dX9_init_235 (by decide) ?_
  refine wg_bipush (v := 116) X dX9_init_237 (by decide) ?_
  refine wg_bipush (v := 104) X dX9_init_239 (by decide) ?_
  refine wg_bipush (v := 101) X dX9_init_241 (by decide) ?_
  refine wg_bipush (v := 114) X dX9_init_243 (by decide) ?_
  refine wg_bipush (v := 32) X dX9_init_245 (by decide) ?_
  obtain ⟨M279, h278, h⟩ := bd_some h
  refine wg_callVv (As := [.int (24 : Int32), .int (119 : Int32), .int (101 : Int32), .int (97 : Int32), .int (116 : Int32), .int (104 : Int32), .int (101 : Int32), .int (114 : Int32), .int (32 : Int32)]) (rest := []) X (c_X9_spell l E ad262 S267 (wg_SMb_iff.mp z270) C M277 (24 : Int32) (119 : Int32) (101 : Int32) (97 : Int32) (116 : Int32) (104 : Int32) (101 : Int32) (114 : Int32) (32 : Int32)  h278) T_yX9_spell k_879 cl9 z273 dX9_init_247 rfl rfl (Nat.le_of_ble_eq_true rfl) ⟨Nat.le_of_ble_eq_true rfl, Nat.le_of_ble_eq_true rfl⟩ ⟨Nat.le_of_ble_eq_true rfl, (Nat.le_of_ble_eq_true rfl)⟩ ?_
  refine wg_aload_n X 0 dX9_init_250 rfl rfl ?_
  refine wg_bipush (v := 32) X dX9_init_251 (by decide) ?_
  refine wg_bipush (v := 59) X dX9_init_253 (by decide) ?_
  refine wg_bipush (v := 32) X dX9_init_255 (by decide) ?_
  refine wg_bipush (v := 112) X dX9_init_257 (by decide) ?_
  refine wg_bipush (v := 114) X dX9_init_259 (by decide) ?_
  refine wg_bipush (v := 105) X dX9_init_261 (by decide) ?_
  refine wg_bipush (v := 99) X dX9_init_263 (by decide) ?_
  refine wg_bipush (v := 101) X dX9_init_265 (by decide) ?_
  refine wg_bipush (v := 32) X dX9_init_267 (by decide) ?_
  obtain ⟨M281, h280, h⟩ := bd_some h
  refine wg_callVv (As := [.int (32 : Int32), .int (59 : Int32), .int (32 : Int32), .int (112 : Int32), .int (114 : Int32), .int (105 : Int32), .int (99 : Int32), .int (101 : Int32), .int (32 : Int32)]) (rest := []) X (c_X9_spell l E ad262 S267 (wg_SMb_iff.mp z270) C M279 (32 : Int32) (59 : Int32) (32 : Int32) (112 : Int32) (114 : Int32) (105 : Int32) (99 : Int32) (101 : Int32) (32 : Int32)  h280) T_yX9_spell k_879 cl9 z273 dX9_init_269 rfl rfl (Nat.le_of_ble_eq_true rfl) ⟨Nat.le_of_ble_eq_true rfl, Nat.le_of_ble_eq_true rfl⟩ ⟨Nat.le_of_ble_eq_true rfl, (Nat.le_of_ble_eq_true rfl)⟩ ?_
  refine wg_aload_n X 0 dX9_init_272 rfl rfl ?_
  refine wg_bipush (v := 40) X dX9_init_273 (by decide) ?_
  refine wg_bipush (v := 119) X dX9_init_275 (by decide) ?_
  refine wg_bipush (v := 101) X dX9_init_277 (by decide) ?_
  refine wg_bipush (v := 97) X dX9_init_279 (by decide) ?_
  refine wg_bipush (v := 116) X dX9_init_281 (by decide) ?_
  refine wg_bipush (v := 104) X dX9_init_283 (by decide) ?_
  refine wg_bipush (v := 101) X dX9_init_285 (by decide) ?_
  refine wg_bipush (v := 114) X dX9_init_287 (by decide) ?_
  refine wg_bipush (v := 32) X dX9_init_289 (by decide) ?_
  obtain ⟨M283, h282, h⟩ := bd_some h
  refine wg_callVv (As := [.int (40 : Int32), .int (119 : Int32), .int (101 : Int32), .int (97 : Int32), .int (116 : Int32), .int (104 : Int32), .int (101 : Int32), .int (114 : Int32), .int (32 : Int32)]) (rest := []) X (c_X9_spell l E ad262 S267 (wg_SMb_iff.mp z270) C M281 (40 : Int32) (119 : Int32) (101 : Int32) (97 : Int32) (116 : Int32) (104 : Int32) (101 : Int32) (114 : Int32) (32 : Int32)  h282) T_yX9_spell k_879 cl9 z273 dX9_init_291 rfl rfl (Nat.le_of_ble_eq_true rfl) ⟨Nat.le_of_ble_eq_true rfl, Nat.le_of_ble_eq_true rfl⟩ ⟨Nat.le_of_ble_eq_true rfl, (Nat.le_of_ble_eq_true rfl)⟩ ?_
  refine wg_aload_n X 0 dX9_init_294 rfl rfl ?_
  refine wg_bipush (v := 48) X dX9_init_295 (by decide) ?_
  refine wg_bipush (v := 42) X dX9_init_297 (by decide) ?_
  refine wg_bipush (v := 32) X dX9_init_299 (by decide) ?_
  refine wg_bipush (v := 51) X dX9_init_301 (by decide) ?_
  refine wg_bipush (v := 32) X dX9_init_303 (by decide) ?_
  refine wg_bipush (v := 59) X dX9_init_305 (by decide) ?_
  refine wg_bipush (v := 32) X dX9_init_307 (by decide) ?_
  refine wg_bipush (v := 32) X dX9_init_309 (by decide) ?_
  refine wg_bipush (v := 32) X dX9_init_311 (by decide) ?_
  obtain ⟨M285, h284, h⟩ := bd_some h
  refine wg_callVv (As := [.int (48 : Int32), .int (42 : Int32), .int (32 : Int32), .int (51 : Int32), .int (32 : Int32), .int (59 : Int32), .int (32 : Int32), .int (32 : Int32), .int (32 : Int32)]) (rest := []) X (c_X9_spell l E ad262 S267 (wg_SMb_iff.mp z270) C M283 (48 : Int32) (42 : Int32) (32 : Int32) (51 : Int32) (32 : Int32) (59 : Int32) (32 : Int32) (32 : Int32) (32 : Int32)  h284) T_yX9_spell k_879 cl9 z273 dX9_init_313 rfl rfl (Nat.le_of_ble_eq_true rfl) ⟨Nat.le_of_ble_eq_true rfl, Nat.le_of_ble_eq_true rfl⟩ ⟨Nat.le_of_ble_eq_true rfl, (Nat.le_of_ble_eq_true rfl)⟩ ?_
  refine wg_aload_n X 0 dX9_init_316 rfl rfl ?_
  obtain ⟨z286, h⟩ := ck_some h
  refine wg_getR (b := 57) X cl9 z273 2 (by decide) dX9_init_317 k_884 rfl z286 ?_
  refine wg_iconst (v := 0) X dX9_init_320 (by decide) ?_
  refine wg_bipush (v := 56) X dX9_init_321 (by decide) ?_
  obtain ⟨z287, h⟩ := ck_some h
  obtain ⟨z288, h⟩ := ck_some h
  obtain ⟨z289, h⟩ := ck_some h
  obtain ⟨M290, e291, h⟩ := lt_some h
  refine wg_maste X z287 z288 z289 dX9_init_323 e291 ?_
  refine wg_aload_n X 0 dX9_init_324 rfl rfl ?_
  refine wg_iconst (v := 1) X dX9_init_325 (by decide) ?_
  obtain ⟨M292, e293, h⟩ := lt_some h
  refine wg_putMe X cl9 z273 3 (by decide) dX9_init_326 k_885 rfl rfl rfl rfl e293 ?_
  refine wg_widen (k := 19) (n := 2400) (Nat.le_of_ble_eq_true rfl) (Nat.le_of_ble_eq_true rfl) ?_
  exact wg_avret X hx269 rfl ⟨(Prod.mk.inj (sm_inj h)).1, rfl, (Prod.mk.inj (sm_inj h)).2⟩ hr dX9_init_329
