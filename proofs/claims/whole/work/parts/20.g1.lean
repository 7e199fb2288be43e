-- WindowsGive$House.has(I)Z (('c', 1), 'i')
def f_X0_has (C : wg_C) (p1 : Int32) : Option Int32 :=
  if p1 < 0 then (
    some (0 : Int32))
  else (
    if (C 1 2) ≤ p1 then (
      some (0 : Int32))
    else (
      some (1 : Int32)))
set_option maxHeartbeats 4000000 in
set_option maxRecDepth 100000 in
theorem c_X0_has (l : Launch) (E : wg_Ev) (ad : Nat → Nat) (S : wg_Sh) (hS : wg_SC S) (C : wg_C) (M : wg_M) (p1 : Int32)  {r0 : Int32} (h : f_X0_has C p1 = some r0) : wg_Ci l yX0_has cX0_has 2 (some .boolean) 0 0 E ad S C M [.ref (ad 1), .int p1] r0 C M := by
  refine wg_start (own := RX0) (by decide +kernel) rfl (Nat.le_of_ble_eq_true rfl) ?_
  intro p e s m below meth c X hr hnm
  refine wg_lv (lv' := [(0, .ref (ad 1)), (1, .int p1)]) rfl ?_
  unfold f_X0_has at h
  refine wg_iload_n X 1 dX0_has_0 rfl rfl ?_
  refine wg_if_lt X 16 dX0_has_1 (by decide) (fun c1 => ?_) (fun c1 => ?_)
  · have h := if_t c1 h
    refine wg_iconst (v := 0) X dX0_has_16 (by decide) ?_
    exact wg_zret X ⟨(sm_inj h), rfl, rfl⟩ hr (by decide) dX0_has_17
  · have h := if_f c1 h
    refine wg_iload_n X 1 dX0_has_4 rfl rfl ?_
    refine wg_aload_n X 0 dX0_has_5 rfl rfl ?_
    refine wg_getC X cl0 (SCi hS 1 0 rfl) 2 (by decide) dX0_has_6 k_146 rfl ?_
    refine wg_icmp_ge X 16 dX0_has_9 (by decide) (fun c2 => ?_) (fun c2 => ?_)
    · have h := if_t c2 h
      refine wg_iconst (v := 0) X dX0_has_16 (by decide) ?_
      exact wg_zret X ⟨(sm_inj h), rfl, rfl⟩ hr (by decide) dX0_has_17
    · have h := if_f c2 h
      refine wg_iconst (v := 1) X dX0_has_12 (by decide) ?_
      refine wg_goto X 17 dX0_has_13 (by decide) ?_
      exact wg_zret X ⟨(sm_inj h), rfl, rfl⟩ hr (by decide) dX0_has_17
-- WindowsGive$Pane.leads()I ('P',)
def f_X1_leads (C : wg_C) (p0 : Nat) : Option Int32 :=
  if (C p0 1) = (4 : Int32) then (
    some (C p0 4))
  else (
    some (C p0 5))
set_option maxHeartbeats 4000000 in
set_option maxRecDepth 100000 in
theorem c_X1_leads (l : Launch) (E : wg_Ev) (ad : Nat → Nat) (S : wg_Sh) (hS : wg_SC S) (C : wg_C) (M : wg_M) (p0 : Nat) (hp0 : wg_id S p0 1) {r0 : Int32} (h : f_X1_leads C p0 = some r0) : wg_Ci l yX1_leads cX1_leads 1 (some .int) 0 0 E ad S C M [.ref (ad p0)] r0 C M := by
  refine wg_start (own := RX1) (by decide +kernel) rfl (Nat.le_of_ble_eq_true rfl) ?_
  intro p e s m below meth c X hr hnm
  refine wg_lv (lv' := [(0, .ref (ad p0))]) rfl ?_
  unfold f_X1_leads at h
  refine wg_aload_n X 0 dX1_leads_0 rfl rfl ?_
  refine wg_getC X cl1 hp0 1 (by decide) dX1_leads_1 k_112 rfl ?_
  refine wg_iconst (v := 4) X dX1_leads_4 (by decide) ?_
  refine wg_icmp_ne X 15 dX1_leads_5 (by decide) (fun c1 => ?_) (fun c1 => ?_)
  · have h := if_f c1 h
    refine wg_aload_n X 0 dX1_leads_15 rfl rfl ?_
    refine wg_getC X cl1 hp0 5 (by decide) dX1_leads_16 k_124 rfl ?_
    exact wg_iret X ⟨(sm_inj h), rfl, rfl⟩ hr dX1_leads_19
  · have h := if_t c1 h
    refine wg_aload_n X 0 dX1_leads_8 rfl rfl ?_
    refine wg_getC X cl1 hp0 4 (by decide) dX1_leads_9 k_120 rfl ?_
    refine wg_goto X 19 dX1_leads_12 (by decide) ?_
    exact wg_iret X ⟨(sm_inj h), rfl, rfl⟩ hr dX1_leads_19
-- WindowsGive$Pane.tell(I)I ('P', 'i')
def f_X1_tell (C : wg_C) (p0 : Nat) (p1 : Int32) : Option Int32 :=
  if p1 = (1 : Int32) then (
    some (C p0 2))
  else
  if p1 = (2 : Int32) then (
    some (C p0 3))
  else
  if p1 = (3 : Int32) then (
    some (C p0 4))
  else
  if p1 = (4 : Int32) then (
    some (C p0 5))
  else
  if p1 = (5 : Int32) then (
    some (C p0 1))
  else
  if p1 = (6 : Int32) then (
    bd (f_X1_leads C p0) fun r8 =>
    some r8)
  else
  some (-100 : Int32)
set_option maxHeartbeats 4000000 in
set_option maxRecDepth 100000 in
theorem c_X1_tell (l : Launch) (E : wg_Ev) (ad : Nat → Nat) (S : wg_Sh) (hS : wg_SC S) (C : wg_C) (M : wg_M) (p0 : Nat) (p1 : Int32) (hp0 : wg_id S p0 1) {r0 : Int32} (h : f_X1_tell C p0 p1 = some r0) : wg_Ci l yX1_tell cX1_tell 2 (some .int) 1 20 E ad S C M [.ref (ad p0), .int p1] r0 C M := by
  refine wg_start (own := RX1) (by decide +kernel) rfl (Nat.le_of_ble_eq_true rfl) ?_
  intro p e s m below meth c X hr hnm
  refine wg_lv (lv' := [(0, .ref (ad p0)), (1, .int p1)]) rfl ?_
  unfold f_X1_tell at h
  refine wg_iload_n X 1 dX1_tell_0 rfl rfl ?_
  by_cases c1 : p1 = (1 : Int32)
  · have h := if_t c1 h
    refine wg_tblIn (off := 39) X 40 dX1_tell_1 c1 (by decide) (by decide) (by decide) (by decide) ?_
    refine wg_aload_n X 0 dX1_tell_40 rfl rfl ?_
    refine wg_getC X cl1 hp0 2 (by decide) dX1_tell_41 k_114 rfl ?_
    exact wg_iret X ⟨(sm_inj h), rfl, rfl⟩ hr dX1_tell_44
  have h := if_f c1 h
  by_cases c2 : p1 = (2 : Int32)
  · have h := if_t c2 h
    refine wg_tblIn (off := 44) X 45 dX1_tell_1 c2 (by decide) (by decide) (by decide) (by decide) ?_
    refine wg_aload_n X 0 dX1_tell_45 rfl rfl ?_
    refine wg_getC X cl1 hp0 3 (by decide) dX1_tell_46 k_117 rfl ?_
    exact wg_iret X ⟨(sm_inj h), rfl, rfl⟩ hr dX1_tell_49
  have h := if_f c2 h
  by_cases c3 : p1 = (3 : Int32)
  · have h := if_t c3 h
    refine wg_tblIn (off := 49) X 50 dX1_tell_1 c3 (by decide) (by decide) (by decide) (by decide) ?_
    refine wg_aload_n X 0 dX1_tell_50 rfl rfl ?_
    refine wg_getC X cl1 hp0 4 (by decide) dX1_tell_51 k_120 rfl ?_
    exact wg_iret X ⟨(sm_inj h), rfl, rfl⟩ hr dX1_tell_54
  have h := if_f c3 h
  by_cases c4 : p1 = (4 : Int32)
  · have h := if_t c4 h
    refine wg_tblIn (off := 54) X 55 dX1_tell_1 c4 (by decide) (by decide) (by decide) (by decide) ?_
    refine wg_aload_n X 0 dX1_tell_55 rfl rfl ?_
    refine wg_getC X cl1 hp0 5 (by decide) dX1_tell_56 k_124 rfl ?_
    exact wg_iret X ⟨(sm_inj h), rfl, rfl⟩ hr dX1_tell_59
  have h := if_f c4 h
  by_cases c5 : p1 = (5 : Int32)
  · have h := if_t c5 h
    refine wg_tblIn (off := 59) X 60 dX1_tell_1 c5 (by decide) (by decide) (by decide) (by decide) ?_
    refine wg_aload_n X 0 dX1_tell_60 rfl rfl ?_
    refine wg_getC X cl1 hp0 1 (by decide) dX1_tell_61 k_112 rfl ?_
    exact wg_iret X ⟨(sm_inj h), rfl, rfl⟩ hr dX1_tell_64
  have h := if_f c5 h
  by_cases c6 : p1 = (6 : Int32)
  · have h := if_t c6 h
    refine wg_tblIn (off := 64) X 65 dX1_tell_1 c6 (by decide) (by decide) (by decide) (by decide) ?_
    refine wg_aload_n X 0 dX1_tell_65 rfl rfl ?_
    obtain ⟨r8, h7, h⟩ := bd_some h
    refine wg_callVi (As := []) (rest := []) X (c_X1_leads l E ad S hS C M p0 hp0 h7) T_yX1_leads k_528 cl1 hp0 dX1_tell_66 rfl rfl (Nat.le_of_ble_eq_true rfl) ⟨Nat.le_of_ble_eq_true rfl, Nat.le_of_ble_eq_true rfl⟩ ⟨Nat.zero_le _, Nat.zero_le _⟩ ?_
    exact wg_iret X ⟨(sm_inj h), rfl, rfl⟩ hr dX1_tell_69
  have h := if_f c6 h
  refine wg_tblOut X 70 dX1_tell_1 (wg_tout (1) (6) (fun k hk => by
      rcases (show k = 0 ∨ k = 1 ∨ k = 2 ∨ k = 3 ∨ k = 4 ∨ k = 5 by omega) with rfl | rfl | rfl | rfl | rfl | rfl
      · exact fun q => c1 (q.trans (by decide))
      · exact fun q => c2 (q.trans (by decide))
      · exact fun q => c3 (q.trans (by decide))
      · exact fun q => c4 (q.trans (by decide))
      · exact fun q => c5 (q.trans (by decide))
      · exact fun q => c6 (q.trans (by decide))) (by decide) (by decide)) (by decide) ?_
  refine wg_bipush (v := -100) X dX1_tell_70 (by decide) ?_
  exact wg_iret X ⟨(sm_inj h), rfl, rfl⟩ hr dX1_tell_72
-- WindowsGive.isDay(I)Z ('i',)
def f_X8_isDay (p0 : Int32) : Option Int32 :=
  if p0 < 0 then (
    some (0 : Int32))
  else (
    if (32 : Int32) ≤ p0 then (
      some (0 : Int32))
    else (
      some (1 : Int32)))
set_option maxHeartbeats 4000000 in
set_option maxRecDepth 100000 in
theorem c_X8_isDay (l : Launch) (E : wg_Ev) (ad : Nat → Nat) (S : wg_Sh) (C : wg_C) (M : wg_M) (p0 : Int32)  {r0 : Int32} (h : f_X8_isDay p0 = some r0) : wg_Ci l yX8_isDay cX8_isDay 1 (some .boolean) 0 0 E ad S C M [.int p0] r0 C M := by
  refine wg_start (own := RX8) (by decide +kernel) rfl (Nat.le_of_ble_eq_true rfl) ?_
  intro p e s m below meth c X hr hnm
  refine wg_lv (lv' := [(0, .int p0)]) rfl ?_
  unfold f_X8_isDay at h
  refine wg_iload_n X 0 dX8_isDay_0 rfl rfl ?_
  refine wg_if_lt X 14 dX8_isDay_1 (by decide) (fun c1 => ?_) (fun c1 => ?_)
  · have h := if_t c1 h
    refine wg_iconst (v := 0) X dX8_isDay_14 (by decide) ?_
    exact wg_zret X ⟨(sm_inj h), rfl, rfl⟩ hr (by decide) dX8_isDay_15
  · have h := if_f c1 h
    refine wg_iload_n X 0 dX8_isDay_4 rfl rfl ?_
    refine wg_bipush (v := 32) X dX8_isDay_5 (by decide) ?_
    refine wg_icmp_ge X 14 dX8_isDay_7 (by decide) (fun c2 => ?_) (fun c2 => ?_)
    · have h := if_t c2 h
      refine wg_iconst (v := 0) X dX8_isDay_14 (by decide) ?_
      exact wg_zret X ⟨(sm_inj h), rfl, rfl⟩ hr (by decide) dX8_isDay_15
    · have h := if_f c2 h
      refine wg_iconst (v := 1) X dX8_isDay_10 (by decide) ?_
      refine wg_goto X 15 dX8_isDay_11 (by decide) ?_
      exact wg_zret X ⟨(sm_inj h), rfl, rfl⟩ hr (by decide) dX8_isDay_15
-- WindowsGive.told(II)I (('c', 0), 'i', 'i')
def f_X8_told (C : wg_C) (p1 : Int32) (p2 : Int32) : Option Int32 :=
  if p2 = 0 then (
    bd (f_X8_isDay p1) fun r9 =>
    if r9 = 0 then (
      some (-100 : Int32))
    else (
      ck (inb p1 32) <|
      some (C 2 p1.toNatClampNeg)))
  else (
    bd (f_X0_has C p1) fun r3 =>
    if r3 = 0 then (
      some (-100 : Int32))
    else (
      ck (inb p1 8) <|
      bd (f_X1_tell C (4 + p1.toNatClampNeg) p2) fun r7 =>
      some r7))
set_option maxHeartbeats 4000000 in
set_option maxRecDepth 100000 in
theorem c_X8_told (l : Launch) (E : wg_Ev) (ad : Nat → Nat) (S : wg_Sh) (hS : wg_SC S) (C : wg_C) (M : wg_M) (p1 : Int32) (p2 : Int32)  {r0 : Int32} (h : f_X8_told C p1 p2 = some r0) : wg_Ci l yX8_told cX8_told 3 (some .int) 2 41 E ad S C M [.ref (ad 0), .int p1, .int p2] r0 C M := by
  refine wg_start (own := RX8) (by decide +kernel) rfl (Nat.le_of_ble_eq_true rfl) ?_
  intro p e s m below meth c X hr hnm
  refine wg_lv (lv' := [(0, .ref (ad 0)), (1, .int p1), (2, .int p2)]) rfl ?_
  unfold f_X8_told at h
  refine wg_iload_n X 2 dX8_told_0 rfl rfl ?_
  refine wg_if_ne X 26 dX8_told_1 (by decide) (fun c1 => ?_) (fun c1 => ?_)
  · have h := if_f c1 h
    refine wg_aload_n X 0 dX8_told_26 rfl rfl ?_
    refine wg_getR (b := 1) X cl8 (SCi hS 0 8 rfl) 0 (by decide) dX8_told_27 k_472 rfl (SCr hS 0 0 1 rfl) ?_
    refine wg_iload_n X 1 dX8_told_30 rfl rfl ?_
    obtain ⟨r3, h2, h⟩ := bd_some h
    refine wg_callVi (As := [.int p1]) (rest := []) X (c_X0_has l E ad S hS C M p1  h2) T_yX0_has k_520 cl0 (SCi hS 1 0 rfl) dX8_told_31 rfl rfl (Nat.le_of_ble_eq_true rfl) ⟨Nat.le_of_ble_eq_true rfl, Nat.le_of_ble_eq_true rfl⟩ ⟨Nat.zero_le _, Nat.zero_le _⟩ ?_
    refine wg_if_eq X 53 dX8_told_34 (by decide) (fun c4 => ?_) (fun c4 => ?_)
    · have h := if_t c4 h
      refine wg_bipush (v := -100) X dX8_told_53 (by decide) ?_
      exact wg_iret X ⟨(sm_inj h), rfl, rfl⟩ hr dX8_told_55
    · have h := if_f c4 h
      refine wg_aload_n X 0 dX8_told_37 rfl rfl ?_
      refine wg_getR (b := 1) X cl8 (SCi hS 0 8 rfl) 0 (by decide) dX8_told_38 k_472 rfl (SCr hS 0 0 1 rfl) ?_
      refine wg_getR (b := 3) X cl0 (SCi hS 1 0 rfl) 1 (by decide) dX8_told_41 k_144 rfl (SCr hS 1 1 3 rfl) ?_
      refine wg_iload_n X 1 dX8_told_44 rfl rfl ?_
      obtain ⟨z5, h⟩ := ck_some h
      refine wg_aalS13 (b := 4 + p1.toNatClampNeg) X (SCi hS 3 13 rfl) (SCl hS 3 8 rfl) z5 (SCp hS (inb_lt z5)).1 dX8_told_45 ?_
      refine wg_iload_n X 2 dX8_told_46 rfl rfl ?_
      obtain ⟨r7, h6, h⟩ := bd_some h
      refine wg_callVi (As := [.int p2]) (rest := []) X (c_X1_tell l E ad S hS C M (4 + p1.toNatClampNeg) p2 ((SCp hS (inb_lt z5)).2.1) h6) T_yX1_tell k_524 cl1 ((SCp hS (inb_lt z5)).2.1) dX8_told_47 rfl rfl (Nat.le_of_ble_eq_true rfl) ⟨Nat.le_of_ble_eq_true rfl, Nat.le_of_ble_eq_true rfl⟩ ⟨Nat.zero_le _, Nat.zero_le _⟩ ?_
      refine wg_goto X 55 dX8_told_50 (by decide) ?_
      exact wg_iret X ⟨(sm_inj h), rfl, rfl⟩ hr dX8_told_55
  · have h := if_t c1 h
    refine wg_iload_n X 1 dX8_told_4 rfl rfl ?_
    obtain ⟨r9, h8, h⟩ := bd_some h
    refine wg_callSi (As := [.int p1]) (rest := []) X (c_X8_isDay l E ad S C M p1  h8) T_yX8_isDay k_517 dX8_told_5 rfl rfl (Nat.le_of_ble_eq_true rfl) ⟨Nat.le_of_ble_eq_true rfl, Nat.le_of_ble_eq_true rfl⟩ ⟨Nat.zero_le _, Nat.zero_le _⟩ ?_
    refine wg_if_eq X 23 dX8_told_8 (by decide) (fun c10 => ?_) (fun c10 => ?_)
    · have h := if_t c10 h
      refine wg_bipush (v := -100) X dX8_told_23 (by decide) ?_
      exact wg_iret X ⟨(sm_inj h), rfl, rfl⟩ hr dX8_told_25
    · have h := if_f c10 h
      refine wg_aload_n X 0 dX8_told_11 rfl rfl ?_
      refine wg_getR (b := 1) X cl8 (SCi hS 0 8 rfl) 0 (by decide) dX8_told_12 k_472 rfl (SCr hS 0 0 1 rfl) ?_
      refine wg_getR (b := 2) X cl0 (SCi hS 1 0 rfl) 0 (by decide) dX8_told_15 k_141 rfl (SCr hS 1 0 2 rfl) ?_
      refine wg_iload_n X 1 dX8_told_18 rfl rfl ?_
      obtain ⟨z11, h⟩ := ck_some h
      refine wg_iald X (SCi hS 2 10 rfl) (SCl hS 2 32 rfl) z11 dX8_told_19 ?_
      refine wg_goto X 25 dX8_told_20 (by decide) ?_
      exact wg_iret X ⟨(sm_inj h), rfl, rfl⟩ hr dX8_told_25
-- WindowsGive.isRoom(I)Z ('i',)
def f_X8_isRoom (p0 : Int32) : Option Int32 :=
  if p0 < 0 then (
    some (0 : Int32))
  else (
    if (6 : Int32) ≤ p0 then (
      some (0 : Int32))
    else (
      some (1 : Int32)))
set_option maxHeartbeats 4000000 in
set_option maxRecDepth 100000 in
theorem c_X8_isRoom (l : Launch) (E : wg_Ev) (ad : Nat → Nat) (S : wg_Sh) (C : wg_C) (M : wg_M) (p0 : Int32)  {r0 : Int32} (h : f_X8_isRoom p0 = some r0) : wg_Ci l yX8_isRoom cX8_isRoom 1 (some .boolean) 0 0 E ad S C M [.int p0] r0 C M := by
  refine wg_start (own := RX8) (by decide +kernel) rfl (Nat.le_of_ble_eq_true rfl) ?_
  intro p e s m below meth c X hr hnm
  refine wg_lv (lv' := [(0, .int p0)]) rfl ?_
  unfold f_X8_isRoom at h
  refine wg_iload_n X 0 dX8_isRoom_0 rfl rfl ?_
  refine wg_if_lt X 14 dX8_isRoom_1 (by decide) (fun c1 => ?_) (fun c1 => ?_)
  · have h := if_t c1 h
    refine wg_iconst (v := 0) X dX8_isRoom_14 (by decide) ?_
    exact wg_zret X ⟨(sm_inj h), rfl, rfl⟩ hr (by decide) dX8_isRoom_15
  · have h := if_f c1 h
    refine wg_iload_n X 0 dX8_isRoom_4 rfl rfl ?_
    refine wg_bipush (v := 6) X dX8_isRoom_5 (by decide) ?_
    refine wg_icmp_ge X 14 dX8_isRoom_7 (by decide) (fun c2 => ?_) (fun c2 => ?_)
    · have h := if_t c2 h
      refine wg_iconst (v := 0) X dX8_isRoom_14 (by decide) ?_
      exact wg_zret X ⟨(sm_inj h), rfl, rfl⟩ hr (by decide) dX8_isRoom_15
    · have h := if_f c2 h
      refine wg_iconst (v := 1) X dX8_isRoom_10 (by decide) ?_
      refine wg_goto X 15 dX8_isRoom_11 (by decide) ?_
      exact wg_zret X ⟨(sm_inj h), rfl, rfl⟩ hr (by decide) dX8_isRoom_15
-- WindowsGive.fits(II)Z ('i', 'i')
def f_X8_fits (p0 : Int32) (p1 : Int32) : Option Int32 :=
  if p0 = (0 : Int32) then (
    if p1 < 0 then (
      some (0 : Int32))
    else (
      if (9 : Int32) < p1 then (
        some (0 : Int32))
      else (
        some (1 : Int32))))
  else
  if p0 = (1 : Int32) then (
    if p1 < 0 then (
      some (0 : Int32))
    else (
      if (9 : Int32) < p1 then (
        some (0 : Int32))
      else (
        some (1 : Int32))))
  else
  if p0 = (2 : Int32) then (
    if p1 < (-9 : Int32) then (
      some (0 : Int32))
    else (
      if (9 : Int32) < p1 then (
        some (0 : Int32))
      else (
        some (1 : Int32))))
  else
  if p0 = (3 : Int32) then (
    bd (f_X8_isRoom p1) fun r12 =>
    ck (r12 = 0 ∨ r12 = 1) <|
    some r12)
  else
  if p0 = (4 : Int32) then (
    bd (f_X8_isRoom p1) fun r16 =>
    ck (r16 = 0 ∨ r16 = 1) <|
    some r16)
  else
  some (0 : Int32)
set_option maxHeartbeats 4000000 in
set_option maxRecDepth 100000 in
theorem c_X8_fits (l : Launch) (E : wg_Ev) (ad : Nat → Nat) (S : wg_Sh) (C : wg_C) (M : wg_M) (p0 : Int32) (p1 : Int32)  {r0 : Int32} (h : f_X8_fits p0 p1 = some r0) : wg_Ci l yX8_fits cX8_fits 2 (some .boolean) 1 20 E ad S C M [.int p0, .int p1] r0 C M := by
  refine wg_start (own := RX8) (by decide +kernel) rfl (Nat.le_of_ble_eq_true rfl) ?_
  intro p e s m below meth c X hr hnm
  refine wg_lv (lv' := [(0, .int p0), (1, .int p1)]) rfl ?_
  unfold f_X8_fits at h
  refine wg_iload_n X 0 dX8_fits_0 rfl rfl ?_
  by_cases c1 : p0 = (0 : Int32)
  · have h := if_t c1 h
    refine wg_tblIn (off := 35) X 36 dX8_fits_1 c1 (by decide) (by decide) (by decide) (by decide) ?_
    refine wg_iload_n X 1 dX8_fits_36 rfl rfl ?_
    refine wg_if_lt X 50 dX8_fits_37 (by decide) (fun c2 => ?_) (fun c2 => ?_)
    · have h := if_t c2 h
      refine wg_iconst (v := 0) X dX8_fits_50 (by decide) ?_
      exact wg_zret X ⟨(sm_inj h), rfl, rfl⟩ hr (by decide) dX8_fits_51
    · have h := if_f c2 h
      refine wg_iload_n X 1 dX8_fits_40 rfl rfl ?_
      refine wg_bipush (v := 9) X dX8_fits_41 (by decide) ?_
      refine wg_icmp_gt X 50 dX8_fits_43 (by decide) (fun c3 => ?_) (fun c3 => ?_)
      · have h := if_t c3 h
        refine wg_iconst (v := 0) X dX8_fits_50 (by decide) ?_
        exact wg_zret X ⟨(sm_inj h), rfl, rfl⟩ hr (by decide) dX8_fits_51
      · have h := if_f c3 h
        refine wg_iconst (v := 1) X dX8_fits_46 (by decide) ?_
        refine wg_goto X 51 dX8_fits_47 (by decide) ?_
        exact wg_zret X ⟨(sm_inj h), rfl, rfl⟩ hr (by decide) dX8_fits_51
  have h := if_f c1 h
  by_cases c4 : p0 = (1 : Int32)
  · have h := if_t c4 h
    refine wg_tblIn (off := 51) X 52 dX8_fits_1 c4 (by decide) (by decide) (by decide) (by decide) ?_
    refine wg_iload_n X 1 dX8_fits_52 rfl rfl ?_
    refine wg_if_lt X 66 dX8_fits_53 (by decide) (fun c5 => ?_) (fun c5 => ?_)
    · have h := if_t c5 h
      refine wg_iconst (v := 0) X dX8_fits_66 (by decide) ?_
      exact wg_zret X ⟨(sm_inj h), rfl, rfl⟩ hr (by decide) dX8_fits_67
    · have h := if_f c5 h
      refine wg_iload_n X 1 dX8_fits_56 rfl rfl ?_
      refine wg_bipush (v := 9) X dX8_fits_57 (by decide) ?_
      refine wg_icmp_gt X 66 dX8_fits_59 (by decide) (fun c6 => ?_) (fun c6 => ?_)
      · have h := if_t c6 h
        refine wg_iconst (v := 0) X dX8_fits_66 (by decide) ?_
        exact wg_zret X ⟨(sm_inj h), rfl, rfl⟩ hr (by decide) dX8_fits_67
      · have h := if_f c6 h
        refine wg_iconst (v := 1) X dX8_fits_62 (by decide) ?_
        refine wg_goto X 67 dX8_fits_63 (by decide) ?_
        exact wg_zret X ⟨(sm_inj h), rfl, rfl⟩ hr (by decide) dX8_fits_67
  have h := if_f c4 h
  by_cases c7 : p0 = (2 : Int32)
  · have h := if_t c7 h
    refine wg_tblIn (off := 67) X 68 dX8_fits_1 c7 (by decide) (by decide) (by decide) (by decide) ?_
    refine wg_iload_n X 1 dX8_fits_68 rfl rfl ?_
    refine wg_bipush (v := -9) X dX8_fits_69 (by decide) ?_
    refine wg_icmp_lt X 84 dX8_fits_71 (by decide) (fun c8 => ?_) (fun c8 => ?_)
    · have h := if_t c8 h
      refine wg_iconst (v := 0) X dX8_fits_84 (by decide) ?_
      exact wg_zret X ⟨(sm_inj h), rfl, rfl⟩ hr (by decide) dX8_fits_85
    · have h := if_f c8 h
      refine wg_iload_n X 1 dX8_fits_74 rfl rfl ?_
      refine wg_bipush (v := 9) X dX8_fits_75 (by decide) ?_
      refine wg_icmp_gt X 84 dX8_fits_77 (by decide) (fun c9 => ?_) (fun c9 => ?_)
      · have h := if_t c9 h
        refine wg_iconst (v := 0) X dX8_fits_84 (by decide) ?_
        exact wg_zret X ⟨(sm_inj h), rfl, rfl⟩ hr (by decide) dX8_fits_85
      · have h := if_f c9 h
        refine wg_iconst (v := 1) X dX8_fits_80 (by decide) ?_
        refine wg_goto X 85 dX8_fits_81 (by decide) ?_
        exact wg_zret X ⟨(sm_inj h), rfl, rfl⟩ hr (by decide) dX8_fits_85
  have h := if_f c7 h
  by_cases c10 : p0 = (3 : Int32)
  · have h := if_t c10 h
    refine wg_tblIn (off := 85) X 86 dX8_fits_1 c10 (by decide) (by decide) (by decide) (by decide) ?_
    refine wg_iload_n X 1 dX8_fits_86 rfl rfl ?_
    obtain ⟨r12, h11, h⟩ := bd_some h
    refine wg_callSi (As := [.int p1]) (rest := []) X (c_X8_isRoom l E ad S C M p1  h11) T_yX8_isRoom k_535 dX8_fits_87 rfl rfl (Nat.le_of_ble_eq_true rfl) ⟨Nat.le_of_ble_eq_true rfl, Nat.le_of_ble_eq_true rfl⟩ ⟨Nat.zero_le _, Nat.zero_le _⟩ ?_
    obtain ⟨z13, h⟩ := ck_some h
    exact wg_zret X ⟨(sm_inj h), rfl, rfl⟩ hr z13 dX8_fits_90
  have h := if_f c10 h
  by_cases c14 : p0 = (4 : Int32)
  · have h := if_t c14 h
    refine wg_tblIn (off := 85) X 86 dX8_fits_1 c14 (by decide) (by decide) (by decide) (by decide) ?_
    refine wg_iload_n X 1 dX8_fits_86 rfl rfl ?_
    obtain ⟨r16, h15, h⟩ := bd_some h
    refine wg_callSi (As := [.int p1]) (rest := []) X (c_X8_isRoom l E ad S C M p1  h15) T_yX8_isRoom k_535 dX8_fits_87 rfl rfl (Nat.le_of_ble_eq_true rfl) ⟨Nat.le_of_ble_eq_true rfl, Nat.le_of_ble_eq_true rfl⟩ ⟨Nat.zero_le _, Nat.zero_le _⟩ ?_
    obtain ⟨z17, h⟩ := ck_some h
    exact wg_zret X ⟨(sm_inj h), rfl, rfl⟩ hr z17 dX8_fits_90
  have h := if_f c14 h
  refine wg_tblOut X 91 dX8_fits_1 (wg_tout (0) (4) (fun k hk => by
      rcases (show k = 0 ∨ k = 1 ∨ k = 2 ∨ k = 3 ∨ k = 4 by omega) with rfl | rfl | rfl | rfl | rfl
      · exact fun q => c1 (q.trans (by decide))
      · exact fun q => c4 (q.trans (by decide))
      · exact fun q => c7 (q.trans (by decide))
      · exact fun q => c10 (q.trans (by decide))
      · exact fun q => c14 (q.trans (by decide))) (by decide) (by decide)) (by decide) ?_
  refine wg_iconst (v := 0) X dX8_fits_91 (by decide) ?_
  exact wg_zret X ⟨(sm_inj h), rfl, rfl⟩ hr (by decide) dX8_fits_92
-- WindowsGive$Pane.change(II)V ('P', 'i', 'i')
def f_X1_change (C : wg_C) (p0 : Nat) (p1 : Int32) (p2 : Int32) : Option wg_C :=
  if p1 = (1 : Int32) then (
    lt_ (wg_up C p0 2 p2) fun C2 =>
    some C2)
  else
  if p1 = (2 : Int32) then (
    lt_ (wg_up C p0 3 p2) fun C5 =>
    some C5)
  else
  if p1 = (3 : Int32) then (
    lt_ (wg_up C p0 4 p2) fun C8 =>
    some C8)
  else
  if p1 = (4 : Int32) then (
    lt_ (wg_up C p0 5 p2) fun C11 =>
    some C11)
  else
  some C
set_option maxHeartbeats 4000000 in
set_option maxRecDepth 100000 in
theorem c_X1_change (l : Launch) (E : wg_Ev) (ad : Nat → Nat) (S : wg_Sh) (hS : wg_SC S) (C : wg_C) (M : wg_M) (p0 : Nat) (p1 : Int32) (p2 : Int32) (hp0 : wg_id S p0 1) {D0 : wg_C} (h : f_X1_change C p0 p1 p2 = some D0) : wg_Cv l yX1_change cX1_change 3 none 0 0 E ad S C M [.ref (ad p0), .int p1, .int p2] D0 M := by
  refine wg_start (own := RX1) (by decide +kernel) rfl (Nat.le_of_ble_eq_true rfl) ?_
  intro p e s m below meth c X hr hnm
  refine wg_lv (lv' := [(0, .ref (ad p0)), (1, .int p1), (2, .int p2)]) rfl ?_
  unfold f_X1_change at h
  refine wg_iload_n X 1 dX1_change_0 rfl rfl ?_
  by_cases c1 : p1 = (1 : Int32)
  · have h := if_t c1 h
    refine wg_tblIn (off := 31) X 32 dX1_change_1 c1 (by decide) (by decide) (by decide) (by decide) ?_
    refine wg_aload_n X 0 dX1_change_32 rfl rfl ?_
    refine wg_iload_n X 2 dX1_change_33 rfl rfl ?_
    obtain ⟨C2, e3, h⟩ := lt_some h
    refine wg_putCe X cl1 hp0 2 (by decide) dX1_change_34 k_114 rfl rfl rfl rfl e3 ?_
    refine wg_goto X 64 dX1_change_37 (by decide) ?_
    exact wg_vret X ⟨(sm_inj h), rfl⟩ hr dX1_change_64
  have h := if_f c1 h
  by_cases c4 : p1 = (2 : Int32)
  · have h := if_t c4 h
    refine wg_tblIn (off := 39) X 40 dX1_change_1 c4 (by decide) (by decide) (by decide) (by decide) ?_
    refine wg_aload_n X 0 dX1_change_40 rfl rfl ?_
    refine wg_iload_n X 2 dX1_change_41 rfl rfl ?_
    obtain ⟨C5, e6, h⟩ := lt_some h
    refine wg_putCe X cl1 hp0 3 (by decide) dX1_change_42 k_117 rfl rfl rfl rfl e6 ?_
    refine wg_goto X 64 dX1_change_45 (by decide) ?_
    exact wg_vret X ⟨(sm_inj h), rfl⟩ hr dX1_change_64
  have h := if_f c4 h
  by_cases c7 : p1 = (3 : Int32)
  · have h := if_t c7 h
    refine wg_tblIn (off := 47) X 48 dX1_change_1 c7 (by decide) (by decide) (by decide) (by decide) ?_
    refine wg_aload_n X 0 dX1_change_48 rfl rfl ?_
    refine wg_iload_n X 2 dX1_change_49 rfl rfl ?_
    obtain ⟨C8, e9, h⟩ := lt_some h
    refine wg_putCe X cl1 hp0 4 (by decide) dX1_change_50 k_120 rfl rfl rfl rfl e9 ?_
    refine wg_goto X 64 dX1_change_53 (by decide) ?_
    exact wg_vret X ⟨(sm_inj h), rfl⟩ hr dX1_change_64
  have h := if_f c7 h
  by_cases c10 : p1 = (4 : Int32)
  · have h := if_t c10 h
    refine wg_tblIn (off := 55) X 56 dX1_change_1 c10 (by decide) (by decide) (by decide) (by decide) ?_
    refine wg_aload_n X 0 dX1_change_56 rfl rfl ?_
    refine wg_iload_n X 2 dX1_change_57 rfl rfl ?_
    obtain ⟨C11, e12, h⟩ := lt_some h
    refine wg_putCe X cl1 hp0 5 (by decide) dX1_change_58 k_124 rfl rfl rfl rfl e12 ?_
    refine wg_goto X 64 dX1_change_61 (by decide) ?_
    exact wg_vret X ⟨(sm_inj h), rfl⟩ hr dX1_change_64
  have h := if_f c10 h
  refine wg_tblOut X 64 dX1_change_1 (wg_tout (1) (4) (fun k hk => by
      rcases (show k = 0 ∨ k = 1 ∨ k = 2 ∨ k = 3 by omega) with rfl | rfl | rfl | rfl
      · exact fun q => c1 (q.trans (by decide))
      · exact fun q => c4 (q.trans (by decide))
      · exact fun q => c7 (q.trans (by decide))
      · exact fun q => c10 (q.trans (by decide))) (by decide) (by decide)) (by decide) ?_
  exact wg_vret X ⟨(sm_inj h), rfl⟩ hr dX1_change_64
-- WindowsGive.set(III)I (('c', 0), 'i', 'i', 'i')
def f_X8_set (C : wg_C) (p1 : Int32) (p2 : Int32) (p3 : Int32) : Option (Int32 × wg_C) :=
  bd (f_X8_told C p2 p1) fun r2 =>
  if r2 = (-100 : Int32) then (
    some ((-100 : Int32), C))
  else (
    bd (f_X8_fits p1 p3) fun r5 =>
    if r5 = 0 then (
      some ((-100 : Int32), C))
    else (
      if p1 = 0 then (
        ck (inb p2 32) <|
        lt_ (wg_up C 2 p2.toNatClampNeg p3) fun C12 =>
        some (r2, C12))
      else (
        ck (inb p2 8) <|
        bd (f_X1_change C (4 + p2.toNatClampNeg) p1 p3) fun C10 =>
        some (r2, C10))))
set_option maxHeartbeats 4000000 in
set_option maxRecDepth 100000 in
theorem c_X8_set (l : Launch) (E : wg_Ev) (ad : Nat → Nat) (S : wg_Sh) (hS : wg_SC S) (C : wg_C) (M : wg_M) (p1 : Int32) (p2 : Int32) (p3 : Int32)  {r0 : Int32} {D0 : wg_C} (h : f_X8_set C p1 p2 p3 = some (r0, D0)) : wg_Ci l yX8_set cX8_set 5 (some .int) 3 63 E ad S C M [.ref (ad 0), .int p1, .int p2, .int p3] r0 D0 M := by
  refine wg_start (own := RX8) (by decide +kernel) rfl (Nat.le_of_ble_eq_true rfl) ?_
  intro p e s m below meth c X hr hnm
  refine wg_lv (lv' := [(0, .ref (ad 0)), (1, .int p1), (2, .int p2), (3, .int p3)]) rfl ?_
  unfold f_X8_set at h
  refine wg_aload_n X 0 dX8_set_0 rfl rfl ?_
  refine wg_iload_n X 2 dX8_set_1 rfl rfl ?_
  refine wg_iload_n X 1 dX8_set_2 rfl rfl ?_
  obtain ⟨r2, h1, h⟩ := bd_some h
  refine wg_callVi (As := [.int p2, .int p1]) (rest := []) X (c_X8_told l E ad S hS C M p2 p1  h1) T_yX8_told k_513 cl8 (SCi hS 0 8 rfl) dX8_set_3 rfl rfl (Nat.le_of_ble_eq_true rfl) ⟨Nat.le_of_ble_eq_true rfl, Nat.le_of_ble_eq_true rfl⟩ ⟨Nat.zero_le _, Nat.zero_le _⟩ ?_
  refine wg_istore (lv' := [(4, .int r2), (0, .ref (ad 0)), (1, .int p1), (2, .int p2), (3, .int p3)]) X dX8_set_6 rfl (by decide) rfl ?_
  refine wg_iload X 0 dX8_set_8 rfl ?_
  refine wg_bipush (v := -100) X dX8_set_10 (by decide) ?_
  refine wg_icmp_eq X 23 dX8_set_12 (by decide) (fun c3 => ?_) (fun c3 => ?_)
  · have h := if_t c3 h
    refine wg_bipush (v := -100) X dX8_set_23 (by decide) ?_
    exact wg_iret X ⟨(Prod.mk.inj (sm_inj h)).1, (Prod.mk.inj (sm_inj h)).2, rfl⟩ hr dX8_set_25
  · have h := if_f c3 h
    refine wg_iload_n X 2 dX8_set_15 rfl rfl ?_
    refine wg_iload_n X 4 dX8_set_16 rfl rfl ?_
    obtain ⟨r5, h4, h⟩ := bd_some h
    refine wg_callSi (As := [.int p1, .int p3]) (rest := []) X (c_X8_fits l E ad S C M p1 p3  h4) T_yX8_fits k_532 dX8_set_17 rfl rfl (Nat.le_of_ble_eq_true rfl) ⟨Nat.le_of_ble_eq_true rfl, Nat.le_of_ble_eq_true rfl⟩ ⟨Nat.zero_le _, Nat.zero_le _⟩ ?_
    refine wg_if_ne X 26 dX8_set_20 (by decide) (fun c6 => ?_) (fun c6 => ?_)
    · have h := if_f c6 h
      refine wg_iload_n X 2 dX8_set_26 rfl rfl ?_
      refine wg_if_ne X 43 dX8_set_27 (by decide) (fun c7 => ?_) (fun c7 => ?_)
      · have h := if_f c7 h
        refine wg_aload_n X 1 dX8_set_43 rfl rfl ?_
        refine wg_getR (b := 1) X cl8 (SCi hS 0 8 rfl) 0 (by decide) dX8_set_44 k_472 rfl (SCr hS 0 0 1 rfl) ?_
        refine wg_getR (b := 3) X cl0 (SCi hS 1 0 rfl) 1 (by decide) dX8_set_47 k_144 rfl (SCr hS 1 1 3 rfl) ?_
        refine wg_iload_n X 3 dX8_set_50 rfl rfl ?_
        obtain ⟨z8, h⟩ := ck_some h
        refine wg_aalS13 (b := 4 + p2.toNatClampNeg) X (SCi hS 3 13 rfl) (SCl hS 3 8 rfl) z8 (SCp hS (inb_lt z8)).1 dX8_set_51 ?_
        refine wg_iload_n X 2 dX8_set_52 rfl rfl ?_
        refine wg_iload_n X 4 dX8_set_53 rfl rfl ?_
        obtain ⟨C10, h9, h⟩ := bd_some h
        refine wg_callVv (As := [.int p1, .int p3]) (rest := []) X (c_X1_change l E ad S hS C M (4 + p2.toNatClampNeg) p1 p3 ((SCp hS (inb_lt z8)).2.1) h9) T_yX1_change k_538 cl1 ((SCp hS (inb_lt z8)).2.1) dX8_set_54 rfl rfl (Nat.le_of_ble_eq_true rfl) ⟨Nat.le_of_ble_eq_true rfl, Nat.le_of_ble_eq_true rfl⟩ ⟨Nat.zero_le _, Nat.zero_le _⟩ ?_
        refine wg_iload X 0 dX8_set_57 rfl ?_
        exact wg_iret X ⟨(Prod.mk.inj (sm_inj h)).1, (Prod.mk.inj (sm_inj h)).2, rfl⟩ hr dX8_set_59
      · have h := if_t c7 h
        refine wg_aload_n X 1 dX8_set_30 rfl rfl ?_
        refine wg_getR (b := 1) X cl8 (SCi hS 0 8 rfl) 0 (by decide) dX8_set_31 k_472 rfl (SCr hS 0 0 1 rfl) ?_
        refine wg_getR (b := 2) X cl0 (SCi hS 1 0 rfl) 0 (by decide) dX8_set_34 k_141 rfl (SCr hS 1 0 2 rfl) ?_
        refine wg_iload_n X 3 dX8_set_37 rfl rfl ?_
        refine wg_iload_n X 4 dX8_set_38 rfl rfl ?_
        obtain ⟨z11, h⟩ := ck_some h
        obtain ⟨C12, e13, h⟩ := lt_some h
        refine wg_iaste X (SCi hS 2 10 rfl) (SCl hS 2 32 rfl) z11 dX8_set_39 e13 ?_
        refine wg_goto X 57 dX8_set_40 (by decide) ?_
        refine wg_iload X 0 dX8_set_57 rfl ?_
        exact wg_iret X ⟨(Prod.mk.inj (sm_inj h)).1, (Prod.mk.inj (sm_inj h)).2, rfl⟩ hr dX8_set_59
    · have h := if_t c6 h
      refine wg_bipush (v := -100) X dX8_set_23 (by decide) ?_
      exact wg_iret X ⟨(Prod.mk.inj (sm_inj h)).1, (Prod.mk.inj (sm_inj h)).2, rfl⟩ hr dX8_set_25
-- WindowsGive.isKind(I)Z ('i',)
def f_X8_isKind (p0 : Int32) : Option Int32 :=
  if p0 < 0 then (
    some (0 : Int32))
  else (
    if (5 : Int32) < p0 then (
      some (0 : Int32))
    else (
      some (1 : Int32)))
set_option maxHeartbeats 4000000 in
set_option maxRecDepth 100000 in
theorem c_X8_isKind (l : Launch) (E : wg_Ev) (ad : Nat → Nat) (S : wg_Sh) (C : wg_C) (M : wg_M) (p0 : Int32)  {r0 : Int32} (h : f_X8_isKind p0 = some r0) : wg_Ci l yX8_isKind cX8_isKind 1 (some .boolean) 0 0 E ad S C M [.int p0] r0 C M := by
  refine wg_start (own := RX8) (by decide +kernel) rfl (Nat.le_of_ble_eq_true rfl) ?_
  intro p e s m below meth c X hr hnm
  refine wg_lv (lv' := [(0, .int p0)]) rfl ?_
  unfold f_X8_isKind at h
  refine wg_iload_n X 0 dX8_isKind_0 rfl rfl ?_
  refine wg_if_lt X 13 dX8_isKind_1 (by decide) (fun c1 => ?_) (fun c1 => ?_)
  · have h := if_t c1 h
    refine wg_iconst (v := 0) X dX8_isKind_13 (by decide) ?_
    exact wg_zret X ⟨(sm_inj h), rfl, rfl⟩ hr (by decide) dX8_isKind_14
  · have h := if_f c1 h
    refine wg_iload_n X 0 dX8_isKind_4 rfl rfl ?_
    refine wg_iconst (v := 5) X dX8_isKind_5 (by decide) ?_
    refine wg_icmp_gt X 13 dX8_isKind_6 (by decide) (fun c2 => ?_) (fun c2 => ?_)
    · have h := if_t c2 h
      refine wg_iconst (v := 0) X dX8_isKind_13 (by decide) ?_
      exact wg_zret X ⟨(sm_inj h), rfl, rfl⟩ hr (by decide) dX8_isKind_14
    · have h := if_f c2 h
      refine wg_iconst (v := 1) X dX8_isKind_9 (by decide) ?_
      refine wg_goto X 14 dX8_isKind_10 (by decide) ?_
      exact wg_zret X ⟨(sm_inj h), rfl, rfl⟩ hr (by decide) dX8_isKind_14
-- WindowsGive.pane(III)I (('c', 0), 'i', 'i', 'i')
def f_X8_pane (C : wg_C) (p1 : Int32) (p2 : Int32) (p3 : Int32) : Option (Int32 × wg_C) :=
  lt_ (p2 / (100 : Int32)) fun v1 =>
  lt_ ((p2 - p2 / (100 : Int32) * (100 : Int32)) - (9 : Int32)) fun v3 =>
  lt_ (p3 / (10 : Int32)) fun v5 =>
  lt_ (p3 - p3 / (10 : Int32) * (10 : Int32)) fun v7 =>
  bd (f_X8_isKind p1) fun r10 =>
  if r10 = 0 then (
    some ((-2 : Int32), C))
  else (
    if p2 < 0 then (
      some ((-2 : Int32), C))
    else (
      bd (f_X8_fits (1 : Int32) v1) fun r14 =>
      if r14 = 0 then (
        some ((-2 : Int32), C))
      else (
        bd (f_X8_fits (2 : Int32) v3) fun r17 =>
        if r17 = 0 then (
          some ((-2 : Int32), C))
        else (
          if p3 < 0 then (
            some ((-2 : Int32), C))
          else (
            bd (f_X8_isRoom v5) fun r21 =>
            if r21 = 0 then (
              some ((-2 : Int32), C))
            else (
              bd (f_X8_isRoom v7) fun r24 =>
              if r24 = 0 then (
                some ((-2 : Int32), C))
              else (
                if (C 1 2) < (8 : Int32) then (
                  ck (inb (C 1 2) 8) <|
                  lt_ (wg_up C (4 + (C 1 2).toNatClampNeg) 1 p1) fun C28 =>
                  lt_ (wg_up C28 (4 + (C 1 2).toNatClampNeg) 2 v1) fun C30 =>
                  lt_ (wg_up C30 (4 + (C 1 2).toNatClampNeg) 3 v3) fun C32 =>
                  lt_ (wg_up C32 (4 + (C 1 2).toNatClampNeg) 4 v5) fun C34 =>
                  lt_ (wg_up C34 (4 + (C 1 2).toNatClampNeg) 5 v7) fun C36 =>
                  lt_ (wg_up C36 1 2 ((C36 1 2) + (1 : Int32))) fun C38 =>
                  some ((C38 (4 + (C 1 2).toNatClampNeg) 0), C38))
                else (
                  some ((-4 : Int32), C)))))))))
set_option maxHeartbeats 4000000 in
set_option maxRecDepth 100000 in
theorem c_X8_pane (l : Launch) (E : wg_Ev) (ad : Nat → Nat) (S : wg_Sh) (hS : wg_SC S) (C : wg_C) (M : wg_M) (p1 : Int32) (p2 : Int32) (p3 : Int32)  {r0 : Int32} {D0 : wg_C} (h : f_X8_pane C p1 p2 p3 = some (r0, D0)) : wg_Ci l yX8_pane cX8_pane 9 (some .int) 2 41 E ad S C M [.ref (ad 0), .int p1, .int p2, .int p3] r0 D0 M := by
  refine wg_start (own := RX8) (by decide +kernel) rfl (Nat.le_of_ble_eq_true rfl) ?_
  intro p e s m below meth c X hr hnm
  refine wg_lv (lv' := [(0, .ref (ad 0)), (1, .int p1), (2, .int p2), (3, .int p3)]) rfl ?_
  unfold f_X8_pane at h
  refine wg_iload_n X 2 dX8_pane_0 rfl rfl ?_
  refine wg_bipush (v := 100) X dX8_pane_1 (by decide) ?_
  refine wg_idiv X dX8_pane_3 (by decide) ?_
  obtain ⟨v1, e2, h⟩ := lt_some h
  refine wg_istore (lv' := [(4, .int v1), (0, .ref (ad 0)), (1, .int p1), (2, .int p2), (3, .int p3)]) X dX8_pane_4 e2 (by decide) rfl ?_
  refine wg_iload_n X 3 dX8_pane_6 rfl rfl ?_
  refine wg_bipush (v := 100) X dX8_pane_7 (by decide) ?_
  refine wg_irem X dX8_pane_9 (by decide) ?_
  refine wg_bipush (v := 9) X dX8_pane_10 (by decide) ?_
  refine wg_isub X dX8_pane_12 ?_
  obtain ⟨v3, e4, h⟩ := lt_some h
  refine wg_istore (lv' := [(5, .int v3), (4, .int v1), (0, .ref (ad 0)), (1, .int p1), (2, .int p2), (3, .int p3)]) X dX8_pane_13 e4 (by decide) rfl ?_
  refine wg_iload_n X 5 dX8_pane_15 rfl rfl ?_
  refine wg_bipush (v := 10) X dX8_pane_16 (by decide) ?_
  refine wg_idiv X dX8_pane_18 (by decide) ?_
  obtain ⟨v5, e6, h⟩ := lt_some h
  refine wg_istore (lv' := [(6, .int v5), (5, .int v3), (4, .int v1), (0, .ref (ad 0)), (1, .int p1), (2, .int p2), (3, .int p3)]) X dX8_pane_19 e6 (by decide) rfl ?_
  refine wg_iload_n X 6 dX8_pane_21 rfl rfl ?_
  refine wg_bipush (v := 10) X dX8_pane_22 (by decide) ?_
  refine wg_irem X dX8_pane_24 (by decide) ?_
  obtain ⟨v7, e8, h⟩ := lt_some h
  refine wg_istore (lv' := [(7, .int v7), (6, .int v5), (5, .int v3), (4, .int v1), (0, .ref (ad 0)), (1, .int p1), (2, .int p2), (3, .int p3)]) X dX8_pane_25 e8 (by decide) rfl ?_
  refine wg_iload_n X 5 dX8_pane_27 rfl rfl ?_
  obtain ⟨r10, h9, h⟩ := bd_some h
  refine wg_callSi (As := [.int p1]) (rest := []) X (c_X8_isKind l E ad S C M p1  h9) T_yX8_isKind k_546 dX8_pane_28 rfl rfl (Nat.le_of_ble_eq_true rfl) ⟨Nat.le_of_ble_eq_true rfl, Nat.le_of_ble_eq_true rfl⟩ ⟨Nat.zero_le _, Nat.zero_le _⟩ ?_
  refine wg_if_eq X 56 dX8_pane_31 (by decide) (fun c11 => ?_) (fun c11 => ?_)
  · have h := if_t c11 h
    refine wg_bipush (v := -2) X dX8_pane_56 (by decide) ?_
    exact wg_iret X ⟨(Prod.mk.inj (sm_inj h)).1, (Prod.mk.inj (sm_inj h)).2, rfl⟩ hr dX8_pane_58
  · have h := if_f c11 h
    refine wg_iload_n X 6 dX8_pane_34 rfl rfl ?_
    refine wg_if_lt X 56 dX8_pane_35 (by decide) (fun c12 => ?_) (fun c12 => ?_)
    · have h := if_t c12 h
      refine wg_bipush (v := -2) X dX8_pane_56 (by decide) ?_
      exact wg_iret X ⟨(Prod.mk.inj (sm_inj h)).1, (Prod.mk.inj (sm_inj h)).2, rfl⟩ hr dX8_pane_58
    · have h := if_f c12 h
      refine wg_iconst (v := 1) X dX8_pane_38 (by decide) ?_
      refine wg_iload X 3 dX8_pane_39 rfl ?_
      obtain ⟨r14, h13, h⟩ := bd_some h
      refine wg_callSi (As := [.int (1 : Int32), .int v1]) (rest := []) X (c_X8_fits l E ad S C M (1 : Int32) v1  h13) T_yX8_fits k_532 dX8_pane_41 rfl rfl (Nat.le_of_ble_eq_true rfl) ⟨Nat.le_of_ble_eq_true rfl, Nat.le_of_ble_eq_true rfl⟩ ⟨Nat.zero_le _, Nat.zero_le _⟩ ?_
      refine wg_if_eq X 56 dX8_pane_44 (by decide) (fun c15 => ?_) (fun c15 => ?_)
      · have h := if_t c15 h
        refine wg_bipush (v := -2) X dX8_pane_56 (by decide) ?_
        exact wg_iret X ⟨(Prod.mk.inj (sm_inj h)).1, (Prod.mk.inj (sm_inj h)).2, rfl⟩ hr dX8_pane_58
      · have h := if_f c15 h
        refine wg_iconst (v := 2) X dX8_pane_47 (by decide) ?_
        refine wg_iload X 2 dX8_pane_48 rfl ?_
        obtain ⟨r17, h16, h⟩ := bd_some h
        refine wg_callSi (As := [.int (2 : Int32), .int v3]) (rest := []) X (c_X8_fits l E ad S C M (2 : Int32) v3  h16) T_yX8_fits k_532 dX8_pane_50 rfl rfl (Nat.le_of_ble_eq_true rfl) ⟨Nat.le_of_ble_eq_true rfl, Nat.le_of_ble_eq_true rfl⟩ ⟨Nat.zero_le _, Nat.zero_le _⟩ ?_
        refine wg_if_ne X 59 dX8_pane_53 (by decide) (fun c18 => ?_) (fun c18 => ?_)
        · have h := if_f c18 h
          refine wg_iload_n X 7 dX8_pane_59 rfl rfl ?_
          refine wg_if_lt X 79 dX8_pane_60 (by decide) (fun c19 => ?_) (fun c19 => ?_)
          · have h := if_t c19 h
            refine wg_bipush (v := -2) X dX8_pane_79 (by decide) ?_
            exact wg_iret X ⟨(Prod.mk.inj (sm_inj h)).1, (Prod.mk.inj (sm_inj h)).2, rfl⟩ hr dX8_pane_81
          · have h := if_f c19 h
            refine wg_iload X 1 dX8_pane_63 rfl ?_
            obtain ⟨r21, h20, h⟩ := bd_some h
            refine wg_callSi (As := [.int v5]) (rest := []) X (c_X8_isRoom l E ad S C M v5  h20) T_yX8_isRoom k_535 dX8_pane_65 rfl rfl (Nat.le_of_ble_eq_true rfl) ⟨Nat.le_of_ble_eq_true rfl, Nat.le_of_ble_eq_true rfl⟩ ⟨Nat.zero_le _, Nat.zero_le _⟩ ?_
            refine wg_if_eq X 79 dX8_pane_68 (by decide) (fun c22 => ?_) (fun c22 => ?_)
            · have h := if_t c22 h
              refine wg_bipush (v := -2) X dX8_pane_79 (by decide) ?_
              exact wg_iret X ⟨(Prod.mk.inj (sm_inj h)).1, (Prod.mk.inj (sm_inj h)).2, rfl⟩ hr dX8_pane_81
            · have h := if_f c22 h
              refine wg_iload X 0 dX8_pane_71 rfl ?_
              obtain ⟨r24, h23, h⟩ := bd_some h
              refine wg_callSi (As := [.int v7]) (rest := []) X (c_X8_isRoom l E ad S C M v7  h23) T_yX8_isRoom k_535 dX8_pane_73 rfl rfl (Nat.le_of_ble_eq_true rfl) ⟨Nat.le_of_ble_eq_true rfl, Nat.le_of_ble_eq_true rfl⟩ ⟨Nat.zero_le _, Nat.zero_le _⟩ ?_
              refine wg_if_ne X 82 dX8_pane_76 (by decide) (fun c25 => ?_) (fun c25 => ?_)
              · have h := if_f c25 h
                refine wg_aload_n X 4 dX8_pane_82 rfl rfl ?_
                refine wg_getR (b := 1) X cl8 (SCi hS 0 8 rfl) 0 (by decide) dX8_pane_83 k_472 rfl (SCr hS 0 0 1 rfl) ?_
                refine wg_getC X cl0 (SCi hS 1 0 rfl) 2 (by decide) dX8_pane_86 k_147 rfl ?_
                refine wg_bipush (v := 8) X dX8_pane_89 (by decide) ?_
                refine wg_icmp_lt X 97 dX8_pane_91 (by decide) (fun c26 => ?_) (fun c26 => ?_)
                · have h := if_t c26 h
                  refine wg_aload_n X 4 dX8_pane_97 rfl rfl ?_
                  refine wg_getR (b := 1) X cl8 (SCi hS 0 8 rfl) 0 (by decide) dX8_pane_98 k_472 rfl (SCr hS 0 0 1 rfl) ?_
                  refine wg_getR (b := 3) X cl0 (SCi hS 1 0 rfl) 1 (by decide) dX8_pane_101 k_144 rfl (SCr hS 1 1 3 rfl) ?_
                  refine wg_aload_n X 4 dX8_pane_104 rfl rfl ?_
                  refine wg_getR (b := 1) X cl8 (SCi hS 0 8 rfl) 0 (by decide) dX8_pane_105 k_472 rfl (SCr hS 0 0 1 rfl) ?_
                  refine wg_getC X cl0 (SCi hS 1 0 rfl) 2 (by decide) dX8_pane_108 k_147 rfl ?_
                  obtain ⟨z27, h⟩ := ck_some h
                  refine wg_aalS13 (b := 4 + (C 1 2).toNatClampNeg) X (SCi hS 3 13 rfl) (SCl hS 3 8 rfl) z27 (SCp hS (inb_lt z27)).1 dX8_pane_111 ?_
                  refine wg_astore (lv' := [(8, .ref (ad (4 + (C 1 2).toNatClampNeg))), (7, .int v7), (6, .int v5), (5, .int v3), (4, .int v1), (0, .ref (ad 0)), (1, .int p1), (2, .int p2), (3, .int p3)]) X dX8_pane_112 rfl (by decide) rfl ?_
                  refine wg_aload X 0 dX8_pane_114 rfl ?_
                  refine wg_iload_n X 6 dX8_pane_116 rfl rfl ?_
                  obtain ⟨C28, e29, h⟩ := lt_some h
                  refine wg_putCe X cl1 (SCp hS (inb_lt z27)).2.1 1 (by decide) dX8_pane_117 k_113 rfl rfl rfl rfl e29 ?_
                  refine wg_aload X 0 dX8_pane_120 rfl ?_
                  refine wg_iload X 4 dX8_pane_122 rfl ?_
                  obtain ⟨C30, e31, h⟩ := lt_some h
                  refine wg_putCe X cl1 (SCp hS (inb_lt z27)).2.1 2 (by decide) dX8_pane_124 k_116 rfl rfl rfl rfl e31 ?_
                  refine wg_aload X 0 dX8_pane_127 rfl ?_
                  refine wg_iload X 3 dX8_pane_129 rfl ?_
                  obtain ⟨C32, e33, h⟩ := lt_some h
                  refine wg_putCe X cl1 (SCp hS (inb_lt z27)).2.1 3 (by decide) dX8_pane_131 k_119 rfl rfl rfl rfl e33 ?_
                  refine wg_aload X 0 dX8_pane_134 rfl ?_
                  refine wg_iload X 2 dX8_pane_136 rfl ?_
                  obtain ⟨C34, e35, h⟩ := lt_some h
                  refine wg_putCe X cl1 (SCp hS (inb_lt z27)).2.1 4 (by decide) dX8_pane_138 k_122 rfl rfl rfl rfl e35 ?_
                  refine wg_aload X 0 dX8_pane_141 rfl ?_
                  refine wg_iload X 1 dX8_pane_143 rfl ?_
                  obtain ⟨C36, e37, h⟩ := lt_some h
                  refine wg_putCe X cl1 (SCp hS (inb_lt z27)).2.1 5 (by decide) dX8_pane_145 k_125 rfl rfl rfl rfl e37 ?_
                  refine wg_aload_n X 5 dX8_pane_148 rfl rfl ?_
                  refine wg_getR (b := 1) X cl8 (SCi hS 0 8 rfl) 0 (by decide) dX8_pane_149 k_472 rfl (SCr hS 0 0 1 rfl) ?_
                  refine wg_dup X dX8_pane_152 rfl ?_
                  refine wg_getC X cl0 (SCi hS 1 0 rfl) 2 (by decide) dX8_pane_153 k_147 rfl ?_
                  refine wg_iconst (v := 1) X dX8_pane_156 (by decide) ?_
                  refine wg_iadd X dX8_pane_157 ?_
                  obtain ⟨C38, e39, h⟩ := lt_some h
                  refine wg_putCe X cl0 (SCi hS 1 0 rfl) 2 (by decide) dX8_pane_158 k_147 rfl rfl rfl rfl e39 ?_
                  refine wg_aload X 0 dX8_pane_161 rfl ?_
                  refine wg_getC X cl1 (SCp hS (inb_lt z27)).2.1 0 (by decide) dX8_pane_163 k_111 rfl ?_
                  exact wg_iret X ⟨(Prod.mk.inj (sm_inj h)).1, (Prod.mk.inj (sm_inj h)).2, rfl⟩ hr dX8_pane_166
                · have h := if_f c26 h
                  refine wg_bipush (v := -4) X dX8_pane_94 (by decide) ?_
                  exact wg_iret X ⟨(Prod.mk.inj (sm_inj h)).1, (Prod.mk.inj (sm_inj h)).2, rfl⟩ hr dX8_pane_96
              · have h := if_t c25 h
                refine wg_bipush (v := -2) X dX8_pane_79 (by decide) ?_
                exact wg_iret X ⟨(Prod.mk.inj (sm_inj h)).1, (Prod.mk.inj (sm_inj h)).2, rfl⟩ hr dX8_pane_81
        · have h := if_t c18 h
          refine wg_bipush (v := -2) X dX8_pane_56 (by decide) ?_
          exact wg_iret X ⟨(Prod.mk.inj (sm_inj h)).1, (Prod.mk.inj (sm_inj h)).2, rfl⟩ hr dX8_pane_58
-- WindowsGive$Pane.on(I)I ('P', 'i')
def f_X1_on_j40 (p0 : Nat) (C : wg_C)  (x1 : Int32) : Option Int32 :=
  some ((x1 + (C p0 3)) - (C p0 2))
def f_X1_on (C : wg_C) (p0 : Nat) (p1 : Int32) : Option Int32 :=
  lt_ (C p0 1) fun v1 =>
  if v1 = (1 : Int32) then (
    f_X1_on_j40 p0 C  p1)
  else
  if v1 = (2 : Int32) then (
    some (p1 + (C p0 3)))
  else
  if v1 = (3 : Int32) then (
    f_X1_on_j40 p0 C  p1)
  else
  if v1 = (4 : Int32) then (
    some p1)
  else
  if v1 = (5 : Int32) then (
    some (p1 + ((C p0 3) * ((C p0 2) + (1 : Int32)))))
  else
  some (p1 + (C p0 3))
abbrev G_X1_on (p : Program) (l : Launch) (e : Env) (s : State) (m : MethodId) (args : Array Value) (below : List Frame) (meth : Method) (c : Code) (E : wg_Ev) (ad : Nat → Nat) (S : wg_Sh) (r0 : Int32) (C0 : wg_C) (M0 : wg_M) (pc : Nat) (C : wg_C) (M : wg_M) (lv : List (Nat × Value)) (st : List Value) : Prop := wg_G p l e (wg_Rm 0 0) s m args below meth c (MQ below (wg_Qi E ad S r0 C0 M0) args s 0 0 (wg_A E)) 2 E ad S 0 0 pc C M lv st
set_option maxHeartbeats 4000000 in
set_option maxRecDepth 100000 in
theorem J_X1_on_j40 {p : Program} {l : Launch} {e : Env} {s : State} {m : MethodId} {args : Array Value} {below : List Frame} {meth : Method} {c : Code} {E : wg_Ev} {ad : Nat → Nat} {S : wg_Sh} (X : wg_X p s m args meth c cX1_on 2 RX1 E) (hr : meth.sig.returnType = (some .int)) (hS : wg_SC S) (r0 : Int32) (M : wg_M) (p0 : Nat) (hp0 : wg_id S p0 1) (C : wg_C)  (x1 : Int32)   (h : f_X1_on_j40 p0 C  x1 = some r0) : G_X1_on p l e s m args below meth c E ad S r0 C M 40 C M [(0, .ref (ad p0)), (1, .int x1)] [] := by
  unfold f_X1_on_j40 at h
  refine wg_iload_n X 1 dX1_on_40 rfl rfl ?_
  refine wg_aload_n X 0 dX1_on_41 rfl rfl ?_
  refine wg_getC X cl1 hp0 3 (by decide) dX1_on_42 k_117 rfl ?_
  refine wg_iadd X dX1_on_45 ?_
  refine wg_aload_n X 0 dX1_on_46 rfl rfl ?_
  refine wg_getC X cl1 hp0 2 (by decide) dX1_on_47 k_114 rfl ?_
  refine wg_isub X dX1_on_50 ?_
  exact wg_iret X ⟨(sm_inj h), rfl, rfl⟩ hr dX1_on_51
set_option maxHeartbeats 4000000 in
set_option maxRecDepth 100000 in
theorem c_X1_on (l : Launch) (E : wg_Ev) (ad : Nat → Nat) (S : wg_Sh) (hS : wg_SC S) (C : wg_C) (M : wg_M) (p0 : Nat) (p1 : Int32) (hp0 : wg_id S p0 1) {r0 : Int32} (h : f_X1_on C p0 p1 = some r0) : wg_Ci l yX1_on cX1_on 2 (some .int) 0 0 E ad S C M [.ref (ad p0), .int p1] r0 C M := by
  refine wg_start (own := RX1) (by decide +kernel) rfl (Nat.le_of_ble_eq_true rfl) ?_
  intro p e s m below meth c X hr hnm
  refine wg_lv (lv' := [(0, .ref (ad p0)), (1, .int p1)]) rfl ?_
  unfold f_X1_on at h
  refine wg_aload_n X 0 dX1_on_0 rfl rfl ?_
  refine wg_getC X cl1 hp0 1 (by decide) dX1_on_1 k_112 rfl ?_
  obtain ⟨v1, e2, h⟩ := lt_some h
  refine wg_top e2 ?_
  by_cases c3 : v1 = (1 : Int32)
  · have h := if_t c3 h
    refine wg_tblIn (off := 36) X 40 dX1_on_4 c3 (by decide) (by decide) (by decide) (by decide) ?_
    exact J_X1_on_j40 X hr hS r0 M p0 hp0 C  p1   h
  have h := if_f c3 h
  by_cases c4 : v1 = (2 : Int32)
  · have h := if_t c4 h
    refine wg_tblIn (off := 64) X 68 dX1_on_4 c4 (by decide) (by decide) (by decide) (by decide) ?_
    refine wg_iload_n X 1 dX1_on_68 rfl rfl ?_
    refine wg_aload_n X 0 dX1_on_69 rfl rfl ?_
    refine wg_getC X cl1 hp0 3 (by decide) dX1_on_70 k_117 rfl ?_
    refine wg_iadd X dX1_on_73 ?_
    exact wg_iret X ⟨(sm_inj h), rfl, rfl⟩ hr dX1_on_74
  have h := if_f c4 h
  by_cases c5 : v1 = (3 : Int32)
  · have h := if_t c5 h
    refine wg_tblIn (off := 36) X 40 dX1_on_4 c5 (by decide) (by decide) (by decide) (by decide) ?_
    exact J_X1_on_j40 X hr hS r0 M p0 hp0 C  p1   h
  have h := if_f c5 h
  by_cases c6 : v1 = (4 : Int32)
  · have h := if_t c6 h
    refine wg_tblIn (off := 48) X 52 dX1_on_4 c6 (by decide) (by decide) (by decide) (by decide) ?_
    refine wg_iload_n X 1 dX1_on_52 rfl rfl ?_
    exact wg_iret X ⟨(sm_inj h), rfl, rfl⟩ hr dX1_on_53
  have h := if_f c6 h
  by_cases c7 : v1 = (5 : Int32)
  · have h := if_t c7 h
    refine wg_tblIn (off := 50) X 54 dX1_on_4 c7 (by decide) (by decide) (by decide) (by decide) ?_
    refine wg_iload_n X 1 dX1_on_54 rfl rfl ?_
    refine wg_aload_n X 0 dX1_on_55 rfl rfl ?_
    refine wg_getC X cl1 hp0 3 (by decide) dX1_on_56 k_117 rfl ?_
    refine wg_aload_n X 0 dX1_on_59 rfl rfl ?_
    refine wg_getC X cl1 hp0 2 (by decide) dX1_on_60 k_114 rfl ?_
    refine wg_iconst (v := 1) X dX1_on_63 (by decide) ?_
    refine wg_iadd X dX1_on_64 ?_
    refine wg_imul X dX1_on_65 ?_
    refine wg_iadd X dX1_on_66 ?_
    exact wg_iret X ⟨(sm_inj h), rfl, rfl⟩ hr dX1_on_67
  have h := if_f c7 h
  refine wg_tblOut X 68 dX1_on_4 (wg_tout (1) (5) (fun k hk => by
      rcases (show k = 0 ∨ k = 1 ∨ k = 2 ∨ k = 3 ∨ k = 4 by omega) with rfl | rfl | rfl | rfl | rfl
      · exact fun q => c3 (q.trans (by decide))
      · exact fun q => c4 (q.trans (by decide))
      · exact fun q => c5 (q.trans (by decide))
      · exact fun q => c6 (q.trans (by decide))
      · exact fun q => c7 (q.trans (by decide))) (by decide) (by decide)) (by decide) ?_
  refine wg_iload_n X 1 dX1_on_68 rfl rfl ?_
  refine wg_aload_n X 0 dX1_on_69 rfl rfl ?_
  refine wg_getC X cl1 hp0 3 (by decide) dX1_on_70 k_117 rfl ?_
  refine wg_iadd X dX1_on_73 ?_
  exact wg_iret X ⟨(sm_inj h), rfl, rfl⟩ hr dX1_on_74
-- WindowsGive$Pane.lets(II)Z ('P', 'i', 'i')
def f_X1_lets (C : wg_C) (p0 : Nat) (p1 : Int32) (p2 : Int32) : Option Int32 :=
  lt_ (C p0 1) fun v1 =>
  if v1 = (2 : Int32) then (
    if p2 = (1 : Int32) then (
      some (1 : Int32))
    else (
      some (0 : Int32)))
  else
  if v1 = (3 : Int32) then (
    some (1 : Int32))
  else
  if v1 = (4 : Int32) then (
    if p2 = 0 then (
      some (1 : Int32))
    else (
      some (0 : Int32)))
  else
  if v1 = (5 : Int32) then (
    if (C p0 2) < 0 then (
      some (0 : Int32))
    else (
      ck (¬ ((C p0 2) + (1 : Int32)) = 0) <|
      if (p1 - p1 / ((C p0 2) + (1 : Int32)) * ((C p0 2) + (1 : Int32))) = 0 then (
        some (1 : Int32))
      else (
        some (0 : Int32))))
  else
  if p2 = 0 then (
    some (1 : Int32))
  else (
    if p2 = (1 : Int32) then (
      some (1 : Int32))
    else (
      some (0 : Int32)))
set_option maxHeartbeats 4000000 in
set_option maxRecDepth 100000 in
theorem c_X1_lets (l : Launch) (E : wg_Ev) (ad : Nat → Nat) (S : wg_Sh) (hS : wg_SC S) (C : wg_C) (M : wg_M) (p0 : Nat) (p1 : Int32) (p2 : Int32) (hp0 : wg_id S p0 1) {r0 : Int32} (h : f_X1_lets C p0 p1 p2 = some r0) : wg_Ci l yX1_lets cX1_lets 3 (some .boolean) 0 0 E ad S C M [.ref (ad p0), .int p1, .int p2] r0 C M := by
  refine wg_start (own := RX1) (by decide +kernel) rfl (Nat.le_of_ble_eq_true rfl) ?_
  intro p e s m below meth c X hr hnm
  refine wg_lv (lv' := [(0, .ref (ad p0)), (1, .int p1), (2, .int p2)]) rfl ?_
  unfold f_X1_lets at h
  refine wg_aload_n X 0 dX1_lets_0 rfl rfl ?_
  refine wg_getC X cl1 hp0 1 (by decide) dX1_lets_1 k_112 rfl ?_
  obtain ⟨v1, e2, h⟩ := lt_some h
  refine wg_top e2 ?_
  by_cases c3 : v1 = (2 : Int32)
  · have h := if_t c3 h
    refine wg_tblIn (off := 32) X 36 dX1_lets_4 c3 (by decide) (by decide) (by decide) (by decide) ?_
    refine wg_iload_n X 2 dX1_lets_36 rfl rfl ?_
    refine wg_iconst (v := 1) X dX1_lets_37 (by decide) ?_
    refine wg_icmp_ne X 45 dX1_lets_38 (by decide) (fun c4 => ?_) (fun c4 => ?_)
    · have h := if_f c4 h
      refine wg_iconst (v := 0) X dX1_lets_45 (by decide) ?_
      exact wg_zret X ⟨(sm_inj h), rfl, rfl⟩ hr (by decide) dX1_lets_46
    · have h := if_t c4 h
      refine wg_iconst (v := 1) X dX1_lets_41 (by decide) ?_
      refine wg_goto X 46 dX1_lets_42 (by decide) ?_
      exact wg_zret X ⟨(sm_inj h), rfl, rfl⟩ hr (by decide) dX1_lets_46
  have h := if_f c3 h
  by_cases c5 : v1 = (3 : Int32)
  · have h := if_t c5 h
    refine wg_tblIn (off := 43) X 47 dX1_lets_4 c5 (by decide) (by decide) (by decide) (by decide) ?_
    refine wg_iconst (v := 1) X dX1_lets_47 (by decide) ?_
    exact wg_zret X ⟨(sm_inj h), rfl, rfl⟩ hr (by decide) dX1_lets_48
  have h := if_f c5 h
  by_cases c6 : v1 = (4 : Int32)
  · have h := if_t c6 h
    refine wg_tblIn (off := 45) X 49 dX1_lets_4 c6 (by decide) (by decide) (by decide) (by decide) ?_
    refine wg_iload_n X 2 dX1_lets_49 rfl rfl ?_
    refine wg_if_ne X 57 dX1_lets_50 (by decide) (fun c7 => ?_) (fun c7 => ?_)
    · have h := if_f c7 h
      refine wg_iconst (v := 0) X dX1_lets_57 (by decide) ?_
      exact wg_zret X ⟨(sm_inj h), rfl, rfl⟩ hr (by decide) dX1_lets_58
    · have h := if_t c7 h
      refine wg_iconst (v := 1) X dX1_lets_53 (by decide) ?_
      refine wg_goto X 58 dX1_lets_54 (by decide) ?_
      exact wg_zret X ⟨(sm_inj h), rfl, rfl⟩ hr (by decide) dX1_lets_58
  have h := if_f c6 h
  by_cases c8 : v1 = (5 : Int32)
  · have h := if_t c8 h
    refine wg_tblIn (off := 55) X 59 dX1_lets_4 c8 (by decide) (by decide) (by decide) (by decide) ?_
    refine wg_aload_n X 0 dX1_lets_59 rfl rfl ?_
    refine wg_getC X cl1 hp0 2 (by decide) dX1_lets_60 k_114 rfl ?_
    refine wg_if_lt X 81 dX1_lets_63 (by decide) (fun c9 => ?_) (fun c9 => ?_)
    · have h := if_t c9 h
      refine wg_iconst (v := 0) X dX1_lets_81 (by decide) ?_
      exact wg_zret X ⟨(sm_inj h), rfl, rfl⟩ hr (by decide) dX1_lets_82
    · have h := if_f c9 h
      refine wg_iload_n X 1 dX1_lets_66 rfl rfl ?_
      refine wg_aload_n X 0 dX1_lets_67 rfl rfl ?_
      refine wg_getC X cl1 hp0 2 (by decide) dX1_lets_68 k_114 rfl ?_
      refine wg_iconst (v := 1) X dX1_lets_71 (by decide) ?_
      refine wg_iadd X dX1_lets_72 ?_
      obtain ⟨z10, h⟩ := ck_some h
      refine wg_irem X dX1_lets_73 z10 ?_
      refine wg_if_ne X 81 dX1_lets_74 (by decide) (fun c11 => ?_) (fun c11 => ?_)
      · have h := if_f c11 h
        refine wg_iconst (v := 0) X dX1_lets_81 (by decide) ?_
        exact wg_zret X ⟨(sm_inj h), rfl, rfl⟩ hr (by decide) dX1_lets_82
      · have h := if_t c11 h
        refine wg_iconst (v := 1) X dX1_lets_77 (by decide) ?_
        refine wg_goto X 82 dX1_lets_78 (by decide) ?_
        exact wg_zret X ⟨(sm_inj h), rfl, rfl⟩ hr (by decide) dX1_lets_82
  have h := if_f c8 h
  refine wg_tblOut X 83 dX1_lets_4 (wg_tout (2) (5) (fun k hk => by
      rcases (show k = 0 ∨ k = 1 ∨ k = 2 ∨ k = 3 by omega) with rfl | rfl | rfl | rfl
      · exact fun q => c3 (q.trans (by decide))
      · exact fun q => c5 (q.trans (by decide))
      · exact fun q => c6 (q.trans (by decide))
      · exact fun q => c8 (q.trans (by decide))) (by decide) (by decide)) (by decide) ?_
  refine wg_iload_n X 2 dX1_lets_83 rfl rfl ?_
  refine wg_if_eq X 92 dX1_lets_84 (by decide) (fun c12 => ?_) (fun c12 => ?_)
  · have h := if_t c12 h
    refine wg_iconst (v := 1) X dX1_lets_92 (by decide) ?_
    refine wg_goto X 97 dX1_lets_93 (by decide) ?_
    exact wg_zret X ⟨(sm_inj h), rfl, rfl⟩ hr (by decide) dX1_lets_97
  · have h := if_f c12 h
    refine wg_iload_n X 2 dX1_lets_87 rfl rfl ?_
    refine wg_iconst (v := 1) X dX1_lets_88 (by decide) ?_
    refine wg_icmp_ne X 96 dX1_lets_89 (by decide) (fun c13 => ?_) (fun c13 => ?_)
    · have h := if_f c13 h
      refine wg_iconst (v := 0) X dX1_lets_96 (by decide) ?_
      exact wg_zret X ⟨(sm_inj h), rfl, rfl⟩ hr (by decide) dX1_lets_97
    · have h := if_t c13 h
      refine wg_iconst (v := 1) X dX1_lets_92 (by decide) ?_
      refine wg_goto X 97 dX1_lets_93 (by decide) ?_
      exact wg_zret X ⟨(sm_inj h), rfl, rfl⟩ hr (by decide) dX1_lets_97
-- WindowsGive$Pane.passes(II)Z ('P', 'i', 'i')
def f_X1_passes (C : wg_C) (p0 : Nat) (p1 : Int32) (p2 : Int32) : Option Int32 :=
  bd (f_X1_on C p0 p1) fun r2 =>
  bd (f_X8_isDay r2) fun r4 =>
  if r4 = 0 then (
    some (0 : Int32))
  else (
    bd (f_X1_lets C p0 p1 p2) fun r7 =>
    if r7 = 0 then (
      some (0 : Int32))
    else (
      some (1 : Int32)))
set_option maxHeartbeats 4000000 in
set_option maxRecDepth 100000 in
theorem c_X1_passes (l : Launch) (E : wg_Ev) (ad : Nat → Nat) (S : wg_Sh) (hS : wg_SC S) (C : wg_C) (M : wg_M) (p0 : Nat) (p1 : Int32) (p2 : Int32) (hp0 : wg_id S p0 1) {r0 : Int32} (h : f_X1_passes C p0 p1 p2 = some r0) : wg_Ci l yX1_passes cX1_passes 3 (some .boolean) 1 22 E ad S C M [.ref (ad p0), .int p1, .int p2] r0 C M := by
  refine wg_start (own := RX1) (by decide +kernel) rfl (Nat.le_of_ble_eq_true rfl) ?_
  intro p e s m below meth c X hr hnm
  refine wg_lv (lv' := [(0, .ref (ad p0)), (1, .int p1), (2, .int p2)]) rfl ?_
  unfold f_X1_passes at h
  refine wg_aload_n X 0 dX1_passes_0 rfl rfl ?_
  refine wg_iload_n X 1 dX1_passes_1 rfl rfl ?_
  obtain ⟨r2, h1, h⟩ := bd_some h
  refine wg_callVi (As := [.int p1]) (rest := []) X (c_X1_on l E ad S hS C M p0 p1 hp0 h1) T_yX1_on k_565 cl1 hp0 dX1_passes_2 rfl rfl (Nat.le_of_ble_eq_true rfl) ⟨Nat.le_of_ble_eq_true rfl, Nat.le_of_ble_eq_true rfl⟩ ⟨Nat.zero_le _, Nat.zero_le _⟩ ?_
  obtain ⟨r4, h3, h⟩ := bd_some h
  refine wg_callNi (host := "WindowsGive") (As := [.int r2]) (rest := []) X (c_X8_isDay l E ad S C M r2  h3) T_yX8_isDay (by simp [wg_nest]) dX1_passes_5 rfl rfl (Nat.le_of_ble_eq_true rfl) ⟨Nat.le_of_ble_eq_true rfl, Nat.le_of_ble_eq_true rfl⟩ ⟨Nat.zero_le _, Nat.zero_le _⟩ ?_
  refine wg_if_eq X 24 dX1_passes_8 (by decide) (fun c5 => ?_) (fun c5 => ?_)
  · have h := if_t c5 h
    refine wg_iconst (v := 0) X dX1_passes_24 (by decide) ?_
    exact wg_zret X ⟨(sm_inj h), rfl, rfl⟩ hr (by decide) dX1_passes_25
  · have h := if_f c5 h
    refine wg_aload_n X 0 dX1_passes_11 rfl rfl ?_
    refine wg_iload_n X 1 dX1_passes_12 rfl rfl ?_
    refine wg_iload_n X 2 dX1_passes_13 rfl rfl ?_
    obtain ⟨r7, h6, h⟩ := bd_some h
    refine wg_callVi (As := [.int p1, .int p2]) (rest := []) X (c_X1_lets l E ad S hS C M p0 p1 p2 hp0 h6) T_yX1_lets k_567 cl1 hp0 dX1_passes_14 rfl rfl (Nat.le_of_ble_eq_true rfl) ⟨Nat.le_of_ble_eq_true rfl, Nat.le_of_ble_eq_true rfl⟩ ⟨Nat.zero_le _, Nat.zero_le _⟩ ?_
    refine wg_if_eq X 24 dX1_passes_17 (by decide) (fun c8 => ?_) (fun c8 => ?_)
    · have h := if_t c8 h
      refine wg_iconst (v := 0) X dX1_passes_24 (by decide) ?_
      exact wg_zret X ⟨(sm_inj h), rfl, rfl⟩ hr (by decide) dX1_passes_25
    · have h := if_f c8 h
      refine wg_iconst (v := 1) X dX1_passes_20 (by decide) ?_
      refine wg_goto X 25 dX1_passes_21 (by decide) ?_
      exact wg_zret X ⟨(sm_inj h), rfl, rfl⟩ hr (by decide) dX1_passes_25
-- WindowsGive.isSort(I)Z ('i',)
def f_X8_isSort (p0 : Int32) : Option Int32 :=
  if p0 < 0 then (
    some (0 : Int32))
  else (
    if (2 : Int32) < p0 then (
      some (0 : Int32))
    else (
      some (1 : Int32)))
set_option maxHeartbeats 4000000 in
set_option maxRecDepth 100000 in
theorem c_X8_isSort (l : Launch) (E : wg_Ev) (ad : Nat → Nat) (S : wg_Sh) (C : wg_C) (M : wg_M) (p0 : Int32)  {r0 : Int32} (h : f_X8_isSort p0 = some r0) : wg_Ci l yX8_isSort cX8_isSort 1 (some .boolean) 0 0 E ad S C M [.int p0] r0 C M := by
  refine wg_start (own := RX8) (by decide +kernel) rfl (Nat.le_of_ble_eq_true rfl) ?_
  intro p e s m below meth c X hr hnm
  refine wg_lv (lv' := [(0, .int p0)]) rfl ?_
  unfold f_X8_isSort at h
  refine wg_iload_n X 0 dX8_isSort_0 rfl rfl ?_
  refine wg_if_lt X 13 dX8_isSort_1 (by decide) (fun c1 => ?_) (fun c1 => ?_)
  · have h := if_t c1 h
    refine wg_iconst (v := 0) X dX8_isSort_13 (by decide) ?_
    exact wg_zret X ⟨(sm_inj h), rfl, rfl⟩ hr (by decide) dX8_isSort_14
  · have h := if_f c1 h
    refine wg_iload_n X 0 dX8_isSort_4 rfl rfl ?_
    refine wg_iconst (v := 2) X dX8_isSort_5 (by decide) ?_
    refine wg_icmp_gt X 13 dX8_isSort_6 (by decide) (fun c2 => ?_) (fun c2 => ?_)
    · have h := if_t c2 h
      refine wg_iconst (v := 0) X dX8_isSort_13 (by decide) ?_
      exact wg_zret X ⟨(sm_inj h), rfl, rfl⟩ hr (by decide) dX8_isSort_14
    · have h := if_f c2 h
      refine wg_iconst (v := 1) X dX8_isSort_9 (by decide) ?_
      refine wg_goto X 14 dX8_isSort_10 (by decide) ?_
      exact wg_zret X ⟨(sm_inj h), rfl, rfl⟩ hr (by decide) dX8_isSort_14
-- WindowsGive.gives(III)I (('c', 0), 'i', 'i', 'i')
def f_X8_gives_j34 (C : wg_C)  (x1 : Int32) (x2 : Int32) (x3 : Int32) : Option Int32 :=
  ck (inb x1 8) <|
  if x3 = (-1 : Int32) then (
    bd (f_X1_on C (4 + x1.toNatClampNeg) x2) fun r14 =>
    some r14)
  else (
    bd (f_X1_passes C (4 + x1.toNatClampNeg) x2 x3) fun r11 =>
    if r11 = 0 then (
      some (0 : Int32))
    else (
      some (1 : Int32)))
def f_X8_gives (C : wg_C) (p1 : Int32) (p2 : Int32) (p3 : Int32) : Option Int32 :=
  bd (f_X0_has C p1) fun r2 =>
  if r2 = 0 then (
    some (-1000 : Int32))
  else (
    bd (f_X8_isDay p2) fun r5 =>
    if r5 = 0 then (
      some (-1000 : Int32))
    else (
      if p3 = (-1 : Int32) then (
        f_X8_gives_j34 C  p1 p2 p3)
      else (
        bd (f_X8_isSort p3) fun r16 =>
        if r16 = 0 then (
          some (-1000 : Int32))
        else (
          f_X8_gives_j34 C  p1 p2 p3))))
abbrev G_X8_gives (p : Program) (l : Launch) (e : Env) (s : State) (m : MethodId) (args : Array Value) (below : List Frame) (meth : Method) (c : Code) (E : wg_Ev) (ad : Nat → Nat) (S : wg_Sh) (r0 : Int32) (C0 : wg_C) (M0 : wg_M) (pc : Nat) (C : wg_C) (M : wg_M) (lv : List (Nat × Value)) (st : List Value) : Prop := wg_G p l e (wg_Rm 2 44) s m args below meth c (MQ below (wg_Qi E ad S r0 C0 M0) args s 0 0 (wg_A E)) 5 E ad S 0 0 pc C M lv st
set_option maxHeartbeats 4000000 in
set_option maxRecDepth 100000 in
theorem J_X8_gives_j34 {p : Program} {l : Launch} {e : Env} {s : State} {m : MethodId} {args : Array Value} {below : List Frame} {meth : Method} {c : Code} {E : wg_Ev} {ad : Nat → Nat} {S : wg_Sh} (X : wg_X p s m args meth c cX8_gives 5 RX8 E) (hr : meth.sig.returnType = (some .int)) (hS : wg_SC S) (r0 : Int32) (M : wg_M)  (C : wg_C)  (x1 : Int32) (x2 : Int32) (x3 : Int32)   (h : f_X8_gives_j34 C  x1 x2 x3 = some r0) : G_X8_gives p l e s m args below meth c E ad S r0 C M 34 C M [(0, .ref (ad 0)), (1, .int x1), (2, .int x2), (3, .int x3)] [] := by
  unfold f_X8_gives_j34 at h
  refine wg_aload_n X 0 dX8_gives_34 rfl rfl ?_
  refine wg_getR (b := 1) X cl8 (SCi hS 0 8 rfl) 0 (by decide) dX8_gives_35 k_472 rfl (SCr hS 0 0 1 rfl) ?_
  refine wg_getR (b := 3) X cl0 (SCi hS 1 0 rfl) 1 (by decide) dX8_gives_38 k_144 rfl (SCr hS 1 1 3 rfl) ?_
  refine wg_iload_n X 1 dX8_gives_41 rfl rfl ?_
  obtain ⟨z8, h⟩ := ck_some h
  refine wg_aalS13 (b := 4 + x1.toNatClampNeg) X (SCi hS 3 13 rfl) (SCl hS 3 8 rfl) z8 (SCp hS (inb_lt z8)).1 dX8_gives_42 ?_
  refine wg_astore (lv' := [(4, .ref (ad (4 + x1.toNatClampNeg))), (0, .ref (ad 0)), (1, .int x1), (2, .int x2), (3, .int x3)]) X dX8_gives_43 rfl (by decide) rfl ?_
  refine wg_iload_n X 4 dX8_gives_45 rfl rfl ?_
  refine wg_iconst (v := -1) X dX8_gives_46 (by decide) ?_
  refine wg_icmp_ne X 57 dX8_gives_47 (by decide) (fun c9 => ?_) (fun c9 => ?_)
  · have h := if_f c9 h
    refine wg_aload X 0 dX8_gives_57 rfl ?_
    refine wg_iload_n X 3 dX8_gives_59 rfl rfl ?_
    refine wg_iload_n X 4 dX8_gives_60 rfl rfl ?_
    obtain ⟨r11, h10, h⟩ := bd_some h
    refine wg_callVi (As := [.int x2, .int x3]) (rest := []) X (c_X1_passes l E ad S hS C M (4 + x1.toNatClampNeg) x2 x3 ((SCp hS (inb_lt z8)).2.1) h10) T_yX1_passes k_561 cl1 ((SCp hS (inb_lt z8)).2.1) dX8_gives_61 rfl rfl (Nat.le_of_ble_eq_true rfl) ⟨Nat.le_of_ble_eq_true rfl, Nat.le_of_ble_eq_true rfl⟩ ⟨Nat.zero_le _, Nat.zero_le _⟩ ?_
    refine wg_if_eq X 71 dX8_gives_64 (by decide) (fun c12 => ?_) (fun c12 => ?_)
    · have h := if_t c12 h
      refine wg_iconst (v := 0) X dX8_gives_71 (by decide) ?_
      exact wg_iret X ⟨(sm_inj h), rfl, rfl⟩ hr dX8_gives_72
    · have h := if_f c12 h
      refine wg_iconst (v := 1) X dX8_gives_67 (by decide) ?_
      refine wg_goto X 72 dX8_gives_68 (by decide) ?_
      exact wg_iret X ⟨(sm_inj h), rfl, rfl⟩ hr dX8_gives_72
  · have h := if_t c9 h
    refine wg_aload X 0 dX8_gives_50 rfl ?_
    refine wg_iload_n X 3 dX8_gives_52 rfl rfl ?_
    obtain ⟨r14, h13, h⟩ := bd_some h
    refine wg_callVi (As := [.int x2]) (rest := []) X (c_X1_on l E ad S hS C M (4 + x1.toNatClampNeg) x2 ((SCp hS (inb_lt z8)).2.1) h13) T_yX1_on k_557 cl1 ((SCp hS (inb_lt z8)).2.1) dX8_gives_53 rfl rfl (Nat.le_of_ble_eq_true rfl) ⟨Nat.le_of_ble_eq_true rfl, Nat.le_of_ble_eq_true rfl⟩ ⟨Nat.zero_le _, Nat.zero_le _⟩ ?_
    exact wg_iret X ⟨(sm_inj h), rfl, rfl⟩ hr dX8_gives_56
set_option maxHeartbeats 4000000 in
set_option maxRecDepth 100000 in
theorem c_X8_gives (l : Launch) (E : wg_Ev) (ad : Nat → Nat) (S : wg_Sh) (hS : wg_SC S) (C : wg_C) (M : wg_M) (p1 : Int32) (p2 : Int32) (p3 : Int32)  {r0 : Int32} (h : f_X8_gives C p1 p2 p3 = some r0) : wg_Ci l yX8_gives cX8_gives 5 (some .int) 2 44 E ad S C M [.ref (ad 0), .int p1, .int p2, .int p3] r0 C M := by
  refine wg_start (own := RX8) (by decide +kernel) rfl (Nat.le_of_ble_eq_true rfl) ?_
  intro p e s m below meth c X hr hnm
  refine wg_lv (lv' := [(0, .ref (ad 0)), (1, .int p1), (2, .int p2), (3, .int p3)]) rfl ?_
  unfold f_X8_gives at h
  refine wg_aload_n X 0 dX8_gives_0 rfl rfl ?_
  refine wg_getR (b := 1) X cl8 (SCi hS 0 8 rfl) 0 (by decide) dX8_gives_1 k_472 rfl (SCr hS 0 0 1 rfl) ?_
  refine wg_iload_n X 1 dX8_gives_4 rfl rfl ?_
  obtain ⟨r2, h1, h⟩ := bd_some h
  refine wg_callVi (As := [.int p1]) (rest := []) X (c_X0_has l E ad S hS C M p1  h1) T_yX0_has k_520 cl0 (SCi hS 1 0 rfl) dX8_gives_5 rfl rfl (Nat.le_of_ble_eq_true rfl) ⟨Nat.le_of_ble_eq_true rfl, Nat.le_of_ble_eq_true rfl⟩ ⟨Nat.zero_le _, Nat.zero_le _⟩ ?_
  refine wg_if_eq X 30 dX8_gives_8 (by decide) (fun c3 => ?_) (fun c3 => ?_)
  · have h := if_t c3 h
    refine wg_sipush (v := -1000) X dX8_gives_30 (by decide) ?_
    exact wg_iret X ⟨(sm_inj h), rfl, rfl⟩ hr dX8_gives_33
  · have h := if_f c3 h
    refine wg_iload_n X 2 dX8_gives_11 rfl rfl ?_
    obtain ⟨r5, h4, h⟩ := bd_some h
    refine wg_callSi (As := [.int p2]) (rest := []) X (c_X8_isDay l E ad S C M p2  h4) T_yX8_isDay k_517 dX8_gives_12 rfl rfl (Nat.le_of_ble_eq_true rfl) ⟨Nat.le_of_ble_eq_true rfl, Nat.le_of_ble_eq_true rfl⟩ ⟨Nat.zero_le _, Nat.zero_le _⟩ ?_
    refine wg_if_eq X 30 dX8_gives_15 (by decide) (fun c6 => ?_) (fun c6 => ?_)
    · have h := if_t c6 h
      refine wg_sipush (v := -1000) X dX8_gives_30 (by decide) ?_
      exact wg_iret X ⟨(sm_inj h), rfl, rfl⟩ hr dX8_gives_33
    · have h := if_f c6 h
      refine wg_iload_n X 3 dX8_gives_18 rfl rfl ?_
      refine wg_iconst (v := -1) X dX8_gives_19 (by decide) ?_
      refine wg_icmp_eq X 34 dX8_gives_20 (by decide) (fun c7 => ?_) (fun c7 => ?_)
      · have h := if_t c7 h
        exact J_X8_gives_j34 X hr hS r0 M  C  p1 p2 p3   h
      · have h := if_f c7 h
        refine wg_iload_n X 3 dX8_gives_23 rfl rfl ?_
        obtain ⟨r16, h15, h⟩ := bd_some h
        refine wg_callSi (As := [.int p3]) (rest := []) X (c_X8_isSort l E ad S C M p3  h15) T_yX8_isSort k_554 dX8_gives_24 rfl rfl (Nat.le_of_ble_eq_true rfl) ⟨Nat.le_of_ble_eq_true rfl, Nat.le_of_ble_eq_true rfl⟩ ⟨Nat.zero_le _, Nat.zero_le _⟩ ?_
        refine wg_if_ne X 34 dX8_gives_27 (by decide) (fun c17 => ?_) (fun c17 => ?_)
        · have h := if_f c17 h
          exact J_X8_gives_j34 X hr hS r0 M  C  p1 p2 p3   h
        · have h := if_t c17 h
          refine wg_sipush (v := -1000) X dX8_gives_30 (by decide) ?_
          exact wg_iret X ⟨(sm_inj h), rfl, rfl⟩ hr dX8_gives_33
-- WindowsGive$Tape.put(I)Z (('c', 23), 'i')
def f_X5_put (C : wg_C) (p1 : Int32) : Option (Int32 × wg_C) :=
  if (C 23 1) < (160 : Int32) then (
    ck (inb (C 23 1) 160) <|
    lt_ (wg_up C 24 (C 23 1).toNatClampNeg p1) fun C3 =>
    lt_ (wg_up C3 23 1 ((C3 23 1) + (1 : Int32))) fun C5 =>
    some ((1 : Int32), C5))
  else (
    some ((0 : Int32), C))
set_option maxHeartbeats 4000000 in
set_option maxRecDepth 100000 in
theorem c_X5_put (l : Launch) (E : wg_Ev) (ad : Nat → Nat) (S : wg_Sh) (hS : wg_SC S) (C : wg_C) (M : wg_M) (p1 : Int32)  {r0 : Int32} {D0 : wg_C} (h : f_X5_put C p1 = some (r0, D0)) : wg_Ci l yX5_put cX5_put 2 (some .boolean) 0 0 E ad S C M [.ref (ad 23), .int p1] r0 D0 M := by
  refine wg_start (own := RX5) (by decide +kernel) rfl (Nat.le_of_ble_eq_true rfl) ?_
  intro p e s m below meth c X hr hnm
  refine wg_lv (lv' := [(0, .ref (ad 23)), (1, .int p1)]) rfl ?_
  unfold f_X5_put at h
  refine wg_aload_n X 0 dX5_put_0 rfl rfl ?_
  refine wg_getC X cl5 (SCi hS 23 5 rfl) 1 (by decide) dX5_put_1 k_168 rfl ?_
  refine wg_sipush (v := 160) X dX5_put_4 (by decide) ?_
  refine wg_icmp_lt X 12 dX5_put_7 (by decide) (fun c1 => ?_) (fun c1 => ?_)
  · have h := if_t c1 h
    refine wg_aload_n X 0 dX5_put_12 rfl rfl ?_
    refine wg_getR (b := 24) X cl5 (SCi hS 23 5 rfl) 0 (by decide) dX5_put_13 k_167 rfl (SCr hS 23 0 24 rfl) ?_
    refine wg_aload_n X 0 dX5_put_16 rfl rfl ?_
    refine wg_getC X cl5 (SCi hS 23 5 rfl) 1 (by decide) dX5_put_17 k_168 rfl ?_
    refine wg_iload_n X 1 dX5_put_20 rfl rfl ?_
    obtain ⟨z2, h⟩ := ck_some h
    obtain ⟨C3, e4, h⟩ := lt_some h
    refine wg_iaste X (SCi hS 24 10 rfl) (SCl hS 24 160 rfl) z2 dX5_put_21 e4 ?_
    refine wg_aload_n X 0 dX5_put_22 rfl rfl ?_
    refine wg_dup X dX5_put_23 rfl ?_
    refine wg_getC X cl5 (SCi hS 23 5 rfl) 1 (by decide) dX5_put_24 k_168 rfl ?_
    refine wg_iconst (v := 1) X dX5_put_27 (by decide) ?_
    refine wg_iadd X dX5_put_28 ?_
    obtain ⟨C5, e6, h⟩ := lt_some h
    refine wg_putCe X cl5 (SCi hS 23 5 rfl) 1 (by decide) dX5_put_29 k_168 rfl rfl rfl rfl e6 ?_
    refine wg_iconst (v := 1) X dX5_put_32 (by decide) ?_
    exact wg_zret X ⟨(Prod.mk.inj (sm_inj h)).1, (Prod.mk.inj (sm_inj h)).2, rfl⟩ hr (by decide) dX5_put_33
  · have h := if_f c1 h
    refine wg_iconst (v := 0) X dX5_put_10 (by decide) ?_
    exact wg_zret X ⟨(Prod.mk.inj (sm_inj h)).1, (Prod.mk.inj (sm_inj h)).2, rfl⟩ hr (by decide) dX5_put_11
-- WindowsGive.feed(I)I (('c', 0), 'i')
def f_X8_feed (C : wg_C) (p1 : Int32) : Option (Int32 × wg_C) :=
  if p1 < 0 then (
    some ((-2 : Int32), C))
  else (
    if p1 ≤ (255 : Int32) then (
      bd2 (f_X5_put C p1) fun r4 C5 =>
      if r4 = 0 then (
        some ((-4 : Int32), C5))
      else (
        some ((C5 23 1), C5)))
    else (
      some ((-2 : Int32), C)))
set_option maxHeartbeats 4000000 in
set_option maxRecDepth 100000 in
theorem c_X8_feed (l : Launch) (E : wg_Ev) (ad : Nat → Nat) (S : wg_Sh) (hS : wg_SC S) (C : wg_C) (M : wg_M) (p1 : Int32)  {r0 : Int32} {D0 : wg_C} (h : f_X8_feed C p1 = some (r0, D0)) : wg_Ci l yX8_feed cX8_feed 2 (some .int) 1 21 E ad S C M [.ref (ad 0), .int p1] r0 D0 M := by
  refine wg_start (own := RX8) (by decide +kernel) rfl (Nat.le_of_ble_eq_true rfl) ?_
  intro p e s m below meth c X hr hnm
  refine wg_lv (lv' := [(0, .ref (ad 0)), (1, .int p1)]) rfl ?_
  unfold f_X8_feed at h
  refine wg_iload_n X 1 dX8_feed_0 rfl rfl ?_
  refine wg_if_lt X 11 dX8_feed_1 (by decide) (fun c1 => ?_) (fun c1 => ?_)
  · have h := if_t c1 h
    refine wg_bipush (v := -2) X dX8_feed_11 (by decide) ?_
    exact wg_iret X ⟨(Prod.mk.inj (sm_inj h)).1, (Prod.mk.inj (sm_inj h)).2, rfl⟩ hr dX8_feed_13
  · have h := if_f c1 h
    refine wg_iload_n X 1 dX8_feed_4 rfl rfl ?_
    refine wg_sipush (v := 255) X dX8_feed_5 (by decide) ?_
    refine wg_icmp_le X 14 dX8_feed_8 (by decide) (fun c2 => ?_) (fun c2 => ?_)
    · have h := if_t c2 h
      refine wg_aload_n X 0 dX8_feed_14 rfl rfl ?_
      refine wg_getR (b := 23) X cl8 (SCi hS 0 8 rfl) 3 (by decide) dX8_feed_15 k_475 rfl (SCr hS 0 3 23 rfl) ?_
      refine wg_iload_n X 1 dX8_feed_18 rfl rfl ?_
      obtain ⟨r4, C5, h3, h⟩ := bd2_some h
      refine wg_callVi (As := [.int p1]) (rest := []) X (c_X5_put l E ad S hS C M p1  h3) T_yX5_put k_331 cl5 (SCi hS 23 5 rfl) dX8_feed_19 rfl rfl (Nat.le_of_ble_eq_true rfl) ⟨Nat.le_of_ble_eq_true rfl, Nat.le_of_ble_eq_true rfl⟩ ⟨Nat.zero_le _, Nat.zero_le _⟩ ?_
      refine wg_if_eq X 35 dX8_feed_22 (by decide) (fun c6 => ?_) (fun c6 => ?_)
      · have h := if_t c6 h
        refine wg_bipush (v := -4) X dX8_feed_35 (by decide) ?_
        exact wg_iret X ⟨(Prod.mk.inj (sm_inj h)).1, (Prod.mk.inj (sm_inj h)).2, rfl⟩ hr dX8_feed_37
      · have h := if_f c6 h
        refine wg_aload_n X 0 dX8_feed_25 rfl rfl ?_
        refine wg_getR (b := 23) X cl8 (SCi hS 0 8 rfl) 3 (by decide) dX8_feed_26 k_475 rfl (SCr hS 0 3 23 rfl) ?_
        refine wg_getC X cl5 (SCi hS 23 5 rfl) 1 (by decide) dX8_feed_29 k_169 rfl ?_
        refine wg_goto X 37 dX8_feed_32 (by decide) ?_
        exact wg_iret X ⟨(Prod.mk.inj (sm_inj h)).1, (Prod.mk.inj (sm_inj h)).2, rfl⟩ hr dX8_feed_37
    · have h := if_f c2 h
      refine wg_bipush (v := -2) X dX8_feed_11 (by decide) ?_
      exact wg_iret X ⟨(Prod.mk.inj (sm_inj h)).1, (Prod.mk.inj (sm_inj h)).2, rfl⟩ hr dX8_feed_13
-- WindowsGive$Tape.skipBlanks()V (('c', 23),)
def f_X5_skipBlanks_j39l0 (N : Nat) (C : wg_C)   : Option ((wg_C) ⊕ (wg_C)) :=
  lt_ (wg_up C 23 2 ((C 23 2) + (1 : Int32))) fun C4 =>
  some (.inl C4)
def f_X5_skipBlanks_l0 (N : Nat)   (C : wg_C)  : Option ((wg_C) ⊕ (wg_C)) :=
  if (C 23 1) ≤ (C 23 2) then (
    some (.inr C))
  else (
    ck (inb (C 23 2) 160) <|
    if (C 24 (C 23 2).toNatClampNeg) = (32 : Int32) then (
      f_X5_skipBlanks_j39l0 N C  )
    else (
      ck (inb (C 23 2) 160) <|
      if (C 24 (C 23 2).toNatClampNeg) = (10 : Int32) then (
        f_X5_skipBlanks_j39l0 N C  )
      else (
        some (.inr C))))
def f_X5_skipBlanks (N : Nat) (C : wg_C)  : Option wg_C :=
  bd (lp (fun o => f_X5_skipBlanks_l0 N   o) N C) fun C8 =>
  some C8
abbrev G_X5_skipBlanks (p : Program) (l : Launch) (e : Env) (s : State) (m : MethodId) (args : Array Value) (below : List Frame) (meth : Method) (c : Code) (E : wg_Ev) (ad : Nat → Nat) (S : wg_Sh) (C0 : wg_C) (M0 : wg_M) (pc : Nat) (C : wg_C) (M : wg_M) (lv : List (Nat × Value)) (st : List Value) : Prop := wg_G p l e (wg_Rm 0 0) s m args below meth c (MQ below (wg_Qv E ad S C0 M0) args s 0 0 (wg_A E)) 1 E ad S 0 0 pc C M lv st
set_option maxHeartbeats 4000000 in
set_option maxRecDepth 100000 in
theorem J_X5_skipBlanks_j39l0 {p : Program} {l : Launch} {e : Env} {s : State} {m : MethodId} {args : Array Value} {below : List Frame} {meth : Method} {c : Code} {E : wg_Ev} {ad : Nat → Nat} {S : wg_Sh} (X : wg_X p s m args meth c cX5_skipBlanks 1 RX5 E) (hr : meth.sig.returnType = none) (hS : wg_SC S) (D0 : wg_C) (M : wg_M) (N : Nat)  (C : wg_C)    (y : ((wg_C) ⊕ (wg_C))) (Kc : ∀ (Dy : wg_C), y = Sum.inl Dy → G_X5_skipBlanks p l e s m args below meth c E ad S D0 M 0 Dy M [(0, .ref (ad 23))] []) (Ke : ∀ (Dy : wg_C), y = Sum.inr (Dy) → G_X5_skipBlanks p l e s m args below meth c E ad S D0 M 52 Dy M [(0, .ref (ad 23))] []) (h : f_X5_skipBlanks_j39l0 N C   = some y) : G_X5_skipBlanks p l e s m args below meth c E ad S D0 M 39 C M [(0, .ref (ad 23))] [] := by
  unfold f_X5_skipBlanks_j39l0 at h
  refine wg_aload_n X 0 dX5_skipBlanks_39 rfl rfl ?_
  refine wg_dup X dX5_skipBlanks_40 rfl ?_
  refine wg_getC X cl5 (SCi hS 23 5 rfl) 2 (by decide) dX5_skipBlanks_41 k_170 rfl ?_
  refine wg_iconst (v := 1) X dX5_skipBlanks_44 (by decide) ?_
  refine wg_iadd X dX5_skipBlanks_45 ?_
  obtain ⟨C4, e5, h⟩ := lt_some h
  refine wg_putCe X cl5 (SCi hS 23 5 rfl) 2 (by decide) dX5_skipBlanks_46 k_170 rfl rfl rfl rfl e5 ?_
  refine wg_goto X 0 dX5_skipBlanks_49 (by decide) ?_
  exact Kc C4 (sm_inj h).symm
set_option maxHeartbeats 4000000 in
set_option maxRecDepth 100000 in
theorem L_X5_skipBlanks_l0 {p : Program} {l : Launch} {e : Env} {s : State} {m : MethodId} {args : Array Value} {below : List Frame} {meth : Method} {c : Code} {E : wg_Ev} {ad : Nat → Nat} {S : wg_Sh} (X : wg_X p s m args meth c cX5_skipBlanks 1 RX5 E) (hr : meth.sig.returnType = none) (hS : wg_SC S) (D0 : wg_C) (M : wg_M) (N : Nat)     : ∀ (n : Nat) (C : wg_C) (o : (wg_C)), lp (fun o => f_X5_skipBlanks_l0 N   o) n C = some o → (∀ (Dy : wg_C), o = Dy → G_X5_skipBlanks p l e s m args below meth c E ad S D0 M 52 Dy M [(0, .ref (ad 23))] []) → G_X5_skipBlanks p l e s m args below meth c E ad S D0 M 0 C M [(0, .ref (ad 23))] [] := by
  intro n
  induction n with
  | zero => exact fun _ o h => (lp_zero h).elim
  | succ n ih =>
    intro C o h K
    obtain ⟨o1, hb, h2⟩ := lp_some h
    replace hb : f_X5_skipBlanks_l0 N   C = some o1 := hb
    clear h
    have Kc : ∀ (Dy : wg_C), o1 = Sum.inl Dy → G_X5_skipBlanks p l e s m args below meth c E ad S D0 M 0 Dy M [(0, .ref (ad 23))] [] := fun Dy e1 => by
      subst e1
      exact ih Dy o h2 K
    have Ke : ∀ (Dy : wg_C), o1 = Sum.inr (Dy) → G_X5_skipBlanks p l e s m args below meth c E ad S D0 M 52 Dy M [(0, .ref (ad 23))] [] := fun Dy e1 => by
      subst e1
      exact K Dy (sm_inj (α := (wg_C)) h2).symm
    clear ih K h2
    unfold f_X5_skipBlanks_l0 at hb
    have h := hb
    clear hb
    refine wg_aload_n X 0 dX5_skipBlanks_0 rfl rfl ?_
    refine wg_getC X cl5 (SCi hS 23 5 rfl) 2 (by decide) dX5_skipBlanks_1 k_170 rfl ?_
    refine wg_aload_n X 0 dX5_skipBlanks_4 rfl rfl ?_
    refine wg_getC X cl5 (SCi hS 23 5 rfl) 1 (by decide) dX5_skipBlanks_5 k_168 rfl ?_
    refine wg_icmp_ge X 52 dX5_skipBlanks_8 (by decide) (fun c1 => ?_) (fun c1 => ?_)
    · have h := if_t c1 h
      exact Ke C (sm_inj h).symm
    · have h := if_f c1 h
      refine wg_aload_n X 0 dX5_skipBlanks_11 rfl rfl ?_
      refine wg_getR (b := 24) X cl5 (SCi hS 23 5 rfl) 0 (by decide) dX5_skipBlanks_12 k_167 rfl (SCr hS 23 0 24 rfl) ?_
      refine wg_aload_n X 0 dX5_skipBlanks_15 rfl rfl ?_
      refine wg_getC X cl5 (SCi hS 23 5 rfl) 2 (by decide) dX5_skipBlanks_16 k_170 rfl ?_
      obtain ⟨z2, h⟩ := ck_some h
      refine wg_iald X (SCi hS 24 10 rfl) (SCl hS 24 160 rfl) z2 dX5_skipBlanks_19 ?_
      refine wg_bipush (v := 32) X dX5_skipBlanks_20 (by decide) ?_
      refine wg_icmp_eq X 39 dX5_skipBlanks_22 (by decide) (fun c3 => ?_) (fun c3 => ?_)
      · have h := if_t c3 h
        exact J_X5_skipBlanks_j39l0 X hr hS D0 M N  C    _ Kc Ke h
      · have h := if_f c3 h
        refine wg_aload_n X 0 dX5_skipBlanks_25 rfl rfl ?_
        refine wg_getR (b := 24) X cl5 (SCi hS 23 5 rfl) 0 (by decide) dX5_skipBlanks_26 k_167 rfl (SCr hS 23 0 24 rfl) ?_
        refine wg_aload_n X 0 dX5_skipBlanks_29 rfl rfl ?_
        refine wg_getC X cl5 (SCi hS 23 5 rfl) 2 (by decide) dX5_skipBlanks_30 k_170 rfl ?_
        obtain ⟨z6, h⟩ := ck_some h
        refine wg_iald X (SCi hS 24 10 rfl) (SCl hS 24 160 rfl) z6 dX5_skipBlanks_33 ?_
        refine wg_bipush (v := 10) X dX5_skipBlanks_34 (by decide) ?_
        refine wg_icmp_ne X 52 dX5_skipBlanks_36 (by decide) (fun c7 => ?_) (fun c7 => ?_)
        · have h := if_f c7 h
          exact Ke C (sm_inj h).symm
        · have h := if_t c7 h
          exact J_X5_skipBlanks_j39l0 X hr hS D0 M N  C    _ Kc Ke h
set_option maxHeartbeats 4000000 in
set_option maxRecDepth 100000 in
theorem c_X5_skipBlanks (l : Launch) (E : wg_Ev) (ad : Nat → Nat) (S : wg_Sh) (hS : wg_SC S) (N : Nat) (C : wg_C) (M : wg_M)   {D0 : wg_C} (h : f_X5_skipBlanks N C  = some D0) : wg_Cv l yX5_skipBlanks cX5_skipBlanks 1 none 0 0 E ad S C M [.ref (ad 23)] D0 M := by
  refine wg_start (own := RX5) (by decide +kernel) rfl (Nat.le_of_ble_eq_true rfl) ?_
  intro p e s m below meth c X hr hnm
  refine wg_lv (lv' := [(0, .ref (ad 23))]) rfl ?_
  unfold f_X5_skipBlanks at h
  obtain ⟨o9, h10, h⟩ := bd_o h
  refine L_X5_skipBlanks_l0 X hr hS D0 M N     N C o9 h10 (fun C8 e12 => ?_)
  · subst o9
    replace h := bd_in h
    exact wg_vret X ⟨(sm_inj h), rfl⟩ hr dX5_skipBlanks_52
-- WindowsGive$Tape.isLetter(I)Z ('i',)
def f_X5_isLetter (p0 : Int32) : Option Int32 :=
  if p0 < (97 : Int32) then (
    some (0 : Int32))
  else (
    if (122 : Int32) < p0 then (
      some (0 : Int32))
    else (
      some (1 : Int32)))
set_option maxHeartbeats 4000000 in
set_option maxRecDepth 100000 in
theorem c_X5_isLetter (l : Launch) (E : wg_Ev) (ad : Nat → Nat) (S : wg_Sh) (C : wg_C) (M : wg_M) (p0 : Int32)  {r0 : Int32} (h : f_X5_isLetter p0 = some r0) : wg_Ci l yX5_isLetter cX5_isLetter 1 (some .boolean) 0 0 E ad S C M [.int p0] r0 C M := by
  refine wg_start (own := RX5) (by decide +kernel) rfl (Nat.le_of_ble_eq_true rfl) ?_
  intro p e s m below meth c X hr hnm
  refine wg_lv (lv' := [(0, .int p0)]) rfl ?_
  unfold f_X5_isLetter at h
  refine wg_iload_n X 0 dX5_isLetter_0 rfl rfl ?_
  refine wg_bipush (v := 97) X dX5_isLetter_1 (by decide) ?_
  refine wg_icmp_lt X 16 dX5_isLetter_3 (by decide) (fun c1 => ?_) (fun c1 => ?_)
  · have h := if_t c1 h
    refine wg_iconst (v := 0) X dX5_isLetter_16 (by decide) ?_
    exact wg_zret X ⟨(sm_inj h), rfl, rfl⟩ hr (by decide) dX5_isLetter_17
  · have h := if_f c1 h
    refine wg_iload_n X 0 dX5_isLetter_6 rfl rfl ?_
    refine wg_bipush (v := 122) X dX5_isLetter_7 (by decide) ?_
    refine wg_icmp_gt X 16 dX5_isLetter_9 (by decide) (fun c2 => ?_) (fun c2 => ?_)
    · have h := if_t c2 h
      refine wg_iconst (v := 0) X dX5_isLetter_16 (by decide) ?_
      exact wg_zret X ⟨(sm_inj h), rfl, rfl⟩ hr (by decide) dX5_isLetter_17
    · have h := if_f c2 h
      refine wg_iconst (v := 1) X dX5_isLetter_12 (by decide) ?_
      refine wg_goto X 17 dX5_isLetter_13 (by decide) ?_
      exact wg_zret X ⟨(sm_inj h), rfl, rfl⟩ hr (by decide) dX5_isLetter_17
-- WindowsGive$Tape.isDigit(I)Z ('i',)
def f_X5_isDigit (p0 : Int32) : Option Int32 :=
  if p0 < (48 : Int32) then (
    some (0 : Int32))
  else (
    if (57 : Int32) < p0 then (
      some (0 : Int32))
    else (
      some (1 : Int32)))
set_option maxHeartbeats 4000000 in
set_option maxRecDepth 100000 in
theorem c_X5_isDigit (l : Launch) (E : wg_Ev) (ad : Nat → Nat) (S : wg_Sh) (C : wg_C) (M : wg_M) (p0 : Int32)  {r0 : Int32} (h : f_X5_isDigit p0 = some r0) : wg_Ci l yX5_isDigit cX5_isDigit 1 (some .boolean) 0 0 E ad S C M [.int p0] r0 C M := by
  refine wg_start (own := RX5) (by decide +kernel) rfl (Nat.le_of_ble_eq_true rfl) ?_
  intro p e s m below meth c X hr hnm
  refine wg_lv (lv' := [(0, .int p0)]) rfl ?_
  unfold f_X5_isDigit at h
  refine wg_iload_n X 0 dX5_isDigit_0 rfl rfl ?_
  refine wg_bipush (v := 48) X dX5_isDigit_1 (by decide) ?_
  refine wg_icmp_lt X 16 dX5_isDigit_3 (by decide) (fun c1 => ?_) (fun c1 => ?_)
  · have h := if_t c1 h
    refine wg_iconst (v := 0) X dX5_isDigit_16 (by decide) ?_
    exact wg_zret X ⟨(sm_inj h), rfl, rfl⟩ hr (by decide) dX5_isDigit_17
  · have h := if_f c1 h
    refine wg_iload_n X 0 dX5_isDigit_6 rfl rfl ?_
    refine wg_bipush (v := 57) X dX5_isDigit_7 (by decide) ?_
    refine wg_icmp_gt X 16 dX5_isDigit_9 (by decide) (fun c2 => ?_) (fun c2 => ?_)
    · have h := if_t c2 h
      refine wg_iconst (v := 0) X dX5_isDigit_16 (by decide) ?_
      exact wg_zret X ⟨(sm_inj h), rfl, rfl⟩ hr (by decide) dX5_isDigit_17
    · have h := if_f c2 h
      refine wg_iconst (v := 1) X dX5_isDigit_12 (by decide) ?_
      refine wg_goto X 17 dX5_isDigit_13 (by decide) ?_
      exact wg_zret X ⟨(sm_inj h), rfl, rfl⟩ hr (by decide) dX5_isDigit_17
-- WindowsGive$Tape.isSign(I)Z ('i',)
def f_X5_isSign (p0 : Int32) : Option Int32 :=
  if p0 = (40 : Int32) then (
    some (1 : Int32))
  else
  if p0 = (41 : Int32) then (
    some (1 : Int32))
  else
  if p0 = (42 : Int32) then (
    some (1 : Int32))
  else
  if p0 = (43 : Int32) then (
    some (1 : Int32))
  else
  if p0 = (44 : Int32) then (
    some (0 : Int32))
  else
  if p0 = (45 : Int32) then (
    some (1 : Int32))
  else
  if p0 = (46 : Int32) then (
    some (0 : Int32))
  else
  if p0 = (47 : Int32) then (
    some (0 : Int32))
  else
  if p0 = (48 : Int32) then (
    some (0 : Int32))
  else
  if p0 = (49 : Int32) then (
    some (0 : Int32))
  else
  if p0 = (50 : Int32) then (
    some (0 : Int32))
  else
  if p0 = (51 : Int32) then (
    some (0 : Int32))
  else
  if p0 = (52 : Int32) then (
    some (0 : Int32))
  else
  if p0 = (53 : Int32) then (
    some (0 : Int32))
  else
  if p0 = (54 : Int32) then (
    some (0 : Int32))
  else
  if p0 = (55 : Int32) then (
    some (0 : Int32))
  else
  if p0 = (56 : Int32) then (
    some (0 : Int32))
  else
  if p0 = (57 : Int32) then (
    some (0 : Int32))
  else
  if p0 = (58 : Int32) then (
    some (0 : Int32))
  else
  if p0 = (59 : Int32) then (
    some (1 : Int32))
  else
  if p0 = (60 : Int32) then (
    some (1 : Int32))
  else
  if p0 = (61 : Int32) then (
    some (1 : Int32))
  else
  some (0 : Int32)
set_option maxHeartbeats 4000000 in
set_option maxRecDepth 100000 in
theorem c_X5_isSign (l : Launch) (E : wg_Ev) (ad : Nat → Nat) (S : wg_Sh) (C : wg_C) (M : wg_M) (p0 : Int32)  {r0 : Int32} (h : f_X5_isSign p0 = some r0) : wg_Ci l yX5_isSign cX5_isSign 1 (some .boolean) 0 0 E ad S C M [.int p0] r0 C M := by
  refine wg_start (own := RX5) (by decide +kernel) rfl (Nat.le_of_ble_eq_true rfl) ?_
  intro p e s m below meth c X hr hnm
  refine wg_lv (lv' := [(0, .int p0)]) rfl ?_
  unfold f_X5_isSign at h
  refine wg_iload_n X 0 dX5_isSign_0 rfl rfl ?_
  by_cases c1 : p0 = (40 : Int32)
  · have h := if_t c1 h
    refine wg_tblIn (off := 103) X 104 dX5_isSign_1 c1 (by decide) (by decide) (by decide) (by decide) ?_
    refine wg_iconst (v := 1) X dX5_isSign_104 (by decide) ?_
    exact wg_zret X ⟨(sm_inj h), rfl, rfl⟩ hr (by decide) dX5_isSign_105
  have h := if_f c1 h
  by_cases c2 : p0 = (41 : Int32)
  · have h := if_t c2 h
    refine wg_tblIn (off := 103) X 104 dX5_isSign_1 c2 (by decide) (by decide) (by decide) (by decide) ?_
    refine wg_iconst (v := 1) X dX5_isSign_104 (by decide) ?_
    exact wg_zret X ⟨(sm_inj h), rfl, rfl⟩ hr (by decide) dX5_isSign_105
  have h := if_f c2 h
  by_cases c3 : p0 = (42 : Int32)
  · have h := if_t c3 h
    refine wg_tblIn (off := 103) X 104 dX5_isSign_1 c3 (by decide) (by decide) (by decide) (by decide) ?_
    refine wg_iconst (v := 1) X dX5_isSign_104 (by decide) ?_
    exact wg_zret X ⟨(sm_inj h), rfl, rfl⟩ hr (by decide) dX5_isSign_105
  have h := if_f c3 h
  by_cases c4 : p0 = (43 : Int32)
  · have h := if_t c4 h
    refine wg_tblIn (off := 103) X 104 dX5_isSign_1 c4 (by decide) (by decide) (by decide) (by decide) ?_
    refine wg_iconst (v := 1) X dX5_isSign_104 (by decide) ?_
    exact wg_zret X ⟨(sm_inj h), rfl, rfl⟩ hr (by decide) dX5_isSign_105
  have h := if_f c4 h
  by_cases c5 : p0 = (44 : Int32)
  · have h := if_t c5 h
    refine wg_tblIn (off := 105) X 106 dX5_isSign_1 c5 (by decide) (by decide) (by decide) (by decide) ?_
    refine wg_iconst (v := 0) X dX5_isSign_106 (by decide) ?_
    exact wg_zret X ⟨(sm_inj h), rfl, rfl⟩ hr (by decide) dX5_isSign_107
  have h := if_f c5 h
  by_cases c6 : p0 = (45 : Int32)
  · have h := if_t c6 h
    refine wg_tblIn (off := 103) X 104 dX5_isSign_1 c6 (by decide) (by decide) (by decide) (by decide) ?_
    refine wg_iconst (v := 1) X dX5_isSign_104 (by decide) ?_
    exact wg_zret X ⟨(sm_inj h), rfl, rfl⟩ hr (by decide) dX5_isSign_105
  have h := if_f c6 h
  by_cases c7 : p0 = (46 : Int32)
  · have h := if_t c7 h
    refine wg_tblIn (off := 105) X 106 dX5_isSign_1 c7 (by decide) (by decide) (by decide) (by decide) ?_
    refine wg_iconst (v := 0) X dX5_isSign_106 (by decide) ?_
    exact wg_zret X ⟨(sm_inj h), rfl, rfl⟩ hr (by decide) dX5_isSign_107
  have h := if_f c7 h
  by_cases c8 : p0 = (47 : Int32)
  · have h := if_t c8 h
    refine wg_tblIn (off := 105) X 106 dX5_isSign_1 c8 (by decide) (by decide) (by decide) (by decide) ?_
    refine wg_iconst (v := 0) X dX5_isSign_106 (by decide) ?_
    exact wg_zret X ⟨(sm_inj h), rfl, rfl⟩ hr (by decide) dX5_isSign_107
  have h := if_f c8 h
  by_cases c9 : p0 = (48 : Int32)
  · have h := if_t c9 h
    refine wg_tblIn (off := 105) X 106 dX5_isSign_1 c9 (by decide) (by decide) (by decide) (by decide) ?_
    refine wg_iconst (v := 0) X dX5_isSign_106 (by decide) ?_
    exact wg_zret X ⟨(sm_inj h), rfl, rfl⟩ hr (by decide) dX5_isSign_107
  have h := if_f c9 h
  by_cases c10 : p0 = (49 : Int32)
  · have h := if_t c10 h
    refine wg_tblIn (off := 105) X 106 dX5_isSign_1 c10 (by decide) (by decide) (by decide) (by decide) ?_
    refine wg_iconst (v := 0) X dX5_isSign_106 (by decide) ?_
    exact wg_zret X ⟨(sm_inj h), rfl, rfl⟩ hr (by decide) dX5_isSign_107
  have h := if_f c10 h
  by_cases c11 : p0 = (50 : Int32)
  · have h := if_t c11 h
    refine wg_tblIn (off := 105) X 106 dX5_isSign_1 c11 (by decide) (by decide) (by decide) (by decide) ?_
    refine wg_iconst (v := 0) X dX5_isSign_106 (by decide) ?_
    exact wg_zret X ⟨(sm_inj h), rfl, rfl⟩ hr (by decide) dX5_isSign_107
  have h := if_f c11 h
  by_cases c12 : p0 = (51 : Int32)
  · have h := if_t c12 h
    refine wg_tblIn (off := 105) X 106 dX5_isSign_1 c12 (by decide) (by decide) (by decide) (by decide) ?_
    refine wg_iconst (v := 0) X dX5_isSign_106 (by decide) ?_
    exact wg_zret X ⟨(sm_inj h), rfl, rfl⟩ hr (by decide) dX5_isSign_107
  have h := if_f c12 h
  by_cases c13 : p0 = (52 : Int32)
  · have h := if_t c13 h
    refine wg_tblIn (off := 105) X 106 dX5_isSign_1 c13 (by decide) (by decide) (by decide) (by decide) ?_
    refine wg_iconst (v := 0) X dX5_isSign_106 (by decide) ?_
    exact wg_zret X ⟨(sm_inj h), rfl, rfl⟩ hr (by decide) dX5_isSign_107
  have h := if_f c13 h
  by_cases c14 : p0 = (53 : Int32)
  · have h := if_t c14 h
    refine wg_tblIn (off := 105) X 106 dX5_isSign_1 c14 (by decide) (by decide) (by decide) (by decide) ?_
    refine wg_iconst (v := 0) X dX5_isSign_106 (by decide) ?_
    exact wg_zret X ⟨(sm_inj h), rfl, rfl⟩ hr (by decide) dX5_isSign_107
  have h := if_f c14 h
  by_cases c15 : p0 = (54 : Int32)
  · have h := if_t c15 h
    refine wg_tblIn (off := 105) X 106 dX5_isSign_1 c15 (by decide) (by decide) (by decide) (by decide) ?_
    refine wg_iconst (v := 0) X dX5_isSign_106 (by decide) ?_
    exact wg_zret X ⟨(sm_inj h), rfl, rfl⟩ hr (by decide) dX5_isSign_107
  have h := if_f c15 h
  by_cases c16 : p0 = (55 : Int32)
  · have h := if_t c16 h
    refine wg_tblIn (off := 105) X 106 dX5_isSign_1 c16 (by decide) (by decide) (by decide) (by decide) ?_
    refine wg_iconst (v := 0) X dX5_isSign_106 (by decide) ?_
    exact wg_zret X ⟨(sm_inj h), rfl, rfl⟩ hr (by decide) dX5_isSign_107
  have h := if_f c16 h
  by_cases c17 : p0 = (56 : Int32)
  · have h := if_t c17 h
    refine wg_tblIn (off := 105) X 106 dX5_isSign_1 c17 (by decide) (by decide) (by decide) (by decide) ?_
    refine wg_iconst (v := 0) X dX5_isSign_106 (by decide) ?_
    exact wg_zret X ⟨(sm_inj h), rfl, rfl⟩ hr (by decide) dX5_isSign_107
  have h := if_f c17 h
  by_cases c18 : p0 = (57 : Int32)
  · have h := if_t c18 h
    refine wg_tblIn (off := 105) X 106 dX5_isSign_1 c18 (by decide) (by decide) (by decide) (by decide) ?_
    refine wg_iconst (v := 0) X dX5_isSign_106 (by decide) ?_
    exact wg_zret X ⟨(sm_inj h), rfl, rfl⟩ hr (by decide) dX5_isSign_107
  have h := if_f c18 h
  by_cases c19 : p0 = (58 : Int32)
  · have h := if_t c19 h
    refine wg_tblIn (off := 105) X 106 dX5_isSign_1 c19 (by decide) (by decide) (by decide) (by decide) ?_
    refine wg_iconst (v := 0) X dX5_isSign_106 (by decide) ?_
    exact wg_zret X ⟨(sm_inj h), rfl, rfl⟩ hr (by decide) dX5_isSign_107
  have h := if_f c19 h
  by_cases c20 : p0 = (59 : Int32)
  · have h := if_t c20 h
    refine wg_tblIn (off := 103) X 104 dX5_isSign_1 c20 (by decide) (by decide) (by decide) (by decide) ?_
    refine wg_iconst (v := 1) X dX5_isSign_104 (by decide) ?_
    exact wg_zret X ⟨(sm_inj h), rfl, rfl⟩ hr (by decide) dX5_isSign_105
  have h := if_f c20 h
  by_cases c21 : p0 = (60 : Int32)
  · have h := if_t c21 h
    refine wg_tblIn (off := 103) X 104 dX5_isSign_1 c21 (by decide) (by decide) (by decide) (by decide) ?_
    refine wg_iconst (v := 1) X dX5_isSign_104 (by decide) ?_
    exact wg_zret X ⟨(sm_inj h), rfl, rfl⟩ hr (by decide) dX5_isSign_105
  have h := if_f c21 h
  by_cases c22 : p0 = (61 : Int32)
  · have h := if_t c22 h
    refine wg_tblIn (off := 103) X 104 dX5_isSign_1 c22 (by decide) (by decide) (by decide) (by decide) ?_
    refine wg_iconst (v := 1) X dX5_isSign_104 (by decide) ?_
    exact wg_zret X ⟨(sm_inj h), rfl, rfl⟩ hr (by decide) dX5_isSign_105
  have h := if_f c22 h
  refine wg_tblOut X 106 dX5_isSign_1 (wg_tout (40) (61) (fun k hk => by
      rcases (show k = 0 ∨ k = 1 ∨ k = 2 ∨ k = 3 ∨ k = 4 ∨ k = 5 ∨ k = 6 ∨ k = 7 ∨ k = 8 ∨ k = 9 ∨ k = 10 ∨ k = 11 ∨ k = 12 ∨ k = 13 ∨ k = 14 ∨ k = 15 ∨ k = 16 ∨ k = 17 ∨ k = 18 ∨ k = 19 ∨ k = 20 ∨ k = 21 by omega) with rfl | rfl | rfl | rfl | rfl | rfl | rfl | rfl | rfl | rfl | rfl | rfl | rfl | rfl | rfl | rfl | rfl | rfl | rfl | rfl | rfl | rfl
      · exact fun q => c1 (q.trans (by decide))
      · exact fun q => c2 (q.trans (by decide))
      · exact fun q => c3 (q.trans (by decide))
      · exact fun q => c4 (q.trans (by decide))
      · exact fun q => c5 (q.trans (by decide))
      · exact fun q => c6 (q.trans (by decide))
      · exact fun q => c7 (q.trans (by decide))
      · exact fun q => c8 (q.trans (by decide))
      · exact fun q => c9 (q.trans (by decide))
      · exact fun q => c10 (q.trans (by decide))
      · exact fun q => c11 (q.trans (by decide))
      · exact fun q => c12 (q.trans (by decide))
      · exact fun q => c13 (q.trans (by decide))
      · exact fun q => c14 (q.trans (by decide))
      · exact fun q => c15 (q.trans (by decide))
      · exact fun q => c16 (q.trans (by decide))
      · exact fun q => c17 (q.trans (by decide))
      · exact fun q => c18 (q.trans (by decide))
      · exact fun q => c19 (q.trans (by decide))
      · exact fun q => c20 (q.trans (by decide))
      · exact fun q => c21 (q.trans (by decide))
      · exact fun q => c22 (q.trans (by decide))) (by decide) (by decide)) (by decide) ?_
  refine wg_iconst (v := 0) X dX5_isSign_106 (by decide) ?_
  exact wg_zret X ⟨(sm_inj h), rfl, rfl⟩ hr (by decide) dX5_isSign_107
-- WindowsGive$Tape.cutNumber()I (('c', 23),)
def f_X5_cutNumber_l7 (N : Nat)  (x1 : Int32) (C : wg_C) (x2 : Int32) : Option ((wg_C × Int32) ⊕ (wg_C × Int32)) :=
  if (C 23 1) ≤ (C 23 2) then (
    some (.inr (C, x2)))
  else (
    ck (inb (C 23 2) 160) <|
    bd (f_X5_isDigit (C 24 (C 23 2).toNatClampNeg)) fun r6 =>
    if r6 = 0 then (
      some (.inr (C, x2)))
    else (
      ck (inb (C 23 2) 160) <|
      lt_ (((x2 * (10 : Int32)) + (C 24 (C 23 2).toNatClampNeg)) - (48 : Int32)) fun v9 =>
      lt_ (wg_up C 23 2 ((C 23 2) + (1 : Int32))) fun C11 =>
      some (.inl (C11, v9))))
def f_X5_cutNumber (N : Nat) (C : wg_C)  : Option (Int32 × wg_C) :=
  lt_ (C 23 2) fun v1 =>
  bd2 (lp (fun o => f_X5_cutNumber_l7 N  v1 o.1 o.2) N (C, (0 : Int32))) fun C13 v14 =>
  ck (inb (C13 23 6) 161) <|
  lt_ (wg_up C13 26 (C13 23 6).toNatClampNeg v14) fun C20 =>
  if (4 : Int32) < ((C20 23 2) - v1) then (
    some ((-2 : Int32), C20))
  else (
    some ((1 : Int32), C20))
abbrev G_X5_cutNumber (p : Program) (l : Launch) (e : Env) (s : State) (m : MethodId) (args : Array Value) (below : List Frame) (meth : Method) (c : Code) (E : wg_Ev) (ad : Nat → Nat) (S : wg_Sh) (r0 : Int32) (C0 : wg_C) (M0 : wg_M) (pc : Nat) (C : wg_C) (M : wg_M) (lv : List (Nat × Value)) (st : List Value) : Prop := wg_G p l e (wg_Rm 1 20) s m args below meth c (MQ below (wg_Qi E ad S r0 C0 M0) args s 0 0 (wg_A E)) 3 E ad S 0 0 pc C M lv st
set_option maxHeartbeats 4000000 in
set_option maxRecDepth 100000 in
theorem L_X5_cutNumber_l7 {p : Program} {l : Launch} {e : Env} {s : State} {m : MethodId} {args : Array Value} {below : List Frame} {meth : Method} {c : Code} {E : wg_Ev} {ad : Nat → Nat} {S : wg_Sh} (X : wg_X p s m args meth c cX5_cutNumber 3 RX5 E) (hr : meth.sig.returnType = (some .int)) (hS : wg_SC S) (r0 : Int32) (D0 : wg_C) (M : wg_M) (N : Nat)   (x1 : Int32)  : ∀ (n : Nat) (C : wg_C) (x2 : Int32) (o : (wg_C × Int32)), lp (fun o => f_X5_cutNumber_l7 N  x1 o.1 o.2) n (C, x2) = some o → (∀ (Dy : wg_C) (y2 : Int32), o = (Dy, y2) → G_X5_cutNumber p l e s m args below meth c E ad S r0 D0 M 64 Dy M [(0, .ref (ad 23)), (1, .int x1), (2, .int y2)] []) → G_X5_cutNumber p l e s m args below meth c E ad S r0 D0 M 7 C M [(0, .ref (ad 23)), (1, .int x1), (2, .int x2)] [] := by
  intro n
  induction n with
  | zero => exact fun _ _ o h => (lp_zero h).elim
  | succ n ih =>
    intro C x2 o h K
    obtain ⟨o1, hb, h2⟩ := lp_some h
    replace hb : f_X5_cutNumber_l7 N  x1 C x2 = some o1 := hb
    clear h
    have Kc : ∀ (Dy : wg_C) (y2 : Int32), o1 = Sum.inl (Dy, y2) → G_X5_cutNumber p l e s m args below meth c E ad S r0 D0 M 7 Dy M [(0, .ref (ad 23)), (1, .int x1), (2, .int y2)] [] := fun Dy y2 e1 => by
      subst e1
      exact ih Dy y2 o h2 K
    have Ke : ∀ (Dy : wg_C) (y2 : Int32), o1 = Sum.inr ((Dy, y2)) → G_X5_cutNumber p l e s m args below meth c E ad S r0 D0 M 64 Dy M [(0, .ref (ad 23)), (1, .int x1), (2, .int y2)] [] := fun Dy y2 e1 => by
      subst e1
      exact K Dy y2 (sm_inj (α := (wg_C × Int32)) h2).symm
    clear ih K h2
    unfold f_X5_cutNumber_l7 at hb
    have h := hb
    clear hb
    refine wg_aload_n X 0 dX5_cutNumber_7 rfl rfl ?_
    refine wg_getC X cl5 (SCi hS 23 5 rfl) 2 (by decide) dX5_cutNumber_8 k_170 rfl ?_
    refine wg_aload_n X 0 dX5_cutNumber_11 rfl rfl ?_
    refine wg_getC X cl5 (SCi hS 23 5 rfl) 1 (by decide) dX5_cutNumber_12 k_168 rfl ?_
    refine wg_icmp_ge X 64 dX5_cutNumber_15 (by decide) (fun c3 => ?_) (fun c3 => ?_)
    · have h := if_t c3 h
      exact Ke C x2 (sm_inj h).symm
    · have h := if_f c3 h
      refine wg_aload_n X 0 dX5_cutNumber_18 rfl rfl ?_
      refine wg_getR (b := 24) X cl5 (SCi hS 23 5 rfl) 0 (by decide) dX5_cutNumber_19 k_167 rfl (SCr hS 23 0 24 rfl) ?_
      refine wg_aload_n X 0 dX5_cutNumber_22 rfl rfl ?_
      refine wg_getC X cl5 (SCi hS 23 5 rfl) 2 (by decide) dX5_cutNumber_23 k_170 rfl ?_
      obtain ⟨z4, h⟩ := ck_some h
      refine wg_iald X (SCi hS 24 10 rfl) (SCl hS 24 160 rfl) z4 dX5_cutNumber_26 ?_
      obtain ⟨r6, h5, h⟩ := bd_some h
      refine wg_callSi (As := [.int (C 24 (C 23 2).toNatClampNeg)]) (rest := []) X (c_X5_isDigit l E ad S C M (C 24 (C 23 2).toNatClampNeg)  h5) T_yX5_isDigit k_379 dX5_cutNumber_27 rfl rfl (Nat.le_of_ble_eq_true rfl) ⟨Nat.le_of_ble_eq_true rfl, Nat.le_of_ble_eq_true rfl⟩ ⟨Nat.zero_le _, Nat.zero_le _⟩ ?_
      refine wg_if_eq X 64 dX5_cutNumber_30 (by decide) (fun c7 => ?_) (fun c7 => ?_)
      · have h := if_t c7 h
        exact Ke C x2 (sm_inj h).symm
      · have h := if_f c7 h
        refine wg_iload_n X 2 dX5_cutNumber_33 rfl rfl ?_
        refine wg_bipush (v := 10) X dX5_cutNumber_34 (by decide) ?_
        refine wg_imul X dX5_cutNumber_36 ?_
        refine wg_aload_n X 0 dX5_cutNumber_37 rfl rfl ?_
        refine wg_getR (b := 24) X cl5 (SCi hS 23 5 rfl) 0 (by decide) dX5_cutNumber_38 k_167 rfl (SCr hS 23 0 24 rfl) ?_
        refine wg_aload_n X 0 dX5_cutNumber_41 rfl rfl ?_
        refine wg_getC X cl5 (SCi hS 23 5 rfl) 2 (by decide) dX5_cutNumber_42 k_170 rfl ?_
        obtain ⟨z8, h⟩ := ck_some h
        refine wg_iald X (SCi hS 24 10 rfl) (SCl hS 24 160 rfl) z8 dX5_cutNumber_45 ?_
        refine wg_iadd X dX5_cutNumber_46 ?_
        refine wg_bipush (v := 48) X dX5_cutNumber_47 (by decide) ?_
        refine wg_isub X dX5_cutNumber_49 ?_
        obtain ⟨v9, e10, h⟩ := lt_some h
        refine wg_istore_n (lv' := [(2, .int v9), (0, .ref (ad 23)), (1, .int x1)]) X dX5_cutNumber_50 rfl e10 (by decide) rfl ?_
        refine wg_aload_n X 1 dX5_cutNumber_51 rfl rfl ?_
        refine wg_dup X dX5_cutNumber_52 rfl ?_
        refine wg_getC X cl5 (SCi hS 23 5 rfl) 2 (by decide) dX5_cutNumber_53 k_170 rfl ?_
        refine wg_iconst (v := 1) X dX5_cutNumber_56 (by decide) ?_
        refine wg_iadd X dX5_cutNumber_57 ?_
        obtain ⟨C11, e12, h⟩ := lt_some h
        refine wg_putCe X cl5 (SCi hS 23 5 rfl) 2 (by decide) dX5_cutNumber_58 k_170 rfl rfl rfl rfl e12 ?_
        refine wg_goto X 7 dX5_cutNumber_61 (by decide) ?_
        refine wg_pick [1, 2, 0] (lv' := [(0, .ref (ad 23)), (1, .int x1), (2, .int v9)]) rfl ?_
        exact Kc C11 v9 (sm_inj h).symm
set_option maxHeartbeats 4000000 in
set_option maxRecDepth 100000 in
theorem c_X5_cutNumber (l : Launch) (E : wg_Ev) (ad : Nat → Nat) (S : wg_Sh) (hS : wg_SC S) (N : Nat) (C : wg_C) (M : wg_M)   {r0 : Int32} {D0 : wg_C} (h : f_X5_cutNumber N C  = some (r0, D0)) : wg_Ci l yX5_cutNumber cX5_cutNumber 3 (some .int) 1 20 E ad S C M [.ref (ad 23)] r0 D0 M := by
  refine wg_start (own := RX5) (by decide +kernel) rfl (Nat.le_of_ble_eq_true rfl) ?_
  intro p e s m below meth c X hr hnm
  refine wg_lv (lv' := [(0, .ref (ad 23))]) rfl ?_
  unfold f_X5_cutNumber at h
  refine wg_aload_n X 0 dX5_cutNumber_0 rfl rfl ?_
  refine wg_getC X cl5 (SCi hS 23 5 rfl) 2 (by decide) dX5_cutNumber_1 k_170 rfl ?_
  obtain ⟨v1, e2, h⟩ := lt_some h
  refine wg_istore_n (lv' := [(1, .int v1), (0, .ref (ad 23))]) X dX5_cutNumber_4 rfl e2 (by decide) rfl ?_
  refine wg_iconst (v := 0) X dX5_cutNumber_5 (by decide) ?_
  refine wg_istore_n (lv' := [(2, .int (0 : Int32)), (1, .int v1), (0, .ref (ad 23))]) X dX5_cutNumber_6 rfl rfl (by decide) rfl ?_
  obtain ⟨o15, h16, h⟩ := bd2_o h
  refine wg_pick [2, 1, 0] (lv' := [(0, .ref (ad 23)), (1, .int v1), (2, .int (0 : Int32))]) rfl ?_
  refine L_X5_cutNumber_l7 X hr hS r0 D0 M N   v1  N C (0 : Int32) o15 h16 (fun C13 v14 e18 => ?_)
  · subst o15
    replace h := bd2_in h
    refine wg_aload_n X 0 dX5_cutNumber_64 rfl rfl ?_
    refine wg_getR (b := 26) X cl5 (SCi hS 23 5 rfl) 4 (by decide) dX5_cutNumber_65 k_173 rfl (SCr hS 23 4 26 rfl) ?_
    refine wg_aload_n X 0 dX5_cutNumber_68 rfl rfl ?_
    refine wg_getC X cl5 (SCi hS 23 5 rfl) 6 (by decide) dX5_cutNumber_69 k_177 rfl ?_
    refine wg_iload_n X 2 dX5_cutNumber_72 rfl rfl ?_
    obtain ⟨z19, h⟩ := ck_some h
    obtain ⟨C20, e21, h⟩ := lt_some h
    refine wg_iaste X (SCi hS 26 10 rfl) (SCl hS 26 161 rfl) z19 dX5_cutNumber_73 e21 ?_
    refine wg_aload_n X 0 dX5_cutNumber_74 rfl rfl ?_
    refine wg_getC X cl5 (SCi hS 23 5 rfl) 2 (by decide) dX5_cutNumber_75 k_170 rfl ?_
    refine wg_iload_n X 1 dX5_cutNumber_78 rfl rfl ?_
    refine wg_isub X dX5_cutNumber_79 ?_
    refine wg_iconst (v := 4) X dX5_cutNumber_80 (by decide) ?_
    refine wg_icmp_gt X 88 dX5_cutNumber_81 (by decide) (fun c22 => ?_) (fun c22 => ?_)
    · have h := if_t c22 h
      refine wg_bipush (v := -2) X dX5_cutNumber_88 (by decide) ?_
      exact wg_iret X ⟨(Prod.mk.inj (sm_inj h)).1, (Prod.mk.inj (sm_inj h)).2, rfl⟩ hr dX5_cutNumber_90
    · have h := if_f c22 h
      refine wg_iconst (v := 1) X dX5_cutNumber_84 (by decide) ?_
      refine wg_goto X 90 dX5_cutNumber_85 (by decide) ?_
      exact wg_iret X ⟨(Prod.mk.inj (sm_inj h)).1, (Prod.mk.inj (sm_inj h)).2, rfl⟩ hr dX5_cutNumber_90
-- WindowsGive$Tape.spelling(I)Ljava/lang/String; ('i',)
def f_X5_spelling (p0 : Int32) : Option Nat :=
  if p0 = (0 : Int32) then (
    some 1)
  else
  if p0 = (1 : Int32) then (
    some 2)
  else
  if p0 = (2 : Int32) then (
    some 3)
  else
  if p0 = (3 : Int32) then (
    some 4)
  else
  if p0 = (4 : Int32) then (
    some 5)
  else
  if p0 = (5 : Int32) then (
    some 6)
  else
  if p0 = (6 : Int32) then (
    some 7)
  else
  if p0 = (7 : Int32) then (
    some 8)
  else
  if p0 = (8 : Int32) then (
    some 9)
  else
  if p0 = (9 : Int32) then (
    some 10)
  else
  if p0 = (10 : Int32) then (
    some 11)
  else
  some 12
set_option maxHeartbeats 4000000 in
set_option maxRecDepth 100000 in
theorem c_X5_spelling (l : Launch) (E : wg_Ev) (ad : Nat → Nat) (S : wg_Sh) (C : wg_C) (M : wg_M) (p0 : Int32)  {r0 : Nat} (h : f_X5_spelling p0 = some r0) : wg_Cs l yX5_spelling cX5_spelling 1 (some (.object "java/lang/String")) 0 0 E ad S C M [.int p0] r0 C M := by
  refine wg_start (own := RX5) (by decide +kernel) rfl (Nat.le_of_ble_eq_true rfl) ?_
  intro p e s m below meth c X hr hnm
  refine wg_lv (lv' := [(0, .int p0)]) rfl ?_
  unfold f_X5_spelling at h
  refine wg_iload_n X 0 dX5_spelling_0 rfl rfl ?_
  by_cases c1 : p0 = (0 : Int32)
  · have h := if_t c1 h
    refine wg_tblIn (off := 59) X 60 dX5_spelling_1 c1 (by decide) (by decide) (by decide) (by decide) ?_
    refine wg_ldcS X 1 (by decide) rfl rfl dX5_spelling_60 ?_
    exact wg_sret X ⟨(sm_inj h), rfl, rfl⟩ hr dX5_spelling_62
  have h := if_f c1 h
  by_cases c2 : p0 = (1 : Int32)
  · have h := if_t c2 h
    refine wg_tblIn (off := 62) X 63 dX5_spelling_1 c2 (by decide) (by decide) (by decide) (by decide) ?_
    refine wg_ldcS X 2 (by decide) rfl rfl dX5_spelling_63 ?_
    exact wg_sret X ⟨(sm_inj h), rfl, rfl⟩ hr dX5_spelling_65
  have h := if_f c2 h
  by_cases c3 : p0 = (2 : Int32)
  · have h := if_t c3 h
    refine wg_tblIn (off := 65) X 66 dX5_spelling_1 c3 (by decide) (by decide) (by decide) (by decide) ?_
    refine wg_ldcS X 3 (by decide) rfl rfl dX5_spelling_66 ?_
    exact wg_sret X ⟨(sm_inj h), rfl, rfl⟩ hr dX5_spelling_68
  have h := if_f c3 h
  by_cases c4 : p0 = (3 : Int32)
  · have h := if_t c4 h
    refine wg_tblIn (off := 68) X 69 dX5_spelling_1 c4 (by decide) (by decide) (by decide) (by decide) ?_
    refine wg_ldcS X 4 (by decide) rfl rfl dX5_spelling_69 ?_
    exact wg_sret X ⟨(sm_inj h), rfl, rfl⟩ hr dX5_spelling_71
  have h := if_f c4 h
  by_cases c5 : p0 = (4 : Int32)
  · have h := if_t c5 h
    refine wg_tblIn (off := 71) X 72 dX5_spelling_1 c5 (by decide) (by decide) (by decide) (by decide) ?_
    refine wg_ldcS X 5 (by decide) rfl rfl dX5_spelling_72 ?_
    exact wg_sret X ⟨(sm_inj h), rfl, rfl⟩ hr dX5_spelling_74
  have h := if_f c5 h
  by_cases c6 : p0 = (5 : Int32)
  · have h := if_t c6 h
    refine wg_tblIn (off := 74) X 75 dX5_spelling_1 c6 (by decide) (by decide) (by decide) (by decide) ?_
    refine wg_ldcS X 6 (by decide) rfl rfl dX5_spelling_75 ?_
    exact wg_sret X ⟨(sm_inj h), rfl, rfl⟩ hr dX5_spelling_77
  have h := if_f c6 h
  by_cases c7 : p0 = (6 : Int32)
  · have h := if_t c7 h
    refine wg_tblIn (off := 77) X 78 dX5_spelling_1 c7 (by decide) (by decide) (by decide) (by decide) ?_
    refine wg_ldcS X 7 (by decide) rfl rfl dX5_spelling_78 ?_
    exact wg_sret X ⟨(sm_inj h), rfl, rfl⟩ hr dX5_spelling_80
  have h := if_f c7 h
  by_cases c8 : p0 = (7 : Int32)
  · have h := if_t c8 h
    refine wg_tblIn (off := 80) X 81 dX5_spelling_1 c8 (by decide) (by decide) (by decide) (by decide) ?_
    refine wg_ldcS X 8 (by decide) rfl rfl dX5_spelling_81 ?_
    exact wg_sret X ⟨(sm_inj h), rfl, rfl⟩ hr dX5_spelling_83
  have h := if_f c8 h
  by_cases c9 : p0 = (8 : Int32)
  · have h := if_t c9 h
    refine wg_tblIn (off := 83) X 84 dX5_spelling_1 c9 (by decide) (by decide) (by decide) (by decide) ?_
    refine wg_ldcS X 9 (by decide) rfl rfl dX5_spelling_84 ?_
    exact wg_sret X ⟨(sm_inj h), rfl, rfl⟩ hr dX5_spelling_86
  have h := if_f c9 h
  by_cases c10 : p0 = (9 : Int32)
  · have h := if_t c10 h
    refine wg_tblIn (off := 86) X 87 dX5_spelling_1 c10 (by decide) (by decide) (by decide) (by decide) ?_
    refine wg_ldcS X 10 (by decide) rfl rfl dX5_spelling_87 ?_
    exact wg_sret X ⟨(sm_inj h), rfl, rfl⟩ hr dX5_spelling_89
  have h := if_f c10 h
  by_cases c11 : p0 = (10 : Int32)
  · have h := if_t c11 h
    refine wg_tblIn (off := 89) X 90 dX5_spelling_1 c11 (by decide) (by decide) (by decide) (by decide) ?_
    refine wg_ldcS X 11 (by decide) rfl rfl dX5_spelling_90 ?_
    exact wg_sret X ⟨(sm_inj h), rfl, rfl⟩ hr dX5_spelling_92
  have h := if_f c11 h
  refine wg_tblOut X 93 dX5_spelling_1 (wg_tout (0) (10) (fun k hk => by
      rcases (show k = 0 ∨ k = 1 ∨ k = 2 ∨ k = 3 ∨ k = 4 ∨ k = 5 ∨ k = 6 ∨ k = 7 ∨ k = 8 ∨ k = 9 ∨ k = 10 by omega) with rfl | rfl | rfl | rfl | rfl | rfl | rfl | rfl | rfl | rfl | rfl
      · exact fun q => c1 (q.trans (by decide))
      · exact fun q => c2 (q.trans (by decide))
      · exact fun q => c3 (q.trans (by decide))
      · exact fun q => c4 (q.trans (by decide))
      · exact fun q => c5 (q.trans (by decide))
      · exact fun q => c6 (q.trans (by decide))
      · exact fun q => c7 (q.trans (by decide))
      · exact fun q => c8 (q.trans (by decide))
      · exact fun q => c9 (q.trans (by decide))
      · exact fun q => c10 (q.trans (by decide))
      · exact fun q => c11 (q.trans (by decide))) (by decide) (by decide)) (by decide) ?_
  refine wg_ldcS X 12 (by decide) rfl rfl dX5_spelling_93 ?_
  exact wg_sret X ⟨(sm_inj h), rfl, rfl⟩ hr dX5_spelling_95
-- java/lang/String.coder()B ('STR',)
def f_J0_coder_7d493 (p0 : Nat) : Option Int32 :=
  if (1 : Int32) = 0 then (
    some (1 : Int32))
  else (
    some (0 : Int32))
set_option maxHeartbeats 4000000 in
set_option maxRecDepth 100000 in
theorem c_J0_coder_7d493 (l : Launch) (E : wg_Ev) (ad : Nat → Nat) (S : wg_Sh) (C : wg_C) (M : wg_M) (p0 : Nat) (hp0 : p0 < 13) {r0 : Int32} (h : f_J0_coder_7d493 p0 = some r0) : wg_Ci l yJ0_coder_7d493 cJ0_coder_7d493 1 (some .byte) 0 0 E ad S C M [.ref (E.2.2.2.2.1 p0)] r0 C M := by
  refine wg_start (own := RJ0) (by decide +kernel) rfl (Nat.le_of_ble_eq_true rfl) ?_
  intro p e s m below meth c X hr hnm
  refine wg_lv (lv' := [(0, .ref (E.2.2.2.2.1 p0))]) rfl ?_
  unfold f_J0_coder_7d493 at h
  refine wg_compact X dJ0_coder_7d493_0 k_291 ?_
  refine wg_if_eq X 13 dJ0_coder_7d493_3 (by decide) (fun c1 => ?_) (fun c1 => ?_)
  · have h := if_t c1 h
    refine wg_iconst (v := 1) X dJ0_coder_7d493_13 (by decide) ?_
    exact wg_nret X ⟨(sm_inj h), rfl, rfl⟩ hr (by decide) dJ0_coder_7d493_14
  · have h := if_f c1 h
    refine wg_aload_n X 0 dJ0_coder_7d493_6 rfl rfl ?_
    refine wg_scod X hp0 dJ0_coder_7d493_7 k_1324 ?_
    refine wg_goto X 14 dJ0_coder_7d493_10 (by decide) ?_
    exact wg_nret X ⟨(sm_inj h), rfl, rfl⟩ hr (by decide) dJ0_coder_7d493_14
-- java/lang/String.length()I ('STR',)
def f_J0_length_8abf5 (p0 : Nat) : Option Int32 :=
  bd (f_J0_coder_7d493 p0) fun r2 =>
  some ((Int32.ofNat (wg_slen.getD p0 0)) >>> (r2 &&& 31))
set_option maxHeartbeats 4000000 in
set_option maxRecDepth 100000 in
theorem c_J0_length_8abf5 (l : Launch) (E : wg_Ev) (ad : Nat → Nat) (S : wg_Sh) (C : wg_C) (M : wg_M) (p0 : Nat) (hp0 : p0 < 13) {r0 : Int32} (h : f_J0_length_8abf5 p0 = some r0) : wg_Ci l yJ0_length_8abf5 cJ0_length_8abf5 1 (some .int) 1 20 E ad S C M [.ref (E.2.2.2.2.1 p0)] r0 C M := by
  refine wg_start (own := RJ0) (by decide +kernel) rfl (Nat.le_of_ble_eq_true rfl) ?_
  intro p e s m below meth c X hr hnm
  refine wg_lv (lv' := [(0, .ref (E.2.2.2.2.1 p0))]) rfl ?_
  unfold f_J0_length_8abf5 at h
  refine wg_aload_n X 0 dJ0_length_8abf5_0 rfl rfl ?_
  refine wg_sval X hp0 dJ0_length_8abf5_1 k_1323 ?_
  refine wg_blen X hp0 dJ0_length_8abf5_4 ?_
  refine wg_aload_n X 0 dJ0_length_8abf5_5 rfl rfl ?_
  obtain ⟨r2, h1, h⟩ := bd_some h
  refine wg_callKi (As := []) (rest := [.int (Int32.ofNat (wg_slen.getD p0 0))]) X (c_J0_coder_7d493 l E ad S C M p0 hp0 h1) T_yJ0_coder_7d493 k_287 hp0 dJ0_length_8abf5_6 rfl rfl (Nat.le_of_ble_eq_true rfl) ⟨Nat.le_of_ble_eq_true rfl, Nat.le_of_ble_eq_true rfl⟩ ⟨Nat.zero_le _, Nat.zero_le _⟩ ?_
  refine wg_ishr X dJ0_length_8abf5_9 ?_
  exact wg_iret X ⟨(sm_inj h), rfl, rfl⟩ hr dJ0_length_8abf5_10
-- java/lang/String.isLatin1()Z ('STR',)
def f_J0_isLatin1_aae02 (p0 : Nat) : Option Int32 :=
  if (1 : Int32) = 0 then (
    some (0 : Int32))
  else (
    if (0 : Int32) = 0 then (
      some (1 : Int32))
    else (
      some (0 : Int32)))
set_option maxHeartbeats 4000000 in
set_option maxRecDepth 100000 in
theorem c_J0_isLatin1_aae02 (l : Launch) (E : wg_Ev) (ad : Nat → Nat) (S : wg_Sh) (C : wg_C) (M : wg_M) (p0 : Nat) (hp0 : p0 < 13) {r0 : Int32} (h : f_J0_isLatin1_aae02 p0 = some r0) : wg_Ci l yJ0_isLatin1_aae02 cJ0_isLatin1_aae02 1 (some .boolean) 0 0 E ad S C M [.ref (E.2.2.2.2.1 p0)] r0 C M := by
  refine wg_start (own := RJ0) (by decide +kernel) rfl (Nat.le_of_ble_eq_true rfl) ?_
  intro p e s m below meth c X hr hnm
  refine wg_lv (lv' := [(0, .ref (E.2.2.2.2.1 p0))]) rfl ?_
  unfold f_J0_isLatin1_aae02 at h
  refine wg_compact X dJ0_isLatin1_aae02_0 k_291 ?_
  refine wg_if_eq X 17 dJ0_isLatin1_aae02_3 (by decide) (fun c1 => ?_) (fun c1 => ?_)
  · have h := if_t c1 h
    refine wg_iconst (v := 0) X dJ0_isLatin1_aae02_17 (by decide) ?_
    exact wg_zret X ⟨(sm_inj h), rfl, rfl⟩ hr (by decide) dJ0_isLatin1_aae02_18
  · have h := if_f c1 h
    refine wg_aload_n X 0 dJ0_isLatin1_aae02_6 rfl rfl ?_
    refine wg_scod X hp0 dJ0_isLatin1_aae02_7 k_1324 ?_
    refine wg_if_ne X 17 dJ0_isLatin1_aae02_10 (by decide) (fun c2 => ?_) (fun c2 => ?_)
    · have h := if_f c2 h
      refine wg_iconst (v := 0) X dJ0_isLatin1_aae02_17 (by decide) ?_
      exact wg_zret X ⟨(sm_inj h), rfl, rfl⟩ hr (by decide) dJ0_isLatin1_aae02_18
    · have h := if_t c2 h
      refine wg_iconst (v := 1) X dJ0_isLatin1_aae02_13 (by decide) ?_
      refine wg_goto X 18 dJ0_isLatin1_aae02_14 (by decide) ?_
      exact wg_zret X ⟨(sm_inj h), rfl, rfl⟩ hr (by decide) dJ0_isLatin1_aae02_18
-- jdk/internal/util/Preconditions.checkIndex(IILjava/util/function/BiFunction;)I ('i', 'i', 'ANY')
def f_J3_checkIndex_8e157 (p0 : Int32) (p1 : Int32) (p2 : Option Nat) : Option Int32 :=
  if p0 < 0 then (
    none)
  else (
    if p0 < p1 then (
      some p0)
    else (
      none))
set_option maxHeartbeats 4000000 in
set_option maxRecDepth 100000 in
theorem c_J3_checkIndex_8e157 (l : Launch) (E : wg_Ev) (ad : Nat → Nat) (S : wg_Sh) (C : wg_C) (M : wg_M) (p0 : Int32) (p1 : Int32) (p2 : Option Nat)  {r0 : Int32} (h : f_J3_checkIndex_8e157 p0 p1 p2 = some r0) : wg_Ci l yJ3_checkIndex_8e157 cJ3_checkIndex_8e157 3 (some .int) 0 0 E ad S C M [.int p0, .int p1, va_rf p2] r0 C M := by
  refine wg_start (own := RJ3) (by decide +kernel) rfl (by cases p2 <;> exact Nat.le_of_ble_eq_true rfl) ?_
  intro p e s m below meth c X hr hnm
  refine wg_lv (lv' := [(0, .int p0), (1, .int p1), (2, va_rf p2)]) rfl ?_
  unfold f_J3_checkIndex_8e157 at h
  refine wg_iload_n X 0 dJ3_checkIndex_8e157_0 rfl rfl ?_
  refine wg_if_lt X 9 dJ3_checkIndex_8e157_1 (by decide) (fun c1 => ?_) (fun c1 => ?_)
  · have h := if_t c1 h
    cases h
  · have h := if_f c1 h
    refine wg_iload_n X 0 dJ3_checkIndex_8e157_4 rfl rfl ?_
    refine wg_iload_n X 1 dJ3_checkIndex_8e157_5 rfl rfl ?_
    refine wg_icmp_lt X 16 dJ3_checkIndex_8e157_6 (by decide) (fun c2 => ?_) (fun c2 => ?_)
    · have h := if_t c2 h
      refine wg_iload_n X 0 dJ3_checkIndex_8e157_16 rfl rfl ?_
      exact wg_iret X ⟨(sm_inj h), rfl, rfl⟩ hr dJ3_checkIndex_8e157_17
    · have h := if_f c2 h
      cases h
-- java/lang/String.checkIndex(II)V ('i', 'i')
def f_J0_checkIndex_df160 (p0 : Int32) (p1 : Int32) : Option Unit :=
  bd (f_J3_checkIndex_8e157 p0 p1 none) fun r3 =>
  some ()
set_option maxHeartbeats 4000000 in
set_option maxRecDepth 100000 in
theorem c_J0_checkIndex_df160 (l : Launch) (E : wg_Ev) (ad : Nat → Nat) (S : wg_Sh) (C : wg_C) (M : wg_M) (p0 : Int32) (p1 : Int32)  (h : f_J0_checkIndex_df160 p0 p1 = some ()) : wg_Cv l yJ0_checkIndex_df160 cJ0_checkIndex_df160 2 none 1 22 E ad S C M [.int p0, .int p1] C M := by
  refine wg_start (own := RJ0) (by decide +kernel) rfl (Nat.le_of_ble_eq_true rfl) ?_
  intro p e s m below meth c X hr hnm
  refine wg_lv (lv' := [(0, .int p0), (1, .int p1)]) rfl ?_
  unfold f_J0_checkIndex_df160 at h
  refine wg_iload_n X 0 dJ0_checkIndex_df160_0 rfl rfl ?_
  refine wg_iload_n X 1 dJ0_checkIndex_df160_1 rfl rfl ?_
  refine wg_sioobe X dJ0_checkIndex_df160_2 k_307 (fun w1 => ?_)
  obtain ⟨r3, h2, h⟩ := bd_some h
  refine wg_callSi (As := [.int p0, .int p1, va_rf w1]) (rest := []) X (c_J3_checkIndex_8e157 l E ad S C M p0 p1 w1  h2) T_yJ3_checkIndex_8e157 k_309 dJ0_checkIndex_df160_5 rfl rfl (Nat.le_of_ble_eq_true rfl) ⟨Nat.le_of_ble_eq_true rfl, Nat.le_of_ble_eq_true rfl⟩ ⟨Nat.zero_le _, Nat.zero_le _⟩ ?_
  refine wg_pop X dJ0_checkIndex_df160_8 rfl ?_
  exact wg_vret X ⟨rfl, rfl⟩ hr dJ0_checkIndex_df160_9
-- java/lang/StringLatin1.charAt([BI)C ('BYT', 'i')
def f_J1_charAt_3b067 (p0 : Nat) (p1 : Int32) : Option Int32 :=
  bd (f_J0_checkIndex_df160 p1 (Int32.ofNat (wg_slen.getD p0 0))) fun _ =>
  ck (inb p1 (wg_slen.getD p0 0)) <|
  some (((((wg_sbyt.getD p0 []).getD p1.toNatClampNeg 0) &&& (255 : Int32)).toUInt32 % 65536).toInt32)
set_option maxHeartbeats 4000000 in
set_option maxRecDepth 100000 in
theorem c_J1_charAt_3b067 (l : Launch) (E : wg_Ev) (ad : Nat → Nat) (S : wg_Sh) (C : wg_C) (M : wg_M) (p0 : Nat) (p1 : Int32) (hp0 : p0 < 13) {r0 : Int32} (h : f_J1_charAt_3b067 p0 p1 = some r0) : wg_Ci l yJ1_charAt_3b067 cJ1_charAt_3b067 2 (some .char) 2 43 E ad S C M [.ref (E.2.2.2.2.2 p0), .int p1] r0 C M := by
  refine wg_start (own := RJ1) (by decide +kernel) rfl (Nat.le_of_ble_eq_true rfl) ?_
  intro p e s m below meth c X hr hnm
  refine wg_lv (lv' := [(0, .ref (E.2.2.2.2.2 p0)), (1, .int p1)]) rfl ?_
  unfold f_J1_charAt_3b067 at h
  refine wg_iload_n X 1 dJ1_charAt_3b067_0 rfl rfl ?_
  refine wg_aload_n X 0 dJ1_charAt_3b067_1 rfl rfl ?_
  refine wg_blen X hp0 dJ1_charAt_3b067_2 ?_
  obtain ⟨_, h1, h⟩ := bd_some h
  refine wg_callSv (As := [.int p1, .int (Int32.ofNat (wg_slen.getD p0 0))]) (rest := []) X (c_J0_checkIndex_df160 l E ad S C M p1 (Int32.ofNat (wg_slen.getD p0 0))  h1) T_yJ0_checkIndex_df160 k_304 dJ1_charAt_3b067_3 rfl rfl (Nat.le_of_ble_eq_true rfl) ⟨Nat.le_of_ble_eq_true rfl, Nat.le_of_ble_eq_true rfl⟩ ⟨Nat.zero_le _, Nat.zero_le _⟩ ?_
  refine wg_aload_n X 0 dJ1_charAt_3b067_6 rfl rfl ?_
  refine wg_iload_n X 1 dJ1_charAt_3b067_7 rfl rfl ?_
  obtain ⟨z2, h⟩ := ck_some h
  refine wg_bld X hp0 z2 dJ1_charAt_3b067_8 ?_
  refine wg_sipush (v := 255) X dJ1_charAt_3b067_9 (by decide) ?_
  refine wg_iand X dJ1_charAt_3b067_12 ?_
  refine wg_i2c X dJ1_charAt_3b067_13 ?_
  exact wg_nret X ⟨(sm_inj h), rfl, rfl⟩ hr (pk_nc _) dJ1_charAt_3b067_14
-- java/lang/String.charAt(I)C ('STR', 'i')
def f_J0_charAt_5068e (p0 : Nat) (p1 : Int32) : Option Int32 :=
  bd (f_J0_isLatin1_aae02 p0) fun r2 =>
  if r2 = 0 then (
    none)
  else (
    bd (f_J1_charAt_3b067 p0 p1) fun r5 =>
    ck (narrow .char (.int r5) = .int r5) <|
    some r5)
set_option maxHeartbeats 4000000 in
set_option maxRecDepth 100000 in
theorem c_J0_charAt_5068e (l : Launch) (E : wg_Ev) (ad : Nat → Nat) (S : wg_Sh) (C : wg_C) (M : wg_M) (p0 : Nat) (p1 : Int32) (hp0 : p0 < 13) {r0 : Int32} (h : f_J0_charAt_5068e p0 p1 = some r0) : wg_Ci l yJ0_charAt_5068e cJ0_charAt_5068e 2 (some .char) 3 64 E ad S C M [.ref (E.2.2.2.2.1 p0), .int p1] r0 C M := by
  refine wg_start (own := RJ0) (by decide +kernel) rfl (Nat.le_of_ble_eq_true rfl) ?_
  intro p e s m below meth c X hr hnm
  refine wg_lv (lv' := [(0, .ref (E.2.2.2.2.1 p0)), (1, .int p1)]) rfl ?_
  unfold f_J0_charAt_5068e at h
  refine wg_aload_n X 0 dJ0_charAt_5068e_0 rfl rfl ?_
  obtain ⟨r2, h1, h⟩ := bd_some h
  refine wg_callKi (As := []) (rest := []) X (c_J0_isLatin1_aae02 l E ad S C M p0 hp0 h1) T_yJ0_isLatin1_aae02 k_297 hp0 dJ0_charAt_5068e_1 rfl rfl (Nat.le_of_ble_eq_true rfl) ⟨Nat.le_of_ble_eq_true rfl, Nat.le_of_ble_eq_true rfl⟩ ⟨Nat.zero_le _, Nat.zero_le _⟩ ?_
  refine wg_if_eq X 16 dJ0_charAt_5068e_4 (by decide) (fun c3 => ?_) (fun c3 => ?_)
  · have h := if_t c3 h
    refine wg_aload_n X 0 dJ0_charAt_5068e_16 rfl rfl ?_
    refine wg_sval X hp0 dJ0_charAt_5068e_17 k_1323 ?_
    refine wg_iload_n X 1 dJ0_charAt_5068e_20 rfl rfl ?_
    cases h
  · have h := if_f c3 h
    refine wg_aload_n X 0 dJ0_charAt_5068e_7 rfl rfl ?_
    refine wg_sval X hp0 dJ0_charAt_5068e_8 k_1323 ?_
    refine wg_iload_n X 1 dJ0_charAt_5068e_11 rfl rfl ?_
    obtain ⟨r5, h4, h⟩ := bd_some h
    refine wg_callSi (As := [.ref (E.2.2.2.2.2 p0), .int p1]) (rest := []) X (c_J1_charAt_3b067 l E ad S C M p0 p1 hp0 h4) T_yJ1_charAt_3b067 k_301 dJ0_charAt_5068e_12 rfl rfl (Nat.le_of_ble_eq_true rfl) ⟨Nat.le_of_ble_eq_true rfl, Nat.le_of_ble_eq_true rfl⟩ ⟨Nat.zero_le _, Nat.zero_le _⟩ ?_
    obtain ⟨z6, h⟩ := ck_some h
    exact wg_nret X ⟨(sm_inj h), rfl, rfl⟩ hr z6 dJ0_charAt_5068e_15
-- WindowsGive$Tape.stands(Ljava/lang/String;I)Z (('c', 23), 'STR', 'i')
def f_X5_stands_l17 (N : Nat) (p1 : Nat) (C : wg_C)  (x2 : Int32) (x3 : Int32) : Option ((Int32) ⊕ ((Int32) ⊕ Int32)) :=
  bd (f_J0_length_8abf5 p1) fun r5 =>
  if r5 ≤ x3 then (
    some (.inr (.inl x3)))
  else (
    ck (inb (x2 + x3) 160) <|
    bd (f_J0_charAt_5068e p1 x3) fun r9 =>
    if (C 24 (x2 + x3).toNatClampNeg) = r9 then (
      lt_ (x3 + (1 : Int32)) fun v11 =>
      some (.inl v11))
    else (
      some (.inr (.inr (0 : Int32)))))
def f_X5_stands (N : Nat) (C : wg_C) (p1 : Nat) (p2 : Int32) : Option Int32 :=
  bd (f_J0_length_8abf5 p1) fun r2 =>
  if ((C 23 2) - p2) = r2 then (
    bs1 (lp (fun o => f_X5_stands_l17 N p1 C  p2 o) N (0 : Int32)) (fun v13 =>
      some (1 : Int32))
      (fun q16 => some q16))
  else (
    some (0 : Int32))
abbrev G_X5_stands (p : Program) (l : Launch) (e : Env) (s : State) (m : MethodId) (args : Array Value) (below : List Frame) (meth : Method) (c : Code) (E : wg_Ev) (ad : Nat → Nat) (S : wg_Sh) (r0 : Int32) (C0 : wg_C) (M0 : wg_M) (pc : Nat) (C : wg_C) (M : wg_M) (lv : List (Nat × Value)) (st : List Value) : Prop := wg_G p l e (wg_Rm 4 85) s m args below meth c (MQ below (wg_Qi E ad S r0 C0 M0) args s 0 0 (wg_A E)) 4 E ad S 0 0 pc C M lv st
set_option maxHeartbeats 4000000 in
set_option maxRecDepth 100000 in
theorem L_X5_stands_l17 {p : Program} {l : Launch} {e : Env} {s : State} {m : MethodId} {args : Array Value} {below : List Frame} {meth : Method} {c : Code} {E : wg_Ev} {ad : Nat → Nat} {S : wg_Sh} (X : wg_X p s m args meth c cX5_stands 4 RX5 E) (hr : meth.sig.returnType = (some .boolean)) (hS : wg_SC S) (r0 : Int32) (M : wg_M) (N : Nat) (p1 : Nat) (hp1 : p1 < 13) (C : wg_C)  (x2 : Int32)  : ∀ (n : Nat) (x3 : Int32) (o : ((Int32) ⊕ Int32)), lp (fun o => f_X5_stands_l17 N p1 C  x2 o) n x3 = some o → (∀ (y3 : Int32), o = Sum.inl y3 → G_X5_stands p l e s m args below meth c E ad S r0 C M 49 C M [(0, .ref (ad 23)), (1, .ref (E.2.2.2.2.1 p1)), (2, .int x2), (3, .int y3)] []) → (∀ q : Int32, o = Sum.inr q → q = r0) → G_X5_stands p l e s m args below meth c E ad S r0 C M 17 C M [(0, .ref (ad 23)), (1, .ref (E.2.2.2.2.1 p1)), (2, .int x2), (3, .int x3)] [] := by
  intro n
  induction n with
  | zero => exact fun _ o h => (lp_zero h).elim
  | succ n ih =>
    intro x3 o h K KR
    obtain ⟨o1, hb, h2⟩ := lp_some h
    replace hb : f_X5_stands_l17 N p1 C  x2 x3 = some o1 := hb
    clear h
    have Kc : ∀ (y3 : Int32), o1 = Sum.inl y3 → G_X5_stands p l e s m args below meth c E ad S r0 C M 17 C M [(0, .ref (ad 23)), (1, .ref (E.2.2.2.2.1 p1)), (2, .int x2), (3, .int y3)] [] := fun y3 e1 => by
      subst e1
      exact ih y3 o h2 K KR
    have Ke : ∀ (y3 : Int32), o1 = Sum.inr (Sum.inl y3) → G_X5_stands p l e s m args below meth c E ad S r0 C M 49 C M [(0, .ref (ad 23)), (1, .ref (E.2.2.2.2.1 p1)), (2, .int x2), (3, .int y3)] [] := fun y3 e1 => by
      subst e1
      exact K y3 (sm_inj (α := ((Int32) ⊕ Int32)) h2).symm
    have Kr : ∀ q : Int32, o1 = Sum.inr (Sum.inr q) → q = r0 := fun q e1 => by
      subst e1
      exact KR q (sm_inj (α := ((Int32) ⊕ Int32)) h2).symm
    clear ih K h2 KR
    unfold f_X5_stands_l17 at hb
    have h := hb
    clear hb
    refine wg_iload_n X 3 dX5_stands_17 rfl rfl ?_
    refine wg_aload_n X 1 dX5_stands_18 rfl rfl ?_
    obtain ⟨r5, h4, h⟩ := bd_some h
    refine wg_callKi (As := []) (rest := [.int x3]) X (c_J0_length_8abf5 l E ad S C M p1 hp1 h4) T_yJ0_length_8abf5 k_377 hp1 dX5_stands_19 rfl rfl (Nat.le_of_ble_eq_true rfl) ⟨Nat.le_of_ble_eq_true rfl, Nat.le_of_ble_eq_true rfl⟩ ⟨Nat.zero_le _, Nat.zero_le _⟩ ?_
    refine wg_icmp_ge X 49 dX5_stands_22 (by decide) (fun c6 => ?_) (fun c6 => ?_)
    · have h := if_t c6 h
      exact Ke x3 (sm_inj h).symm
    · have h := if_f c6 h
      refine wg_aload_n X 0 dX5_stands_25 rfl rfl ?_
      refine wg_getR (b := 24) X cl5 (SCi hS 23 5 rfl) 0 (by decide) dX5_stands_26 k_167 rfl (SCr hS 23 0 24 rfl) ?_
      refine wg_iload_n X 2 dX5_stands_29 rfl rfl ?_
      refine wg_iload_n X 3 dX5_stands_30 rfl rfl ?_
      refine wg_iadd X dX5_stands_31 ?_
      obtain ⟨z7, h⟩ := ck_some h
      refine wg_iald X (SCi hS 24 10 rfl) (SCl hS 24 160 rfl) z7 dX5_stands_32 ?_
      refine wg_aload_n X 1 dX5_stands_33 rfl rfl ?_
      refine wg_iload_n X 3 dX5_stands_34 rfl rfl ?_
      obtain ⟨r9, h8, h⟩ := bd_some h
      refine wg_callKi (As := [.int x3]) (rest := [.int (C 24 (x2 + x3).toNatClampNeg)]) X (c_J0_charAt_5068e l E ad S C M p1 x3 hp1 h8) T_yJ0_charAt_5068e k_378 hp1 dX5_stands_35 rfl rfl (Nat.le_of_ble_eq_true rfl) ⟨Nat.le_of_ble_eq_true rfl, Nat.le_of_ble_eq_true rfl⟩ ⟨Nat.zero_le _, Nat.zero_le _⟩ ?_
      refine wg_icmp_eq X 43 dX5_stands_38 (by decide) (fun c10 => ?_) (fun c10 => ?_)
      · have h := if_t c10 h
        obtain ⟨v11, e12, h⟩ := lt_some h
        refine wg_iinc (lv' := [(3, .int v11), (0, .ref (ad 23)), (1, .ref (E.2.2.2.2.1 p1)), (2, .int x2)]) X 3 dX5_stands_43 rfl e12 (by decide) rfl ?_
        refine wg_goto X 17 dX5_stands_46 (by decide) ?_
        refine wg_pick [1, 2, 3, 0] (lv' := [(0, .ref (ad 23)), (1, .ref (E.2.2.2.2.1 p1)), (2, .int x2), (3, .int v11)]) rfl ?_
        exact Kc v11 (sm_inj h).symm
      · have h := if_f c10 h
        refine wg_iconst (v := 0) X dX5_stands_41 (by decide) ?_
        have hq := Kr _ (sm_inj h).symm
        exact wg_zret X ⟨hq, rfl, rfl⟩ hr (by decide) dX5_stands_42
set_option maxHeartbeats 4000000 in
set_option maxRecDepth 100000 in
theorem c_X5_stands (l : Launch) (E : wg_Ev) (ad : Nat → Nat) (S : wg_Sh) (hS : wg_SC S) (N : Nat) (C : wg_C) (M : wg_M) (p1 : Nat) (p2 : Int32) (hp1 : p1 < 13) {r0 : Int32} (h : f_X5_stands N C p1 p2 = some r0) : wg_Ci l yX5_stands cX5_stands 4 (some .boolean) 4 85 E ad S C M [.ref (ad 23), .ref (E.2.2.2.2.1 p1), .int p2] r0 C M := by
  refine wg_start (own := RX5) (by decide +kernel) rfl (Nat.le_of_ble_eq_true rfl) ?_
  intro p e s m below meth c X hr hnm
  refine wg_lv (lv' := [(0, .ref (ad 23)), (1, .ref (E.2.2.2.2.1 p1)), (2, .int p2)]) rfl ?_
  unfold f_X5_stands at h
  refine wg_aload_n X 0 dX5_stands_0 rfl rfl ?_
  refine wg_getC X cl5 (SCi hS 23 5 rfl) 2 (by decide) dX5_stands_1 k_170 rfl ?_
  refine wg_iload_n X 2 dX5_stands_4 rfl rfl ?_
  refine wg_isub X dX5_stands_5 ?_
  refine wg_aload_n X 1 dX5_stands_6 rfl rfl ?_
  obtain ⟨r2, h1, h⟩ := bd_some h
  refine wg_callKi (As := []) (rest := [.int ((C 23 2) - p2)]) X (c_J0_length_8abf5 l E ad S C M p1 hp1 h1) T_yJ0_length_8abf5 k_377 hp1 dX5_stands_7 rfl rfl (Nat.le_of_ble_eq_true rfl) ⟨Nat.le_of_ble_eq_true rfl, Nat.le_of_ble_eq_true rfl⟩ ⟨Nat.zero_le _, Nat.zero_le _⟩ ?_
  refine wg_icmp_eq X 15 dX5_stands_10 (by decide) (fun c3 => ?_) (fun c3 => ?_)
  · have h := if_t c3 h
    refine wg_iconst (v := 0) X dX5_stands_15 (by decide) ?_
    refine wg_istore_n (lv' := [(3, .int (0 : Int32)), (0, .ref (ad 23)), (1, .ref (E.2.2.2.2.1 p1)), (2, .int p2)]) X dX5_stands_16 rfl rfl (by decide) rfl ?_
    obtain ⟨o14, h15, h⟩ := bs1_o h
    refine wg_pick [1, 2, 3, 0] (lv' := [(0, .ref (ad 23)), (1, .ref (E.2.2.2.2.1 p1)), (2, .int p2), (3, .int (0 : Int32))]) rfl ?_
    refine L_X5_stands_l17 X hr hS r0 M N p1 hp1 C  p2  N (0 : Int32) o14 h15 (fun v13 e17 => ?_) (fun q16 e17 => ?_)
    · subst o14
      replace h := bs1_in h
      refine wg_iconst (v := 1) X dX5_stands_49 (by decide) ?_
      exact wg_zret X ⟨(sm_inj h), rfl, rfl⟩ hr (by decide) dX5_stands_50
    · subst o14
      replace h := bs1_r h
      exact sm_inj h
  · have h := if_f c3 h
    refine wg_iconst (v := 0) X dX5_stands_13 (by decide) ?_
    exact wg_zret X ⟨(sm_inj h), rfl, rfl⟩ hr (by decide) dX5_stands_14
-- WindowsGive$Tape.cutWord()I (('c', 23),)
def f_X5_cutWord_l5 (N : Nat)  (x1 : Int32) (C : wg_C)  : Option ((wg_C) ⊕ (wg_C)) :=
  if (C 23 1) ≤ (C 23 2) then (
    some (.inr C))
  else (
    ck (inb (C 23 2) 160) <|
    bd (f_X5_isLetter (C 24 (C 23 2).toNatClampNeg)) fun r6 =>
    if r6 = 0 then (
      some (.inr C))
    else (
      lt_ (wg_up C 23 2 ((C 23 2) + (1 : Int32))) fun C8 =>
      some (.inl C8)))
def f_X5_cutWord_l46 (N : Nat)  (x1 : Int32) (C : wg_C) (x2 : Int32) : Option ((wg_C × Int32) ⊕ ((wg_C × Int32) ⊕ (Int32 × wg_C))) :=
  if (12 : Int32) ≤ x2 then (
    some (.inr (.inl (C, x2))))
  else (
    bd (f_X5_spelling x2) fun r17 =>
    ck (r17 < 13) <|
    bd (f_X5_stands N C r17 x1) fun r20 =>
    if r20 = 0 then (
      lt_ (x2 + (1 : Int32)) fun v22 =>
      some (.inl (C, v22)))
    else (
      ck (inb (C 23 6) 161) <|
      lt_ (wg_up C 26 (C 23 6).toNatClampNeg x2) fun C25 =>
      if (6 : Int32) ≤ x2 then (
        some (.inr (.inr ((((3 : Int32) + x2) - (6 : Int32)), C25))))
      else (
        some (.inr (.inr ((2 : Int32), C25))))))
def f_X5_cutWord (N : Nat) (C : wg_C)  : Option (Int32 × wg_C) :=
  lt_ (C 23 2) fun v1 =>
  bd (lp (fun o => f_X5_cutWord_l5 N  v1 o) N C) fun C10 =>
  bs2 (lp (fun o => f_X5_cutWord_l46 N  v1 o.1 o.2) N (C10, (0 : Int32))) (fun C28 v29 =>
    some ((-2 : Int32), C28))
    (fun q32 => some q32)
abbrev G_X5_cutWord (p : Program) (l : Launch) (e : Env) (s : State) (m : MethodId) (args : Array Value) (below : List Frame) (meth : Method) (c : Code) (E : wg_Ev) (ad : Nat → Nat) (S : wg_Sh) (r0 : Int32) (C0 : wg_C) (M0 : wg_M) (pc : Nat) (C : wg_C) (M : wg_M) (lv : List (Nat × Value)) (st : List Value) : Prop := wg_G p l e (wg_Rm 5 108) s m args below meth c (MQ below (wg_Qi E ad S r0 C0 M0) args s 0 0 (wg_A E)) 3 E ad S 0 0 pc C M lv st
set_option maxHeartbeats 4000000 in
set_option maxRecDepth 100000 in
theorem L_X5_cutWord_l5 {p : Program} {l : Launch} {e : Env} {s : State} {m : MethodId} {args : Array Value} {below : List Frame} {meth : Method} {c : Code} {E : wg_Ev} {ad : Nat → Nat} {S : wg_Sh} (X : wg_X p s m args meth c cX5_cutWord 3 RX5 E) (hr : meth.sig.returnType = (some .int)) (hS : wg_SC S) (r0 : Int32) (D0 : wg_C) (M : wg_M) (N : Nat)   (x1 : Int32)  : ∀ (n : Nat) (C : wg_C) (o : (wg_C)), lp (fun o => f_X5_cutWord_l5 N  x1 o) n C = some o → (∀ (Dy : wg_C), o = Dy → G_X5_cutWord p l e s m args below meth c E ad S r0 D0 M 44 Dy M [(0, .ref (ad 23)), (1, .int x1)] []) → G_X5_cutWord p l e s m args below meth c E ad S r0 D0 M 5 C M [(0, .ref (ad 23)), (1, .int x1)] [] := by
  intro n
  induction n with
  | zero => exact fun _ o h => (lp_zero h).elim
  | succ n ih =>
    intro C o h K
    obtain ⟨o1, hb, h2⟩ := lp_some h
    replace hb : f_X5_cutWord_l5 N  x1 C = some o1 := hb
    clear h
    have Kc : ∀ (Dy : wg_C), o1 = Sum.inl Dy → G_X5_cutWord p l e s m args below meth c E ad S r0 D0 M 5 Dy M [(0, .ref (ad 23)), (1, .int x1)] [] := fun Dy e1 => by
      subst e1
      exact ih Dy o h2 K
    have Ke : ∀ (Dy : wg_C), o1 = Sum.inr (Dy) → G_X5_cutWord p l e s m args below meth c E ad S r0 D0 M 44 Dy M [(0, .ref (ad 23)), (1, .int x1)] [] := fun Dy e1 => by
      subst e1
      exact K Dy (sm_inj (α := (wg_C)) h2).symm
    clear ih K h2
    unfold f_X5_cutWord_l5 at hb
    have h := hb
    clear hb
    refine wg_aload_n X 0 dX5_cutWord_5 rfl rfl ?_
    refine wg_getC X cl5 (SCi hS 23 5 rfl) 2 (by decide) dX5_cutWord_6 k_170 rfl ?_
    refine wg_aload_n X 0 dX5_cutWord_9 rfl rfl ?_
    refine wg_getC X cl5 (SCi hS 23 5 rfl) 1 (by decide) dX5_cutWord_10 k_168 rfl ?_
    refine wg_icmp_ge X 44 dX5_cutWord_13 (by decide) (fun c3 => ?_) (fun c3 => ?_)
    · have h := if_t c3 h
      exact Ke C (sm_inj h).symm
    · have h := if_f c3 h
      refine wg_aload_n X 0 dX5_cutWord_16 rfl rfl ?_
      refine wg_getR (b := 24) X cl5 (SCi hS 23 5 rfl) 0 (by decide) dX5_cutWord_17 k_167 rfl (SCr hS 23 0 24 rfl) ?_
      refine wg_aload_n X 0 dX5_cutWord_20 rfl rfl ?_
      refine wg_getC X cl5 (SCi hS 23 5 rfl) 2 (by decide) dX5_cutWord_21 k_170 rfl ?_
      obtain ⟨z4, h⟩ := ck_some h
      refine wg_iald X (SCi hS 24 10 rfl) (SCl hS 24 160 rfl) z4 dX5_cutWord_24 ?_
      obtain ⟨r6, h5, h⟩ := bd_some h
      refine wg_callSi (As := [.int (C 24 (C 23 2).toNatClampNeg)]) (rest := []) X (c_X5_isLetter l E ad S C M (C 24 (C 23 2).toNatClampNeg)  h5) T_yX5_isLetter k_351 dX5_cutWord_25 rfl rfl (Nat.le_of_ble_eq_true rfl) ⟨Nat.le_of_ble_eq_true rfl, Nat.le_of_ble_eq_true rfl⟩ ⟨Nat.zero_le _, Nat.zero_le _⟩ ?_
      refine wg_if_eq X 44 dX5_cutWord_28 (by decide) (fun c7 => ?_) (fun c7 => ?_)
      · have h := if_t c7 h
        exact Ke C (sm_inj h).symm
      · have h := if_f c7 h
        refine wg_aload_n X 0 dX5_cutWord_31 rfl rfl ?_
        refine wg_dup X dX5_cutWord_32 rfl ?_
        refine wg_getC X cl5 (SCi hS 23 5 rfl) 2 (by decide) dX5_cutWord_33 k_170 rfl ?_
        refine wg_iconst (v := 1) X dX5_cutWord_36 (by decide) ?_
        refine wg_iadd X dX5_cutWord_37 ?_
        obtain ⟨C8, e9, h⟩ := lt_some h
        refine wg_putCe X cl5 (SCi hS 23 5 rfl) 2 (by decide) dX5_cutWord_38 k_170 rfl rfl rfl rfl e9 ?_
        refine wg_goto X 5 dX5_cutWord_41 (by decide) ?_
        exact Kc C8 (sm_inj h).symm
set_option maxHeartbeats 4000000 in
set_option maxRecDepth 100000 in
theorem L_X5_cutWord_l46 {p : Program} {l : Launch} {e : Env} {s : State} {m : MethodId} {args : Array Value} {below : List Frame} {meth : Method} {c : Code} {E : wg_Ev} {ad : Nat → Nat} {S : wg_Sh} (X : wg_X p s m args meth c cX5_cutWord 3 RX5 E) (hr : meth.sig.returnType = (some .int)) (hS : wg_SC S) (r0 : Int32) (D0 : wg_C) (M : wg_M) (N : Nat)   (x1 : Int32)  : ∀ (n : Nat) (C : wg_C) (x2 : Int32) (o : ((wg_C × Int32) ⊕ (Int32 × wg_C))), lp (fun o => f_X5_cutWord_l46 N  x1 o.1 o.2) n (C, x2) = some o → (∀ (Dy : wg_C) (y2 : Int32), o = Sum.inl (Dy, y2) → G_X5_cutWord p l e s m args below meth c E ad S r0 D0 M 97 Dy M [(0, .ref (ad 23)), (1, .int x1), (2, .int y2)] []) → (∀ q : (Int32 × wg_C), o = Sum.inr q → q = (r0, D0)) → G_X5_cutWord p l e s m args below meth c E ad S r0 D0 M 46 C M [(0, .ref (ad 23)), (1, .int x1), (2, .int x2)] [] := by
  intro n
  induction n with
  | zero => exact fun _ _ o h => (lp_zero h).elim
  | succ n ih =>
    intro C x2 o h K KR
    obtain ⟨o1, hb, h2⟩ := lp_some h
    replace hb : f_X5_cutWord_l46 N  x1 C x2 = some o1 := hb
    clear h
    have Kc : ∀ (Dy : wg_C) (y2 : Int32), o1 = Sum.inl (Dy, y2) → G_X5_cutWord p l e s m args below meth c E ad S r0 D0 M 46 Dy M [(0, .ref (ad 23)), (1, .int x1), (2, .int y2)] [] := fun Dy y2 e1 => by
      subst e1
      exact ih Dy y2 o h2 K KR
    have Ke : ∀ (Dy : wg_C) (y2 : Int32), o1 = Sum.inr (Sum.inl (Dy, y2)) → G_X5_cutWord p l e s m args below meth c E ad S r0 D0 M 97 Dy M [(0, .ref (ad 23)), (1, .int x1), (2, .int y2)] [] := fun Dy y2 e1 => by
      subst e1
      exact K Dy y2 (sm_inj (α := ((wg_C × Int32) ⊕ (Int32 × wg_C))) h2).symm
    have Kr : ∀ q : (Int32 × wg_C), o1 = Sum.inr (Sum.inr q) → q = (r0, D0) := fun q e1 => by
      subst e1
      exact KR q (sm_inj (α := ((wg_C × Int32) ⊕ (Int32 × wg_C))) h2).symm
    clear ih K h2 KR
    unfold f_X5_cutWord_l46 at hb
    have h := hb
    clear hb
    refine wg_iload_n X 2 dX5_cutWord_46 rfl rfl ?_
    refine wg_bipush (v := 12) X dX5_cutWord_47 (by decide) ?_
    refine wg_icmp_ge X 97 dX5_cutWord_49 (by decide) (fun c15 => ?_) (fun c15 => ?_)
    · have h := if_t c15 h
      exact Ke C x2 (sm_inj h).symm
    · have h := if_f c15 h
      refine wg_aload_n X 0 dX5_cutWord_52 rfl rfl ?_
      refine wg_iload_n X 2 dX5_cutWord_53 rfl rfl ?_
      obtain ⟨r17, h16, h⟩ := bd_some h
      refine wg_callSs (As := [.int x2]) (rest := [.ref (ad 23)]) X (c_X5_spelling l E ad S C M x2  h16) T_yX5_spelling k_358 dX5_cutWord_54 rfl rfl (Nat.le_of_ble_eq_true rfl) ⟨Nat.le_of_ble_eq_true rfl, Nat.le_of_ble_eq_true rfl⟩ ⟨Nat.zero_le _, Nat.zero_le _⟩ ?_
      obtain ⟨z18, h⟩ := ck_some h
      refine wg_iload_n X 1 dX5_cutWord_57 rfl rfl ?_
      obtain ⟨r20, h19, h⟩ := bd_some h
      refine wg_callVi (As := [.ref (E.2.2.2.2.1 r17), .int x1]) (rest := []) X (c_X5_stands l E ad S hS N C M r17 x1 z18 h19) T_yX5_stands k_373 cl5 (SCi hS 23 5 rfl) dX5_cutWord_58 rfl rfl (Nat.le_of_ble_eq_true rfl) ⟨Nat.le_of_ble_eq_true rfl, Nat.le_of_ble_eq_true rfl⟩ ⟨Nat.zero_le _, Nat.zero_le _⟩ ?_
      refine wg_if_eq X 91 dX5_cutWord_61 (by decide) (fun c21 => ?_) (fun c21 => ?_)
      · have h := if_t c21 h
        obtain ⟨v22, e23, h⟩ := lt_some h
        refine wg_iinc (lv' := [(2, .int v22), (0, .ref (ad 23)), (1, .int x1)]) X 2 dX5_cutWord_91 rfl e23 (by decide) rfl ?_
        refine wg_goto X 46 dX5_cutWord_94 (by decide) ?_
        refine wg_pick [1, 2, 0] (lv' := [(0, .ref (ad 23)), (1, .int x1), (2, .int v22)]) rfl ?_
        exact Kc C v22 (sm_inj h).symm
      · have h := if_f c21 h
        refine wg_aload_n X 0 dX5_cutWord_64 rfl rfl ?_
        refine wg_getR (b := 26) X cl5 (SCi hS 23 5 rfl) 4 (by decide) dX5_cutWord_65 k_173 rfl (SCr hS 23 4 26 rfl) ?_
        refine wg_aload_n X 0 dX5_cutWord_68 rfl rfl ?_
        refine wg_getC X cl5 (SCi hS 23 5 rfl) 6 (by decide) dX5_cutWord_69 k_177 rfl ?_
        refine wg_iload_n X 2 dX5_cutWord_72 rfl rfl ?_
        obtain ⟨z24, h⟩ := ck_some h
        obtain ⟨C25, e26, h⟩ := lt_some h
        refine wg_iaste X (SCi hS 26 10 rfl) (SCl hS 26 161 rfl) z24 dX5_cutWord_73 e26 ?_
        refine wg_iload_n X 2 dX5_cutWord_74 rfl rfl ?_
        refine wg_bipush (v := 6) X dX5_cutWord_75 (by decide) ?_
        refine wg_icmp_ge X 84 dX5_cutWord_77 (by decide) (fun c27 => ?_) (fun c27 => ?_)
        · have h := if_t c27 h
          refine wg_iconst (v := 3) X dX5_cutWord_84 (by decide) ?_
          refine wg_iload_n X 2 dX5_cutWord_85 rfl rfl ?_
          refine wg_iadd X dX5_cutWord_86 ?_
          refine wg_bipush (v := 6) X dX5_cutWord_87 (by decide) ?_
          refine wg_isub X dX5_cutWord_89 ?_
          have hq := Kr _ (sm_inj h).symm
          exact wg_iret X ⟨(Prod.mk.inj hq).1, (Prod.mk.inj hq).2, rfl⟩ hr dX5_cutWord_90
        · have h := if_f c27 h
          refine wg_iconst (v := 2) X dX5_cutWord_80 (by decide) ?_
          refine wg_goto X 90 dX5_cutWord_81 (by decide) ?_
          have hq := Kr _ (sm_inj h).symm
          exact wg_iret X ⟨(Prod.mk.inj hq).1, (Prod.mk.inj hq).2, rfl⟩ hr dX5_cutWord_90
set_option maxHeartbeats 4000000 in
set_option maxRecDepth 100000 in
theorem c_X5_cutWord (l : Launch) (E : wg_Ev) (ad : Nat → Nat) (S : wg_Sh) (hS : wg_SC S) (N : Nat) (C : wg_C) (M : wg_M)   {r0 : Int32} {D0 : wg_C} (h : f_X5_cutWord N C  = some (r0, D0)) : wg_Ci l yX5_cutWord cX5_cutWord 3 (some .int) 5 108 E ad S C M [.ref (ad 23)] r0 D0 M := by
  refine wg_start (own := RX5) (by decide +kernel) rfl (Nat.le_of_ble_eq_true rfl) ?_
  intro p e s m below meth c X hr hnm
  refine wg_lv (lv' := [(0, .ref (ad 23))]) rfl ?_
  unfold f_X5_cutWord at h
  refine wg_aload_n X 0 dX5_cutWord_0 rfl rfl ?_
  refine wg_getC X cl5 (SCi hS 23 5 rfl) 2 (by decide) dX5_cutWord_1 k_170 rfl ?_
  obtain ⟨v1, e2, h⟩ := lt_some h
  refine wg_istore_n (lv' := [(1, .int v1), (0, .ref (ad 23))]) X dX5_cutWord_4 rfl e2 (by decide) rfl ?_
  obtain ⟨o11, h12, h⟩ := bd_o h
  refine wg_pick [1, 0] (lv' := [(0, .ref (ad 23)), (1, .int v1)]) rfl ?_
  refine L_X5_cutWord_l5 X hr hS r0 D0 M N   v1  N C o11 h12 (fun C10 e14 => ?_)
  · subst o11
    replace h := bd_in h
    refine wg_iconst (v := 0) X dX5_cutWord_44 (by decide) ?_
    refine wg_istore_n (lv' := [(2, .int (0 : Int32)), (0, .ref (ad 23)), (1, .int v1)]) X dX5_cutWord_45 rfl rfl (by decide) rfl ?_
    obtain ⟨o30, h31, h⟩ := bs2_o h
    refine wg_pick [1, 2, 0] (lv' := [(0, .ref (ad 23)), (1, .int v1), (2, .int (0 : Int32))]) rfl ?_
    refine L_X5_cutWord_l46 X hr hS r0 D0 M N   v1  N C10 (0 : Int32) o30 h31 (fun C28 v29 e33 => ?_) (fun q32 e33 => ?_)
    · subst o30
      replace h := bs2_in h
      refine wg_bipush (v := -2) X dX5_cutWord_97 (by decide) ?_
      exact wg_iret X ⟨(Prod.mk.inj (sm_inj h)).1, (Prod.mk.inj (sm_inj h)).2, rfl⟩ hr dX5_cutWord_99
    · subst o30
      replace h := bs2_r h
      exact sm_inj h
-- WindowsGive$Tape.cutOne()I (('c', 23),)
def f_X5_cutOne (N : Nat) (C : wg_C)  : Option (Int32 × wg_C) :=
  if (C 23 2) < (C 23 1) then (
    ck (inb (C 23 2) 160) <|
    bd (f_X5_isLetter (C 24 (C 23 2).toNatClampNeg)) fun r4 =>
    if r4 = 0 then (
      ck (inb (C 23 2) 160) <|
      bd (f_X5_isDigit (C 24 (C 23 2).toNatClampNeg)) fun r8 =>
      if r8 = 0 then (
        ck (inb (C 23 2) 160) <|
        lt_ (C 24 (C 23 2).toNatClampNeg) fun v11 =>
        lt_ (wg_up C 23 2 ((C 23 2) + (1 : Int32))) fun C13 =>
        bd (f_X5_isSign v11) fun r16 =>
        if r16 = 0 then (
          some ((-2 : Int32), C13))
        else (
          some (v11, C13)))
      else (
        bd2 (f_X5_cutNumber N C ) fun r19 C20 =>
        some (r19, C20)))
    else (
      bd2 (f_X5_cutWord N C ) fun r22 C23 =>
      some (r22, C23)))
  else (
    some ((-1 : Int32), C))
set_option maxHeartbeats 4000000 in
set_option maxRecDepth 100000 in
theorem c_X5_cutOne (l : Launch) (E : wg_Ev) (ad : Nat → Nat) (S : wg_Sh) (hS : wg_SC S) (N : Nat) (C : wg_C) (M : wg_M)   {r0 : Int32} {D0 : wg_C} (h : f_X5_cutOne N C  = some (r0, D0)) : wg_Ci l yX5_cutOne cX5_cutOne 2 (some .int) 6 130 E ad S C M [.ref (ad 23)] r0 D0 M := by
  refine wg_start (own := RX5) (by decide +kernel) rfl (Nat.le_of_ble_eq_true rfl) ?_
  intro p e s m below meth c X hr hnm
  refine wg_lv (lv' := [(0, .ref (ad 23))]) rfl ?_
  unfold f_X5_cutOne at h
  refine wg_aload_n X 0 dX5_cutOne_0 rfl rfl ?_
  refine wg_getC X cl5 (SCi hS 23 5 rfl) 2 (by decide) dX5_cutOne_1 k_170 rfl ?_
  refine wg_aload_n X 0 dX5_cutOne_4 rfl rfl ?_
  refine wg_getC X cl5 (SCi hS 23 5 rfl) 1 (by decide) dX5_cutOne_5 k_168 rfl ?_
  refine wg_icmp_lt X 13 dX5_cutOne_8 (by decide) (fun c1 => ?_) (fun c1 => ?_)
  · have h := if_t c1 h
    refine wg_aload_n X 0 dX5_cutOne_13 rfl rfl ?_
    refine wg_getR (b := 24) X cl5 (SCi hS 23 5 rfl) 0 (by decide) dX5_cutOne_14 k_167 rfl (SCr hS 23 0 24 rfl) ?_
    refine wg_aload_n X 0 dX5_cutOne_17 rfl rfl ?_
    refine wg_getC X cl5 (SCi hS 23 5 rfl) 2 (by decide) dX5_cutOne_18 k_170 rfl ?_
    obtain ⟨z2, h⟩ := ck_some h
    refine wg_iald X (SCi hS 24 10 rfl) (SCl hS 24 160 rfl) z2 dX5_cutOne_21 ?_
    obtain ⟨r4, h3, h⟩ := bd_some h
    refine wg_callSi (As := [.int (C 24 (C 23 2).toNatClampNeg)]) (rest := []) X (c_X5_isLetter l E ad S C M (C 24 (C 23 2).toNatClampNeg)  h3) T_yX5_isLetter k_351 dX5_cutOne_22 rfl rfl (Nat.le_of_ble_eq_true rfl) ⟨Nat.le_of_ble_eq_true rfl, Nat.le_of_ble_eq_true rfl⟩ ⟨Nat.zero_le _, Nat.zero_le _⟩ ?_
    refine wg_if_eq X 33 dX5_cutOne_25 (by decide) (fun c5 => ?_) (fun c5 => ?_)
    · have h := if_t c5 h
      refine wg_aload_n X 0 dX5_cutOne_33 rfl rfl ?_
      refine wg_getR (b := 24) X cl5 (SCi hS 23 5 rfl) 0 (by decide) dX5_cutOne_34 k_167 rfl (SCr hS 23 0 24 rfl) ?_
      refine wg_aload_n X 0 dX5_cutOne_37 rfl rfl ?_
      refine wg_getC X cl5 (SCi hS 23 5 rfl) 2 (by decide) dX5_cutOne_38 k_170 rfl ?_
      obtain ⟨z6, h⟩ := ck_some h
      refine wg_iald X (SCi hS 24 10 rfl) (SCl hS 24 160 rfl) z6 dX5_cutOne_41 ?_
      obtain ⟨r8, h7, h⟩ := bd_some h
      refine wg_callSi (As := [.int (C 24 (C 23 2).toNatClampNeg)]) (rest := []) X (c_X5_isDigit l E ad S C M (C 24 (C 23 2).toNatClampNeg)  h7) T_yX5_isDigit k_379 dX5_cutOne_42 rfl rfl (Nat.le_of_ble_eq_true rfl) ⟨Nat.le_of_ble_eq_true rfl, Nat.le_of_ble_eq_true rfl⟩ ⟨Nat.zero_le _, Nat.zero_le _⟩ ?_
      refine wg_if_eq X 53 dX5_cutOne_45 (by decide) (fun c9 => ?_) (fun c9 => ?_)
      · have h := if_t c9 h
        refine wg_aload_n X 0 dX5_cutOne_53 rfl rfl ?_
        refine wg_getR (b := 24) X cl5 (SCi hS 23 5 rfl) 0 (by decide) dX5_cutOne_54 k_167 rfl (SCr hS 23 0 24 rfl) ?_
        refine wg_aload_n X 0 dX5_cutOne_57 rfl rfl ?_
        refine wg_getC X cl5 (SCi hS 23 5 rfl) 2 (by decide) dX5_cutOne_58 k_170 rfl ?_
        obtain ⟨z10, h⟩ := ck_some h
        refine wg_iald X (SCi hS 24 10 rfl) (SCl hS 24 160 rfl) z10 dX5_cutOne_61 ?_
        obtain ⟨v11, e12, h⟩ := lt_some h
        refine wg_istore_n (lv' := [(1, .int v11), (0, .ref (ad 23))]) X dX5_cutOne_62 rfl e12 (by decide) rfl ?_
        refine wg_aload_n X 1 dX5_cutOne_63 rfl rfl ?_
        refine wg_dup X dX5_cutOne_64 rfl ?_
        refine wg_getC X cl5 (SCi hS 23 5 rfl) 2 (by decide) dX5_cutOne_65 k_170 rfl ?_
        refine wg_iconst (v := 1) X dX5_cutOne_68 (by decide) ?_
        refine wg_iadd X dX5_cutOne_69 ?_
        obtain ⟨C13, e14, h⟩ := lt_some h
        refine wg_putCe X cl5 (SCi hS 23 5 rfl) 2 (by decide) dX5_cutOne_70 k_170 rfl rfl rfl rfl e14 ?_
        refine wg_iload_n X 0 dX5_cutOne_73 rfl rfl ?_
        obtain ⟨r16, h15, h⟩ := bd_some h
        refine wg_callSi (As := [.int v11]) (rest := []) X (c_X5_isSign l E ad S C13 M v11  h15) T_yX5_isSign k_386 dX5_cutOne_74 rfl rfl (Nat.le_of_ble_eq_true rfl) ⟨Nat.le_of_ble_eq_true rfl, Nat.le_of_ble_eq_true rfl⟩ ⟨Nat.zero_le _, Nat.zero_le _⟩ ?_
        refine wg_if_eq X 84 dX5_cutOne_77 (by decide) (fun c17 => ?_) (fun c17 => ?_)
        · have h := if_t c17 h
          refine wg_bipush (v := -2) X dX5_cutOne_84 (by decide) ?_
          exact wg_iret X ⟨(Prod.mk.inj (sm_inj h)).1, (Prod.mk.inj (sm_inj h)).2, rfl⟩ hr dX5_cutOne_86
        · have h := if_f c17 h
          refine wg_iload_n X 0 dX5_cutOne_80 rfl rfl ?_
          refine wg_goto X 86 dX5_cutOne_81 (by decide) ?_
          exact wg_iret X ⟨(Prod.mk.inj (sm_inj h)).1, (Prod.mk.inj (sm_inj h)).2, rfl⟩ hr dX5_cutOne_86
      · have h := if_f c9 h
        refine wg_aload_n X 0 dX5_cutOne_48 rfl rfl ?_
        obtain ⟨r19, C20, h18, h⟩ := bd2_some h
        refine wg_callVi (As := []) (rest := []) X (c_X5_cutNumber l E ad S hS N C M   h18) T_yX5_cutNumber k_382 cl5 (SCi hS 23 5 rfl) dX5_cutOne_49 rfl rfl (Nat.le_of_ble_eq_true rfl) ⟨Nat.le_of_ble_eq_true rfl, Nat.le_of_ble_eq_true rfl⟩ ⟨Nat.zero_le _, Nat.zero_le _⟩ ?_
        exact wg_iret X ⟨(Prod.mk.inj (sm_inj h)).1, (Prod.mk.inj (sm_inj h)).2, rfl⟩ hr dX5_cutOne_52
    · have h := if_f c5 h
      refine wg_aload_n X 0 dX5_cutOne_28 rfl rfl ?_
      obtain ⟨r22, C23, h21, h⟩ := bd2_some h
      refine wg_callVi (As := []) (rest := []) X (c_X5_cutWord l E ad S hS N C M   h21) T_yX5_cutWord k_354 cl5 (SCi hS 23 5 rfl) dX5_cutOne_29 rfl rfl (Nat.le_of_ble_eq_true rfl) ⟨Nat.le_of_ble_eq_true rfl, Nat.le_of_ble_eq_true rfl⟩ ⟨Nat.zero_le _, Nat.zero_le _⟩ ?_
      exact wg_iret X ⟨(Prod.mk.inj (sm_inj h)).1, (Prod.mk.inj (sm_inj h)).2, rfl⟩ hr dX5_cutOne_32
  · have h := if_f c1 h
    refine wg_iconst (v := -1) X dX5_cutOne_11 (by decide) ?_
    exact wg_iret X ⟨(Prod.mk.inj (sm_inj h)).1, (Prod.mk.inj (sm_inj h)).2, rfl⟩ hr dX5_cutOne_12
-- WindowsGive$Tape.cut()V (('c', 23),)
def f_X5_cut_l12 (N : Nat)   (C : wg_C) (x1 : Int32) : Option ((wg_C × Int32) ⊕ (wg_C × Int32)) :=
  if (160 : Int32) < (C 23 6) then (
    some (.inr (C, x1)))
  else (
    if x1 = (-1 : Int32) then (
      some (.inr (C, x1)))
    else (
      if x1 = (-2 : Int32) then (
        some (.inr (C, x1)))
      else (
        bd (f_X5_skipBlanks N C ) fun C9 =>
        ck (inb (C9 23 6) 161) <|
        lt_ (wg_up C9 27 (C9 23 6).toNatClampNeg (C9 23 2)) fun C11 =>
        ck (inb (C11 23 6) 161) <|
        lt_ (wg_up C11 26 (C11 23 6).toNatClampNeg (0 : Int32)) fun C14 =>
        bd2 (f_X5_cutOne N C14 ) fun r17 C18 =>
        ck (inb (C18 23 6) 161) <|
        lt_ (wg_up C18 25 (C18 23 6).toNatClampNeg r17) fun C20 =>
        lt_ (wg_up C20 23 6 ((C20 23 6) + (1 : Int32))) fun C22 =>
        some (.inl (C22, r17)))))
def f_X5_cut (N : Nat) (C : wg_C)  : Option wg_C :=
  lt_ (wg_up C 23 2 (0 : Int32)) fun C1 =>
  lt_ (wg_up C1 23 6 (0 : Int32)) fun C3 =>
  bd2 (lp (fun o => f_X5_cut_l12 N   o.1 o.2) N (C3, (0 : Int32))) fun C24 v25 =>
  some C24
abbrev G_X5_cut (p : Program) (l : Launch) (e : Env) (s : State) (m : MethodId) (args : Array Value) (below : List Frame) (meth : Method) (c : Code) (E : wg_Ev) (ad : Nat → Nat) (S : wg_Sh) (C0 : wg_C) (M0 : wg_M) (pc : Nat) (C : wg_C) (M : wg_M) (lv : List (Nat × Value)) (st : List Value) : Prop := wg_G p l e (wg_Rm 7 151) s m args below meth c (MQ below (wg_Qv E ad S C0 M0) args s 0 0 (wg_A E)) 2 E ad S 0 0 pc C M lv st
set_option maxHeartbeats 4000000 in
set_option maxRecDepth 100000 in
theorem L_X5_cut_l12 {p : Program} {l : Launch} {e : Env} {s : State} {m : MethodId} {args : Array Value} {below : List Frame} {meth : Method} {c : Code} {E : wg_Ev} {ad : Nat → Nat} {S : wg_Sh} (X : wg_X p s m args meth c cX5_cut 2 RX5 E) (hr : meth.sig.returnType = none) (hS : wg_SC S) (D0 : wg_C) (M : wg_M) (N : Nat)     : ∀ (n : Nat) (C : wg_C) (x1 : Int32) (o : (wg_C × Int32)), lp (fun o => f_X5_cut_l12 N   o.1 o.2) n (C, x1) = some o → (∀ (Dy : wg_C) (y1 : Int32), o = (Dy, y1) → G_X5_cut p l e s m args below meth c E ad S D0 M 88 Dy M [(0, .ref (ad 23)), (1, .int y1)] []) → G_X5_cut p l e s m args below meth c E ad S D0 M 12 C M [(0, .ref (ad 23)), (1, .int x1)] [] := by
  intro n
  induction n with
  | zero => exact fun _ _ o h => (lp_zero h).elim
  | succ n ih =>
    intro C x1 o h K
    obtain ⟨o1, hb, h2⟩ := lp_some h
    replace hb : f_X5_cut_l12 N   C x1 = some o1 := hb
    clear h
    have Kc : ∀ (Dy : wg_C) (y1 : Int32), o1 = Sum.inl (Dy, y1) → G_X5_cut p l e s m args below meth c E ad S D0 M 12 Dy M [(0, .ref (ad 23)), (1, .int y1)] [] := fun Dy y1 e1 => by
      subst e1
      exact ih Dy y1 o h2 K
    have Ke : ∀ (Dy : wg_C) (y1 : Int32), o1 = Sum.inr ((Dy, y1)) → G_X5_cut p l e s m args below meth c E ad S D0 M 88 Dy M [(0, .ref (ad 23)), (1, .int y1)] [] := fun Dy y1 e1 => by
      subst e1
      exact K Dy y1 (sm_inj (α := (wg_C × Int32)) h2).symm
    clear ih K h2
    unfold f_X5_cut_l12 at hb
    have h := hb
    clear hb
    refine wg_aload_n X 0 dX5_cut_12 rfl rfl ?_
    refine wg_getC X cl5 (SCi hS 23 5 rfl) 6 (by decide) dX5_cut_13 k_177 rfl ?_
    refine wg_sipush (v := 160) X dX5_cut_16 (by decide) ?_
    refine wg_icmp_gt X 88 dX5_cut_19 (by decide) (fun c5 => ?_) (fun c5 => ?_)
    · have h := if_t c5 h
      exact Ke C x1 (sm_inj h).symm
    · have h := if_f c5 h
      refine wg_iload_n X 1 dX5_cut_22 rfl rfl ?_
      refine wg_iconst (v := -1) X dX5_cut_23 (by decide) ?_
      refine wg_icmp_eq X 88 dX5_cut_24 (by decide) (fun c6 => ?_) (fun c6 => ?_)
      · have h := if_t c6 h
        exact Ke C x1 (sm_inj h).symm
      · have h := if_f c6 h
        refine wg_iload_n X 1 dX5_cut_27 rfl rfl ?_
        refine wg_bipush (v := -2) X dX5_cut_28 (by decide) ?_
        refine wg_icmp_eq X 88 dX5_cut_30 (by decide) (fun c7 => ?_) (fun c7 => ?_)
        · have h := if_t c7 h
          exact Ke C x1 (sm_inj h).symm
        · have h := if_f c7 h
          refine wg_aload_n X 0 dX5_cut_33 rfl rfl ?_
          obtain ⟨C9, h8, h⟩ := bd_some h
          refine wg_callVv (As := []) (rest := []) X (c_X5_skipBlanks l E ad S hS N C M   h8) T_yX5_skipBlanks k_343 cl5 (SCi hS 23 5 rfl) dX5_cut_34 rfl rfl (Nat.le_of_ble_eq_true rfl) ⟨Nat.le_of_ble_eq_true rfl, Nat.le_of_ble_eq_true rfl⟩ ⟨Nat.zero_le _, Nat.zero_le _⟩ ?_
          refine wg_aload_n X 0 dX5_cut_37 rfl rfl ?_
          refine wg_getR (b := 27) X cl5 (SCi hS 23 5 rfl) 5 (by decide) dX5_cut_38 k_175 rfl (SCr hS 23 5 27 rfl) ?_
          refine wg_aload_n X 0 dX5_cut_41 rfl rfl ?_
          refine wg_getC X cl5 (SCi hS 23 5 rfl) 6 (by decide) dX5_cut_42 k_177 rfl ?_
          refine wg_aload_n X 0 dX5_cut_45 rfl rfl ?_
          refine wg_getC X cl5 (SCi hS 23 5 rfl) 2 (by decide) dX5_cut_46 k_170 rfl ?_
          obtain ⟨z10, h⟩ := ck_some h
          obtain ⟨C11, e12, h⟩ := lt_some h
          refine wg_iaste X (SCi hS 27 10 rfl) (SCl hS 27 161 rfl) z10 dX5_cut_49 e12 ?_
          refine wg_aload_n X 0 dX5_cut_50 rfl rfl ?_
          refine wg_getR (b := 26) X cl5 (SCi hS 23 5 rfl) 4 (by decide) dX5_cut_51 k_173 rfl (SCr hS 23 4 26 rfl) ?_
          refine wg_aload_n X 0 dX5_cut_54 rfl rfl ?_
          refine wg_getC X cl5 (SCi hS 23 5 rfl) 6 (by decide) dX5_cut_55 k_177 rfl ?_
          refine wg_iconst (v := 0) X dX5_cut_58 (by decide) ?_
          obtain ⟨z13, h⟩ := ck_some h
          obtain ⟨C14, e15, h⟩ := lt_some h
          refine wg_iaste X (SCi hS 26 10 rfl) (SCl hS 26 161 rfl) z13 dX5_cut_59 e15 ?_
          refine wg_aload_n X 0 dX5_cut_60 rfl rfl ?_
          obtain ⟨r17, C18, h16, h⟩ := bd2_some h
          refine wg_callVi (As := []) (rest := []) X (c_X5_cutOne l E ad S hS N C14 M   h16) T_yX5_cutOne k_347 cl5 (SCi hS 23 5 rfl) dX5_cut_61 rfl rfl (Nat.le_of_ble_eq_true rfl) ⟨Nat.le_of_ble_eq_true rfl, Nat.le_of_ble_eq_true rfl⟩ ⟨Nat.zero_le _, Nat.zero_le _⟩ ?_
          refine wg_istore_n (lv' := [(1, .int r17), (0, .ref (ad 23))]) X dX5_cut_64 rfl rfl (by decide) rfl ?_
          refine wg_aload_n X 1 dX5_cut_65 rfl rfl ?_
          refine wg_getR (b := 25) X cl5 (SCi hS 23 5 rfl) 3 (by decide) dX5_cut_66 k_171 rfl (SCr hS 23 3 25 rfl) ?_
          refine wg_aload_n X 1 dX5_cut_69 rfl rfl ?_
          refine wg_getC X cl5 (SCi hS 23 5 rfl) 6 (by decide) dX5_cut_70 k_177 rfl ?_
          refine wg_iload_n X 0 dX5_cut_73 rfl rfl ?_
          obtain ⟨z19, h⟩ := ck_some h
          obtain ⟨C20, e21, h⟩ := lt_some h
          refine wg_iaste X (SCi hS 25 10 rfl) (SCl hS 25 161 rfl) z19 dX5_cut_74 e21 ?_
          refine wg_aload_n X 1 dX5_cut_75 rfl rfl ?_
          refine wg_dup X dX5_cut_76 rfl ?_
          refine wg_getC X cl5 (SCi hS 23 5 rfl) 6 (by decide) dX5_cut_77 k_177 rfl ?_
          refine wg_iconst (v := 1) X dX5_cut_80 (by decide) ?_
          refine wg_iadd X dX5_cut_81 ?_
          obtain ⟨C22, e23, h⟩ := lt_some h
          refine wg_putCe X cl5 (SCi hS 23 5 rfl) 6 (by decide) dX5_cut_82 k_177 rfl rfl rfl rfl e23 ?_
          refine wg_goto X 12 dX5_cut_85 (by decide) ?_
          refine wg_pick [1, 0] (lv' := [(0, .ref (ad 23)), (1, .int r17)]) rfl ?_
          exact Kc C22 r17 (sm_inj h).symm
set_option maxHeartbeats 4000000 in
set_option maxRecDepth 100000 in
theorem c_X5_cut (l : Launch) (E : wg_Ev) (ad : Nat → Nat) (S : wg_Sh) (hS : wg_SC S) (N : Nat) (C : wg_C) (M : wg_M)   {D0 : wg_C} (h : f_X5_cut N C  = some D0) : wg_Cv l yX5_cut cX5_cut 2 none 7 151 E ad S C M [.ref (ad 23)] D0 M := by
  refine wg_start (own := RX5) (by decide +kernel) rfl (Nat.le_of_ble_eq_true rfl) ?_
  intro p e s m below meth c X hr hnm
  refine wg_lv (lv' := [(0, .ref (ad 23))]) rfl ?_
  unfold f_X5_cut at h
  refine wg_aload_n X 0 dX5_cut_0 rfl rfl ?_
  refine wg_iconst (v := 0) X dX5_cut_1 (by decide) ?_
  obtain ⟨C1, e2, h⟩ := lt_some h
  refine wg_putCe X cl5 (SCi hS 23 5 rfl) 2 (by decide) dX5_cut_2 k_170 rfl rfl rfl rfl e2 ?_
  refine wg_iconst (v := 0) X dX5_cut_5 (by decide) ?_
  refine wg_istore_n (lv' := [(1, .int (0 : Int32)), (0, .ref (ad 23))]) X dX5_cut_6 rfl rfl (by decide) rfl ?_
  refine wg_aload_n X 1 dX5_cut_7 rfl rfl ?_
  refine wg_iconst (v := 0) X dX5_cut_8 (by decide) ?_
  obtain ⟨C3, e4, h⟩ := lt_some h
  refine wg_putCe X cl5 (SCi hS 23 5 rfl) 6 (by decide) dX5_cut_9 k_177 rfl rfl rfl rfl e4 ?_
  obtain ⟨o26, h27, h⟩ := bd2_o h
  refine wg_pick [1, 0] (lv' := [(0, .ref (ad 23)), (1, .int (0 : Int32))]) rfl ?_
  refine L_X5_cut_l12 X hr hS D0 M N     N C3 (0 : Int32) o26 h27 (fun C24 v25 e29 => ?_)
  · subst o26
    replace h := bd2_in h
    exact wg_vret X ⟨(sm_inj h), rfl⟩ hr dX5_cut_88
-- WindowsGive$Reader.fail(LWindowsGive$Tape;)V (('c', 28), ('c', 23))
def f_X2_fail (C : wg_C)  : Option wg_C :=
  if (C 28 0) = (-1 : Int32) then (
    ck (inb (C 28 1) 161) <|
    lt_ (wg_up C 28 0 (C 27 (C 28 1).toNatClampNeg)) fun C5 =>
    lt_ (wg_up C5 28 2 (-2 : Int32)) fun C7 =>
    some C7)
  else (
    lt_ (wg_up C 28 2 (-2 : Int32)) fun C2 =>
    some C2)
set_option maxHeartbeats 4000000 in
set_option maxRecDepth 100000 in
theorem c_X2_fail (l : Launch) (E : wg_Ev) (ad : Nat → Nat) (S : wg_Sh) (hS : wg_SC S) (C : wg_C) (M : wg_M)   {D0 : wg_C} (h : f_X2_fail C  = some D0) : wg_Cv l yX2_fail cX2_fail 2 none 0 0 E ad S C M [.ref (ad 28), .ref (ad 23)] D0 M := by
  refine wg_start (own := RX2) (by decide +kernel) rfl (Nat.le_of_ble_eq_true rfl) ?_
  intro p e s m below meth c X hr hnm
  refine wg_lv (lv' := [(0, .ref (ad 28)), (1, .ref (ad 23))]) rfl ?_
  unfold f_X2_fail at h
  refine wg_aload_n X 0 dX2_fail_0 rfl rfl ?_
  refine wg_getC X cl2 (SCi hS 28 2 rfl) 0 (by decide) dX2_fail_1 k_200 rfl ?_
  refine wg_iconst (v := -1) X dX2_fail_4 (by decide) ?_
  refine wg_icmp_ne X 21 dX2_fail_5 (by decide) (fun c1 => ?_) (fun c1 => ?_)
  · have h := if_f c1 h
    refine wg_aload_n X 0 dX2_fail_21 rfl rfl ?_
    refine wg_bipush (v := -2) X dX2_fail_22 (by decide) ?_
    obtain ⟨C2, e3, h⟩ := lt_some h
    refine wg_putCe X cl2 (SCi hS 28 2 rfl) 2 (by decide) dX2_fail_24 k_203 rfl rfl rfl rfl e3 ?_
    exact wg_vret X ⟨(sm_inj h), rfl⟩ hr dX2_fail_27
  · have h := if_t c1 h
    refine wg_aload_n X 0 dX2_fail_8 rfl rfl ?_
    refine wg_aload_n X 1 dX2_fail_9 rfl rfl ?_
    refine wg_getR (b := 27) X cl5 (SCi hS 23 5 rfl) 5 (by decide) dX2_fail_10 k_176 rfl (SCr hS 23 5 27 rfl) ?_
    refine wg_aload_n X 0 dX2_fail_13 rfl rfl ?_
    refine wg_getC X cl2 (SCi hS 28 2 rfl) 1 (by decide) dX2_fail_14 k_202 rfl ?_
    obtain ⟨z4, h⟩ := ck_some h
    refine wg_iald X (SCi hS 27 10 rfl) (SCl hS 27 161 rfl) z4 dX2_fail_17 ?_
    obtain ⟨C5, e6, h⟩ := lt_some h
    refine wg_putCe X cl2 (SCi hS 28 2 rfl) 0 (by decide) dX2_fail_18 k_200 rfl rfl rfl rfl e6 ?_
    refine wg_aload_n X 0 dX2_fail_21 rfl rfl ?_
    refine wg_bipush (v := -2) X dX2_fail_22 (by decide) ?_
    obtain ⟨C7, e8, h⟩ := lt_some h
    refine wg_putCe X cl2 (SCi hS 28 2 rfl) 2 (by decide) dX2_fail_24 k_203 rfl rfl rfl rfl e8 ?_
    exact wg_vret X ⟨(sm_inj h), rfl⟩ hr dX2_fail_27
-- WindowsGive$Reader.advance(LWindowsGive$Tape;)V (('c', 28), ('c', 23))
def f_X2_advance_j23 (C : wg_C)   : Option wg_C :=
  ck (inb (C 28 1) 161) <|
  lt_ (wg_up C 28 2 (C 25 (C 28 1).toNatClampNeg)) fun C3 =>
  some C3
def f_X2_advance (C : wg_C)  : Option wg_C :=
  if (C 23 6) ≤ ((C 28 1) + (1 : Int32)) then (
    f_X2_advance_j23 C  )
  else (
    lt_ (wg_up C 28 1 ((C 28 1) + (1 : Int32))) fun C5 =>
    f_X2_advance_j23 C5  )
abbrev G_X2_advance (p : Program) (l : Launch) (e : Env) (s : State) (m : MethodId) (args : Array Value) (below : List Frame) (meth : Method) (c : Code) (E : wg_Ev) (ad : Nat → Nat) (S : wg_Sh) (C0 : wg_C) (M0 : wg_M) (pc : Nat) (C : wg_C) (M : wg_M) (lv : List (Nat × Value)) (st : List Value) : Prop := wg_G p l e (wg_Rm 0 0) s m args below meth c (MQ below (wg_Qv E ad S C0 M0) args s 0 0 (wg_A E)) 2 E ad S 0 0 pc C M lv st
set_option maxHeartbeats 4000000 in
set_option maxRecDepth 100000 in
theorem J_X2_advance_j23 {p : Program} {l : Launch} {e : Env} {s : State} {m : MethodId} {args : Array Value} {below : List Frame} {meth : Method} {c : Code} {E : wg_Ev} {ad : Nat → Nat} {S : wg_Sh} (X : wg_X p s m args meth c cX2_advance 2 RX2 E) (hr : meth.sig.returnType = none) (hS : wg_SC S) (D0 : wg_C) (M : wg_M)  (C : wg_C)     (h : f_X2_advance_j23 C   = some D0) : G_X2_advance p l e s m args below meth c E ad S D0 M 23 C M [(0, .ref (ad 28)), (1, .ref (ad 23))] [] := by
  unfold f_X2_advance_j23 at h
  refine wg_aload_n X 0 dX2_advance_23 rfl rfl ?_
  refine wg_aload_n X 1 dX2_advance_24 rfl rfl ?_
  refine wg_getR (b := 25) X cl5 (SCi hS 23 5 rfl) 3 (by decide) dX2_advance_25 k_172 rfl (SCr hS 23 3 25 rfl) ?_
  refine wg_aload_n X 0 dX2_advance_28 rfl rfl ?_
  refine wg_getC X cl2 (SCi hS 28 2 rfl) 1 (by decide) dX2_advance_29 k_202 rfl ?_
  obtain ⟨z2, h⟩ := ck_some h
  refine wg_iald X (SCi hS 25 10 rfl) (SCl hS 25 161 rfl) z2 dX2_advance_32 ?_
  obtain ⟨C3, e4, h⟩ := lt_some h
  refine wg_putCe X cl2 (SCi hS 28 2 rfl) 2 (by decide) dX2_advance_33 k_203 rfl rfl rfl rfl e4 ?_
  exact wg_vret X ⟨(sm_inj h), rfl⟩ hr dX2_advance_36
set_option maxHeartbeats 4000000 in
set_option maxRecDepth 100000 in
theorem c_X2_advance (l : Launch) (E : wg_Ev) (ad : Nat → Nat) (S : wg_Sh) (hS : wg_SC S) (C : wg_C) (M : wg_M)   {D0 : wg_C} (h : f_X2_advance C  = some D0) : wg_Cv l yX2_advance cX2_advance 2 none 0 0 E ad S C M [.ref (ad 28), .ref (ad 23)] D0 M := by
  refine wg_start (own := RX2) (by decide +kernel) rfl (Nat.le_of_ble_eq_true rfl) ?_
  intro p e s m below meth c X hr hnm
  refine wg_lv (lv' := [(0, .ref (ad 28)), (1, .ref (ad 23))]) rfl ?_
  unfold f_X2_advance at h
  refine wg_aload_n X 0 dX2_advance_0 rfl rfl ?_
  refine wg_getC X cl2 (SCi hS 28 2 rfl) 1 (by decide) dX2_advance_1 k_202 rfl ?_
  refine wg_iconst (v := 1) X dX2_advance_4 (by decide) ?_
  refine wg_iadd X dX2_advance_5 ?_
  refine wg_aload_n X 1 dX2_advance_6 rfl rfl ?_
  refine wg_getC X cl5 (SCi hS 23 5 rfl) 6 (by decide) dX2_advance_7 k_178 rfl ?_
  refine wg_icmp_ge X 23 dX2_advance_10 (by decide) (fun c1 => ?_) (fun c1 => ?_)
  · have h := if_t c1 h
    exact J_X2_advance_j23 X hr hS D0 M  C     h
  · have h := if_f c1 h
    refine wg_aload_n X 0 dX2_advance_13 rfl rfl ?_
    refine wg_dup X dX2_advance_14 rfl ?_
    refine wg_getC X cl2 (SCi hS 28 2 rfl) 1 (by decide) dX2_advance_15 k_202 rfl ?_
    refine wg_iconst (v := 1) X dX2_advance_18 (by decide) ?_
    refine wg_iadd X dX2_advance_19 ?_
    obtain ⟨C5, e6, h⟩ := lt_some h
    refine wg_putCe X cl2 (SCi hS 28 2 rfl) 1 (by decide) dX2_advance_20 k_202 rfl rfl rfl rfl e6 ?_
    exact J_X2_advance_j23 X hr hS D0 M  C5     h
-- WindowsGive$Reader.expect(LWindowsGive$Tape;I)V (('c', 28), ('c', 23), 'i')
def f_X2_expect (C : wg_C) (p2 : Int32) : Option wg_C :=
  if (C 28 2) = p2 then (
    bd (f_X2_advance C ) fun C5 =>
    some C5)
  else (
    bd (f_X2_fail C ) fun C3 =>
    some C3)
set_option maxHeartbeats 4000000 in
set_option maxRecDepth 100000 in
theorem c_X2_expect (l : Launch) (E : wg_Ev) (ad : Nat → Nat) (S : wg_Sh) (hS : wg_SC S) (C : wg_C) (M : wg_M) (p2 : Int32)  {D0 : wg_C} (h : f_X2_expect C p2 = some D0) : wg_Cv l yX2_expect cX2_expect 3 none 1 21 E ad S C M [.ref (ad 28), .ref (ad 23), .int p2] D0 M := by
  refine wg_start (own := RX2) (by decide +kernel) rfl (Nat.le_of_ble_eq_true rfl) ?_
  intro p e s m below meth c X hr hnm
  refine wg_lv (lv' := [(0, .ref (ad 28)), (1, .ref (ad 23)), (2, .int p2)]) rfl ?_
  unfold f_X2_expect at h
  refine wg_aload_n X 0 dX2_expect_0 rfl rfl ?_
  refine wg_getC X cl2 (SCi hS 28 2 rfl) 2 (by decide) dX2_expect_1 k_203 rfl ?_
  refine wg_iload_n X 2 dX2_expect_4 rfl rfl ?_
  refine wg_icmp_ne X 16 dX2_expect_5 (by decide) (fun c1 => ?_) (fun c1 => ?_)
  · have h := if_f c1 h
    refine wg_aload_n X 0 dX2_expect_16 rfl rfl ?_
    refine wg_aload_n X 1 dX2_expect_17 rfl rfl ?_
    obtain ⟨C3, h2, h⟩ := bd_some h
    refine wg_callVv (As := [.ref (ad 23)]) (rest := []) X (c_X2_fail l E ad S hS C M   h2) T_yX2_fail k_401 cl2 (SCi hS 28 2 rfl) dX2_expect_18 rfl rfl (Nat.le_of_ble_eq_true rfl) ⟨Nat.le_of_ble_eq_true rfl, Nat.le_of_ble_eq_true rfl⟩ ⟨Nat.zero_le _, Nat.zero_le _⟩ ?_
    exact wg_vret X ⟨(sm_inj h), rfl⟩ hr dX2_expect_21
  · have h := if_t c1 h
    refine wg_aload_n X 0 dX2_expect_8 rfl rfl ?_
    refine wg_aload_n X 1 dX2_expect_9 rfl rfl ?_
    obtain ⟨C5, h4, h⟩ := bd_some h
    refine wg_callVv (As := [.ref (ad 23)]) (rest := []) X (c_X2_advance l E ad S hS C M   h4) T_yX2_advance k_397 cl2 (SCi hS 28 2 rfl) dX2_expect_10 rfl rfl (Nat.le_of_ble_eq_true rfl) ⟨Nat.le_of_ble_eq_true rfl, Nat.le_of_ble_eq_true rfl⟩ ⟨Nat.zero_le _, Nat.zero_le _⟩ ?_
    refine wg_goto X 21 dX2_expect_13 (by decide) ?_
    exact wg_vret X ⟨(sm_inj h), rfl⟩ hr dX2_expect_21
-- WindowsGive$Reader.emit(II)V (('c', 28), 'i', 'i')
def f_X2_emit (C : wg_C) (p1 : Int32) (p2 : Int32) : Option wg_C :=
  if (160 : Int32) ≤ (C 28 3) then (
    some C)
  else (
    ck (inb (C 28 3) 160) <|
    lt_ (wg_up C 29 (C 28 3).toNatClampNeg ((p2 * (16 : Int32)) + p1)) fun C3 =>
    lt_ (wg_up C3 28 3 ((C3 28 3) + (1 : Int32))) fun C5 =>
    some C5)
set_option maxHeartbeats 4000000 in
set_option maxRecDepth 100000 in
theorem c_X2_emit (l : Launch) (E : wg_Ev) (ad : Nat → Nat) (S : wg_Sh) (hS : wg_SC S) (C : wg_C) (M : wg_M) (p1 : Int32) (p2 : Int32)  {D0 : wg_C} (h : f_X2_emit C p1 p2 = some D0) : wg_Cv l yX2_emit cX2_emit 3 none 0 0 E ad S C M [.ref (ad 28), .int p1, .int p2] D0 M := by
  refine wg_start (own := RX2) (by decide +kernel) rfl (Nat.le_of_ble_eq_true rfl) ?_
  intro p e s m below meth c X hr hnm
  refine wg_lv (lv' := [(0, .ref (ad 28)), (1, .int p1), (2, .int p2)]) rfl ?_
  unfold f_X2_emit at h
  refine wg_aload_n X 0 dX2_emit_0 rfl rfl ?_
  refine wg_getC X cl2 (SCi hS 28 2 rfl) 3 (by decide) dX2_emit_1 k_204 rfl ?_
  refine wg_aload_n X 0 dX2_emit_4 rfl rfl ?_
  refine wg_getR (b := 29) X cl2 (SCi hS 28 2 rfl) 4 (by decide) dX2_emit_5 k_205 rfl (SCr hS 28 4 29 rfl) ?_
  refine wg_alenC (v := 160) X (SCi hS 29 10 rfl) (SCl hS 29 160 rfl) (by decide) dX2_emit_8 ?_
  refine wg_icmp_ge X 37 dX2_emit_9 (by decide) (fun c1 => ?_) (fun c1 => ?_)
  · have h := if_t c1 h
    exact wg_vret X ⟨(sm_inj h), rfl⟩ hr dX2_emit_37
  · have h := if_f c1 h
    refine wg_aload_n X 0 dX2_emit_12 rfl rfl ?_
    refine wg_getR (b := 29) X cl2 (SCi hS 28 2 rfl) 4 (by decide) dX2_emit_13 k_205 rfl (SCr hS 28 4 29 rfl) ?_
    refine wg_aload_n X 0 dX2_emit_16 rfl rfl ?_
    refine wg_getC X cl2 (SCi hS 28 2 rfl) 3 (by decide) dX2_emit_17 k_204 rfl ?_
    refine wg_iload_n X 2 dX2_emit_20 rfl rfl ?_
    refine wg_bipush (v := 16) X dX2_emit_21 (by decide) ?_
    refine wg_imul X dX2_emit_23 ?_
    refine wg_iload_n X 1 dX2_emit_24 rfl rfl ?_
    refine wg_iadd X dX2_emit_25 ?_
    obtain ⟨z2, h⟩ := ck_some h
    obtain ⟨C3, e4, h⟩ := lt_some h
    refine wg_iaste X (SCi hS 29 10 rfl) (SCl hS 29 160 rfl) z2 dX2_emit_26 e4 ?_
    refine wg_aload_n X 0 dX2_emit_27 rfl rfl ?_
    refine wg_dup X dX2_emit_28 rfl ?_
    refine wg_getC X cl2 (SCi hS 28 2 rfl) 3 (by decide) dX2_emit_29 k_204 rfl ?_
    refine wg_iconst (v := 1) X dX2_emit_32 (by decide) ?_
    refine wg_iadd X dX2_emit_33 ?_
    obtain ⟨C5, e6, h⟩ := lt_some h
    refine wg_putCe X cl2 (SCi hS 28 2 rfl) 3 (by decide) dX2_emit_34 k_204 rfl rfl rfl rfl e6 ?_
    exact wg_vret X ⟨(sm_inj h), rfl⟩ hr dX2_emit_37
def R_X2g (l : Launch) (E : wg_Ev) (ad : Nat → Nat) (S : wg_Sh) (M : wg_M) (d k : Nat) (D : wg_C) (i0 : Int32) (D0 : wg_C) : Prop := match k with
  | 0 => wg_Cv l yX2_readOr cX2_readOr 4 none (d + 8) (40 * d + 300) E ad S D M [.ref (ad 28), .ref (ad 23), .int i0] D0 M
  | 1 => wg_Cv l yX2_readAnd cX2_readAnd 4 none (d + 8) (40 * d + 300) E ad S D M [.ref (ad 28), .ref (ad 23), .int i0] D0 M
  | 2 => wg_Cv l yX2_readNot cX2_readNot 4 none (d + 8) (40 * d + 300) E ad S D M [.ref (ad 28), .ref (ad 23), .int i0] D0 M
  | 3 => wg_Cv l yX2_readSum cX2_readSum 5 none (d + 8) (40 * d + 300) E ad S D M [.ref (ad 28), .ref (ad 23), .int i0] D0 M
  | 4 => wg_Cv l yX2_readTerm cX2_readTerm 4 none (d + 8) (40 * d + 300) E ad S D M [.ref (ad 28), .ref (ad 23), .int i0] D0 M
  | 5 => wg_Cv l yX2_readOne cX2_readOne 3 none (d + 8) (40 * d + 300) E ad S D M [.ref (ad 28), .ref (ad 23), .int i0] D0 M
  | _ => True
-- WindowsGive$Reader.readOr(LWindowsGive$Tape;I)V (('c', 28), ('c', 23), 'i')
def f_X2_readOr_l8 (N : Nat) (rc : Nat → wg_C → Int32 → Option wg_C)  (x2 : Int32) (C : wg_C) (x3 : Int32) : Option ((wg_C × Int32) ⊕ (wg_C × Int32)) :=
  if (160 : Int32) ≤ x3 then (
    some (.inr (C, x3)))
  else (
    if (C 28 2) = (6 : Int32) then (
      bd (f_X2_advance C ) fun C6 =>
      bd (rc 1 C6 x2) fun C8 =>
      bd (f_X2_emit C8 (10 : Int32) (0 : Int32)) fun C10 =>
      lt_ (x3 + (1 : Int32)) fun v11 =>
      some (.inl (C10, v11)))
    else (
      some (.inr (C, x3))))
def f_X2_readOr (N : Nat) (rc : Nat → wg_C → Int32 → Option wg_C) (C : wg_C) (p2 : Int32) : Option wg_C :=
  bd (rc 1 C p2) fun C2 =>
  bd2 (lp (fun o => f_X2_readOr_l8 N rc  p2 o.1 o.2) N (C2, (0 : Int32))) fun C13 v14 =>
  some C13
abbrev G_X2_readOr (d : Nat) (p : Program) (l : Launch) (e : Env) (s : State) (m : MethodId) (args : Array Value) (below : List Frame) (meth : Method) (c : Code) (E : wg_Ev) (ad : Nat → Nat) (S : wg_Sh) (C0 : wg_C) (M0 : wg_M) (pc : Nat) (C : wg_C) (M : wg_M) (lv : List (Nat × Value)) (st : List Value) : Prop := wg_G p l e (wg_Rm (d + 9) (40 * (d + 1) + 300)) s m args below meth c (MQ below (wg_Qv E ad S C0 M0) args s 0 0 (wg_A E)) 4 E ad S 0 0 pc C M lv st
set_option maxHeartbeats 4000000 in
set_option maxRecDepth 100000 in
theorem L_X2_readOr_l8 {p : Program} {l : Launch} {e : Env} {s : State} {m : MethodId} {args : Array Value} {below : List Frame} {meth : Method} {c : Code} {E : wg_Ev} {ad : Nat → Nat} {S : wg_Sh} (X : wg_X p s m args meth c cX2_readOr 4 RX2 E) (hr : meth.sig.returnType = none) (hS : wg_SC S) (D0 : wg_C) (M : wg_M) (N : Nat) (d : Nat) (rc : Nat → wg_C → Int32 → Option wg_C) (hrc : ∀ (k : Nat) (D : wg_C) (i0 : Int32) (D0 : wg_C), rc k D i0 = some D0 → R_X2g l E ad S M d k D i0 D0)   (x2 : Int32)  : ∀ (n : Nat) (C : wg_C) (x3 : Int32) (o : (wg_C × Int32)), lp (fun o => f_X2_readOr_l8 N rc  x2 o.1 o.2) n (C, x3) = some o → (∀ (Dy : wg_C) (y3 : Int32), o = (Dy, y3) → G_X2_readOr d p l e s m args below meth c E ad S D0 M 48 Dy M [(0, .ref (ad 28)), (1, .ref (ad 23)), (2, .int x2), (3, .int y3)] []) → G_X2_readOr d p l e s m args below meth c E ad S D0 M 8 C M [(0, .ref (ad 28)), (1, .ref (ad 23)), (2, .int x2), (3, .int x3)] [] := by
  intro n
  induction n with
  | zero => exact fun _ _ o h => (lp_zero h).elim
  | succ n ih =>
    intro C x3 o h K
    obtain ⟨o1, hb, h2⟩ := lp_some h
    replace hb : f_X2_readOr_l8 N rc  x2 C x3 = some o1 := hb
    clear h
    have Kc : ∀ (Dy : wg_C) (y3 : Int32), o1 = Sum.inl (Dy, y3) → G_X2_readOr d p l e s m args below meth c E ad S D0 M 8 Dy M [(0, .ref (ad 28)), (1, .ref (ad 23)), (2, .int x2), (3, .int y3)] [] := fun Dy y3 e1 => by
      subst e1
      exact ih Dy y3 o h2 K
    have Ke : ∀ (Dy : wg_C) (y3 : Int32), o1 = Sum.inr ((Dy, y3)) → G_X2_readOr d p l e s m args below meth c E ad S D0 M 48 Dy M [(0, .ref (ad 28)), (1, .ref (ad 23)), (2, .int x2), (3, .int y3)] [] := fun Dy y3 e1 => by
      subst e1
      exact K Dy y3 (sm_inj (α := (wg_C × Int32)) h2).symm
    clear ih K h2
    unfold f_X2_readOr_l8 at hb
    have h := hb
    clear hb
    refine wg_iload_n X 3 dX2_readOr_8 rfl rfl ?_
    refine wg_sipush (v := 160) X dX2_readOr_9 (by decide) ?_
    refine wg_icmp_ge X 48 dX2_readOr_12 (by decide) (fun c3 => ?_) (fun c3 => ?_)
    · have h := if_t c3 h
      exact Ke C x3 (sm_inj h).symm
    · have h := if_f c3 h
      refine wg_aload_n X 0 dX2_readOr_15 rfl rfl ?_
      refine wg_getC X cl2 (SCi hS 28 2 rfl) 2 (by decide) dX2_readOr_16 k_203 rfl ?_
      refine wg_bipush (v := 6) X dX2_readOr_19 (by decide) ?_
      refine wg_icmp_ne X 48 dX2_readOr_21 (by decide) (fun c4 => ?_) (fun c4 => ?_)
      · have h := if_f c4 h
        exact Ke C x3 (sm_inj h).symm
      · have h := if_t c4 h
        refine wg_aload_n X 0 dX2_readOr_24 rfl rfl ?_
        refine wg_aload_n X 1 dX2_readOr_25 rfl rfl ?_
        obtain ⟨C6, h5, h⟩ := bd_some h
        refine wg_callVv (As := [.ref (ad 23)]) (rest := []) X (c_X2_advance l E ad S hS C M   h5) T_yX2_advance k_397 cl2 (SCi hS 28 2 rfl) dX2_readOr_26 rfl rfl (Nat.le_of_ble_eq_true rfl) ⟨show 0 + 1 ≤ d + 9 by omega, show 8 + (2 + 11) + 0 ≤ 40 * (d + 1) + 300 by omega⟩ ⟨Nat.zero_le _, Nat.zero_le _⟩ ?_
        refine wg_aload_n X 0 dX2_readOr_29 rfl rfl ?_
        refine wg_aload_n X 1 dX2_readOr_30 rfl rfl ?_
        refine wg_iload_n X 2 dX2_readOr_31 rfl rfl ?_
        obtain ⟨C8, h7, h⟩ := bd_some h
        refine wg_callVv (As := [.ref (ad 23), .int x2]) (rest := []) X (show wg_Cv l yX2_readAnd cX2_readAnd 4 none (d + 8) (40 * d + 300) E ad S C6 M [.ref (ad 28), .ref (ad 23), .int x2] C8 M from hrc 1 C6 x2 C8 h7) T_yX2_readAnd k_409 cl2 (SCi hS 28 2 rfl) dX2_readOr_32 rfl rfl (Nat.le_of_ble_eq_true rfl) ⟨show (d + 8) + 1 ≤ d + 9 by omega, show 8 + (4 + 11) + (40 * d + 300) ≤ 40 * (d + 1) + 300 by omega⟩ ⟨Nat.zero_le _, Nat.zero_le _⟩ ?_
        refine wg_aload_n X 0 dX2_readOr_35 rfl rfl ?_
        refine wg_bipush (v := 10) X dX2_readOr_36 (by decide) ?_
        refine wg_iconst (v := 0) X dX2_readOr_38 (by decide) ?_
        obtain ⟨C10, h9, h⟩ := bd_some h
        refine wg_callVv (As := [.int (10 : Int32), .int (0 : Int32)]) (rest := []) X (c_X2_emit l E ad S hS C8 M (10 : Int32) (0 : Int32)  h9) T_yX2_emit k_417 cl2 (SCi hS 28 2 rfl) dX2_readOr_39 rfl rfl (Nat.le_of_ble_eq_true rfl) ⟨show 0 + 1 ≤ d + 9 by omega, show 8 + (3 + 11) + 0 ≤ 40 * (d + 1) + 300 by omega⟩ ⟨Nat.zero_le _, Nat.zero_le _⟩ ?_
        obtain ⟨v11, e12, h⟩ := lt_some h
        refine wg_iinc (lv' := [(3, .int v11), (0, .ref (ad 28)), (1, .ref (ad 23)), (2, .int x2)]) X 3 dX2_readOr_42 rfl e12 (by decide) rfl ?_
        refine wg_goto X 8 dX2_readOr_45 (by decide) ?_
        refine wg_pick [1, 2, 3, 0] (lv' := [(0, .ref (ad 28)), (1, .ref (ad 23)), (2, .int x2), (3, .int v11)]) rfl ?_
        exact Kc C10 v11 (sm_inj h).symm
set_option maxHeartbeats 4000000 in
set_option maxRecDepth 100000 in
theorem c_X2_readOr (l : Launch) (E : wg_Ev) (ad : Nat → Nat) (S : wg_Sh) (hS : wg_SC S) (N : Nat) (d : Nat) (rc : Nat → wg_C → Int32 → Option wg_C) (M : wg_M) (hrc : ∀ (k : Nat) (D : wg_C) (i0 : Int32) (D0 : wg_C), rc k D i0 = some D0 → R_X2g l E ad S M d k D i0 D0) (C : wg_C) (p2 : Int32)  {D0 : wg_C} (h : f_X2_readOr N rc C p2 = some D0) : wg_Cv l yX2_readOr cX2_readOr 4 none (d + 9) (40 * (d + 1) + 300) E ad S C M [.ref (ad 28), .ref (ad 23), .int p2] D0 M := by
  refine wg_start (own := RX2) (by decide +kernel) rfl (Nat.le_of_ble_eq_true rfl) ?_
  intro p e s m below meth c X hr hnm
  refine wg_lv (lv' := [(0, .ref (ad 28)), (1, .ref (ad 23)), (2, .int p2)]) rfl ?_
  unfold f_X2_readOr at h
  refine wg_aload_n X 0 dX2_readOr_0 rfl rfl ?_
  refine wg_aload_n X 1 dX2_readOr_1 rfl rfl ?_
  refine wg_iload_n X 2 dX2_readOr_2 rfl rfl ?_
  obtain ⟨C2, h1, h⟩ := bd_some h
  refine wg_callVv (As := [.ref (ad 23), .int p2]) (rest := []) X (show wg_Cv l yX2_readAnd cX2_readAnd 4 none (d + 8) (40 * d + 300) E ad S C M [.ref (ad 28), .ref (ad 23), .int p2] C2 M from hrc 1 C p2 C2 h1) T_yX2_readAnd k_409 cl2 (SCi hS 28 2 rfl) dX2_readOr_3 rfl rfl (Nat.le_of_ble_eq_true rfl) ⟨show (d + 8) + 1 ≤ d + 9 by omega, show 8 + (4 + 11) + (40 * d + 300) ≤ 40 * (d + 1) + 300 by omega⟩ ⟨Nat.zero_le _, Nat.zero_le _⟩ ?_
  refine wg_iconst (v := 0) X dX2_readOr_6 (by decide) ?_
  refine wg_istore_n (lv' := [(3, .int (0 : Int32)), (0, .ref (ad 28)), (1, .ref (ad 23)), (2, .int p2)]) X dX2_readOr_7 rfl rfl (by decide) rfl ?_
  obtain ⟨o15, h16, h⟩ := bd2_o h
  refine wg_pick [1, 2, 3, 0] (lv' := [(0, .ref (ad 28)), (1, .ref (ad 23)), (2, .int p2), (3, .int (0 : Int32))]) rfl ?_
  refine L_X2_readOr_l8 X hr hS D0 M N d rc hrc   p2  N C2 (0 : Int32) o15 h16 (fun C13 v14 e18 => ?_)
  · subst o15
    replace h := bd2_in h
    exact wg_vret X ⟨(sm_inj h), rfl⟩ hr dX2_readOr_48
-- WindowsGive$Reader.readAnd(LWindowsGive$Tape;I)V (('c', 28), ('c', 23), 'i')
def f_X2_readAnd_l8 (N : Nat) (rc : Nat → wg_C → Int32 → Option wg_C)  (x2 : Int32) (C : wg_C) (x3 : Int32) : Option ((wg_C × Int32) ⊕ (wg_C × Int32)) :=
  if (160 : Int32) ≤ x3 then (
    some (.inr (C, x3)))
  else (
    if (C 28 2) = (7 : Int32) then (
      bd (f_X2_advance C ) fun C6 =>
      bd (rc 2 C6 x2) fun C8 =>
      bd (f_X2_emit C8 (9 : Int32) (0 : Int32)) fun C10 =>
      lt_ (x3 + (1 : Int32)) fun v11 =>
      some (.inl (C10, v11)))
    else (
      some (.inr (C, x3))))
def f_X2_readAnd (N : Nat) (rc : Nat → wg_C → Int32 → Option wg_C) (C : wg_C) (p2 : Int32) : Option wg_C :=
  bd (rc 2 C p2) fun C2 =>
  bd2 (lp (fun o => f_X2_readAnd_l8 N rc  p2 o.1 o.2) N (C2, (0 : Int32))) fun C13 v14 =>
  some C13
abbrev G_X2_readAnd (d : Nat) (p : Program) (l : Launch) (e : Env) (s : State) (m : MethodId) (args : Array Value) (below : List Frame) (meth : Method) (c : Code) (E : wg_Ev) (ad : Nat → Nat) (S : wg_Sh) (C0 : wg_C) (M0 : wg_M) (pc : Nat) (C : wg_C) (M : wg_M) (lv : List (Nat × Value)) (st : List Value) : Prop := wg_G p l e (wg_Rm (d + 9) (40 * (d + 1) + 300)) s m args below meth c (MQ below (wg_Qv E ad S C0 M0) args s 0 0 (wg_A E)) 4 E ad S 0 0 pc C M lv st
set_option maxHeartbeats 4000000 in
set_option maxRecDepth 100000 in
theorem L_X2_readAnd_l8 {p : Program} {l : Launch} {e : Env} {s : State} {m : MethodId} {args : Array Value} {below : List Frame} {meth : Method} {c : Code} {E : wg_Ev} {ad : Nat → Nat} {S : wg_Sh} (X : wg_X p s m args meth c cX2_readAnd 4 RX2 E) (hr : meth.sig.returnType = none) (hS : wg_SC S) (D0 : wg_C) (M : wg_M) (N : Nat) (d : Nat) (rc : Nat → wg_C → Int32 → Option wg_C) (hrc : ∀ (k : Nat) (D : wg_C) (i0 : Int32) (D0 : wg_C), rc k D i0 = some D0 → R_X2g l E ad S M d k D i0 D0)   (x2 : Int32)  : ∀ (n : Nat) (C : wg_C) (x3 : Int32) (o : (wg_C × Int32)), lp (fun o => f_X2_readAnd_l8 N rc  x2 o.1 o.2) n (C, x3) = some o → (∀ (Dy : wg_C) (y3 : Int32), o = (Dy, y3) → G_X2_readAnd d p l e s m args below meth c E ad S D0 M 48 Dy M [(0, .ref (ad 28)), (1, .ref (ad 23)), (2, .int x2), (3, .int y3)] []) → G_X2_readAnd d p l e s m args below meth c E ad S D0 M 8 C M [(0, .ref (ad 28)), (1, .ref (ad 23)), (2, .int x2), (3, .int x3)] [] := by
  intro n
  induction n with
  | zero => exact fun _ _ o h => (lp_zero h).elim
  | succ n ih =>
    intro C x3 o h K
    obtain ⟨o1, hb, h2⟩ := lp_some h
    replace hb : f_X2_readAnd_l8 N rc  x2 C x3 = some o1 := hb
    clear h
    have Kc : ∀ (Dy : wg_C) (y3 : Int32), o1 = Sum.inl (Dy, y3) → G_X2_readAnd d p l e s m args below meth c E ad S D0 M 8 Dy M [(0, .ref (ad 28)), (1, .ref (ad 23)), (2, .int x2), (3, .int y3)] [] := fun Dy y3 e1 => by
      subst e1
      exact ih Dy y3 o h2 K
    have Ke : ∀ (Dy : wg_C) (y3 : Int32), o1 = Sum.inr ((Dy, y3)) → G_X2_readAnd d p l e s m args below meth c E ad S D0 M 48 Dy M [(0, .ref (ad 28)), (1, .ref (ad 23)), (2, .int x2), (3, .int y3)] [] := fun Dy y3 e1 => by
      subst e1
      exact K Dy y3 (sm_inj (α := (wg_C × Int32)) h2).symm
    clear ih K h2
    unfold f_X2_readAnd_l8 at hb
    have h := hb
    clear hb
    refine wg_iload_n X 3 dX2_readAnd_8 rfl rfl ?_
    refine wg_sipush (v := 160) X dX2_readAnd_9 (by decide) ?_
    refine wg_icmp_ge X 48 dX2_readAnd_12 (by decide) (fun c3 => ?_) (fun c3 => ?_)
    · have h := if_t c3 h
      exact Ke C x3 (sm_inj h).symm
    · have h := if_f c3 h
      refine wg_aload_n X 0 dX2_readAnd_15 rfl rfl ?_
      refine wg_getC X cl2 (SCi hS 28 2 rfl) 2 (by decide) dX2_readAnd_16 k_203 rfl ?_
      refine wg_bipush (v := 7) X dX2_readAnd_19 (by decide) ?_
      refine wg_icmp_ne X 48 dX2_readAnd_21 (by decide) (fun c4 => ?_) (fun c4 => ?_)
      · have h := if_f c4 h
        exact Ke C x3 (sm_inj h).symm
      · have h := if_t c4 h
        refine wg_aload_n X 0 dX2_readAnd_24 rfl rfl ?_
        refine wg_aload_n X 1 dX2_readAnd_25 rfl rfl ?_
        obtain ⟨C6, h5, h⟩ := bd_some h
        refine wg_callVv (As := [.ref (ad 23)]) (rest := []) X (c_X2_advance l E ad S hS C M   h5) T_yX2_advance k_397 cl2 (SCi hS 28 2 rfl) dX2_readAnd_26 rfl rfl (Nat.le_of_ble_eq_true rfl) ⟨show 0 + 1 ≤ d + 9 by omega, show 8 + (2 + 11) + 0 ≤ 40 * (d + 1) + 300 by omega⟩ ⟨Nat.zero_le _, Nat.zero_le _⟩ ?_
        refine wg_aload_n X 0 dX2_readAnd_29 rfl rfl ?_
        refine wg_aload_n X 1 dX2_readAnd_30 rfl rfl ?_
        refine wg_iload_n X 2 dX2_readAnd_31 rfl rfl ?_
        obtain ⟨C8, h7, h⟩ := bd_some h
        refine wg_callVv (As := [.ref (ad 23), .int x2]) (rest := []) X (show wg_Cv l yX2_readNot cX2_readNot 4 none (d + 8) (40 * d + 300) E ad S C6 M [.ref (ad 28), .ref (ad 23), .int x2] C8 M from hrc 2 C6 x2 C8 h7) T_yX2_readNot k_413 cl2 (SCi hS 28 2 rfl) dX2_readAnd_32 rfl rfl (Nat.le_of_ble_eq_true rfl) ⟨show (d + 8) + 1 ≤ d + 9 by omega, show 8 + (4 + 11) + (40 * d + 300) ≤ 40 * (d + 1) + 300 by omega⟩ ⟨Nat.zero_le _, Nat.zero_le _⟩ ?_
        refine wg_aload_n X 0 dX2_readAnd_35 rfl rfl ?_
        refine wg_bipush (v := 9) X dX2_readAnd_36 (by decide) ?_
        refine wg_iconst (v := 0) X dX2_readAnd_38 (by decide) ?_
        obtain ⟨C10, h9, h⟩ := bd_some h
        refine wg_callVv (As := [.int (9 : Int32), .int (0 : Int32)]) (rest := []) X (c_X2_emit l E ad S hS C8 M (9 : Int32) (0 : Int32)  h9) T_yX2_emit k_417 cl2 (SCi hS 28 2 rfl) dX2_readAnd_39 rfl rfl (Nat.le_of_ble_eq_true rfl) ⟨show 0 + 1 ≤ d + 9 by omega, show 8 + (3 + 11) + 0 ≤ 40 * (d + 1) + 300 by omega⟩ ⟨Nat.zero_le _, Nat.zero_le _⟩ ?_
        obtain ⟨v11, e12, h⟩ := lt_some h
        refine wg_iinc (lv' := [(3, .int v11), (0, .ref (ad 28)), (1, .ref (ad 23)), (2, .int x2)]) X 3 dX2_readAnd_42 rfl e12 (by decide) rfl ?_
        refine wg_goto X 8 dX2_readAnd_45 (by decide) ?_
        refine wg_pick [1, 2, 3, 0] (lv' := [(0, .ref (ad 28)), (1, .ref (ad 23)), (2, .int x2), (3, .int v11)]) rfl ?_
        exact Kc C10 v11 (sm_inj h).symm
set_option maxHeartbeats 4000000 in
set_option maxRecDepth 100000 in
theorem c_X2_readAnd (l : Launch) (E : wg_Ev) (ad : Nat → Nat) (S : wg_Sh) (hS : wg_SC S) (N : Nat) (d : Nat) (rc : Nat → wg_C → Int32 → Option wg_C) (M : wg_M) (hrc : ∀ (k : Nat) (D : wg_C) (i0 : Int32) (D0 : wg_C), rc k D i0 = some D0 → R_X2g l E ad S M d k D i0 D0) (C : wg_C) (p2 : Int32)  {D0 : wg_C} (h : f_X2_readAnd N rc C p2 = some D0) : wg_Cv l yX2_readAnd cX2_readAnd 4 none (d + 9) (40 * (d + 1) + 300) E ad S C M [.ref (ad 28), .ref (ad 23), .int p2] D0 M := by
  refine wg_start (own := RX2) (by decide +kernel) rfl (Nat.le_of_ble_eq_true rfl) ?_
  intro p e s m below meth c X hr hnm
  refine wg_lv (lv' := [(0, .ref (ad 28)), (1, .ref (ad 23)), (2, .int p2)]) rfl ?_
  unfold f_X2_readAnd at h
  refine wg_aload_n X 0 dX2_readAnd_0 rfl rfl ?_
  refine wg_aload_n X 1 dX2_readAnd_1 rfl rfl ?_
  refine wg_iload_n X 2 dX2_readAnd_2 rfl rfl ?_
  obtain ⟨C2, h1, h⟩ := bd_some h
  refine wg_callVv (As := [.ref (ad 23), .int p2]) (rest := []) X (show wg_Cv l yX2_readNot cX2_readNot 4 none (d + 8) (40 * d + 300) E ad S C M [.ref (ad 28), .ref (ad 23), .int p2] C2 M from hrc 2 C p2 C2 h1) T_yX2_readNot k_413 cl2 (SCi hS 28 2 rfl) dX2_readAnd_3 rfl rfl (Nat.le_of_ble_eq_true rfl) ⟨show (d + 8) + 1 ≤ d + 9 by omega, show 8 + (4 + 11) + (40 * d + 300) ≤ 40 * (d + 1) + 300 by omega⟩ ⟨Nat.zero_le _, Nat.zero_le _⟩ ?_
  refine wg_iconst (v := 0) X dX2_readAnd_6 (by decide) ?_
  refine wg_istore_n (lv' := [(3, .int (0 : Int32)), (0, .ref (ad 28)), (1, .ref (ad 23)), (2, .int p2)]) X dX2_readAnd_7 rfl rfl (by decide) rfl ?_
  obtain ⟨o15, h16, h⟩ := bd2_o h
  refine wg_pick [1, 2, 3, 0] (lv' := [(0, .ref (ad 28)), (1, .ref (ad 23)), (2, .int p2), (3, .int (0 : Int32))]) rfl ?_
  refine L_X2_readAnd_l8 X hr hS D0 M N d rc hrc   p2  N C2 (0 : Int32) o15 h16 (fun C13 v14 e18 => ?_)
  · subst o15
    replace h := bd2_in h
    exact wg_vret X ⟨(sm_inj h), rfl⟩ hr dX2_readAnd_48
-- WindowsGive$Reader.readNot(LWindowsGive$Tape;I)V (('c', 28), ('c', 23), 'i')
def f_X2_readNot_j74 (N : Nat) (rc : Nat → wg_C → Int32 → Option wg_C) (C : wg_C)  (x2 : Int32) (s0 : Int32) : Option wg_C :=
  bd (f_X2_advance C ) fun C7 =>
  bd (rc 3 C7 x2) fun C9 =>
  bd (f_X2_emit C9 s0 (0 : Int32)) fun C11 =>
  some C11
def f_X2_readNot_j58 (N : Nat) (rc : Nat → wg_C → Int32 → Option wg_C) (C : wg_C)  (x2 : Int32) : Option wg_C :=
  if (C 28 2) = (60 : Int32) then (
    f_X2_readNot_j74 N rc C  x2 (7 : Int32))
  else (
    f_X2_readNot_j74 N rc C  x2 (8 : Int32))
def f_X2_readNot_j34 (N : Nat) (rc : Nat → wg_C → Int32 → Option wg_C) (C : wg_C)  (x2 : Int32) : Option wg_C :=
  bd (rc 3 C x2) fun C3 =>
  if (C3 28 2) = (60 : Int32) then (
    f_X2_readNot_j58 N rc C3  x2)
  else (
    if (C3 28 2) = (61 : Int32) then (
      f_X2_readNot_j58 N rc C3  x2)
    else (
      some C3))
def f_X2_readNot (N : Nat) (rc : Nat → wg_C → Int32 → Option wg_C) (C : wg_C) (p2 : Int32) : Option wg_C :=
  if (C 28 2) = (8 : Int32) then (
    if (5 : Int32) ≤ p2 then (
      f_X2_readNot_j34 N rc C  p2)
    else (
      bd (f_X2_advance C ) fun C15 =>
      bd (rc 2 C15 (p2 + (1 : Int32))) fun C17 =>
      bd (f_X2_emit C17 (3 : Int32) (0 : Int32)) fun C19 =>
      some C19))
  else (
    f_X2_readNot_j34 N rc C  p2)
abbrev G_X2_readNot (d : Nat) (p : Program) (l : Launch) (e : Env) (s : State) (m : MethodId) (args : Array Value) (below : List Frame) (meth : Method) (c : Code) (E : wg_Ev) (ad : Nat → Nat) (S : wg_Sh) (C0 : wg_C) (M0 : wg_M) (pc : Nat) (C : wg_C) (M : wg_M) (lv : List (Nat × Value)) (st : List Value) : Prop := wg_G p l e (wg_Rm (d + 9) (40 * (d + 1) + 300)) s m args below meth c (MQ below (wg_Qv E ad S C0 M0) args s 0 0 (wg_A E)) 4 E ad S 0 0 pc C M lv st
set_option maxHeartbeats 4000000 in
set_option maxRecDepth 100000 in
theorem J_X2_readNot_j74 {p : Program} {l : Launch} {e : Env} {s : State} {m : MethodId} {args : Array Value} {below : List Frame} {meth : Method} {c : Code} {E : wg_Ev} {ad : Nat → Nat} {S : wg_Sh} (X : wg_X p s m args meth c cX2_readNot 4 RX2 E) (hr : meth.sig.returnType = none) (hS : wg_SC S) (D0 : wg_C) (M : wg_M) (N : Nat) (d : Nat) (rc : Nat → wg_C → Int32 → Option wg_C) (hrc : ∀ (k : Nat) (D : wg_C) (i0 : Int32) (D0 : wg_C), rc k D i0 = some D0 → R_X2g l E ad S M d k D i0 D0)  (C : wg_C)  (x2 : Int32) (s0 : Int32)   (h : f_X2_readNot_j74 N rc C  x2 s0 = some D0) : G_X2_readNot d p l e s m args below meth c E ad S D0 M 74 C M [(0, .ref (ad 28)), (1, .ref (ad 23)), (2, .int x2)] [.int s0] := by
  unfold f_X2_readNot_j74 at h
  refine wg_istore_n (lv' := [(3, .int s0), (0, .ref (ad 28)), (1, .ref (ad 23)), (2, .int x2)]) X dX2_readNot_74 rfl rfl (by decide) rfl ?_
  refine wg_aload_n X 1 dX2_readNot_75 rfl rfl ?_
  refine wg_aload_n X 2 dX2_readNot_76 rfl rfl ?_
  obtain ⟨C7, h6, h⟩ := bd_some h
  refine wg_callVv (As := [.ref (ad 23)]) (rest := []) X (c_X2_advance l E ad S hS C M   h6) T_yX2_advance k_397 cl2 (SCi hS 28 2 rfl) dX2_readNot_77 rfl rfl (Nat.le_of_ble_eq_true rfl) ⟨show 0 + 1 ≤ d + 9 by omega, show 8 + (2 + 11) + 0 ≤ 40 * (d + 1) + 300 by omega⟩ ⟨Nat.zero_le _, Nat.zero_le _⟩ ?_
  refine wg_aload_n X 1 dX2_readNot_80 rfl rfl ?_
  refine wg_aload_n X 2 dX2_readNot_81 rfl rfl ?_
  refine wg_iload_n X 3 dX2_readNot_82 rfl rfl ?_
  obtain ⟨C9, h8, h⟩ := bd_some h
  refine wg_callVv (As := [.ref (ad 23), .int x2]) (rest := []) X (show wg_Cv l yX2_readSum cX2_readSum 5 none (d + 8) (40 * d + 300) E ad S C7 M [.ref (ad 28), .ref (ad 23), .int x2] C9 M from hrc 3 C7 x2 C9 h8) T_yX2_readSum k_421 cl2 (SCi hS 28 2 rfl) dX2_readNot_83 rfl rfl (Nat.le_of_ble_eq_true rfl) ⟨show (d + 8) + 1 ≤ d + 9 by omega, show 8 + (5 + 11) + (40 * d + 300) ≤ 40 * (d + 1) + 300 by omega⟩ ⟨Nat.zero_le _, Nat.zero_le _⟩ ?_
  refine wg_aload_n X 1 dX2_readNot_86 rfl rfl ?_
  refine wg_iload_n X 0 dX2_readNot_87 rfl rfl ?_
  refine wg_iconst (v := 0) X dX2_readNot_88 (by decide) ?_
  obtain ⟨C11, h10, h⟩ := bd_some h
  refine wg_callVv (As := [.int s0, .int (0 : Int32)]) (rest := []) X (c_X2_emit l E ad S hS C9 M s0 (0 : Int32)  h10) T_yX2_emit k_417 cl2 (SCi hS 28 2 rfl) dX2_readNot_89 rfl rfl (Nat.le_of_ble_eq_true rfl) ⟨show 0 + 1 ≤ d + 9 by omega, show 8 + (3 + 11) + 0 ≤ 40 * (d + 1) + 300 by omega⟩ ⟨Nat.zero_le _, Nat.zero_le _⟩ ?_
  exact wg_vret X ⟨(sm_inj h), rfl⟩ hr dX2_readNot_92
set_option maxHeartbeats 4000000 in
set_option maxRecDepth 100000 in
theorem J_X2_readNot_j58 {p : Program} {l : Launch} {e : Env} {s : State} {m : MethodId} {args : Array Value} {below : List Frame} {meth : Method} {c : Code} {E : wg_Ev} {ad : Nat → Nat} {S : wg_Sh} (X : wg_X p s m args meth c cX2_readNot 4 RX2 E) (hr : meth.sig.returnType = none) (hS : wg_SC S) (D0 : wg_C) (M : wg_M) (N : Nat) (d : Nat) (rc : Nat → wg_C → Int32 → Option wg_C) (hrc : ∀ (k : Nat) (D : wg_C) (i0 : Int32) (D0 : wg_C), rc k D i0 = some D0 → R_X2g l E ad S M d k D i0 D0)  (C : wg_C)  (x2 : Int32)   (h : f_X2_readNot_j58 N rc C  x2 = some D0) : G_X2_readNot d p l e s m args below meth c E ad S D0 M 58 C M [(0, .ref (ad 28)), (1, .ref (ad 23)), (2, .int x2)] [] := by
  unfold f_X2_readNot_j58 at h
  refine wg_aload_n X 0 dX2_readNot_58 rfl rfl ?_
  refine wg_getC X cl2 (SCi hS 28 2 rfl) 2 (by decide) dX2_readNot_59 k_203 rfl ?_
  refine wg_bipush (v := 60) X dX2_readNot_62 (by decide) ?_
  refine wg_icmp_ne X 72 dX2_readNot_64 (by decide) (fun c5 => ?_) (fun c5 => ?_)
  · have h := if_f c5 h
    refine wg_bipush (v := 8) X dX2_readNot_72 (by decide) ?_
    exact J_X2_readNot_j74 X hr hS D0 M N d rc hrc  C  x2 (8 : Int32)   h
  · have h := if_t c5 h
    refine wg_bipush (v := 7) X dX2_readNot_67 (by decide) ?_
    refine wg_goto X 74 dX2_readNot_69 (by decide) ?_
    exact J_X2_readNot_j74 X hr hS D0 M N d rc hrc  C  x2 (7 : Int32)   h
set_option maxHeartbeats 4000000 in
set_option maxRecDepth 100000 in
theorem J_X2_readNot_j34 {p : Program} {l : Launch} {e : Env} {s : State} {m : MethodId} {args : Array Value} {below : List Frame} {meth : Method} {c : Code} {E : wg_Ev} {ad : Nat → Nat} {S : wg_Sh} (X : wg_X p s m args meth c cX2_readNot 4 RX2 E) (hr : meth.sig.returnType = none) (hS : wg_SC S) (D0 : wg_C) (M : wg_M) (N : Nat) (d : Nat) (rc : Nat → wg_C → Int32 → Option wg_C) (hrc : ∀ (k : Nat) (D : wg_C) (i0 : Int32) (D0 : wg_C), rc k D i0 = some D0 → R_X2g l E ad S M d k D i0 D0)  (C : wg_C)  (x2 : Int32)   (h : f_X2_readNot_j34 N rc C  x2 = some D0) : G_X2_readNot d p l e s m args below meth c E ad S D0 M 34 C M [(0, .ref (ad 28)), (1, .ref (ad 23)), (2, .int x2)] [] := by
  unfold f_X2_readNot_j34 at h
  refine wg_aload_n X 0 dX2_readNot_34 rfl rfl ?_
  refine wg_aload_n X 1 dX2_readNot_35 rfl rfl ?_
  refine wg_iload_n X 2 dX2_readNot_36 rfl rfl ?_
  obtain ⟨C3, h2, h⟩ := bd_some h
  refine wg_callVv (As := [.ref (ad 23), .int x2]) (rest := []) X (show wg_Cv l yX2_readSum cX2_readSum 5 none (d + 8) (40 * d + 300) E ad S C M [.ref (ad 28), .ref (ad 23), .int x2] C3 M from hrc 3 C x2 C3 h2) T_yX2_readSum k_421 cl2 (SCi hS 28 2 rfl) dX2_readNot_37 rfl rfl (Nat.le_of_ble_eq_true rfl) ⟨show (d + 8) + 1 ≤ d + 9 by omega, show 8 + (5 + 11) + (40 * d + 300) ≤ 40 * (d + 1) + 300 by omega⟩ ⟨Nat.zero_le _, Nat.zero_le _⟩ ?_
  refine wg_aload_n X 0 dX2_readNot_40 rfl rfl ?_
  refine wg_getC X cl2 (SCi hS 28 2 rfl) 2 (by decide) dX2_readNot_41 k_203 rfl ?_
  refine wg_bipush (v := 60) X dX2_readNot_44 (by decide) ?_
  refine wg_icmp_eq X 58 dX2_readNot_46 (by decide) (fun c4 => ?_) (fun c4 => ?_)
  · have h := if_t c4 h
    exact J_X2_readNot_j58 X hr hS D0 M N d rc hrc  C3  x2   h
  · have h := if_f c4 h
    refine wg_aload_n X 0 dX2_readNot_49 rfl rfl ?_
    refine wg_getC X cl2 (SCi hS 28 2 rfl) 2 (by decide) dX2_readNot_50 k_203 rfl ?_
    refine wg_bipush (v := 61) X dX2_readNot_53 (by decide) ?_
    refine wg_icmp_ne X 92 dX2_readNot_55 (by decide) (fun c12 => ?_) (fun c12 => ?_)
    · have h := if_f c12 h
      exact wg_vret X ⟨(sm_inj h), rfl⟩ hr dX2_readNot_92
    · have h := if_t c12 h
      exact J_X2_readNot_j58 X hr hS D0 M N d rc hrc  C3  x2   h
set_option maxHeartbeats 4000000 in
set_option maxRecDepth 100000 in
theorem c_X2_readNot (l : Launch) (E : wg_Ev) (ad : Nat → Nat) (S : wg_Sh) (hS : wg_SC S) (N : Nat) (d : Nat) (rc : Nat → wg_C → Int32 → Option wg_C) (M : wg_M) (hrc : ∀ (k : Nat) (D : wg_C) (i0 : Int32) (D0 : wg_C), rc k D i0 = some D0 → R_X2g l E ad S M d k D i0 D0) (C : wg_C) (p2 : Int32)  {D0 : wg_C} (h : f_X2_readNot N rc C p2 = some D0) : wg_Cv l yX2_readNot cX2_readNot 4 none (d + 9) (40 * (d + 1) + 300) E ad S C M [.ref (ad 28), .ref (ad 23), .int p2] D0 M := by
  refine wg_start (own := RX2) (by decide +kernel) rfl (Nat.le_of_ble_eq_true rfl) ?_
  intro p e s m below meth c X hr hnm
  refine wg_lv (lv' := [(0, .ref (ad 28)), (1, .ref (ad 23)), (2, .int p2)]) rfl ?_
  unfold f_X2_readNot at h
  refine wg_aload_n X 0 dX2_readNot_0 rfl rfl ?_
  refine wg_getC X cl2 (SCi hS 28 2 rfl) 2 (by decide) dX2_readNot_1 k_203 rfl ?_
  refine wg_bipush (v := 8) X dX2_readNot_4 (by decide) ?_
  refine wg_icmp_ne X 34 dX2_readNot_6 (by decide) (fun c1 => ?_) (fun c1 => ?_)
  · have h := if_f c1 h
    exact J_X2_readNot_j34 X hr hS D0 M N d rc hrc  C  p2   h
  · have h := if_t c1 h
    refine wg_iload_n X 2 dX2_readNot_9 rfl rfl ?_
    refine wg_iconst (v := 5) X dX2_readNot_10 (by decide) ?_
    refine wg_icmp_ge X 34 dX2_readNot_11 (by decide) (fun c13 => ?_) (fun c13 => ?_)
    · have h := if_t c13 h
      exact J_X2_readNot_j34 X hr hS D0 M N d rc hrc  C  p2   h
    · have h := if_f c13 h
      refine wg_aload_n X 0 dX2_readNot_14 rfl rfl ?_
      refine wg_aload_n X 1 dX2_readNot_15 rfl rfl ?_
      obtain ⟨C15, h14, h⟩ := bd_some h
      refine wg_callVv (As := [.ref (ad 23)]) (rest := []) X (c_X2_advance l E ad S hS C M   h14) T_yX2_advance k_397 cl2 (SCi hS 28 2 rfl) dX2_readNot_16 rfl rfl (Nat.le_of_ble_eq_true rfl) ⟨show 0 + 1 ≤ d + 9 by omega, show 8 + (2 + 11) + 0 ≤ 40 * (d + 1) + 300 by omega⟩ ⟨Nat.zero_le _, Nat.zero_le _⟩ ?_
      refine wg_aload_n X 0 dX2_readNot_19 rfl rfl ?_
      refine wg_aload_n X 1 dX2_readNot_20 rfl rfl ?_
      refine wg_iload_n X 2 dX2_readNot_21 rfl rfl ?_
      refine wg_iconst (v := 1) X dX2_readNot_22 (by decide) ?_
      refine wg_iadd X dX2_readNot_23 ?_
      obtain ⟨C17, h16, h⟩ := bd_some h
      refine wg_callVv (As := [.ref (ad 23), .int (p2 + (1 : Int32))]) (rest := []) X (show wg_Cv l yX2_readNot cX2_readNot 4 none (d + 8) (40 * d + 300) E ad S C15 M [.ref (ad 28), .ref (ad 23), .int (p2 + (1 : Int32))] C17 M from hrc 2 C15 (p2 + (1 : Int32)) C17 h16) T_yX2_readNot k_413 cl2 (SCi hS 28 2 rfl) dX2_readNot_24 rfl rfl (Nat.le_of_ble_eq_true rfl) ⟨show (d + 8) + 1 ≤ d + 9 by omega, show 8 + (4 + 11) + (40 * d + 300) ≤ 40 * (d + 1) + 300 by omega⟩ ⟨Nat.zero_le _, Nat.zero_le _⟩ ?_
      refine wg_aload_n X 0 dX2_readNot_27 rfl rfl ?_
      refine wg_iconst (v := 3) X dX2_readNot_28 (by decide) ?_
      refine wg_iconst (v := 0) X dX2_readNot_29 (by decide) ?_
      obtain ⟨C19, h18, h⟩ := bd_some h
      refine wg_callVv (As := [.int (3 : Int32), .int (0 : Int32)]) (rest := []) X (c_X2_emit l E ad S hS C17 M (3 : Int32) (0 : Int32)  h18) T_yX2_emit k_417 cl2 (SCi hS 28 2 rfl) dX2_readNot_30 rfl rfl (Nat.le_of_ble_eq_true rfl) ⟨show 0 + 1 ≤ d + 9 by omega, show 8 + (3 + 11) + 0 ≤ 40 * (d + 1) + 300 by omega⟩ ⟨Nat.zero_le _, Nat.zero_le _⟩ ?_
      exact wg_vret X ⟨(sm_inj h), rfl⟩ hr dX2_readNot_33
-- WindowsGive$Reader.readSum(LWindowsGive$Tape;I)V (('c', 28), ('c', 23), 'i')
def f_X2_readSum_j47l8 (N : Nat) (rc : Nat → wg_C → Int32 → Option wg_C) (C : wg_C)  (x2 : Int32) (x3 : Int32) (s0 : Int32) : Option ((wg_C × Int32) ⊕ (wg_C × Int32)) :=
  bd (f_X2_advance C ) fun C7 =>
  bd (rc 4 C7 x2) fun C9 =>
  bd (f_X2_emit C9 s0 (0 : Int32)) fun C11 =>
  lt_ (x3 + (1 : Int32)) fun v12 =>
  some (.inl (C11, v12))
def f_X2_readSum_j33l8 (N : Nat) (rc : Nat → wg_C → Int32 → Option wg_C) (C : wg_C)  (x2 : Int32) (x3 : Int32) : Option ((wg_C × Int32) ⊕ (wg_C × Int32)) :=
  if (C 28 2) = (43 : Int32) then (
    f_X2_readSum_j47l8 N rc C  x2 x3 (4 : Int32))
  else (
    f_X2_readSum_j47l8 N rc C  x2 x3 (5 : Int32))
def f_X2_readSum_l8 (N : Nat) (rc : Nat → wg_C → Int32 → Option wg_C)  (x2 : Int32) (C : wg_C) (x3 : Int32) : Option ((wg_C × Int32) ⊕ (wg_C × Int32)) :=
  if (160 : Int32) ≤ x3 then (
    some (.inr (C, x3)))
  else (
    if (C 28 2) = (43 : Int32) then (
      f_X2_readSum_j33l8 N rc C  x2 x3)
    else (
      if (C 28 2) = (45 : Int32) then (
        f_X2_readSum_j33l8 N rc C  x2 x3)
      else (
        some (.inr (C, x3)))))
def f_X2_readSum (N : Nat) (rc : Nat → wg_C → Int32 → Option wg_C) (C : wg_C) (p2 : Int32) : Option wg_C :=
  bd (rc 4 C p2) fun C2 =>
  bd2 (lp (fun o => f_X2_readSum_l8 N rc  p2 o.1 o.2) N (C2, (0 : Int32))) fun C15 v16 =>
  some C15
abbrev G_X2_readSum (d : Nat) (p : Program) (l : Launch) (e : Env) (s : State) (m : MethodId) (args : Array Value) (below : List Frame) (meth : Method) (c : Code) (E : wg_Ev) (ad : Nat → Nat) (S : wg_Sh) (C0 : wg_C) (M0 : wg_M) (pc : Nat) (C : wg_C) (M : wg_M) (lv : List (Nat × Value)) (st : List Value) : Prop := wg_G p l e (wg_Rm (d + 9) (40 * (d + 1) + 300)) s m args below meth c (MQ below (wg_Qv E ad S C0 M0) args s 0 0 (wg_A E)) 5 E ad S 0 0 pc C M lv st
set_option maxHeartbeats 4000000 in
set_option maxRecDepth 100000 in
theorem J_X2_readSum_j47l8 {p : Program} {l : Launch} {e : Env} {s : State} {m : MethodId} {args : Array Value} {below : List Frame} {meth : Method} {c : Code} {E : wg_Ev} {ad : Nat → Nat} {S : wg_Sh} (X : wg_X p s m args meth c cX2_readSum 5 RX2 E) (hr : meth.sig.returnType = none) (hS : wg_SC S) (D0 : wg_C) (M : wg_M) (N : Nat) (d : Nat) (rc : Nat → wg_C → Int32 → Option wg_C) (hrc : ∀ (k : Nat) (D : wg_C) (i0 : Int32) (D0 : wg_C), rc k D i0 = some D0 → R_X2g l E ad S M d k D i0 D0)  (C : wg_C)  (x2 : Int32) (x3 : Int32) (s0 : Int32)  (y : ((wg_C × Int32) ⊕ (wg_C × Int32))) (Kc : ∀ (Dy : wg_C) (y3 : Int32), y = Sum.inl (Dy, y3) → G_X2_readSum d p l e s m args below meth c E ad S D0 M 8 Dy M [(0, .ref (ad 28)), (1, .ref (ad 23)), (2, .int x2), (3, .int y3)] []) (Ke : ∀ (Dy : wg_C) (y3 : Int32), y = Sum.inr ((Dy, y3)) → G_X2_readSum d p l e s m args below meth c E ad S D0 M 73 Dy M [(0, .ref (ad 28)), (1, .ref (ad 23)), (2, .int x2), (3, .int y3)] []) (h : f_X2_readSum_j47l8 N rc C  x2 x3 s0 = some y) : G_X2_readSum d p l e s m args below meth c E ad S D0 M 47 C M [(0, .ref (ad 28)), (1, .ref (ad 23)), (2, .int x2), (3, .int x3)] [.int s0] := by
  unfold f_X2_readSum_j47l8 at h
  refine wg_istore (lv' := [(4, .int s0), (0, .ref (ad 28)), (1, .ref (ad 23)), (2, .int x2), (3, .int x3)]) X dX2_readSum_47 rfl (by decide) rfl ?_
  refine wg_aload_n X 1 dX2_readSum_49 rfl rfl ?_
  refine wg_aload_n X 2 dX2_readSum_50 rfl rfl ?_
  obtain ⟨C7, h6, h⟩ := bd_some h
  refine wg_callVv (As := [.ref (ad 23)]) (rest := []) X (c_X2_advance l E ad S hS C M   h6) T_yX2_advance k_397 cl2 (SCi hS 28 2 rfl) dX2_readSum_51 rfl rfl (Nat.le_of_ble_eq_true rfl) ⟨show 0 + 1 ≤ d + 9 by omega, show 8 + (2 + 11) + 0 ≤ 40 * (d + 1) + 300 by omega⟩ ⟨Nat.zero_le _, Nat.zero_le _⟩ ?_
  refine wg_aload_n X 1 dX2_readSum_54 rfl rfl ?_
  refine wg_aload_n X 2 dX2_readSum_55 rfl rfl ?_
  refine wg_iload_n X 3 dX2_readSum_56 rfl rfl ?_
  obtain ⟨C9, h8, h⟩ := bd_some h
  refine wg_callVv (As := [.ref (ad 23), .int x2]) (rest := []) X (show wg_Cv l yX2_readTerm cX2_readTerm 4 none (d + 8) (40 * d + 300) E ad S C7 M [.ref (ad 28), .ref (ad 23), .int x2] C9 M from hrc 4 C7 x2 C9 h8) T_yX2_readTerm k_425 cl2 (SCi hS 28 2 rfl) dX2_readSum_57 rfl rfl (Nat.le_of_ble_eq_true rfl) ⟨show (d + 8) + 1 ≤ d + 9 by omega, show 8 + (4 + 11) + (40 * d + 300) ≤ 40 * (d + 1) + 300 by omega⟩ ⟨Nat.zero_le _, Nat.zero_le _⟩ ?_
  refine wg_aload_n X 1 dX2_readSum_60 rfl rfl ?_
  refine wg_iload X 0 dX2_readSum_61 rfl ?_
  refine wg_iconst (v := 0) X dX2_readSum_63 (by decide) ?_
  obtain ⟨C11, h10, h⟩ := bd_some h
  refine wg_callVv (As := [.int s0, .int (0 : Int32)]) (rest := []) X (c_X2_emit l E ad S hS C9 M s0 (0 : Int32)  h10) T_yX2_emit k_417 cl2 (SCi hS 28 2 rfl) dX2_readSum_64 rfl rfl (Nat.le_of_ble_eq_true rfl) ⟨show 0 + 1 ≤ d + 9 by omega, show 8 + (3 + 11) + 0 ≤ 40 * (d + 1) + 300 by omega⟩ ⟨Nat.zero_le _, Nat.zero_le _⟩ ?_
  obtain ⟨v12, e13, h⟩ := lt_some h
  refine wg_iinc (lv' := [(3, .int v12), (4, .int s0), (0, .ref (ad 28)), (1, .ref (ad 23)), (2, .int x2)]) X 4 dX2_readSum_67 rfl e13 (by decide) rfl ?_
  refine wg_goto X 8 dX2_readSum_70 (by decide) ?_
  refine wg_pick [2, 3, 4, 0] (lv' := [(0, .ref (ad 28)), (1, .ref (ad 23)), (2, .int x2), (3, .int v12)]) rfl ?_
  exact Kc C11 v12 (sm_inj h).symm
set_option maxHeartbeats 4000000 in
set_option maxRecDepth 100000 in
theorem J_X2_readSum_j33l8 {p : Program} {l : Launch} {e : Env} {s : State} {m : MethodId} {args : Array Value} {below : List Frame} {meth : Method} {c : Code} {E : wg_Ev} {ad : Nat → Nat} {S : wg_Sh} (X : wg_X p s m args meth c cX2_readSum 5 RX2 E) (hr : meth.sig.returnType = none) (hS : wg_SC S) (D0 : wg_C) (M : wg_M) (N : Nat) (d : Nat) (rc : Nat → wg_C → Int32 → Option wg_C) (hrc : ∀ (k : Nat) (D : wg_C) (i0 : Int32) (D0 : wg_C), rc k D i0 = some D0 → R_X2g l E ad S M d k D i0 D0)  (C : wg_C)  (x2 : Int32) (x3 : Int32)  (y : ((wg_C × Int32) ⊕ (wg_C × Int32))) (Kc : ∀ (Dy : wg_C) (y3 : Int32), y = Sum.inl (Dy, y3) → G_X2_readSum d p l e s m args below meth c E ad S D0 M 8 Dy M [(0, .ref (ad 28)), (1, .ref (ad 23)), (2, .int x2), (3, .int y3)] []) (Ke : ∀ (Dy : wg_C) (y3 : Int32), y = Sum.inr ((Dy, y3)) → G_X2_readSum d p l e s m args below meth c E ad S D0 M 73 Dy M [(0, .ref (ad 28)), (1, .ref (ad 23)), (2, .int x2), (3, .int y3)] []) (h : f_X2_readSum_j33l8 N rc C  x2 x3 = some y) : G_X2_readSum d p l e s m args below meth c E ad S D0 M 33 C M [(0, .ref (ad 28)), (1, .ref (ad 23)), (2, .int x2), (3, .int x3)] [] := by
  unfold f_X2_readSum_j33l8 at h
  refine wg_aload_n X 0 dX2_readSum_33 rfl rfl ?_
  refine wg_getC X cl2 (SCi hS 28 2 rfl) 2 (by decide) dX2_readSum_34 k_203 rfl ?_
  refine wg_bipush (v := 43) X dX2_readSum_37 (by decide) ?_
  refine wg_icmp_ne X 46 dX2_readSum_39 (by decide) (fun c5 => ?_) (fun c5 => ?_)
  · have h := if_f c5 h
    refine wg_iconst (v := 5) X dX2_readSum_46 (by decide) ?_
    exact J_X2_readSum_j47l8 X hr hS D0 M N d rc hrc  C  x2 x3 (5 : Int32)  _ Kc Ke h
  · have h := if_t c5 h
    refine wg_iconst (v := 4) X dX2_readSum_42 (by decide) ?_
    refine wg_goto X 47 dX2_readSum_43 (by decide) ?_
    exact J_X2_readSum_j47l8 X hr hS D0 M N d rc hrc  C  x2 x3 (4 : Int32)  _ Kc Ke h
set_option maxHeartbeats 4000000 in
set_option maxRecDepth 100000 in
theorem L_X2_readSum_l8 {p : Program} {l : Launch} {e : Env} {s : State} {m : MethodId} {args : Array Value} {below : List Frame} {meth : Method} {c : Code} {E : wg_Ev} {ad : Nat → Nat} {S : wg_Sh} (X : wg_X p s m args meth c cX2_readSum 5 RX2 E) (hr : meth.sig.returnType = none) (hS : wg_SC S) (D0 : wg_C) (M : wg_M) (N : Nat) (d : Nat) (rc : Nat → wg_C → Int32 → Option wg_C) (hrc : ∀ (k : Nat) (D : wg_C) (i0 : Int32) (D0 : wg_C), rc k D i0 = some D0 → R_X2g l E ad S M d k D i0 D0)   (x2 : Int32)  : ∀ (n : Nat) (C : wg_C) (x3 : Int32) (o : (wg_C × Int32)), lp (fun o => f_X2_readSum_l8 N rc  x2 o.1 o.2) n (C, x3) = some o → (∀ (Dy : wg_C) (y3 : Int32), o = (Dy, y3) → G_X2_readSum d p l e s m args below meth c E ad S D0 M 73 Dy M [(0, .ref (ad 28)), (1, .ref (ad 23)), (2, .int x2), (3, .int y3)] []) → G_X2_readSum d p l e s m args below meth c E ad S D0 M 8 C M [(0, .ref (ad 28)), (1, .ref (ad 23)), (2, .int x2), (3, .int x3)] [] := by
  intro n
  induction n with
  | zero => exact fun _ _ o h => (lp_zero h).elim
  | succ n ih =>
    intro C x3 o h K
    obtain ⟨o1, hb, h2⟩ := lp_some h
    replace hb : f_X2_readSum_l8 N rc  x2 C x3 = some o1 := hb
    clear h
    have Kc : ∀ (Dy : wg_C) (y3 : Int32), o1 = Sum.inl (Dy, y3) → G_X2_readSum d p l e s m args below meth c E ad S D0 M 8 Dy M [(0, .ref (ad 28)), (1, .ref (ad 23)), (2, .int x2), (3, .int y3)] [] := fun Dy y3 e1 => by
      subst e1
      exact ih Dy y3 o h2 K
    have Ke : ∀ (Dy : wg_C) (y3 : Int32), o1 = Sum.inr ((Dy, y3)) → G_X2_readSum d p l e s m args below meth c E ad S D0 M 73 Dy M [(0, .ref (ad 28)), (1, .ref (ad 23)), (2, .int x2), (3, .int y3)] [] := fun Dy y3 e1 => by
      subst e1
      exact K Dy y3 (sm_inj (α := (wg_C × Int32)) h2).symm
    clear ih K h2
    unfold f_X2_readSum_l8 at hb
    have h := hb
    clear hb
    refine wg_iload_n X 3 dX2_readSum_8 rfl rfl ?_
    refine wg_sipush (v := 160) X dX2_readSum_9 (by decide) ?_
    refine wg_icmp_ge X 73 dX2_readSum_12 (by decide) (fun c3 => ?_) (fun c3 => ?_)
    · have h := if_t c3 h
      exact Ke C x3 (sm_inj h).symm
    · have h := if_f c3 h
      refine wg_aload_n X 0 dX2_readSum_15 rfl rfl ?_
      refine wg_getC X cl2 (SCi hS 28 2 rfl) 2 (by decide) dX2_readSum_16 k_203 rfl ?_
      refine wg_bipush (v := 43) X dX2_readSum_19 (by decide) ?_
      refine wg_icmp_eq X 33 dX2_readSum_21 (by decide) (fun c4 => ?_) (fun c4 => ?_)
      · have h := if_t c4 h
        exact J_X2_readSum_j33l8 X hr hS D0 M N d rc hrc  C  x2 x3  _ Kc Ke h
      · have h := if_f c4 h
        refine wg_aload_n X 0 dX2_readSum_24 rfl rfl ?_
        refine wg_getC X cl2 (SCi hS 28 2 rfl) 2 (by decide) dX2_readSum_25 k_203 rfl ?_
        refine wg_bipush (v := 45) X dX2_readSum_28 (by decide) ?_
        refine wg_icmp_ne X 73 dX2_readSum_30 (by decide) (fun c14 => ?_) (fun c14 => ?_)
        · have h := if_f c14 h
          exact Ke C x3 (sm_inj h).symm
        · have h := if_t c14 h
          exact J_X2_readSum_j33l8 X hr hS D0 M N d rc hrc  C  x2 x3  _ Kc Ke h
set_option maxHeartbeats 4000000 in
set_option maxRecDepth 100000 in
theorem c_X2_readSum (l : Launch) (E : wg_Ev) (ad : Nat → Nat) (S : wg_Sh) (hS : wg_SC S) (N : Nat) (d : Nat) (rc : Nat → wg_C → Int32 → Option wg_C) (M : wg_M) (hrc : ∀ (k : Nat) (D : wg_C) (i0 : Int32) (D0 : wg_C), rc k D i0 = some D0 → R_X2g l E ad S M d k D i0 D0) (C : wg_C) (p2 : Int32)  {D0 : wg_C} (h : f_X2_readSum N rc C p2 = some D0) : wg_Cv l yX2_readSum cX2_readSum 5 none (d + 9) (40 * (d + 1) + 300) E ad S C M [.ref (ad 28), .ref (ad 23), .int p2] D0 M := by
  refine wg_start (own := RX2) (by decide +kernel) rfl (Nat.le_of_ble_eq_true rfl) ?_
  intro p e s m below meth c X hr hnm
  refine wg_lv (lv' := [(0, .ref (ad 28)), (1, .ref (ad 23)), (2, .int p2)]) rfl ?_
  unfold f_X2_readSum at h
  refine wg_aload_n X 0 dX2_readSum_0 rfl rfl ?_
  refine wg_aload_n X 1 dX2_readSum_1 rfl rfl ?_
  refine wg_iload_n X 2 dX2_readSum_2 rfl rfl ?_
  obtain ⟨C2, h1, h⟩ := bd_some h
  refine wg_callVv (As := [.ref (ad 23), .int p2]) (rest := []) X (show wg_Cv l yX2_readTerm cX2_readTerm 4 none (d + 8) (40 * d + 300) E ad S C M [.ref (ad 28), .ref (ad 23), .int p2] C2 M from hrc 4 C p2 C2 h1) T_yX2_readTerm k_425 cl2 (SCi hS 28 2 rfl) dX2_readSum_3 rfl rfl (Nat.le_of_ble_eq_true rfl) ⟨show (d + 8) + 1 ≤ d + 9 by omega, show 8 + (4 + 11) + (40 * d + 300) ≤ 40 * (d + 1) + 300 by omega⟩ ⟨Nat.zero_le _, Nat.zero_le _⟩ ?_
  refine wg_iconst (v := 0) X dX2_readSum_6 (by decide) ?_
  refine wg_istore_n (lv' := [(3, .int (0 : Int32)), (0, .ref (ad 28)), (1, .ref (ad 23)), (2, .int p2)]) X dX2_readSum_7 rfl rfl (by decide) rfl ?_
  obtain ⟨o17, h18, h⟩ := bd2_o h
  refine wg_pick [1, 2, 3, 0] (lv' := [(0, .ref (ad 28)), (1, .ref (ad 23)), (2, .int p2), (3, .int (0 : Int32))]) rfl ?_
  refine L_X2_readSum_l8 X hr hS D0 M N d rc hrc   p2  N C2 (0 : Int32) o17 h18 (fun C15 v16 e20 => ?_)
  · subst o17
    replace h := bd2_in h
    exact wg_vret X ⟨(sm_inj h), rfl⟩ hr dX2_readSum_73
-- WindowsGive$Reader.readTerm(LWindowsGive$Tape;I)V (('c', 28), ('c', 23), 'i')
def f_X2_readTerm_l8 (N : Nat) (rc : Nat → wg_C → Int32 → Option wg_C)  (x2 : Int32) (C : wg_C) (x3 : Int32) : Option ((wg_C × Int32) ⊕ (wg_C × Int32)) :=
  if (160 : Int32) ≤ x3 then (
    some (.inr (C, x3)))
  else (
    if (C 28 2) = (42 : Int32) then (
      bd (f_X2_advance C ) fun C6 =>
      bd (rc 5 C6 x2) fun C8 =>
      bd (f_X2_emit C8 (6 : Int32) (0 : Int32)) fun C10 =>
      lt_ (x3 + (1 : Int32)) fun v11 =>
      some (.inl (C10, v11)))
    else (
      some (.inr (C, x3))))
def f_X2_readTerm (N : Nat) (rc : Nat → wg_C → Int32 → Option wg_C) (C : wg_C) (p2 : Int32) : Option wg_C :=
  bd (rc 5 C p2) fun C2 =>
  bd2 (lp (fun o => f_X2_readTerm_l8 N rc  p2 o.1 o.2) N (C2, (0 : Int32))) fun C13 v14 =>
  some C13
abbrev G_X2_readTerm (d : Nat) (p : Program) (l : Launch) (e : Env) (s : State) (m : MethodId) (args : Array Value) (below : List Frame) (meth : Method) (c : Code) (E : wg_Ev) (ad : Nat → Nat) (S : wg_Sh) (C0 : wg_C) (M0 : wg_M) (pc : Nat) (C : wg_C) (M : wg_M) (lv : List (Nat × Value)) (st : List Value) : Prop := wg_G p l e (wg_Rm (d + 9) (40 * (d + 1) + 300)) s m args below meth c (MQ below (wg_Qv E ad S C0 M0) args s 0 0 (wg_A E)) 4 E ad S 0 0 pc C M lv st
set_option maxHeartbeats 4000000 in
set_option maxRecDepth 100000 in
theorem L_X2_readTerm_l8 {p : Program} {l : Launch} {e : Env} {s : State} {m : MethodId} {args : Array Value} {below : List Frame} {meth : Method} {c : Code} {E : wg_Ev} {ad : Nat → Nat} {S : wg_Sh} (X : wg_X p s m args meth c cX2_readTerm 4 RX2 E) (hr : meth.sig.returnType = none) (hS : wg_SC S) (D0 : wg_C) (M : wg_M) (N : Nat) (d : Nat) (rc : Nat → wg_C → Int32 → Option wg_C) (hrc : ∀ (k : Nat) (D : wg_C) (i0 : Int32) (D0 : wg_C), rc k D i0 = some D0 → R_X2g l E ad S M d k D i0 D0)   (x2 : Int32)  : ∀ (n : Nat) (C : wg_C) (x3 : Int32) (o : (wg_C × Int32)), lp (fun o => f_X2_readTerm_l8 N rc  x2 o.1 o.2) n (C, x3) = some o → (∀ (Dy : wg_C) (y3 : Int32), o = (Dy, y3) → G_X2_readTerm d p l e s m args below meth c E ad S D0 M 48 Dy M [(0, .ref (ad 28)), (1, .ref (ad 23)), (2, .int x2), (3, .int y3)] []) → G_X2_readTerm d p l e s m args below meth c E ad S D0 M 8 C M [(0, .ref (ad 28)), (1, .ref (ad 23)), (2, .int x2), (3, .int x3)] [] := by
  intro n
  induction n with
  | zero => exact fun _ _ o h => (lp_zero h).elim
  | succ n ih =>
    intro C x3 o h K
    obtain ⟨o1, hb, h2⟩ := lp_some h
    replace hb : f_X2_readTerm_l8 N rc  x2 C x3 = some o1 := hb
    clear h
    have Kc : ∀ (Dy : wg_C) (y3 : Int32), o1 = Sum.inl (Dy, y3) → G_X2_readTerm d p l e s m args below meth c E ad S D0 M 8 Dy M [(0, .ref (ad 28)), (1, .ref (ad 23)), (2, .int x2), (3, .int y3)] [] := fun Dy y3 e1 => by
      subst e1
      exact ih Dy y3 o h2 K
    have Ke : ∀ (Dy : wg_C) (y3 : Int32), o1 = Sum.inr ((Dy, y3)) → G_X2_readTerm d p l e s m args below meth c E ad S D0 M 48 Dy M [(0, .ref (ad 28)), (1, .ref (ad 23)), (2, .int x2), (3, .int y3)] [] := fun Dy y3 e1 => by
      subst e1
      exact K Dy y3 (sm_inj (α := (wg_C × Int32)) h2).symm
    clear ih K h2
    unfold f_X2_readTerm_l8 at hb
    have h := hb
    clear hb
    refine wg_iload_n X 3 dX2_readTerm_8 rfl rfl ?_
    refine wg_sipush (v := 160) X dX2_readTerm_9 (by decide) ?_
    refine wg_icmp_ge X 48 dX2_readTerm_12 (by decide) (fun c3 => ?_) (fun c3 => ?_)
    · have h := if_t c3 h
      exact Ke C x3 (sm_inj h).symm
    · have h := if_f c3 h
      refine wg_aload_n X 0 dX2_readTerm_15 rfl rfl ?_
      refine wg_getC X cl2 (SCi hS 28 2 rfl) 2 (by decide) dX2_readTerm_16 k_203 rfl ?_
      refine wg_bipush (v := 42) X dX2_readTerm_19 (by decide) ?_
      refine wg_icmp_ne X 48 dX2_readTerm_21 (by decide) (fun c4 => ?_) (fun c4 => ?_)
      · have h := if_f c4 h
        exact Ke C x3 (sm_inj h).symm
      · have h := if_t c4 h
        refine wg_aload_n X 0 dX2_readTerm_24 rfl rfl ?_
        refine wg_aload_n X 1 dX2_readTerm_25 rfl rfl ?_
        obtain ⟨C6, h5, h⟩ := bd_some h
        refine wg_callVv (As := [.ref (ad 23)]) (rest := []) X (c_X2_advance l E ad S hS C M   h5) T_yX2_advance k_397 cl2 (SCi hS 28 2 rfl) dX2_readTerm_26 rfl rfl (Nat.le_of_ble_eq_true rfl) ⟨show 0 + 1 ≤ d + 9 by omega, show 8 + (2 + 11) + 0 ≤ 40 * (d + 1) + 300 by omega⟩ ⟨Nat.zero_le _, Nat.zero_le _⟩ ?_
        refine wg_aload_n X 0 dX2_readTerm_29 rfl rfl ?_
        refine wg_aload_n X 1 dX2_readTerm_30 rfl rfl ?_
        refine wg_iload_n X 2 dX2_readTerm_31 rfl rfl ?_
        obtain ⟨C8, h7, h⟩ := bd_some h
        refine wg_callVv (As := [.ref (ad 23), .int x2]) (rest := []) X (show wg_Cv l yX2_readOne cX2_readOne 3 none (d + 8) (40 * d + 300) E ad S C6 M [.ref (ad 28), .ref (ad 23), .int x2] C8 M from hrc 5 C6 x2 C8 h7) T_yX2_readOne k_429 cl2 (SCi hS 28 2 rfl) dX2_readTerm_32 rfl rfl (Nat.le_of_ble_eq_true rfl) ⟨show (d + 8) + 1 ≤ d + 9 by omega, show 8 + (3 + 11) + (40 * d + 300) ≤ 40 * (d + 1) + 300 by omega⟩ ⟨Nat.zero_le _, Nat.zero_le _⟩ ?_
        refine wg_aload_n X 0 dX2_readTerm_35 rfl rfl ?_
        refine wg_bipush (v := 6) X dX2_readTerm_36 (by decide) ?_
        refine wg_iconst (v := 0) X dX2_readTerm_38 (by decide) ?_
        obtain ⟨C10, h9, h⟩ := bd_some h
        refine wg_callVv (As := [.int (6 : Int32), .int (0 : Int32)]) (rest := []) X (c_X2_emit l E ad S hS C8 M (6 : Int32) (0 : Int32)  h9) T_yX2_emit k_417 cl2 (SCi hS 28 2 rfl) dX2_readTerm_39 rfl rfl (Nat.le_of_ble_eq_true rfl) ⟨show 0 + 1 ≤ d + 9 by omega, show 8 + (3 + 11) + 0 ≤ 40 * (d + 1) + 300 by omega⟩ ⟨Nat.zero_le _, Nat.zero_le _⟩ ?_
        obtain ⟨v11, e12, h⟩ := lt_some h
        refine wg_iinc (lv' := [(3, .int v11), (0, .ref (ad 28)), (1, .ref (ad 23)), (2, .int x2)]) X 3 dX2_readTerm_42 rfl e12 (by decide) rfl ?_
        refine wg_goto X 8 dX2_readTerm_45 (by decide) ?_
        refine wg_pick [1, 2, 3, 0] (lv' := [(0, .ref (ad 28)), (1, .ref (ad 23)), (2, .int x2), (3, .int v11)]) rfl ?_
        exact Kc C10 v11 (sm_inj h).symm
set_option maxHeartbeats 4000000 in
set_option maxRecDepth 100000 in
theorem c_X2_readTerm (l : Launch) (E : wg_Ev) (ad : Nat → Nat) (S : wg_Sh) (hS : wg_SC S) (N : Nat) (d : Nat) (rc : Nat → wg_C → Int32 → Option wg_C) (M : wg_M) (hrc : ∀ (k : Nat) (D : wg_C) (i0 : Int32) (D0 : wg_C), rc k D i0 = some D0 → R_X2g l E ad S M d k D i0 D0) (C : wg_C) (p2 : Int32)  {D0 : wg_C} (h : f_X2_readTerm N rc C p2 = some D0) : wg_Cv l yX2_readTerm cX2_readTerm 4 none (d + 9) (40 * (d + 1) + 300) E ad S C M [.ref (ad 28), .ref (ad 23), .int p2] D0 M := by
  refine wg_start (own := RX2) (by decide +kernel) rfl (Nat.le_of_ble_eq_true rfl) ?_
  intro p e s m below meth c X hr hnm
  refine wg_lv (lv' := [(0, .ref (ad 28)), (1, .ref (ad 23)), (2, .int p2)]) rfl ?_
  unfold f_X2_readTerm at h
  refine wg_aload_n X 0 dX2_readTerm_0 rfl rfl ?_
  refine wg_aload_n X 1 dX2_readTerm_1 rfl rfl ?_
  refine wg_iload_n X 2 dX2_readTerm_2 rfl rfl ?_
  obtain ⟨C2, h1, h⟩ := bd_some h
  refine wg_callVv (As := [.ref (ad 23), .int p2]) (rest := []) X (show wg_Cv l yX2_readOne cX2_readOne 3 none (d + 8) (40 * d + 300) E ad S C M [.ref (ad 28), .ref (ad 23), .int p2] C2 M from hrc 5 C p2 C2 h1) T_yX2_readOne k_429 cl2 (SCi hS 28 2 rfl) dX2_readTerm_3 rfl rfl (Nat.le_of_ble_eq_true rfl) ⟨show (d + 8) + 1 ≤ d + 9 by omega, show 8 + (3 + 11) + (40 * d + 300) ≤ 40 * (d + 1) + 300 by omega⟩ ⟨Nat.zero_le _, Nat.zero_le _⟩ ?_
  refine wg_iconst (v := 0) X dX2_readTerm_6 (by decide) ?_
  refine wg_istore_n (lv' := [(3, .int (0 : Int32)), (0, .ref (ad 28)), (1, .ref (ad 23)), (2, .int p2)]) X dX2_readTerm_7 rfl rfl (by decide) rfl ?_
  obtain ⟨o15, h16, h⟩ := bd2_o h
  refine wg_pick [1, 2, 3, 0] (lv' := [(0, .ref (ad 28)), (1, .ref (ad 23)), (2, .int p2), (3, .int (0 : Int32))]) rfl ?_
  refine L_X2_readTerm_l8 X hr hS D0 M N d rc hrc   p2  N C2 (0 : Int32) o15 h16 (fun C13 v14 e18 => ?_)
  · subst o15
    replace h := bd2_in h
    exact wg_vret X ⟨(sm_inj h), rfl⟩ hr dX2_readTerm_48
-- WindowsGive$Reader.readOne(LWindowsGive$Tape;I)V (('c', 28), ('c', 23), 'i')
def f_X2_readOne_j30 (N : Nat) (rc : Nat → wg_C → Int32 → Option wg_C) (C : wg_C)  (s0 : Int32) : Option wg_C :=
  ck (inb (C 28 1) 161) <|
  bd (f_X2_emit C s0 (C 26 (C 28 1).toNatClampNeg)) fun C5 =>
  bd (f_X2_advance C5 ) fun C7 =>
  some C7
def f_X2_readOne_j16 (N : Nat) (rc : Nat → wg_C → Int32 → Option wg_C) (C : wg_C)   : Option wg_C :=
  if (C 28 2) = (1 : Int32) then (
    f_X2_readOne_j30 N rc C  (0 : Int32))
  else (
    f_X2_readOne_j30 N rc C  (1 : Int32))
def f_X2_readOne_j86 (N : Nat) (rc : Nat → wg_C → Int32 → Option wg_C) (C : wg_C)  (x2 : Int32) : Option wg_C :=
  if (C 28 2) = (40 : Int32) then (
    if (5 : Int32) ≤ x2 then (
      bd (f_X2_fail C ) fun C15 =>
      some C15)
    else (
      bd (f_X2_advance C ) fun C17 =>
      bd (rc 0 C17 (x2 + (1 : Int32))) fun C19 =>
      bd (f_X2_expect C19 (41 : Int32)) fun C21 =>
      some C21))
  else (
    bd (f_X2_fail C ) fun C12 =>
    some C12)
def f_X2_readOne (N : Nat) (rc : Nat → wg_C → Int32 → Option wg_C) (C : wg_C) (p2 : Int32) : Option wg_C :=
  if (C 28 2) = (1 : Int32) then (
    f_X2_readOne_j16 N rc C  )
  else (
    if (C 28 2) = (2 : Int32) then (
      f_X2_readOne_j16 N rc C  )
    else (
      if (C 28 2) = (45 : Int32) then (
        if (5 : Int32) ≤ p2 then (
          f_X2_readOne_j86 N rc C  p2)
        else (
          bd (f_X2_advance C ) fun C24 =>
          bd (rc 5 C24 (p2 + (1 : Int32))) fun C26 =>
          bd (f_X2_emit C26 (2 : Int32) (0 : Int32)) fun C28 =>
          some C28))
      else (
        f_X2_readOne_j86 N rc C  p2)))
abbrev G_X2_readOne (d : Nat) (p : Program) (l : Launch) (e : Env) (s : State) (m : MethodId) (args : Array Value) (below : List Frame) (meth : Method) (c : Code) (E : wg_Ev) (ad : Nat → Nat) (S : wg_Sh) (C0 : wg_C) (M0 : wg_M) (pc : Nat) (C : wg_C) (M : wg_M) (lv : List (Nat × Value)) (st : List Value) : Prop := wg_G p l e (wg_Rm (d + 9) (40 * (d + 1) + 300)) s m args below meth c (MQ below (wg_Qv E ad S C0 M0) args s 0 0 (wg_A E)) 3 E ad S 0 0 pc C M lv st
set_option maxHeartbeats 4000000 in
set_option maxRecDepth 100000 in
theorem J_X2_readOne_j30 {p : Program} {l : Launch} {e : Env} {s : State} {m : MethodId} {args : Array Value} {below : List Frame} {meth : Method} {c : Code} {E : wg_Ev} {ad : Nat → Nat} {S : wg_Sh} (X : wg_X p s m args meth c cX2_readOne 3 RX2 E) (hr : meth.sig.returnType = none) (hS : wg_SC S) (D0 : wg_C) (M : wg_M) (N : Nat) (d : Nat) (rc : Nat → wg_C → Int32 → Option wg_C) (hrc : ∀ (k : Nat) (D : wg_C) (i0 : Int32) (D0 : wg_C), rc k D i0 = some D0 → R_X2g l E ad S M d k D i0 D0)  (C : wg_C)  (s0 : Int32)   (h : f_X2_readOne_j30 N rc C  s0 = some D0) : G_X2_readOne d p l e s m args below meth c E ad S D0 M 30 C M [(0, .ref (ad 28)), (1, .ref (ad 23))] [.int s0, .ref (ad 28)] := by
  unfold f_X2_readOne_j30 at h
  refine wg_aload_n X 1 dX2_readOne_30 rfl rfl ?_
  refine wg_getR (b := 26) X cl5 (SCi hS 23 5 rfl) 4 (by decide) dX2_readOne_31 k_174 rfl (SCr hS 23 4 26 rfl) ?_
  refine wg_aload_n X 0 dX2_readOne_34 rfl rfl ?_
  refine wg_getC X cl2 (SCi hS 28 2 rfl) 1 (by decide) dX2_readOne_35 k_202 rfl ?_
  obtain ⟨z3, h⟩ := ck_some h
  refine wg_iald X (SCi hS 26 10 rfl) (SCl hS 26 161 rfl) z3 dX2_readOne_38 ?_
  obtain ⟨C5, h4, h⟩ := bd_some h
  refine wg_callVv (As := [.int s0, .int (C 26 (C 28 1).toNatClampNeg)]) (rest := []) X (c_X2_emit l E ad S hS C M s0 (C 26 (C 28 1).toNatClampNeg)  h4) T_yX2_emit k_417 cl2 (SCi hS 28 2 rfl) dX2_readOne_39 rfl rfl (Nat.le_of_ble_eq_true rfl) ⟨show 0 + 1 ≤ d + 9 by omega, show 8 + (3 + 11) + 0 ≤ 40 * (d + 1) + 300 by omega⟩ ⟨Nat.zero_le _, Nat.zero_le _⟩ ?_
  refine wg_aload_n X 0 dX2_readOne_42 rfl rfl ?_
  refine wg_aload_n X 1 dX2_readOne_43 rfl rfl ?_
  obtain ⟨C7, h6, h⟩ := bd_some h
  refine wg_callVv (As := [.ref (ad 23)]) (rest := []) X (c_X2_advance l E ad S hS C5 M   h6) T_yX2_advance k_397 cl2 (SCi hS 28 2 rfl) dX2_readOne_44 rfl rfl (Nat.le_of_ble_eq_true rfl) ⟨show 0 + 1 ≤ d + 9 by omega, show 8 + (2 + 11) + 0 ≤ 40 * (d + 1) + 300 by omega⟩ ⟨Nat.zero_le _, Nat.zero_le _⟩ ?_
  refine wg_goto X 128 dX2_readOne_47 (by decide) ?_
  exact wg_vret X ⟨(sm_inj h), rfl⟩ hr dX2_readOne_128
set_option maxHeartbeats 4000000 in
set_option maxRecDepth 100000 in
theorem J_X2_readOne_j16 {p : Program} {l : Launch} {e : Env} {s : State} {m : MethodId} {args : Array Value} {below : List Frame} {meth : Method} {c : Code} {E : wg_Ev} {ad : Nat → Nat} {S : wg_Sh} (X : wg_X p s m args meth c cX2_readOne 3 RX2 E) (hr : meth.sig.returnType = none) (hS : wg_SC S) (D0 : wg_C) (M : wg_M) (N : Nat) (d : Nat) (rc : Nat → wg_C → Int32 → Option wg_C) (hrc : ∀ (k : Nat) (D : wg_C) (i0 : Int32) (D0 : wg_C), rc k D i0 = some D0 → R_X2g l E ad S M d k D i0 D0)  (C : wg_C)     (h : f_X2_readOne_j16 N rc C   = some D0) : G_X2_readOne d p l e s m args below meth c E ad S D0 M 16 C M [(0, .ref (ad 28)), (1, .ref (ad 23))] [] := by
  unfold f_X2_readOne_j16 at h
  refine wg_aload_n X 0 dX2_readOne_16 rfl rfl ?_
  refine wg_aload_n X 0 dX2_readOne_17 rfl rfl ?_
  refine wg_getC X cl2 (SCi hS 28 2 rfl) 2 (by decide) dX2_readOne_18 k_203 rfl ?_
  refine wg_iconst (v := 1) X dX2_readOne_21 (by decide) ?_
  refine wg_icmp_ne X 29 dX2_readOne_22 (by decide) (fun c2 => ?_) (fun c2 => ?_)
  · have h := if_f c2 h
    refine wg_iconst (v := 1) X dX2_readOne_29 (by decide) ?_
    exact J_X2_readOne_j30 X hr hS D0 M N d rc hrc  C  (1 : Int32)   h
  · have h := if_t c2 h
    refine wg_iconst (v := 0) X dX2_readOne_25 (by decide) ?_
    refine wg_goto X 30 dX2_readOne_26 (by decide) ?_
    exact J_X2_readOne_j30 X hr hS D0 M N d rc hrc  C  (0 : Int32)   h
set_option maxHeartbeats 4000000 in
set_option maxRecDepth 100000 in
theorem J_X2_readOne_j86 {p : Program} {l : Launch} {e : Env} {s : State} {m : MethodId} {args : Array Value} {below : List Frame} {meth : Method} {c : Code} {E : wg_Ev} {ad : Nat → Nat} {S : wg_Sh} (X : wg_X p s m args meth c cX2_readOne 3 RX2 E) (hr : meth.sig.returnType = none) (hS : wg_SC S) (D0 : wg_C) (M : wg_M) (N : Nat) (d : Nat) (rc : Nat → wg_C → Int32 → Option wg_C) (hrc : ∀ (k : Nat) (D : wg_C) (i0 : Int32) (D0 : wg_C), rc k D i0 = some D0 → R_X2g l E ad S M d k D i0 D0)  (C : wg_C)  (x2 : Int32)   (h : f_X2_readOne_j86 N rc C  x2 = some D0) : G_X2_readOne d p l e s m args below meth c E ad S D0 M 86 C M [(0, .ref (ad 28)), (1, .ref (ad 23)), (2, .int x2)] [] := by
  unfold f_X2_readOne_j86 at h
  refine wg_aload_n X 0 dX2_readOne_86 rfl rfl ?_
  refine wg_getC X cl2 (SCi hS 28 2 rfl) 2 (by decide) dX2_readOne_87 k_203 rfl ?_
  refine wg_bipush (v := 40) X dX2_readOne_90 (by decide) ?_
  refine wg_icmp_ne X 123 dX2_readOne_92 (by decide) (fun c10 => ?_) (fun c10 => ?_)
  · have h := if_f c10 h
    refine wg_aload_n X 0 dX2_readOne_123 rfl rfl ?_
    refine wg_aload_n X 1 dX2_readOne_124 rfl rfl ?_
    obtain ⟨C12, h11, h⟩ := bd_some h
    refine wg_callVv (As := [.ref (ad 23)]) (rest := []) X (c_X2_fail l E ad S hS C M   h11) T_yX2_fail k_401 cl2 (SCi hS 28 2 rfl) dX2_readOne_125 rfl rfl (Nat.le_of_ble_eq_true rfl) ⟨show 0 + 1 ≤ d + 9 by omega, show 8 + (2 + 11) + 0 ≤ 40 * (d + 1) + 300 by omega⟩ ⟨Nat.zero_le _, Nat.zero_le _⟩ ?_
    exact wg_vret X ⟨(sm_inj h), rfl⟩ hr dX2_readOne_128
  · have h := if_t c10 h
    refine wg_iload_n X 2 dX2_readOne_95 rfl rfl ?_
    refine wg_iconst (v := 5) X dX2_readOne_96 (by decide) ?_
    refine wg_icmp_ge X 123 dX2_readOne_97 (by decide) (fun c13 => ?_) (fun c13 => ?_)
    · have h := if_t c13 h
      refine wg_aload_n X 0 dX2_readOne_123 rfl rfl ?_
      refine wg_aload_n X 1 dX2_readOne_124 rfl rfl ?_
      obtain ⟨C15, h14, h⟩ := bd_some h
      refine wg_callVv (As := [.ref (ad 23)]) (rest := []) X (c_X2_fail l E ad S hS C M   h14) T_yX2_fail k_401 cl2 (SCi hS 28 2 rfl) dX2_readOne_125 rfl rfl (Nat.le_of_ble_eq_true rfl) ⟨show 0 + 1 ≤ d + 9 by omega, show 8 + (2 + 11) + 0 ≤ 40 * (d + 1) + 300 by omega⟩ ⟨Nat.zero_le _, Nat.zero_le _⟩ ?_
      exact wg_vret X ⟨(sm_inj h), rfl⟩ hr dX2_readOne_128
    · have h := if_f c13 h
      refine wg_aload_n X 0 dX2_readOne_100 rfl rfl ?_
      refine wg_aload_n X 1 dX2_readOne_101 rfl rfl ?_
      obtain ⟨C17, h16, h⟩ := bd_some h
      refine wg_callVv (As := [.ref (ad 23)]) (rest := []) X (c_X2_advance l E ad S hS C M   h16) T_yX2_advance k_397 cl2 (SCi hS 28 2 rfl) dX2_readOne_102 rfl rfl (Nat.le_of_ble_eq_true rfl) ⟨show 0 + 1 ≤ d + 9 by omega, show 8 + (2 + 11) + 0 ≤ 40 * (d + 1) + 300 by omega⟩ ⟨Nat.zero_le _, Nat.zero_le _⟩ ?_
      refine wg_aload_n X 0 dX2_readOne_105 rfl rfl ?_
      refine wg_aload_n X 1 dX2_readOne_106 rfl rfl ?_
      refine wg_iload_n X 2 dX2_readOne_107 rfl rfl ?_
      refine wg_iconst (v := 1) X dX2_readOne_108 (by decide) ?_
      refine wg_iadd X dX2_readOne_109 ?_
      obtain ⟨C19, h18, h⟩ := bd_some h
      refine wg_callVv (As := [.ref (ad 23), .int (x2 + (1 : Int32))]) (rest := []) X (show wg_Cv l yX2_readOr cX2_readOr 4 none (d + 8) (40 * d + 300) E ad S C17 M [.ref (ad 28), .ref (ad 23), .int (x2 + (1 : Int32))] C19 M from hrc 0 C17 (x2 + (1 : Int32)) C19 h18) T_yX2_readOr k_405 cl2 (SCi hS 28 2 rfl) dX2_readOne_110 rfl rfl (Nat.le_of_ble_eq_true rfl) ⟨show (d + 8) + 1 ≤ d + 9 by omega, show 8 + (4 + 11) + (40 * d + 300) ≤ 40 * (d + 1) + 300 by omega⟩ ⟨Nat.zero_le _, Nat.zero_le _⟩ ?_
      refine wg_aload_n X 0 dX2_readOne_113 rfl rfl ?_
      refine wg_aload_n X 1 dX2_readOne_114 rfl rfl ?_
      refine wg_bipush (v := 41) X dX2_readOne_115 (by decide) ?_
      obtain ⟨C21, h20, h⟩ := bd_some h
      refine wg_callVv (As := [.ref (ad 23), .int (41 : Int32)]) (rest := []) X (c_X2_expect l E ad S hS C19 M (41 : Int32)  h20) T_yX2_expect k_393 cl2 (SCi hS 28 2 rfl) dX2_readOne_117 rfl rfl (Nat.le_of_ble_eq_true rfl) ⟨show 1 + 1 ≤ d + 9 by omega, show 8 + (3 + 11) + 21 ≤ 40 * (d + 1) + 300 by omega⟩ ⟨Nat.zero_le _, Nat.zero_le _⟩ ?_
      refine wg_goto X 128 dX2_readOne_120 (by decide) ?_
      exact wg_vret X ⟨(sm_inj h), rfl⟩ hr dX2_readOne_128
set_option maxHeartbeats 4000000 in
set_option maxRecDepth 100000 in
theorem c_X2_readOne (l : Launch) (E : wg_Ev) (ad : Nat → Nat) (S : wg_Sh) (hS : wg_SC S) (N : Nat) (d : Nat) (rc : Nat → wg_C → Int32 → Option wg_C) (M : wg_M) (hrc : ∀ (k : Nat) (D : wg_C) (i0 : Int32) (D0 : wg_C), rc k D i0 = some D0 → R_X2g l E ad S M d k D i0 D0) (C : wg_C) (p2 : Int32)  {D0 : wg_C} (h : f_X2_readOne N rc C p2 = some D0) : wg_Cv l yX2_readOne cX2_readOne 3 none (d + 9) (40 * (d + 1) + 300) E ad S C M [.ref (ad 28), .ref (ad 23), .int p2] D0 M := by
  refine wg_start (own := RX2) (by decide +kernel) rfl (Nat.le_of_ble_eq_true rfl) ?_
  intro p e s m below meth c X hr hnm
  refine wg_lv (lv' := [(0, .ref (ad 28)), (1, .ref (ad 23)), (2, .int p2)]) rfl ?_
  unfold f_X2_readOne at h
  refine wg_aload_n X 0 dX2_readOne_0 rfl rfl ?_
  refine wg_getC X cl2 (SCi hS 28 2 rfl) 2 (by decide) dX2_readOne_1 k_203 rfl ?_
  refine wg_iconst (v := 1) X dX2_readOne_4 (by decide) ?_
  refine wg_icmp_eq X 16 dX2_readOne_5 (by decide) (fun c1 => ?_) (fun c1 => ?_)
  · have h := if_t c1 h
    refine wg_pick [0, 1] (lv' := [(0, .ref (ad 28)), (1, .ref (ad 23))]) rfl ?_
    exact J_X2_readOne_j16 X hr hS D0 M N d rc hrc  C     h
  · have h := if_f c1 h
    refine wg_aload_n X 0 dX2_readOne_8 rfl rfl ?_
    refine wg_getC X cl2 (SCi hS 28 2 rfl) 2 (by decide) dX2_readOne_9 k_203 rfl ?_
    refine wg_iconst (v := 2) X dX2_readOne_12 (by decide) ?_
    refine wg_icmp_ne X 50 dX2_readOne_13 (by decide) (fun c8 => ?_) (fun c8 => ?_)
    · have h := if_f c8 h
      refine wg_aload_n X 0 dX2_readOne_50 rfl rfl ?_
      refine wg_getC X cl2 (SCi hS 28 2 rfl) 2 (by decide) dX2_readOne_51 k_203 rfl ?_
      refine wg_bipush (v := 45) X dX2_readOne_54 (by decide) ?_
      refine wg_icmp_ne X 86 dX2_readOne_56 (by decide) (fun c9 => ?_) (fun c9 => ?_)
      · have h := if_f c9 h
        exact J_X2_readOne_j86 X hr hS D0 M N d rc hrc  C  p2   h
      · have h := if_t c9 h
        refine wg_iload_n X 2 dX2_readOne_59 rfl rfl ?_
        refine wg_iconst (v := 5) X dX2_readOne_60 (by decide) ?_
        refine wg_icmp_ge X 86 dX2_readOne_61 (by decide) (fun c22 => ?_) (fun c22 => ?_)
        · have h := if_t c22 h
          exact J_X2_readOne_j86 X hr hS D0 M N d rc hrc  C  p2   h
        · have h := if_f c22 h
          refine wg_aload_n X 0 dX2_readOne_64 rfl rfl ?_
          refine wg_aload_n X 1 dX2_readOne_65 rfl rfl ?_
          obtain ⟨C24, h23, h⟩ := bd_some h
          refine wg_callVv (As := [.ref (ad 23)]) (rest := []) X (c_X2_advance l E ad S hS C M   h23) T_yX2_advance k_397 cl2 (SCi hS 28 2 rfl) dX2_readOne_66 rfl rfl (Nat.le_of_ble_eq_true rfl) ⟨show 0 + 1 ≤ d + 9 by omega, show 8 + (2 + 11) + 0 ≤ 40 * (d + 1) + 300 by omega⟩ ⟨Nat.zero_le _, Nat.zero_le _⟩ ?_
          refine wg_aload_n X 0 dX2_readOne_69 rfl rfl ?_
          refine wg_aload_n X 1 dX2_readOne_70 rfl rfl ?_
          refine wg_iload_n X 2 dX2_readOne_71 rfl rfl ?_
          refine wg_iconst (v := 1) X dX2_readOne_72 (by decide) ?_
          refine wg_iadd X dX2_readOne_73 ?_
          obtain ⟨C26, h25, h⟩ := bd_some h
          refine wg_callVv (As := [.ref (ad 23), .int (p2 + (1 : Int32))]) (rest := []) X (show wg_Cv l yX2_readOne cX2_readOne 3 none (d + 8) (40 * d + 300) E ad S C24 M [.ref (ad 28), .ref (ad 23), .int (p2 + (1 : Int32))] C26 M from hrc 5 C24 (p2 + (1 : Int32)) C26 h25) T_yX2_readOne k_429 cl2 (SCi hS 28 2 rfl) dX2_readOne_74 rfl rfl (Nat.le_of_ble_eq_true rfl) ⟨show (d + 8) + 1 ≤ d + 9 by omega, show 8 + (3 + 11) + (40 * d + 300) ≤ 40 * (d + 1) + 300 by omega⟩ ⟨Nat.zero_le _, Nat.zero_le _⟩ ?_
          refine wg_aload_n X 0 dX2_readOne_77 rfl rfl ?_
          refine wg_iconst (v := 2) X dX2_readOne_78 (by decide) ?_
          refine wg_iconst (v := 0) X dX2_readOne_79 (by decide) ?_
          obtain ⟨C28, h27, h⟩ := bd_some h
          refine wg_callVv (As := [.int (2 : Int32), .int (0 : Int32)]) (rest := []) X (c_X2_emit l E ad S hS C26 M (2 : Int32) (0 : Int32)  h27) T_yX2_emit k_417 cl2 (SCi hS 28 2 rfl) dX2_readOne_80 rfl rfl (Nat.le_of_ble_eq_true rfl) ⟨show 0 + 1 ≤ d + 9 by omega, show 8 + (3 + 11) + 0 ≤ 40 * (d + 1) + 300 by omega⟩ ⟨Nat.zero_le _, Nat.zero_le _⟩ ?_
          refine wg_goto X 128 dX2_readOne_83 (by decide) ?_
          exact wg_vret X ⟨(sm_inj h), rfl⟩ hr dX2_readOne_128
    · have h := if_t c8 h
      refine wg_pick [0, 1] (lv' := [(0, .ref (ad 28)), (1, .ref (ad 23))]) rfl ?_
      exact J_X2_readOne_j16 X hr hS D0 M N d rc hrc  C     h
def f_X2g (N : Nat) : Nat → Nat → wg_C → Int32 → Option wg_C
  | 0 => fun k D i0 => none
  | d + 1 => fun k D i0 => if k = 0 then f_X2_readOr N (f_X2g N d) D i0 else if k = 1 then f_X2_readAnd N (f_X2g N d) D i0 else if k = 2 then f_X2_readNot N (f_X2g N d) D i0 else if k = 3 then f_X2_readSum N (f_X2g N d) D i0 else if k = 4 then f_X2_readTerm N (f_X2g N d) D i0 else if k = 5 then f_X2_readOne N (f_X2g N d) D i0 else none
set_option maxHeartbeats 4000000 in
set_option maxRecDepth 100000 in
theorem c_X2g (l : Launch) (E : wg_Ev) (ad : Nat → Nat) (S : wg_Sh) (hS : wg_SC S) (N : Nat) (M : wg_M) : ∀ (d k : Nat) (D : wg_C) (i0 : Int32) (D0 : wg_C), f_X2g N d k D i0 = some D0 → R_X2g l E ad S M d k D i0 D0 := by
  intro d
  induction d with
  | zero => intro k D i0 D0 h; cases h
  | succ d ih =>
    intro k D i0 D0 h
    replace h : (if k = 0 then f_X2_readOr N (f_X2g N d) D i0 else if k = 1 then f_X2_readAnd N (f_X2g N d) D i0 else if k = 2 then f_X2_readNot N (f_X2g N d) D i0 else if k = 3 then f_X2_readSum N (f_X2g N d) D i0 else if k = 4 then f_X2_readTerm N (f_X2g N d) D i0 else if k = 5 then f_X2_readOne N (f_X2g N d) D i0 else none) = some D0 := h
    by_cases k0 : k = 0
    · subst k0
      have h := if_t rfl h
      exact c_X2_readOr l E ad S hS N d (f_X2g N d) M (fun k D i0 D0 h => ih k D i0 D0 h) D i0 h
    have h := if_f k0 h
    by_cases k1 : k = 1
    · subst k1
      have h := if_t rfl h
      exact c_X2_readAnd l E ad S hS N d (f_X2g N d) M (fun k D i0 D0 h => ih k D i0 D0 h) D i0 h
    have h := if_f k1 h
    by_cases k2 : k = 2
    · subst k2
      have h := if_t rfl h
      exact c_X2_readNot l E ad S hS N d (f_X2g N d) M (fun k D i0 D0 h => ih k D i0 D0 h) D i0 h
    have h := if_f k2 h
    by_cases k3 : k = 3
    · subst k3
      have h := if_t rfl h
      exact c_X2_readSum l E ad S hS N d (f_X2g N d) M (fun k D i0 D0 h => ih k D i0 D0 h) D i0 h
    have h := if_f k3 h
    by_cases k4 : k = 4
    · subst k4
      have h := if_t rfl h
      exact c_X2_readTerm l E ad S hS N d (f_X2g N d) M (fun k D i0 D0 h => ih k D i0 D0 h) D i0 h
    have h := if_f k4 h
    by_cases k5 : k = 5
    · subst k5
      have h := if_t rfl h
      exact c_X2_readOne l E ad S hS N d (f_X2g N d) M (fun k D i0 D0 h => ih k D i0 D0 h) D i0 h
    have h := if_f k5 h
    cases h
def f_X2_readOr_e (N : Nat) (D : wg_C) (i0 : Int32) : Option wg_C := f_X2g N 64 0 D i0
theorem c_X2_readOr_e (l : Launch) (E : wg_Ev) (ad : Nat → Nat) (S : wg_Sh) (hS : wg_SC S) (N : Nat) (C : wg_C) (M : wg_M) (i0 : Int32) {D0 : wg_C} (h : f_X2_readOr_e N C i0 = some D0) : wg_Cv l yX2_readOr cX2_readOr 4 none 72 2860 E ad S C M [.ref (ad 28), .ref (ad 23), .int i0] D0 M := c_X2g l E ad S hS N M 64 0 C i0 D0 h
-- WindowsGive$Reader.readPart(LWindowsGive$Tape;II)V (('c', 28), ('c', 23), 'i', 'i')
def f_X2_readPart (N : Nat) (C : wg_C) (p2 : Int32) (p3 : Int32) : Option wg_C :=
  bd (f_X2_expect C p2) fun C2 =>
  bd (f_X2_readOr_e N C2 (0 : Int32)) fun C4 =>
  bd (f_X2_expect C4 (59 : Int32)) fun C6 =>
  ck (inb p3 3) <|
  lt_ (wg_up C6 30 p3.toNatClampNeg (C6 28 3)) fun C8 =>
  some C8
set_option maxHeartbeats 4000000 in
set_option maxRecDepth 100000 in
theorem c_X2_readPart (l : Launch) (E : wg_Ev) (ad : Nat → Nat) (S : wg_Sh) (hS : wg_SC S) (N : Nat) (C : wg_C) (M : wg_M) (p2 : Int32) (p3 : Int32)  {D0 : wg_C} (h : f_X2_readPart N C p2 p3 = some D0) : wg_Cv l yX2_readPart cX2_readPart 4 none 73 2883 E ad S C M [.ref (ad 28), .ref (ad 23), .int p2, .int p3] D0 M := by
  refine wg_start (own := RX2) (by decide +kernel) rfl (Nat.le_of_ble_eq_true rfl) ?_
  intro p e s m below meth c X hr hnm
  refine wg_lv (lv' := [(0, .ref (ad 28)), (1, .ref (ad 23)), (2, .int p2), (3, .int p3)]) rfl ?_
  unfold f_X2_readPart at h
  refine wg_aload_n X 0 dX2_readPart_0 rfl rfl ?_
  refine wg_aload_n X 1 dX2_readPart_1 rfl rfl ?_
  refine wg_iload_n X 2 dX2_readPart_2 rfl rfl ?_
  obtain ⟨C2, h1, h⟩ := bd_some h
  refine wg_callVv (As := [.ref (ad 23), .int p2]) (rest := []) X (c_X2_expect l E ad S hS C M p2  h1) T_yX2_expect k_393 cl2 (SCi hS 28 2 rfl) dX2_readPart_3 rfl rfl (Nat.le_of_ble_eq_true rfl) ⟨Nat.le_of_ble_eq_true rfl, Nat.le_of_ble_eq_true rfl⟩ ⟨Nat.zero_le _, Nat.zero_le _⟩ ?_
  refine wg_aload_n X 0 dX2_readPart_6 rfl rfl ?_
  refine wg_aload_n X 1 dX2_readPart_7 rfl rfl ?_
  refine wg_iconst (v := 0) X dX2_readPart_8 (by decide) ?_
  obtain ⟨C4, h3, h⟩ := bd_some h
  refine wg_callVv (As := [.ref (ad 23), .int (0 : Int32)]) (rest := []) X (c_X2_readOr_e l E ad S hS N C2 M (0 : Int32)  h3) T_yX2_readOr k_405 cl2 (SCi hS 28 2 rfl) dX2_readPart_9 rfl rfl (Nat.le_of_ble_eq_true rfl) ⟨Nat.le_of_ble_eq_true rfl, Nat.le_of_ble_eq_true rfl⟩ ⟨Nat.zero_le _, Nat.zero_le _⟩ ?_
  refine wg_aload_n X 0 dX2_readPart_12 rfl rfl ?_
  refine wg_aload_n X 1 dX2_readPart_13 rfl rfl ?_
  refine wg_bipush (v := 59) X dX2_readPart_14 (by decide) ?_
  obtain ⟨C6, h5, h⟩ := bd_some h
  refine wg_callVv (As := [.ref (ad 23), .int (59 : Int32)]) (rest := []) X (c_X2_expect l E ad S hS C4 M (59 : Int32)  h5) T_yX2_expect k_393 cl2 (SCi hS 28 2 rfl) dX2_readPart_16 rfl rfl (Nat.le_of_ble_eq_true rfl) ⟨Nat.le_of_ble_eq_true rfl, Nat.le_of_ble_eq_true rfl⟩ ⟨Nat.zero_le _, Nat.zero_le _⟩ ?_
  refine wg_aload_n X 0 dX2_readPart_19 rfl rfl ?_
  refine wg_getR (b := 30) X cl2 (SCi hS 28 2 rfl) 5 (by decide) dX2_readPart_20 k_206 rfl (SCr hS 28 5 30 rfl) ?_
  refine wg_iload_n X 3 dX2_readPart_23 rfl rfl ?_
  refine wg_aload_n X 0 dX2_readPart_24 rfl rfl ?_
  refine wg_getC X cl2 (SCi hS 28 2 rfl) 3 (by decide) dX2_readPart_25 k_204 rfl ?_
  obtain ⟨z7, h⟩ := ck_some h
  obtain ⟨C8, e9, h⟩ := lt_some h
  refine wg_iaste X (SCi hS 30 10 rfl) (SCl hS 30 3 rfl) z7 dX2_readPart_28 e9 ?_
  exact wg_vret X ⟨(sm_inj h), rfl⟩ hr dX2_readPart_29
-- WindowsGive.force(I)I (('c', 0), 'i')
def f_X8_force (C : wg_C) (p1 : Int32) : Option (Int32 × wg_C) :=
  if p1 < 0 then (
    some ((-2 : Int32), C))
  else (
    if p1 < (C 31 1) then (
      lt_ (C 1 3) fun v3 =>
      lt_ (wg_up C 1 3 p1) fun C5 =>
      some (v3, C5))
    else (
      some ((-2 : Int32), C)))
set_option maxHeartbeats 4000000 in
set_option maxRecDepth 100000 in
theorem c_X8_force (l : Launch) (E : wg_Ev) (ad : Nat → Nat) (S : wg_Sh) (hS : wg_SC S) (C : wg_C) (M : wg_M) (p1 : Int32)  {r0 : Int32} {D0 : wg_C} (h : f_X8_force C p1 = some (r0, D0)) : wg_Ci l yX8_force cX8_force 3 (some .int) 0 0 E ad S C M [.ref (ad 0), .int p1] r0 D0 M := by
  refine wg_start (own := RX8) (by decide +kernel) rfl (Nat.le_of_ble_eq_true rfl) ?_
  intro p e s m below meth c X hr hnm
  refine wg_lv (lv' := [(0, .ref (ad 0)), (1, .int p1)]) rfl ?_
  unfold f_X8_force at h
  refine wg_iload_n X 1 dX8_force_0 rfl rfl ?_
  refine wg_if_lt X 15 dX8_force_1 (by decide) (fun c1 => ?_) (fun c1 => ?_)
  · have h := if_t c1 h
    refine wg_bipush (v := -2) X dX8_force_15 (by decide) ?_
    exact wg_iret X ⟨(Prod.mk.inj (sm_inj h)).1, (Prod.mk.inj (sm_inj h)).2, rfl⟩ hr dX8_force_17
  · have h := if_f c1 h
    refine wg_iload_n X 1 dX8_force_4 rfl rfl ?_
    refine wg_aload_n X 0 dX8_force_5 rfl rfl ?_
    refine wg_getR (b := 31) X cl8 (SCi hS 0 8 rfl) 5 (by decide) dX8_force_6 k_477 rfl (SCr hS 0 5 31 rfl) ?_
    refine wg_getC X cl3 (SCi hS 31 3 rfl) 1 (by decide) dX8_force_9 k_230 rfl ?_
    refine wg_icmp_lt X 18 dX8_force_12 (by decide) (fun c2 => ?_) (fun c2 => ?_)
    · have h := if_t c2 h
      refine wg_aload_n X 0 dX8_force_18 rfl rfl ?_
      refine wg_getR (b := 1) X cl8 (SCi hS 0 8 rfl) 0 (by decide) dX8_force_19 k_472 rfl (SCr hS 0 0 1 rfl) ?_
      refine wg_getC X cl0 (SCi hS 1 0 rfl) 3 (by decide) dX8_force_22 k_151 rfl ?_
      obtain ⟨v3, e4, h⟩ := lt_some h
      refine wg_istore_n (lv' := [(2, .int v3), (0, .ref (ad 0)), (1, .int p1)]) X dX8_force_25 rfl e4 (by decide) rfl ?_
      refine wg_aload_n X 1 dX8_force_26 rfl rfl ?_
      refine wg_getR (b := 1) X cl8 (SCi hS 0 8 rfl) 0 (by decide) dX8_force_27 k_472 rfl (SCr hS 0 0 1 rfl) ?_
      refine wg_iload_n X 2 dX8_force_30 rfl rfl ?_
      obtain ⟨C5, e6, h⟩ := lt_some h
      refine wg_putCe X cl0 (SCi hS 1 0 rfl) 3 (by decide) dX8_force_31 k_151 rfl rfl rfl rfl e6 ?_
      refine wg_iload_n X 0 dX8_force_34 rfl rfl ?_
      exact wg_iret X ⟨(Prod.mk.inj (sm_inj h)).1, (Prod.mk.inj (sm_inj h)).2, rfl⟩ hr dX8_force_35
    · have h := if_f c2 h
      refine wg_bipush (v := -2) X dX8_force_15 (by decide) ?_
      exact wg_iret X ⟨(Prod.mk.inj (sm_inj h)).1, (Prod.mk.inj (sm_inj h)).2, rfl⟩ hr dX8_force_17
-- WindowsGive.isSpot(I)Z ('i',)
def f_X8_isSpot (p0 : Int32) : Option Int32 :=
  if p0 < 0 then (
    some (0 : Int32))
  else (
    if (192 : Int32) ≤ p0 then (
      some (0 : Int32))
    else (
      some (1 : Int32)))
set_option maxHeartbeats 4000000 in
set_option maxRecDepth 100000 in
theorem c_X8_isSpot (l : Launch) (E : wg_Ev) (ad : Nat → Nat) (S : wg_Sh) (C : wg_C) (M : wg_M) (p0 : Int32)  {r0 : Int32} (h : f_X8_isSpot p0 = some r0) : wg_Ci l yX8_isSpot cX8_isSpot 1 (some .boolean) 0 0 E ad S C M [.int p0] r0 C M := by
  refine wg_start (own := RX8) (by decide +kernel) rfl (Nat.le_of_ble_eq_true rfl) ?_
  intro p e s m below meth c X hr hnm
  refine wg_lv (lv' := [(0, .int p0)]) rfl ?_
  unfold f_X8_isSpot at h
  refine wg_iload_n X 0 dX8_isSpot_0 rfl rfl ?_
  refine wg_if_lt X 15 dX8_isSpot_1 (by decide) (fun c1 => ?_) (fun c1 => ?_)
  · have h := if_t c1 h
    refine wg_iconst (v := 0) X dX8_isSpot_15 (by decide) ?_
    exact wg_zret X ⟨(sm_inj h), rfl, rfl⟩ hr (by decide) dX8_isSpot_16
  · have h := if_f c1 h
    refine wg_iload_n X 0 dX8_isSpot_4 rfl rfl ?_
    refine wg_sipush (v := 192) X dX8_isSpot_5 (by decide) ?_
    refine wg_icmp_ge X 15 dX8_isSpot_8 (by decide) (fun c2 => ?_) (fun c2 => ?_)
    · have h := if_t c2 h
      refine wg_iconst (v := 0) X dX8_isSpot_15 (by decide) ?_
      exact wg_zret X ⟨(sm_inj h), rfl, rfl⟩ hr (by decide) dX8_isSpot_16
    · have h := if_f c2 h
      refine wg_iconst (v := 1) X dX8_isSpot_11 (by decide) ?_
      refine wg_goto X 16 dX8_isSpot_12 (by decide) ?_
      exact wg_zret X ⟨(sm_inj h), rfl, rfl⟩ hr (by decide) dX8_isSpot_16
-- java/util/Arrays.fill([II)V ('IA', 'i')
def f_J7_fill_53178_l5 (N : Nat) (p0 n0 : Nat)  (x1 : Int32) (x3 : Int32) (C : wg_C) (x2 : Int32) : Option ((wg_C × Int32) ⊕ (wg_C × Int32)) :=
  if x3 ≤ x2 then (
    some (.inr (C, x2)))
  else (
    ck (inb x2 n0) <|
    lt_ (wg_up C p0 x2.toNatClampNeg x1) fun C5 =>
    lt_ (x2 + (1 : Int32)) fun v7 =>
    some (.inl (C5, v7)))
def f_J7_fill_53178 (N : Nat) (C : wg_C) (p0 n0 : Nat) (p1 : Int32) : Option wg_C :=
  lt_ (Int32.ofNat n0) fun v1 =>
  bd2 (lp (fun o => f_J7_fill_53178_l5 N p0 n0  p1 v1 o.1 o.2) N (C, (0 : Int32))) fun C9 v10 =>
  some C9
abbrev G_J7_fill_53178 (p : Program) (l : Launch) (e : Env) (s : State) (m : MethodId) (args : Array Value) (below : List Frame) (meth : Method) (c : Code) (E : wg_Ev) (ad : Nat → Nat) (S : wg_Sh) (C0 : wg_C) (M0 : wg_M) (pc : Nat) (C : wg_C) (M : wg_M) (lv : List (Nat × Value)) (st : List Value) : Prop := wg_G p l e (wg_Rm 0 0) s m args below meth c (MQ below (wg_Qv E ad S C0 M0) args s 0 0 (wg_A E)) 4 E ad S 0 0 pc C M lv st
set_option maxHeartbeats 4000000 in
set_option maxRecDepth 100000 in
theorem L_J7_fill_53178_l5 {p : Program} {l : Launch} {e : Env} {s : State} {m : MethodId} {args : Array Value} {below : List Frame} {meth : Method} {c : Code} {E : wg_Ev} {ad : Nat → Nat} {S : wg_Sh} (X : wg_X p s m args meth c cJ7_fill_53178 4 RJ7 E) (hr : meth.sig.returnType = none) (hS : wg_SC S) (D0 : wg_C) (M : wg_M) (N : Nat) (p0 n0 : Nat) (hp0 : wg_IA S p0 n0)  (x1 : Int32) (x3 : Int32)  : ∀ (n : Nat) (C : wg_C) (x2 : Int32) (o : (wg_C × Int32)), lp (fun o => f_J7_fill_53178_l5 N p0 n0  x1 x3 o.1 o.2) n (C, x2) = some o → (∀ (Dy : wg_C) (y2 : Int32), o = (Dy, y2) → G_J7_fill_53178 p l e s m args below meth c E ad S D0 M 20 Dy M [(0, .ref (ad p0)), (1, .int x1), (2, .int y2), (3, .int x3)] []) → G_J7_fill_53178 p l e s m args below meth c E ad S D0 M 5 C M [(0, .ref (ad p0)), (1, .int x1), (2, .int x2), (3, .int x3)] [] := by
  intro n
  induction n with
  | zero => exact fun _ _ o h => (lp_zero h).elim
  | succ n ih =>
    intro C x2 o h K
    obtain ⟨o1, hb, h2⟩ := lp_some h
    replace hb : f_J7_fill_53178_l5 N p0 n0  x1 x3 C x2 = some o1 := hb
    clear h
    have Kc : ∀ (Dy : wg_C) (y2 : Int32), o1 = Sum.inl (Dy, y2) → G_J7_fill_53178 p l e s m args below meth c E ad S D0 M 5 Dy M [(0, .ref (ad p0)), (1, .int x1), (2, .int y2), (3, .int x3)] [] := fun Dy y2 e1 => by
      subst e1
      exact ih Dy y2 o h2 K
    have Ke : ∀ (Dy : wg_C) (y2 : Int32), o1 = Sum.inr ((Dy, y2)) → G_J7_fill_53178 p l e s m args below meth c E ad S D0 M 20 Dy M [(0, .ref (ad p0)), (1, .int x1), (2, .int y2), (3, .int x3)] [] := fun Dy y2 e1 => by
      subst e1
      exact K Dy y2 (sm_inj (α := (wg_C × Int32)) h2).symm
    clear ih K h2
    unfold f_J7_fill_53178_l5 at hb
    have h := hb
    clear hb
    refine wg_iload_n X 2 dJ7_fill_53178_5 rfl rfl ?_
    refine wg_iload_n X 3 dJ7_fill_53178_6 rfl rfl ?_
    refine wg_icmp_ge X 20 dJ7_fill_53178_7 (by decide) (fun c3 => ?_) (fun c3 => ?_)
    · have h := if_t c3 h
      exact Ke C x2 (sm_inj h).symm
    · have h := if_f c3 h
      refine wg_aload_n X 0 dJ7_fill_53178_10 rfl rfl ?_
      refine wg_iload_n X 2 dJ7_fill_53178_11 rfl rfl ?_
      refine wg_iload_n X 1 dJ7_fill_53178_12 rfl rfl ?_
      obtain ⟨z4, h⟩ := ck_some h
      obtain ⟨C5, e6, h⟩ := lt_some h
      refine wg_iaste X hp0.1 hp0.2 z4 dJ7_fill_53178_13 e6 ?_
      obtain ⟨v7, e8, h⟩ := lt_some h
      refine wg_iinc (lv' := [(2, .int v7), (0, .ref (ad p0)), (1, .int x1), (3, .int x3)]) X 2 dJ7_fill_53178_14 rfl e8 (by decide) rfl ?_
      refine wg_goto X 5 dJ7_fill_53178_17 (by decide) ?_
      refine wg_pick [1, 2, 0, 3] (lv' := [(0, .ref (ad p0)), (1, .int x1), (2, .int v7), (3, .int x3)]) rfl ?_
      exact Kc C5 v7 (sm_inj h).symm
set_option maxHeartbeats 4000000 in
set_option maxRecDepth 100000 in
theorem c_J7_fill_53178 (l : Launch) (E : wg_Ev) (ad : Nat → Nat) (S : wg_Sh) (hS : wg_SC S) (N : Nat) (C : wg_C) (M : wg_M) (p0 n0 : Nat) (p1 : Int32) (hp0 : wg_IA S p0 n0) {D0 : wg_C} (h : f_J7_fill_53178 N C p0 n0 p1 = some D0) : wg_Cv l yJ7_fill_53178 cJ7_fill_53178 4 none 0 0 E ad S C M [.ref (ad p0), .int p1] D0 M := by
  refine wg_start (own := RJ7) (by decide +kernel) rfl (Nat.le_of_ble_eq_true rfl) ?_
  intro p e s m below meth c X hr hnm
  refine wg_lv (lv' := [(0, .ref (ad p0)), (1, .int p1)]) rfl ?_
  unfold f_J7_fill_53178 at h
  refine wg_iconst (v := 0) X dJ7_fill_53178_0 (by decide) ?_
  refine wg_istore_n (lv' := [(2, .int (0 : Int32)), (0, .ref (ad p0)), (1, .int p1)]) X dJ7_fill_53178_1 rfl rfl (by decide) rfl ?_
  refine wg_aload_n X 1 dJ7_fill_53178_2 rfl rfl ?_
  refine wg_alenC  X hp0.1 hp0.2 rfl dJ7_fill_53178_3 ?_
  obtain ⟨v1, e2, h⟩ := lt_some h
  refine wg_istore_n (lv' := [(3, .int v1), (2, .int (0 : Int32)), (0, .ref (ad p0)), (1, .int p1)]) X dJ7_fill_53178_4 rfl e2 (by decide) rfl ?_
  obtain ⟨o11, h12, h⟩ := bd2_o h
  refine wg_pick [2, 3, 1, 0] (lv' := [(0, .ref (ad p0)), (1, .int p1), (2, .int (0 : Int32)), (3, .int v1)]) rfl ?_
  refine L_J7_fill_53178_l5 X hr hS D0 M N p0 n0 hp0  p1 v1  N C (0 : Int32) o11 h12 (fun C9 v10 e14 => ?_)
  · subst o11
    replace h := bd2_in h
    exact wg_vret X ⟨(sm_inj h), rfl⟩ hr dJ7_fill_53178_20
-- WindowsGive$Walk.nearest()I (('c', 35),)
def f_X7_nearest_l7 (N : Nat) (C : wg_C)   (x1 : Int32) (x2 : Int32) (x3 : Int32) : Option ((Int32 × Int32 × Int32) ⊕ (Int32 × Int32 × Int32)) :=
  if (192 : Int32) ≤ x3 then (
    some (.inr (x1, x2, x3)))
  else (
    ck (inb x3 192) <|
    if (C 38 x3.toNatClampNeg) = 0 then (
      ck (inb x3 192) <|
      if x2 ≤ (C 37 x3.toNatClampNeg) then (
        lt_ (x3 + (1 : Int32)) fun v8 =>
        some (.inl (x1, x2, v8)))
      else (
        ck (inb x3 192) <|
        lt_ (C 37 x3.toNatClampNeg) fun v11 =>
        lt_ (x3 + (1 : Int32)) fun v13 =>
        some (.inl (x3, v11, v13))))
    else (
      lt_ (x3 + (1 : Int32)) fun v4 =>
      some (.inl (x1, x2, v4))))
def f_X7_nearest (N : Nat) (C : wg_C)  : Option Int32 :=
  bd3 (lp (fun o => f_X7_nearest_l7 N C   o.1 o.2.1 o.2.2) N ((-1 : Int32), (1000000000 : Int32), (0 : Int32))) fun v15 v16 v17 =>
  some v15
abbrev G_X7_nearest (p : Program) (l : Launch) (e : Env) (s : State) (m : MethodId) (args : Array Value) (below : List Frame) (meth : Method) (c : Code) (E : wg_Ev) (ad : Nat → Nat) (S : wg_Sh) (r0 : Int32) (C0 : wg_C) (M0 : wg_M) (pc : Nat) (C : wg_C) (M : wg_M) (lv : List (Nat × Value)) (st : List Value) : Prop := wg_G p l e (wg_Rm 0 0) s m args below meth c (MQ below (wg_Qi E ad S r0 C0 M0) args s 0 0 (wg_A E)) 4 E ad S 0 0 pc C M lv st
set_option maxHeartbeats 4000000 in
set_option maxRecDepth 100000 in
theorem L_X7_nearest_l7 {p : Program} {l : Launch} {e : Env} {s : State} {m : MethodId} {args : Array Value} {below : List Frame} {meth : Method} {c : Code} {E : wg_Ev} {ad : Nat → Nat} {S : wg_Sh} (X : wg_X p s m args meth c cX7_nearest 4 RX7 E) (hr : meth.sig.returnType = (some .int)) (hS : wg_SC S) (r0 : Int32) (M : wg_M) (N : Nat)  (C : wg_C)    : ∀ (n : Nat) (x1 : Int32) (x2 : Int32) (x3 : Int32) (o : (Int32 × Int32 × Int32)), lp (fun o => f_X7_nearest_l7 N C   o.1 o.2.1 o.2.2) n (x1, x2, x3) = some o → (∀ (y1 : Int32) (y2 : Int32) (y3 : Int32), o = (y1, y2, y3) → G_X7_nearest p l e s m args below meth c E ad S r0 C M 48 C M [(0, .ref (ad 35)), (1, .int y1), (2, .int y2), (3, .int y3)] []) → G_X7_nearest p l e s m args below meth c E ad S r0 C M 7 C M [(0, .ref (ad 35)), (1, .int x1), (2, .int x2), (3, .int x3)] [] := by
  intro n
  induction n with
  | zero => exact fun _ _ _ o h => (lp_zero h).elim
  | succ n ih =>
    intro x1 x2 x3 o h K
    obtain ⟨o1, hb, h2⟩ := lp_some h
    replace hb : f_X7_nearest_l7 N C   x1 x2 x3 = some o1 := hb
    clear h
    have Kc : ∀ (y1 : Int32) (y2 : Int32) (y3 : Int32), o1 = Sum.inl (y1, y2, y3) → G_X7_nearest p l e s m args below meth c E ad S r0 C M 7 C M [(0, .ref (ad 35)), (1, .int y1), (2, .int y2), (3, .int y3)] [] := fun y1 y2 y3 e1 => by
      subst e1
      exact ih y1 y2 y3 o h2 K
    have Ke : ∀ (y1 : Int32) (y2 : Int32) (y3 : Int32), o1 = Sum.inr ((y1, y2, y3)) → G_X7_nearest p l e s m args below meth c E ad S r0 C M 48 C M [(0, .ref (ad 35)), (1, .int y1), (2, .int y2), (3, .int y3)] [] := fun y1 y2 y3 e1 => by
      subst e1
      exact K y1 y2 y3 (sm_inj (α := (Int32 × Int32 × Int32)) h2).symm
    clear ih K h2
    unfold f_X7_nearest_l7 at hb
    have h := hb
    clear hb
    refine wg_iload_n X 3 dX7_nearest_7 rfl rfl ?_
    refine wg_sipush (v := 192) X dX7_nearest_8 (by decide) ?_
    refine wg_icmp_ge X 48 dX7_nearest_11 (by decide) (fun c1 => ?_) (fun c1 => ?_)
    · have h := if_t c1 h
      exact Ke x1 x2 x3 (sm_inj h).symm
    · have h := if_f c1 h
      refine wg_aload_n X 0 dX7_nearest_14 rfl rfl ?_
      refine wg_getR (b := 38) X cl7 (SCi hS 35 7 rfl) 2 (by decide) dX7_nearest_15 k_252 rfl (SCr hS 35 2 38 rfl) ?_
      refine wg_iload_n X 3 dX7_nearest_18 rfl rfl ?_
      obtain ⟨z2, h⟩ := ck_some h
      refine wg_iald X (SCi hS 38 10 rfl) (SCl hS 38 192 rfl) z2 dX7_nearest_19 ?_
      refine wg_if_ne X 42 dX7_nearest_20 (by decide) (fun c3 => ?_) (fun c3 => ?_)
      · have h := if_f c3 h
        obtain ⟨v4, e5, h⟩ := lt_some h
        refine wg_iinc (lv' := [(3, .int v4), (0, .ref (ad 35)), (1, .int x1), (2, .int x2)]) X 3 dX7_nearest_42 rfl e5 (by decide) rfl ?_
        refine wg_goto X 7 dX7_nearest_45 (by decide) ?_
        refine wg_pick [1, 2, 3, 0] (lv' := [(0, .ref (ad 35)), (1, .int x1), (2, .int x2), (3, .int v4)]) rfl ?_
        exact Kc x1 x2 v4 (sm_inj h).symm
      · have h := if_t c3 h
        refine wg_aload_n X 0 dX7_nearest_23 rfl rfl ?_
        refine wg_getR (b := 37) X cl7 (SCi hS 35 7 rfl) 1 (by decide) dX7_nearest_24 k_250 rfl (SCr hS 35 1 37 rfl) ?_
        refine wg_iload_n X 3 dX7_nearest_27 rfl rfl ?_
        obtain ⟨z6, h⟩ := ck_some h
        refine wg_iald X (SCi hS 37 10 rfl) (SCl hS 37 192 rfl) z6 dX7_nearest_28 ?_
        refine wg_iload_n X 2 dX7_nearest_29 rfl rfl ?_
        refine wg_icmp_ge X 42 dX7_nearest_30 (by decide) (fun c7 => ?_) (fun c7 => ?_)
        · have h := if_t c7 h
          obtain ⟨v8, e9, h⟩ := lt_some h
          refine wg_iinc (lv' := [(3, .int v8), (0, .ref (ad 35)), (1, .int x1), (2, .int x2)]) X 3 dX7_nearest_42 rfl e9 (by decide) rfl ?_
          refine wg_goto X 7 dX7_nearest_45 (by decide) ?_
          refine wg_pick [1, 2, 3, 0] (lv' := [(0, .ref (ad 35)), (1, .int x1), (2, .int x2), (3, .int v8)]) rfl ?_
          exact Kc x1 x2 v8 (sm_inj h).symm
        · have h := if_f c7 h
          refine wg_aload_n X 0 dX7_nearest_33 rfl rfl ?_
          refine wg_getR (b := 37) X cl7 (SCi hS 35 7 rfl) 1 (by decide) dX7_nearest_34 k_250 rfl (SCr hS 35 1 37 rfl) ?_
          refine wg_iload_n X 3 dX7_nearest_37 rfl rfl ?_
          obtain ⟨z10, h⟩ := ck_some h
          refine wg_iald X (SCi hS 37 10 rfl) (SCl hS 37 192 rfl) z10 dX7_nearest_38 ?_
          obtain ⟨v11, e12, h⟩ := lt_some h
          refine wg_istore_n (lv' := [(2, .int v11), (0, .ref (ad 35)), (1, .int x1), (3, .int x3)]) X dX7_nearest_39 rfl e12 (by decide) rfl ?_
          refine wg_iload_n X 3 dX7_nearest_40 rfl rfl ?_
          refine wg_istore_n (lv' := [(1, .int x3), (2, .int v11), (0, .ref (ad 35)), (3, .int x3)]) X dX7_nearest_41 rfl rfl (by decide) rfl ?_
          obtain ⟨v13, e14, h⟩ := lt_some h
          refine wg_iinc (lv' := [(3, .int v13), (1, .int x3), (2, .int v11), (0, .ref (ad 35))]) X 3 dX7_nearest_42 rfl e14 (by decide) rfl ?_
          refine wg_goto X 7 dX7_nearest_45 (by decide) ?_
          refine wg_pick [3, 1, 2, 0] (lv' := [(0, .ref (ad 35)), (1, .int x3), (2, .int v11), (3, .int v13)]) rfl ?_
          exact Kc x3 v11 v13 (sm_inj h).symm
set_option maxHeartbeats 4000000 in
set_option maxRecDepth 100000 in
theorem c_X7_nearest (l : Launch) (E : wg_Ev) (ad : Nat → Nat) (S : wg_Sh) (hS : wg_SC S) (N : Nat) (C : wg_C) (M : wg_M)   {r0 : Int32} (h : f_X7_nearest N C  = some r0) : wg_Ci l yX7_nearest cX7_nearest 4 (some .int) 0 0 E ad S C M [.ref (ad 35)] r0 C M := by
  refine wg_start (own := RX7) (by decide +kernel) rfl (Nat.le_of_ble_eq_true rfl) ?_
  intro p e s m below meth c X hr hnm
  refine wg_lv (lv' := [(0, .ref (ad 35))]) rfl ?_
  unfold f_X7_nearest at h
  refine wg_iconst (v := -1) X dX7_nearest_0 (by decide) ?_
  refine wg_istore_n (lv' := [(1, .int (-1 : Int32)), (0, .ref (ad 35))]) X dX7_nearest_1 rfl rfl (by decide) rfl ?_
  refine wg_ldc (v := 1000000000) X dX7_nearest_2 k_594 ?_
  refine wg_istore_n (lv' := [(2, .int (1000000000 : Int32)), (1, .int (-1 : Int32)), (0, .ref (ad 35))]) X dX7_nearest_4 rfl rfl (by decide) rfl ?_
  refine wg_iconst (v := 0) X dX7_nearest_5 (by decide) ?_
  refine wg_istore_n (lv' := [(3, .int (0 : Int32)), (2, .int (1000000000 : Int32)), (1, .int (-1 : Int32)), (0, .ref (ad 35))]) X dX7_nearest_6 rfl rfl (by decide) rfl ?_
  obtain ⟨o18, h19, h⟩ := bd3_o h
  refine wg_pick [3, 2, 1, 0] (lv' := [(0, .ref (ad 35)), (1, .int (-1 : Int32)), (2, .int (1000000000 : Int32)), (3, .int (0 : Int32))]) rfl ?_
  refine L_X7_nearest_l7 X hr hS r0 M N  C    N (-1 : Int32) (1000000000 : Int32) (0 : Int32) o18 h19 (fun v15 v16 v17 e21 => ?_)
  · subst o18
    replace h := bd3_in h
    refine wg_iload_n X 1 dX7_nearest_48 rfl rfl ?_
    exact wg_iret X ⟨(sm_inj h), rfl, rfl⟩ hr dX7_nearest_49
-- WindowsGive$Walk.shorten(II)V (('c', 35), 'i', 'i')
def f_X7_shorten (C : wg_C) (p1 : Int32) (p2 : Int32) : Option wg_C :=
  ck (inb p1 192) <|
  if (C 37 p1.toNatClampNeg) ≤ p2 then (
    some C)
  else (
    ck (inb p1 192) <|
    lt_ (wg_up C 37 p1.toNatClampNeg p2) fun C4 =>
    some C4)
set_option maxHeartbeats 4000000 in
set_option maxRecDepth 100000 in
theorem c_X7_shorten (l : Launch) (E : wg_Ev) (ad : Nat → Nat) (S : wg_Sh) (hS : wg_SC S) (C : wg_C) (M : wg_M) (p1 : Int32) (p2 : Int32)  {D0 : wg_C} (h : f_X7_shorten C p1 p2 = some D0) : wg_Cv l yX7_shorten cX7_shorten 3 none 0 0 E ad S C M [.ref (ad 35), .int p1, .int p2] D0 M := by
  refine wg_start (own := RX7) (by decide +kernel) rfl (Nat.le_of_ble_eq_true rfl) ?_
  intro p e s m below meth c X hr hnm
  refine wg_lv (lv' := [(0, .ref (ad 35)), (1, .int p1), (2, .int p2)]) rfl ?_
  unfold f_X7_shorten at h
  refine wg_iload_n X 2 dX7_shorten_0 rfl rfl ?_
  refine wg_aload_n X 0 dX7_shorten_1 rfl rfl ?_
  refine wg_getR (b := 37) X cl7 (SCi hS 35 7 rfl) 1 (by decide) dX7_shorten_2 k_250 rfl (SCr hS 35 1 37 rfl) ?_
  refine wg_iload_n X 1 dX7_shorten_5 rfl rfl ?_
  obtain ⟨z1, h⟩ := ck_some h
  refine wg_iald X (SCi hS 37 10 rfl) (SCl hS 37 192 rfl) z1 dX7_shorten_6 ?_
  refine wg_icmp_ge X 17 dX7_shorten_7 (by decide) (fun c2 => ?_) (fun c2 => ?_)
  · have h := if_t c2 h
    exact wg_vret X ⟨(sm_inj h), rfl⟩ hr dX7_shorten_17
  · have h := if_f c2 h
    refine wg_aload_n X 0 dX7_shorten_10 rfl rfl ?_
    refine wg_getR (b := 37) X cl7 (SCi hS 35 7 rfl) 1 (by decide) dX7_shorten_11 k_250 rfl (SCr hS 35 1 37 rfl) ?_
    refine wg_iload_n X 1 dX7_shorten_14 rfl rfl ?_
    refine wg_iload_n X 2 dX7_shorten_15 rfl rfl ?_
    obtain ⟨z3, h⟩ := ck_some h
    obtain ⟨C4, e5, h⟩ := lt_some h
    refine wg_iaste X (SCi hS 37 10 rfl) (SCl hS 37 192 rfl) z3 dX7_shorten_16 e5 ?_
    exact wg_vret X ⟨(sm_inj h), rfl⟩ hr dX7_shorten_17
-- WindowsGive$Walk.leave(LWindowsGive$House;LWindowsGive$Rules;II)V (('c', 35), ('c', 1), 'null', 'i', 'i')
def f_X7_leave_j106l39 (N : Nat) (S : wg_Sh) (C : wg_C)  (x3 : Int32) (x4 : Int32) (x5 : Int32) (x6 : Int32) (x7 : Int32) (x8 : Nat) (s0 : Int32) : Option ((wg_C × Int32) ⊕ (wg_C × Int32)) :=
  bd (f_X1_leads C x8) fun r17 =>
  bd (f_X1_on C x8 x6) fun r19 =>
  ck (inb x3 192) <|
  bd (f_X7_shorten C ((r17 * (32 : Int32)) + r19) ((C 37 x3.toNatClampNeg) + s0)) fun C22 =>
  lt_ (x7 + (1 : Int32)) fun v23 =>
  some (.inl (C22, v23))
def f_X7_leave_l39 (N : Nat) (S : wg_Sh)  (x3 : Int32) (x4 : Int32) (x5 : Int32) (x6 : Int32) (C : wg_C) (x7 : Int32) : Option ((wg_C × Int32) ⊕ (wg_C × Int32)) :=
  if (C 1 2) ≤ x7 then (
    some (.inr (C, x7)))
  else (
    ck (inb x7 8) <|
    if (C (4 + x7.toNatClampNeg) 4) = x5 then (
      bd (f_X1_passes C (4 + x7.toNatClampNeg) x6 x4) fun r12 =>
      if r12 = 0 then (
        lt_ (x7 + (1 : Int32)) fun v14 =>
        some (.inl (C, v14)))
      else (
        f_X7_leave_j106l39 N S C  x3 x4 x5 x6 x7 (4 + x7.toNatClampNeg) (1000 : Int32)))
    else (
      lt_ (x7 + (1 : Int32)) fun v9 =>
      some (.inl (C, v9))))
def f_X7_leave_j36 (N : Nat) (S : wg_Sh) (C : wg_C)  (x3 : Int32) (x4 : Int32) (x5 : Int32) (x6 : Int32) : Option wg_C :=
  bd2 (lp (fun o => f_X7_leave_l39 N S  x3 x4 x5 x6 o.1 o.2) N (C, (0 : Int32))) fun C25 v26 =>
  some C25
def f_X7_leave (N : Nat) (S : wg_Sh) (C : wg_C) (p3 : Int32) (p4 : Int32) : Option wg_C :=
  lt_ (p3 / (32 : Int32)) fun v1 =>
  lt_ (p3 - p3 / (32 : Int32) * (32 : Int32)) fun v3 =>
  if (32 : Int32) ≤ (v3 + (1 : Int32)) then (
    f_X7_leave_j36 N S C  p3 p4 v1 v3)
  else (
    ck (inb p3 192) <|
    bd (f_X7_shorten C (p3 + (1 : Int32)) ((C 37 p3.toNatClampNeg) + (1 : Int32))) fun C33 =>
    f_X7_leave_j36 N S C33  p3 p4 v1 v3)
abbrev G_X7_leave (p : Program) (l : Launch) (e : Env) (s : State) (m : MethodId) (args : Array Value) (below : List Frame) (meth : Method) (c : Code) (E : wg_Ev) (ad : Nat → Nat) (S : wg_Sh) (C0 : wg_C) (M0 : wg_M) (pc : Nat) (C : wg_C) (M : wg_M) (lv : List (Nat × Value)) (st : List Value) : Prop := wg_G p l e (wg_Rm 2 44) s m args below meth c (MQ below (wg_Qv E ad S C0 M0) args s 0 0 (wg_A E)) 10 E ad S 0 0 pc C M lv st
set_option maxHeartbeats 4000000 in
set_option maxRecDepth 100000 in
theorem J_X7_leave_j106l39 {p : Program} {l : Launch} {e : Env} {s : State} {m : MethodId} {args : Array Value} {below : List Frame} {meth : Method} {c : Code} {E : wg_Ev} {ad : Nat → Nat} {S : wg_Sh} (X : wg_X p s m args meth c cX7_leave 10 RX7 E) (hr : meth.sig.returnType = none) (hS : wg_SC S) (D0 : wg_C) (M : wg_M) (N : Nat)  (C : wg_C)  (x3 : Int32) (x4 : Int32) (x5 : Int32) (x6 : Int32) (x7 : Int32) (x8 : Nat) (s0 : Int32) (hx8 : wg_id S x8 1) (y : ((wg_C × Int32) ⊕ (wg_C × Int32))) (Kc : ∀ (Dy : wg_C) (y7 : Int32), y = Sum.inl (Dy, y7) → G_X7_leave p l e s m args below meth c E ad S D0 M 39 Dy M [(0, .ref (ad 35)), (1, .ref (ad 1)), (2, .null), (3, .int x3), (4, .int x4), (5, .int x5), (6, .int x6), (7, .int y7)] []) (Ke : ∀ (Dy : wg_C) (y7 : Int32), y = Sum.inr ((Dy, y7)) → G_X7_leave p l e s m args below meth c E ad S D0 M 143 Dy M [(0, .ref (ad 35)), (1, .ref (ad 1)), (2, .null), (3, .int x3), (4, .int x4), (5, .int x5), (6, .int x6), (7, .int y7)] []) (h : f_X7_leave_j106l39 N S C  x3 x4 x5 x6 x7 x8 s0 = some y) : G_X7_leave p l e s m args below meth c E ad S D0 M 106 C M [(0, .ref (ad 35)), (1, .ref (ad 1)), (2, .null), (3, .int x3), (4, .int x4), (5, .int x5), (6, .int x6), (7, .int x7), (8, .ref (ad x8))] [.int s0] := by
  unfold f_X7_leave_j106l39 at h
  refine wg_istore (lv' := [(9, .int s0), (0, .ref (ad 35)), (1, .ref (ad 1)), (2, .null), (3, .int x3), (4, .int x4), (5, .int x5), (6, .int x6), (7, .int x7), (8, .ref (ad x8))]) X dX7_leave_106 rfl (by decide) rfl ?_
  refine wg_aload_n X 1 dX7_leave_108 rfl rfl ?_
  refine wg_aload X 9 dX7_leave_109 rfl ?_
  obtain ⟨r17, h16, h⟩ := bd_some h
  refine wg_callVi (As := []) (rest := [.ref (ad 35)]) X (c_X1_leads l E ad S hS C M x8 hx8 h16) T_yX1_leads k_643 cl1 hx8 dX7_leave_111 rfl rfl (Nat.le_of_ble_eq_true rfl) ⟨Nat.le_of_ble_eq_true rfl, Nat.le_of_ble_eq_true rfl⟩ ⟨Nat.zero_le _, Nat.zero_le _⟩ ?_
  refine wg_bipush (v := 32) X dX7_leave_114 (by decide) ?_
  refine wg_imul X dX7_leave_116 ?_
  refine wg_aload X 9 dX7_leave_117 rfl ?_
  refine wg_iload X 7 dX7_leave_119 rfl ?_
  obtain ⟨r19, h18, h⟩ := bd_some h
  refine wg_callVi (As := [.int x6]) (rest := [.int (r17 * (32 : Int32)), .ref (ad 35)]) X (c_X1_on l E ad S hS C M x8 x6 hx8 h18) T_yX1_on k_644 cl1 hx8 dX7_leave_121 rfl rfl (Nat.le_of_ble_eq_true rfl) ⟨Nat.le_of_ble_eq_true rfl, Nat.le_of_ble_eq_true rfl⟩ ⟨Nat.zero_le _, Nat.zero_le _⟩ ?_
  refine wg_iadd X dX7_leave_124 ?_
  refine wg_aload_n X 1 dX7_leave_125 rfl rfl ?_
  refine wg_getR (b := 37) X cl7 (SCi hS 35 7 rfl) 1 (by decide) dX7_leave_126 k_250 rfl (SCr hS 35 1 37 rfl) ?_
  refine wg_iload_n X 4 dX7_leave_129 rfl rfl ?_
  obtain ⟨z20, h⟩ := ck_some h
  refine wg_iald X (SCi hS 37 10 rfl) (SCl hS 37 192 rfl) z20 dX7_leave_130 ?_
  refine wg_iload X 0 dX7_leave_131 rfl ?_
  refine wg_iadd X dX7_leave_133 ?_
  obtain ⟨C22, h21, h⟩ := bd_some h
  refine wg_callVv (As := [.int ((r17 * (32 : Int32)) + r19), .int ((C 37 x3.toNatClampNeg) + s0)]) (rest := []) X (c_X7_shorten l E ad S hS C M ((r17 * (32 : Int32)) + r19) ((C 37 x3.toNatClampNeg) + s0)  h21) T_yX7_shorten k_606 cl7 (SCi hS 35 7 rfl) dX7_leave_134 rfl rfl (Nat.le_of_ble_eq_true rfl) ⟨Nat.le_of_ble_eq_true rfl, Nat.le_of_ble_eq_true rfl⟩ ⟨Nat.zero_le _, Nat.zero_le _⟩ ?_
  obtain ⟨v23, e24, h⟩ := lt_some h
  refine wg_iinc (lv' := [(7, .int v23), (9, .int s0), (0, .ref (ad 35)), (1, .ref (ad 1)), (2, .null), (3, .int x3), (4, .int x4), (5, .int x5), (6, .int x6), (8, .ref (ad x8))]) X 8 dX7_leave_137 rfl e24 (by decide) rfl ?_
  refine wg_goto X 39 dX7_leave_140 (by decide) ?_
  refine wg_pick [2, 3, 4, 5, 6, 7, 8, 0] (lv' := [(0, .ref (ad 35)), (1, .ref (ad 1)), (2, .null), (3, .int x3), (4, .int x4), (5, .int x5), (6, .int x6), (7, .int v23)]) rfl ?_
  exact Kc C22 v23 (sm_inj h).symm
set_option maxHeartbeats 4000000 in
set_option maxRecDepth 100000 in
theorem L_X7_leave_l39 {p : Program} {l : Launch} {e : Env} {s : State} {m : MethodId} {args : Array Value} {below : List Frame} {meth : Method} {c : Code} {E : wg_Ev} {ad : Nat → Nat} {S : wg_Sh} (X : wg_X p s m args meth c cX7_leave 10 RX7 E) (hr : meth.sig.returnType = none) (hS : wg_SC S) (D0 : wg_C) (M : wg_M) (N : Nat)   (x3 : Int32) (x4 : Int32) (x5 : Int32) (x6 : Int32)  : ∀ (n : Nat) (C : wg_C) (x7 : Int32) (o : (wg_C × Int32)), lp (fun o => f_X7_leave_l39 N S  x3 x4 x5 x6 o.1 o.2) n (C, x7) = some o → (∀ (Dy : wg_C) (y7 : Int32), o = (Dy, y7) → G_X7_leave p l e s m args below meth c E ad S D0 M 143 Dy M [(0, .ref (ad 35)), (1, .ref (ad 1)), (2, .null), (3, .int x3), (4, .int x4), (5, .int x5), (6, .int x6), (7, .int y7)] []) → G_X7_leave p l e s m args below meth c E ad S D0 M 39 C M [(0, .ref (ad 35)), (1, .ref (ad 1)), (2, .null), (3, .int x3), (4, .int x4), (5, .int x5), (6, .int x6), (7, .int x7)] [] := by
  intro n
  induction n with
  | zero => exact fun _ _ o h => (lp_zero h).elim
  | succ n ih =>
    intro C x7 o h K
    obtain ⟨o1, hb, h2⟩ := lp_some h
    replace hb : f_X7_leave_l39 N S  x3 x4 x5 x6 C x7 = some o1 := hb
    clear h
    have Kc : ∀ (Dy : wg_C) (y7 : Int32), o1 = Sum.inl (Dy, y7) → G_X7_leave p l e s m args below meth c E ad S D0 M 39 Dy M [(0, .ref (ad 35)), (1, .ref (ad 1)), (2, .null), (3, .int x3), (4, .int x4), (5, .int x5), (6, .int x6), (7, .int y7)] [] := fun Dy y7 e1 => by
      subst e1
      exact ih Dy y7 o h2 K
    have Ke : ∀ (Dy : wg_C) (y7 : Int32), o1 = Sum.inr ((Dy, y7)) → G_X7_leave p l e s m args below meth c E ad S D0 M 143 Dy M [(0, .ref (ad 35)), (1, .ref (ad 1)), (2, .null), (3, .int x3), (4, .int x4), (5, .int x5), (6, .int x6), (7, .int y7)] [] := fun Dy y7 e1 => by
      subst e1
      exact K Dy y7 (sm_inj (α := (wg_C × Int32)) h2).symm
    clear ih K h2
    unfold f_X7_leave_l39 at hb
    have h := hb
    clear hb
    refine wg_iload X 7 dX7_leave_39 rfl ?_
    refine wg_aload_n X 1 dX7_leave_41 rfl rfl ?_
    refine wg_getC X cl0 (SCi hS 1 0 rfl) 2 (by decide) dX7_leave_42 k_148 rfl ?_
    refine wg_icmp_ge X 143 dX7_leave_45 (by decide) (fun c6 => ?_) (fun c6 => ?_)
    · have h := if_t c6 h
      exact Ke C x7 (sm_inj h).symm
    · have h := if_f c6 h
      refine wg_aload_n X 1 dX7_leave_48 rfl rfl ?_
      refine wg_getR (b := 3) X cl0 (SCi hS 1 0 rfl) 1 (by decide) dX7_leave_49 k_145 rfl (SCr hS 1 1 3 rfl) ?_
      refine wg_iload X 7 dX7_leave_52 rfl ?_
      obtain ⟨z7, h⟩ := ck_some h
      refine wg_aalS13 (b := 4 + x7.toNatClampNeg) X (SCi hS 3 13 rfl) (SCl hS 3 8 rfl) z7 (SCp hS (inb_lt z7)).1 dX7_leave_54 ?_
      refine wg_astore (lv' := [(8, .ref (ad (4 + x7.toNatClampNeg))), (0, .ref (ad 35)), (1, .ref (ad 1)), (2, .null), (3, .int x3), (4, .int x4), (5, .int x5), (6, .int x6), (7, .int x7)]) X dX7_leave_55 rfl (by decide) rfl ?_
      refine wg_aload X 0 dX7_leave_57 rfl ?_
      refine wg_getC X cl1 (SCp hS (inb_lt z7)).2.1 4 (by decide) dX7_leave_59 k_123 rfl ?_
      refine wg_iload X 6 dX7_leave_62 rfl ?_
      refine wg_icmp_ne X 137 dX7_leave_64 (by decide) (fun c8 => ?_) (fun c8 => ?_)
      · have h := if_f c8 h
        obtain ⟨v9, e10, h⟩ := lt_some h
        refine wg_iinc (lv' := [(7, .int v9), (8, .ref (ad (4 + x7.toNatClampNeg))), (0, .ref (ad 35)), (1, .ref (ad 1)), (2, .null), (3, .int x3), (4, .int x4), (5, .int x5), (6, .int x6)]) X 8 dX7_leave_137 rfl e10 (by decide) rfl ?_
        refine wg_goto X 39 dX7_leave_140 (by decide) ?_
        refine wg_pick [2, 3, 4, 5, 6, 7, 8, 0] (lv' := [(0, .ref (ad 35)), (1, .ref (ad 1)), (2, .null), (3, .int x3), (4, .int x4), (5, .int x5), (6, .int x6), (7, .int v9)]) rfl ?_
        exact Kc C v9 (sm_inj h).symm
      · have h := if_t c8 h
        refine wg_aload X 0 dX7_leave_67 rfl ?_
        refine wg_iload X 7 dX7_leave_69 rfl ?_
        refine wg_iload X 5 dX7_leave_71 rfl ?_
        obtain ⟨r12, h11, h⟩ := bd_some h
        refine wg_callVi (As := [.int x6, .int x4]) (rest := []) X (c_X1_passes l E ad S hS C M (4 + x7.toNatClampNeg) x6 x4 ((SCp hS (inb_lt z7)).2.1) h11) T_yX1_passes k_610 cl1 ((SCp hS (inb_lt z7)).2.1) dX7_leave_73 rfl rfl (Nat.le_of_ble_eq_true rfl) ⟨Nat.le_of_ble_eq_true rfl, Nat.le_of_ble_eq_true rfl⟩ ⟨Nat.zero_le _, Nat.zero_le _⟩ ?_
        refine wg_if_eq X 137 dX7_leave_76 (by decide) (fun c13 => ?_) (fun c13 => ?_)
        · have h := if_t c13 h
          obtain ⟨v14, e15, h⟩ := lt_some h
          refine wg_iinc (lv' := [(7, .int v14), (8, .ref (ad (4 + x7.toNatClampNeg))), (0, .ref (ad 35)), (1, .ref (ad 1)), (2, .null), (3, .int x3), (4, .int x4), (5, .int x5), (6, .int x6)]) X 8 dX7_leave_137 rfl e15 (by decide) rfl ?_
          refine wg_goto X 39 dX7_leave_140 (by decide) ?_
          refine wg_pick [2, 3, 4, 5, 6, 7, 8, 0] (lv' := [(0, .ref (ad 35)), (1, .ref (ad 1)), (2, .null), (3, .int x3), (4, .int x4), (5, .int x5), (6, .int x6), (7, .int v14)]) rfl ?_
          exact Kc C v14 (sm_inj h).symm
        · have h := if_f c13 h
          refine wg_aload_nN X 3 dX7_leave_79 rfl rfl ?_
          refine wg_nonnullN X dX7_leave_80 ?_
          refine wg_sipush (v := 1000) X dX7_leave_83 (by decide) ?_
          refine wg_goto X 106 dX7_leave_86 (by decide) ?_
          refine wg_pick [1, 2, 3, 4, 5, 6, 7, 8, 0] (lv' := [(0, .ref (ad 35)), (1, .ref (ad 1)), (2, .null), (3, .int x3), (4, .int x4), (5, .int x5), (6, .int x6), (7, .int x7), (8, .ref (ad (4 + x7.toNatClampNeg)))]) rfl ?_
          exact J_X7_leave_j106l39 X hr hS D0 M N  C  x3 x4 x5 x6 x7 (4 + x7.toNatClampNeg) (1000 : Int32) ((SCp hS (inb_lt z7)).2.1) _ Kc Ke h
set_option maxHeartbeats 4000000 in
set_option maxRecDepth 100000 in
theorem J_X7_leave_j36 {p : Program} {l : Launch} {e : Env} {s : State} {m : MethodId} {args : Array Value} {below : List Frame} {meth : Method} {c : Code} {E : wg_Ev} {ad : Nat → Nat} {S : wg_Sh} (X : wg_X p s m args meth c cX7_leave 10 RX7 E) (hr : meth.sig.returnType = none) (hS : wg_SC S) (D0 : wg_C) (M : wg_M) (N : Nat)  (C : wg_C)  (x3 : Int32) (x4 : Int32) (x5 : Int32) (x6 : Int32)   (h : f_X7_leave_j36 N S C  x3 x4 x5 x6 = some D0) : G_X7_leave p l e s m args below meth c E ad S D0 M 36 C M [(0, .ref (ad 35)), (1, .ref (ad 1)), (2, .null), (3, .int x3), (4, .int x4), (5, .int x5), (6, .int x6)] [] := by
  unfold f_X7_leave_j36 at h
  refine wg_iconst (v := 0) X dX7_leave_36 (by decide) ?_
  refine wg_istore (lv' := [(7, .int (0 : Int32)), (0, .ref (ad 35)), (1, .ref (ad 1)), (2, .null), (3, .int x3), (4, .int x4), (5, .int x5), (6, .int x6)]) X dX7_leave_37 rfl (by decide) rfl ?_
  obtain ⟨o27, h28, h⟩ := bd2_o h
  refine wg_pick [1, 2, 3, 4, 5, 6, 7, 0] (lv' := [(0, .ref (ad 35)), (1, .ref (ad 1)), (2, .null), (3, .int x3), (4, .int x4), (5, .int x5), (6, .int x6), (7, .int (0 : Int32))]) rfl ?_
  refine L_X7_leave_l39 X hr hS D0 M N   x3 x4 x5 x6  N C (0 : Int32) o27 h28 (fun C25 v26 e30 => ?_)
  · subst o27
    replace h := bd2_in h
    exact wg_vret X ⟨(sm_inj h), rfl⟩ hr dX7_leave_143
set_option maxHeartbeats 4000000 in
set_option maxRecDepth 100000 in
theorem c_X7_leave (l : Launch) (E : wg_Ev) (ad : Nat → Nat) (S : wg_Sh) (hS : wg_SC S) (N : Nat) (C : wg_C) (M : wg_M) (p3 : Int32) (p4 : Int32)  {D0 : wg_C} (h : f_X7_leave N S C p3 p4 = some D0) : wg_Cv l yX7_leave cX7_leave 10 none 2 44 E ad S C M [.ref (ad 35), .ref (ad 1), .null, .int p3, .int p4] D0 M := by
  refine wg_start (own := RX7) (by decide +kernel) rfl (Nat.le_of_ble_eq_true rfl) ?_
  intro p e s m below meth c X hr hnm
  refine wg_lv (lv' := [(0, .ref (ad 35)), (1, .ref (ad 1)), (2, .null), (3, .int p3), (4, .int p4)]) rfl ?_
  unfold f_X7_leave at h
  refine wg_iload_n X 3 dX7_leave_0 rfl rfl ?_
  refine wg_bipush (v := 32) X dX7_leave_1 (by decide) ?_
  refine wg_idiv X dX7_leave_3 (by decide) ?_
  obtain ⟨v1, e2, h⟩ := lt_some h
  refine wg_istore (lv' := [(5, .int v1), (0, .ref (ad 35)), (1, .ref (ad 1)), (2, .null), (3, .int p3), (4, .int p4)]) X dX7_leave_4 e2 (by decide) rfl ?_
  refine wg_iload_n X 4 dX7_leave_6 rfl rfl ?_
  refine wg_bipush (v := 32) X dX7_leave_7 (by decide) ?_
  refine wg_irem X dX7_leave_9 (by decide) ?_
  obtain ⟨v3, e4, h⟩ := lt_some h
  refine wg_istore (lv' := [(6, .int v3), (5, .int v1), (0, .ref (ad 35)), (1, .ref (ad 1)), (2, .null), (3, .int p3), (4, .int p4)]) X dX7_leave_10 e4 (by decide) rfl ?_
  refine wg_iload X 0 dX7_leave_12 rfl ?_
  refine wg_iconst (v := 1) X dX7_leave_14 (by decide) ?_
  refine wg_iadd X dX7_leave_15 ?_
  refine wg_bipush (v := 32) X dX7_leave_16 (by decide) ?_
  refine wg_icmp_ge X 36 dX7_leave_18 (by decide) (fun c5 => ?_) (fun c5 => ?_)
  · have h := if_t c5 h
    refine wg_pick [2, 3, 4, 5, 6, 1, 0] (lv' := [(0, .ref (ad 35)), (1, .ref (ad 1)), (2, .null), (3, .int p3), (4, .int p4), (5, .int v1), (6, .int v3)]) rfl ?_
    exact J_X7_leave_j36 X hr hS D0 M N  C  p3 p4 v1 v3   h
  · have h := if_f c5 h
    refine wg_aload_n X 2 dX7_leave_21 rfl rfl ?_
    refine wg_iload_n X 5 dX7_leave_22 rfl rfl ?_
    refine wg_iconst (v := 1) X dX7_leave_23 (by decide) ?_
    refine wg_iadd X dX7_leave_24 ?_
    refine wg_aload_n X 2 dX7_leave_25 rfl rfl ?_
    refine wg_getR (b := 37) X cl7 (SCi hS 35 7 rfl) 1 (by decide) dX7_leave_26 k_250 rfl (SCr hS 35 1 37 rfl) ?_
    refine wg_iload_n X 5 dX7_leave_29 rfl rfl ?_
    obtain ⟨z31, h⟩ := ck_some h
    refine wg_iald X (SCi hS 37 10 rfl) (SCl hS 37 192 rfl) z31 dX7_leave_30 ?_
    refine wg_iconst (v := 1) X dX7_leave_31 (by decide) ?_
    refine wg_iadd X dX7_leave_32 ?_
    obtain ⟨C33, h32, h⟩ := bd_some h
    refine wg_callVv (As := [.int (p3 + (1 : Int32)), .int ((C 37 p3.toNatClampNeg) + (1 : Int32))]) (rest := []) X (c_X7_shorten l E ad S hS C M (p3 + (1 : Int32)) ((C 37 p3.toNatClampNeg) + (1 : Int32))  h32) T_yX7_shorten k_606 cl7 (SCi hS 35 7 rfl) dX7_leave_33 rfl rfl (Nat.le_of_ble_eq_true rfl) ⟨Nat.le_of_ble_eq_true rfl, Nat.le_of_ble_eq_true rfl⟩ ⟨Nat.zero_le _, Nat.zero_le _⟩ ?_
    refine wg_pick [2, 3, 4, 5, 6, 1, 0] (lv' := [(0, .ref (ad 35)), (1, .ref (ad 1)), (2, .null), (3, .int p3), (4, .int p4), (5, .int v1), (6, .int v3)]) rfl ?_
    exact J_X7_leave_j36 X hr hS D0 M N  C33  p3 p4 v1 v3   h
-- WindowsGive$Walk.search(LWindowsGive$House;LWindowsGive$Rules;II)V (('c', 35), ('c', 1), 'null', 'i', 'i')
def f_X7_search_l27 (N : Nat) (S : wg_Sh)  (x4 : Int32) (C : wg_C) (x5 : Int32) : Option ((wg_C × Int32) ⊕ ((wg_C × Int32) ⊕ wg_C)) :=
  if (192 : Int32) ≤ x5 then (
    some (.inr (.inl (C, x5))))
  else (
    bd (f_X7_nearest N C ) fun r10 =>
    if r10 = (-1 : Int32) then (
      some (.inr (.inr C)))
    else (
      ck (inb r10 192) <|
      lt_ (wg_up C 38 r10.toNatClampNeg (1 : Int32)) fun C13 =>
      bd (f_X7_leave N S C13 r10 x4) fun C16 =>
      lt_ (x5 + (1 : Int32)) fun v17 =>
      some (.inl (C16, v17))))
def f_X7_search (N : Nat) (S : wg_Sh) (C : wg_C) (p3 : Int32) (p4 : Int32) : Option wg_C :=
  bd (f_J7_fill_53178 N C 37 192 (1000000000 : Int32)) fun C2 =>
  bd (f_J7_fill_53178 N C2 38 192 (0 : Int32)) fun C4 =>
  ck (inb p3 192) <|
  lt_ (wg_up C4 37 p3.toNatClampNeg (0 : Int32)) fun C6 =>
  bs2 (lp (fun o => f_X7_search_l27 N S  p4 o.1 o.2) N (C6, (0 : Int32))) (fun C19 v20 =>
    some C19)
    (fun q23 => some q23)
abbrev G_X7_search (p : Program) (l : Launch) (e : Env) (s : State) (m : MethodId) (args : Array Value) (below : List Frame) (meth : Method) (c : Code) (E : wg_Ev) (ad : Nat → Nat) (S : wg_Sh) (C0 : wg_C) (M0 : wg_M) (pc : Nat) (C : wg_C) (M : wg_M) (lv : List (Nat × Value)) (st : List Value) : Prop := wg_G p l e (wg_Rm 3 73) s m args below meth c (MQ below (wg_Qv E ad S C0 M0) args s 0 0 (wg_A E)) 7 E ad S 0 0 pc C M lv st
set_option maxHeartbeats 4000000 in
set_option maxRecDepth 100000 in
theorem L_X7_search_l27 {p : Program} {l : Launch} {e : Env} {s : State} {m : MethodId} {args : Array Value} {below : List Frame} {meth : Method} {c : Code} {E : wg_Ev} {ad : Nat → Nat} {S : wg_Sh} (X : wg_X p s m args meth c cX7_search 7 RX7 E) (hr : meth.sig.returnType = none) (hS : wg_SC S) (D0 : wg_C) (M : wg_M) (N : Nat)   (x4 : Int32)  : ∀ (n : Nat) (C : wg_C) (x5 : Int32) (o : ((wg_C × Int32) ⊕ wg_C)), lp (fun o => f_X7_search_l27 N S  x4 o.1 o.2) n (C, x5) = some o → (∀ (Dy : wg_C) (y5 : Int32), o = Sum.inl (Dy, y5) → G_X7_search p l e s m args below meth c E ad S D0 M 72 Dy M [(0, .ref (ad 35)), (1, .ref (ad 1)), (2, .null), (4, .int x4), (5, .int y5)] []) → (∀ q : wg_C, o = Sum.inr q → q = D0) → G_X7_search p l e s m args below meth c E ad S D0 M 27 C M [(0, .ref (ad 35)), (1, .ref (ad 1)), (2, .null), (4, .int x4), (5, .int x5)] [] := by
  intro n
  induction n with
  | zero => exact fun _ _ o h => (lp_zero h).elim
  | succ n ih =>
    intro C x5 o h K KR
    obtain ⟨o1, hb, h2⟩ := lp_some h
    replace hb : f_X7_search_l27 N S  x4 C x5 = some o1 := hb
    clear h
    have Kc : ∀ (Dy : wg_C) (y5 : Int32), o1 = Sum.inl (Dy, y5) → G_X7_search p l e s m args below meth c E ad S D0 M 27 Dy M [(0, .ref (ad 35)), (1, .ref (ad 1)), (2, .null), (4, .int x4), (5, .int y5)] [] := fun Dy y5 e1 => by
      subst e1
      exact ih Dy y5 o h2 K KR
    have Ke : ∀ (Dy : wg_C) (y5 : Int32), o1 = Sum.inr (Sum.inl (Dy, y5)) → G_X7_search p l e s m args below meth c E ad S D0 M 72 Dy M [(0, .ref (ad 35)), (1, .ref (ad 1)), (2, .null), (4, .int x4), (5, .int y5)] [] := fun Dy y5 e1 => by
      subst e1
      exact K Dy y5 (sm_inj (α := ((wg_C × Int32) ⊕ wg_C)) h2).symm
    have Kr : ∀ q : wg_C, o1 = Sum.inr (Sum.inr q) → q = D0 := fun q e1 => by
      subst e1
      exact KR q (sm_inj (α := ((wg_C × Int32) ⊕ wg_C)) h2).symm
    clear ih K h2 KR
    unfold f_X7_search_l27 at hb
    have h := hb
    clear hb
    refine wg_iload X 4 dX7_search_27 rfl ?_
    refine wg_sipush (v := 192) X dX7_search_29 (by decide) ?_
    refine wg_icmp_ge X 72 dX7_search_32 (by decide) (fun c8 => ?_) (fun c8 => ?_)
    · have h := if_t c8 h
      exact Ke C x5 (sm_inj h).symm
    · have h := if_f c8 h
      refine wg_aload_n X 0 dX7_search_35 rfl rfl ?_
      obtain ⟨r10, h9, h⟩ := bd_some h
      refine wg_callVi (As := []) (rest := []) X (c_X7_nearest l E ad S hS N C M   h9) T_yX7_nearest k_598 cl7 (SCi hS 35 7 rfl) dX7_search_36 rfl rfl (Nat.le_of_ble_eq_true rfl) ⟨Nat.le_of_ble_eq_true rfl, Nat.le_of_ble_eq_true rfl⟩ ⟨Nat.zero_le _, Nat.zero_le _⟩ ?_
      refine wg_istore (lv' := [(6, .int r10), (0, .ref (ad 35)), (1, .ref (ad 1)), (2, .null), (4, .int x4), (5, .int x5)]) X dX7_search_39 rfl (by decide) rfl ?_
      refine wg_iload X 0 dX7_search_41 rfl ?_
      refine wg_iconst (v := -1) X dX7_search_43 (by decide) ?_
      refine wg_icmp_ne X 48 dX7_search_44 (by decide) (fun c11 => ?_) (fun c11 => ?_)
      · have h := if_f c11 h
        refine wg_aload_n X 1 dX7_search_48 rfl rfl ?_
        refine wg_getR (b := 38) X cl7 (SCi hS 35 7 rfl) 2 (by decide) dX7_search_49 k_252 rfl (SCr hS 35 2 38 rfl) ?_
        refine wg_iload X 0 dX7_search_52 rfl ?_
        refine wg_iconst (v := 1) X dX7_search_54 (by decide) ?_
        obtain ⟨z12, h⟩ := ck_some h
        obtain ⟨C13, e14, h⟩ := lt_some h
        refine wg_iaste X (SCi hS 38 10 rfl) (SCl hS 38 192 rfl) z12 dX7_search_55 e14 ?_
        refine wg_aload_n X 1 dX7_search_56 rfl rfl ?_
        refine wg_aload_n X 2 dX7_search_57 rfl rfl ?_
        refine wg_aload_nN X 3 dX7_search_58 rfl rfl ?_
        refine wg_iload X 0 dX7_search_59 rfl ?_
        refine wg_iload X 4 dX7_search_61 rfl ?_
        obtain ⟨C16, h15, h⟩ := bd_some h
        refine wg_callVv (As := [.ref (ad 1), .null, .int r10, .int x4]) (rest := []) X (c_X7_leave l E ad S hS N C13 M r10 x4  h15) T_yX7_leave k_602 cl7 (SCi hS 35 7 rfl) dX7_search_63 rfl rfl (Nat.le_of_ble_eq_true rfl) ⟨Nat.le_of_ble_eq_true rfl, Nat.le_of_ble_eq_true rfl⟩ ⟨Nat.zero_le _, Nat.zero_le _⟩ ?_
        obtain ⟨v17, e18, h⟩ := lt_some h
        refine wg_iinc (lv' := [(5, .int v17), (6, .int r10), (0, .ref (ad 35)), (1, .ref (ad 1)), (2, .null), (4, .int x4)]) X 5 dX7_search_66 rfl e18 (by decide) rfl ?_
        refine wg_goto X 27 dX7_search_69 (by decide) ?_
        refine wg_pick [2, 3, 4, 5, 0] (lv' := [(0, .ref (ad 35)), (1, .ref (ad 1)), (2, .null), (4, .int x4), (5, .int v17)]) rfl ?_
        exact Kc C16 v17 (sm_inj h).symm
      · have h := if_t c11 h
        have hq := Kr _ (sm_inj h).symm
        exact wg_vret X ⟨hq, rfl⟩ hr dX7_search_47
set_option maxHeartbeats 4000000 in
set_option maxRecDepth 100000 in
theorem c_X7_search (l : Launch) (E : wg_Ev) (ad : Nat → Nat) (S : wg_Sh) (hS : wg_SC S) (N : Nat) (C : wg_C) (M : wg_M) (p3 : Int32) (p4 : Int32)  {D0 : wg_C} (h : f_X7_search N S C p3 p4 = some D0) : wg_Cv l yX7_search cX7_search 7 none 3 73 E ad S C M [.ref (ad 35), .ref (ad 1), .null, .int p3, .int p4] D0 M := by
  refine wg_start (own := RX7) (by decide +kernel) rfl (Nat.le_of_ble_eq_true rfl) ?_
  intro p e s m below meth c X hr hnm
  refine wg_lv (lv' := [(0, .ref (ad 35)), (1, .ref (ad 1)), (2, .null), (3, .int p3), (4, .int p4)]) rfl ?_
  unfold f_X7_search at h
  refine wg_aload_n X 0 dX7_search_0 rfl rfl ?_
  refine wg_getR (b := 37) X cl7 (SCi hS 35 7 rfl) 1 (by decide) dX7_search_1 k_250 rfl (SCr hS 35 1 37 rfl) ?_
  refine wg_ldc (v := 1000000000) X dX7_search_4 k_594 ?_
  obtain ⟨C2, h1, h⟩ := bd_some h
  refine wg_callSv (As := [.ref (ad 37), .int (1000000000 : Int32)]) (rest := []) X (c_J7_fill_53178 l E ad S hS N C M 37 192 (1000000000 : Int32) ⟨(SCi hS 37 10 rfl), (SCl hS 37 192 rfl)⟩ h1) T_yJ7_fill_53178 k_595 dX7_search_6 rfl rfl (Nat.le_of_ble_eq_true rfl) ⟨Nat.le_of_ble_eq_true rfl, Nat.le_of_ble_eq_true rfl⟩ ⟨Nat.zero_le _, Nat.zero_le _⟩ ?_
  refine wg_aload_n X 0 dX7_search_9 rfl rfl ?_
  refine wg_getR (b := 38) X cl7 (SCi hS 35 7 rfl) 2 (by decide) dX7_search_10 k_252 rfl (SCr hS 35 2 38 rfl) ?_
  refine wg_iconst (v := 0) X dX7_search_13 (by decide) ?_
  obtain ⟨C4, h3, h⟩ := bd_some h
  refine wg_callSv (As := [.ref (ad 38), .int (0 : Int32)]) (rest := []) X (c_J7_fill_53178 l E ad S hS N C2 M 38 192 (0 : Int32) ⟨(SCi hS 38 10 rfl), (SCl hS 38 192 rfl)⟩ h3) T_yJ7_fill_53178 k_595 dX7_search_14 rfl rfl (Nat.le_of_ble_eq_true rfl) ⟨Nat.le_of_ble_eq_true rfl, Nat.le_of_ble_eq_true rfl⟩ ⟨Nat.zero_le _, Nat.zero_le _⟩ ?_
  refine wg_aload_n X 0 dX7_search_17 rfl rfl ?_
  refine wg_getR (b := 37) X cl7 (SCi hS 35 7 rfl) 1 (by decide) dX7_search_18 k_250 rfl (SCr hS 35 1 37 rfl) ?_
  refine wg_iload_n X 3 dX7_search_21 rfl rfl ?_
  refine wg_iconst (v := 0) X dX7_search_22 (by decide) ?_
  obtain ⟨z5, h⟩ := ck_some h
  obtain ⟨C6, e7, h⟩ := lt_some h
  refine wg_iaste X (SCi hS 37 10 rfl) (SCl hS 37 192 rfl) z5 dX7_search_23 e7 ?_
  refine wg_iconst (v := 0) X dX7_search_24 (by decide) ?_
  refine wg_istore (lv' := [(5, .int (0 : Int32)), (0, .ref (ad 35)), (1, .ref (ad 1)), (2, .null), (3, .int p3), (4, .int p4)]) X dX7_search_25 rfl (by decide) rfl ?_
  obtain ⟨o21, h22, h⟩ := bs2_o h
  refine wg_pick [1, 2, 3, 5, 0] (lv' := [(0, .ref (ad 35)), (1, .ref (ad 1)), (2, .null), (4, .int p4), (5, .int (0 : Int32))]) rfl ?_
  refine L_X7_search_l27 X hr hS D0 M N   p4  N C6 (0 : Int32) o21 h22 (fun C19 v20 e24 => ?_) (fun q23 e24 => ?_)
  · subst o21
    replace h := bs2_in h
    exact wg_vret X ⟨(sm_inj h), rfl⟩ hr dX7_search_72
  · subst o21
    replace h := bs2_r h
    exact sm_inj h
-- WindowsGive.panes(IIII)I (('c', 0), 'i', 'i', 'i', 'i')
def f_X8_panes (N : Nat) (S : wg_Sh) (C : wg_C) (p1 : Int32) (p2 : Int32) (p3 : Int32) (p4 : Int32) : Option (Int32 × wg_C) :=
  bd (f_X8_isSpot p1) fun r2 =>
  if r2 = 0 then (
    some ((-2 : Int32), C))
  else (
    bd (f_X8_isSpot p2) fun r5 =>
    if r5 = 0 then (
      some ((-2 : Int32), C))
    else (
      bd (f_X8_isSort p3) fun r8 =>
      if r8 = 0 then (
        some ((-2 : Int32), C))
      else (
        if p4 < 0 then (
          some ((-2 : Int32), C))
        else (
          if p4 ≤ (1 : Int32) then (
            bd (f_X7_search N S C p1 p3) fun C13 =>
            ck (inb p2 192) <|
            lt_ (C13 37 p2.toNatClampNeg) fun v15 =>
            if v15 < (1000000000 : Int32) then (
              if p4 = 0 then (
                some ((v15 / (1000 : Int32)), C13))
              else (
                some ((v15 - v15 / (1000 : Int32) * (1000 : Int32)), C13)))
            else (
              some ((-1 : Int32), C13)))
          else (
            some ((-2 : Int32), C))))))
set_option maxHeartbeats 4000000 in
set_option maxRecDepth 100000 in
theorem c_X8_panes (l : Launch) (E : wg_Ev) (ad : Nat → Nat) (S : wg_Sh) (hS : wg_SC S) (N : Nat) (C : wg_C) (M : wg_M) (p1 : Int32) (p2 : Int32) (p3 : Int32) (p4 : Int32)  {r0 : Int32} {D0 : wg_C} (h : f_X8_panes N S C p1 p2 p3 p4 = some (r0, D0)) : wg_Ci l yX8_panes cX8_panes 6 (some .int) 4 99 E ad S C M [.ref (ad 0), .int p1, .int p2, .int p3, .int p4] r0 D0 M := by
  refine wg_start (own := RX8) (by decide +kernel) rfl (Nat.le_of_ble_eq_true rfl) ?_
  intro p e s m below meth c X hr hnm
  refine wg_lv (lv' := [(0, .ref (ad 0)), (1, .int p1), (2, .int p2), (3, .int p3), (4, .int p4)]) rfl ?_
  unfold f_X8_panes at h
  refine wg_iload_n X 1 dX8_panes_0 rfl rfl ?_
  obtain ⟨r2, h1, h⟩ := bd_some h
  refine wg_callSi (As := [.int p1]) (rest := []) X (c_X8_isSpot l E ad S C M p1  h1) T_yX8_isSpot k_587 dX8_panes_1 rfl rfl (Nat.le_of_ble_eq_true rfl) ⟨Nat.le_of_ble_eq_true rfl, Nat.le_of_ble_eq_true rfl⟩ ⟨Nat.zero_le _, Nat.zero_le _⟩ ?_
  refine wg_if_eq X 32 dX8_panes_4 (by decide) (fun c3 => ?_) (fun c3 => ?_)
  · have h := if_t c3 h
    refine wg_bipush (v := -2) X dX8_panes_32 (by decide) ?_
    exact wg_iret X ⟨(Prod.mk.inj (sm_inj h)).1, (Prod.mk.inj (sm_inj h)).2, rfl⟩ hr dX8_panes_34
  · have h := if_f c3 h
    refine wg_iload_n X 2 dX8_panes_7 rfl rfl ?_
    obtain ⟨r5, h4, h⟩ := bd_some h
    refine wg_callSi (As := [.int p2]) (rest := []) X (c_X8_isSpot l E ad S C M p2  h4) T_yX8_isSpot k_587 dX8_panes_8 rfl rfl (Nat.le_of_ble_eq_true rfl) ⟨Nat.le_of_ble_eq_true rfl, Nat.le_of_ble_eq_true rfl⟩ ⟨Nat.zero_le _, Nat.zero_le _⟩ ?_
    refine wg_if_eq X 32 dX8_panes_11 (by decide) (fun c6 => ?_) (fun c6 => ?_)
    · have h := if_t c6 h
      refine wg_bipush (v := -2) X dX8_panes_32 (by decide) ?_
      exact wg_iret X ⟨(Prod.mk.inj (sm_inj h)).1, (Prod.mk.inj (sm_inj h)).2, rfl⟩ hr dX8_panes_34
    · have h := if_f c6 h
      refine wg_iload_n X 3 dX8_panes_14 rfl rfl ?_
      obtain ⟨r8, h7, h⟩ := bd_some h
      refine wg_callSi (As := [.int p3]) (rest := []) X (c_X8_isSort l E ad S C M p3  h7) T_yX8_isSort k_554 dX8_panes_15 rfl rfl (Nat.le_of_ble_eq_true rfl) ⟨Nat.le_of_ble_eq_true rfl, Nat.le_of_ble_eq_true rfl⟩ ⟨Nat.zero_le _, Nat.zero_le _⟩ ?_
      refine wg_if_eq X 32 dX8_panes_18 (by decide) (fun c9 => ?_) (fun c9 => ?_)
      · have h := if_t c9 h
        refine wg_bipush (v := -2) X dX8_panes_32 (by decide) ?_
        exact wg_iret X ⟨(Prod.mk.inj (sm_inj h)).1, (Prod.mk.inj (sm_inj h)).2, rfl⟩ hr dX8_panes_34
      · have h := if_f c9 h
        refine wg_iload X 4 dX8_panes_21 rfl ?_
        refine wg_if_lt X 32 dX8_panes_23 (by decide) (fun c10 => ?_) (fun c10 => ?_)
        · have h := if_t c10 h
          refine wg_bipush (v := -2) X dX8_panes_32 (by decide) ?_
          exact wg_iret X ⟨(Prod.mk.inj (sm_inj h)).1, (Prod.mk.inj (sm_inj h)).2, rfl⟩ hr dX8_panes_34
        · have h := if_f c10 h
          refine wg_iload X 4 dX8_panes_26 rfl ?_
          refine wg_iconst (v := 1) X dX8_panes_28 (by decide) ?_
          refine wg_icmp_le X 35 dX8_panes_29 (by decide) (fun c11 => ?_) (fun c11 => ?_)
          · have h := if_t c11 h
            refine wg_aload_n X 0 dX8_panes_35 rfl rfl ?_
            refine wg_getR (b := 35) X cl8 (SCi hS 0 8 rfl) 6 (by decide) dX8_panes_36 k_478 rfl (SCr hS 0 6 35 rfl) ?_
            refine wg_aload_n X 0 dX8_panes_39 rfl rfl ?_
            refine wg_getR (b := 1) X cl8 (SCi hS 0 8 rfl) 0 (by decide) dX8_panes_40 k_472 rfl (SCr hS 0 0 1 rfl) ?_
            refine wg_null X dX8_panes_43 ?_
            refine wg_iload_n X 1 dX8_panes_44 rfl rfl ?_
            refine wg_iload_n X 3 dX8_panes_45 rfl rfl ?_
            obtain ⟨C13, h12, h⟩ := bd_some h
            refine wg_callVv (As := [.ref (ad 1), .null, .int p1, .int p3]) (rest := []) X (c_X7_search l E ad S hS N C M p1 p3  h12) T_yX7_search k_590 cl7 (SCi hS 35 7 rfl) dX8_panes_46 rfl rfl (Nat.le_of_ble_eq_true rfl) ⟨Nat.le_of_ble_eq_true rfl, Nat.le_of_ble_eq_true rfl⟩ ⟨Nat.zero_le _, Nat.zero_le _⟩ ?_
            refine wg_aload_n X 0 dX8_panes_49 rfl rfl ?_
            refine wg_getR (b := 35) X cl8 (SCi hS 0 8 rfl) 6 (by decide) dX8_panes_50 k_478 rfl (SCr hS 0 6 35 rfl) ?_
            refine wg_getR (b := 37) X cl7 (SCi hS 35 7 rfl) 1 (by decide) dX8_panes_53 k_251 rfl (SCr hS 35 1 37 rfl) ?_
            refine wg_iload_n X 2 dX8_panes_56 rfl rfl ?_
            obtain ⟨z14, h⟩ := ck_some h
            refine wg_iald X (SCi hS 37 10 rfl) (SCl hS 37 192 rfl) z14 dX8_panes_57 ?_
            obtain ⟨v15, e16, h⟩ := lt_some h
            refine wg_istore (lv' := [(5, .int v15), (0, .ref (ad 0)), (1, .int p1), (2, .int p2), (3, .int p3), (4, .int p4)]) X dX8_panes_58 e16 (by decide) rfl ?_
            refine wg_iload X 0 dX8_panes_60 rfl ?_
            refine wg_ldc (v := 1000000000) X dX8_panes_62 k_645 ?_
            refine wg_icmp_lt X 69 dX8_panes_64 (by decide) (fun c17 => ?_) (fun c17 => ?_)
            · have h := if_t c17 h
              refine wg_iload X 5 dX8_panes_69 rfl ?_
              refine wg_if_ne X 83 dX8_panes_71 (by decide) (fun c18 => ?_) (fun c18 => ?_)
              · have h := if_f c18 h
                refine wg_iload X 0 dX8_panes_83 rfl ?_
                refine wg_sipush (v := 1000) X dX8_panes_85 (by decide) ?_
                refine wg_irem X dX8_panes_88 (by decide) ?_
                exact wg_iret X ⟨(Prod.mk.inj (sm_inj h)).1, (Prod.mk.inj (sm_inj h)).2, rfl⟩ hr dX8_panes_89
              · have h := if_t c18 h
                refine wg_iload X 0 dX8_panes_74 rfl ?_
                refine wg_sipush (v := 1000) X dX8_panes_76 (by decide) ?_
                refine wg_idiv X dX8_panes_79 (by decide) ?_
                refine wg_goto X 89 dX8_panes_80 (by decide) ?_
                exact wg_iret X ⟨(Prod.mk.inj (sm_inj h)).1, (Prod.mk.inj (sm_inj h)).2, rfl⟩ hr dX8_panes_89
            · have h := if_f c17 h
              refine wg_iconst (v := -1) X dX8_panes_67 (by decide) ?_
              exact wg_iret X ⟨(Prod.mk.inj (sm_inj h)).1, (Prod.mk.inj (sm_inj h)).2, rfl⟩ hr dX8_panes_68
          · have h := if_f c11 h
            refine wg_bipush (v := -2) X dX8_panes_32 (by decide) ?_
            exact wg_iret X ⟨(Prod.mk.inj (sm_inj h)).1, (Prod.mk.inj (sm_inj h)).2, rfl⟩ hr dX8_panes_34
-- WindowsGive$Text.start(I)I ('TX', 'i')
def f_X6_start (S : wg_Sh) (C : wg_C) (p0 : Nat) (p1 : Int32) : Option Int32 :=
  if p1 ≤ 0 then (
    some (0 : Int32))
  else (
    if (3 : Int32) ≤ p1 then (
      some (0 : Int32))
    else (
      ck (inb (p1 - (1 : Int32)) 3) <|
      some (C (p0 + 2) (p1 - (1 : Int32)).toNatClampNeg)))
set_option maxHeartbeats 4000000 in
set_option maxRecDepth 100000 in
theorem c_X6_start (l : Launch) (E : wg_Ev) (ad : Nat → Nat) (S : wg_Sh) (hS : wg_SC S) (C : wg_C) (M : wg_M) (p0 : Nat) (p1 : Int32) (hp0 : wg_Txt S p0) {r0 : Int32} (h : f_X6_start S C p0 p1 = some r0) : wg_Ci l yX6_start cX6_start 2 (some .int) 0 0 E ad S C M [.ref (ad p0), .int p1] r0 C M := by
  refine wg_start (own := RX6) (by decide +kernel) rfl (Nat.le_of_ble_eq_true rfl) ?_
  intro p e s m below meth c X hr hnm
  refine wg_lv (lv' := [(0, .ref (ad p0)), (1, .int p1)]) rfl ?_
  unfold f_X6_start at h
  refine wg_iload_n X 1 dX6_start_0 rfl rfl ?_
  refine wg_if_le X 24 dX6_start_1 (by decide) (fun c1 => ?_) (fun c1 => ?_)
  · have h := if_t c1 h
    refine wg_iconst (v := 0) X dX6_start_24 (by decide) ?_
    exact wg_iret X ⟨(sm_inj h), rfl, rfl⟩ hr dX6_start_25
  · have h := if_f c1 h
    refine wg_iload_n X 1 dX6_start_4 rfl rfl ?_
    refine wg_aload_n X 0 dX6_start_5 rfl rfl ?_
    refine wg_getR (b := (p0 + 2)) X cl6 hp0.1 1 (by decide) dX6_start_6 k_457 rfl hp0.2.2.2.1 ?_
    refine wg_alenC (v := 3) X hp0.2.2.2.2.1 hp0.2.2.2.2.2 (by decide) dX6_start_9 ?_
    refine wg_icmp_ge X 24 dX6_start_10 (by decide) (fun c2 => ?_) (fun c2 => ?_)
    · have h := if_t c2 h
      refine wg_iconst (v := 0) X dX6_start_24 (by decide) ?_
      exact wg_iret X ⟨(sm_inj h), rfl, rfl⟩ hr dX6_start_25
    · have h := if_f c2 h
      refine wg_aload_n X 0 dX6_start_13 rfl rfl ?_
      refine wg_getR (b := (p0 + 2)) X cl6 hp0.1 1 (by decide) dX6_start_14 k_457 rfl hp0.2.2.2.1 ?_
      refine wg_iload_n X 1 dX6_start_17 rfl rfl ?_
      refine wg_iconst (v := 1) X dX6_start_18 (by decide) ?_
      refine wg_isub X dX6_start_19 ?_
      obtain ⟨z3, h⟩ := ck_some h
      refine wg_iald X hp0.2.2.2.2.1 hp0.2.2.2.2.2 z3 dX6_start_20 ?_
      refine wg_goto X 25 dX6_start_21 (by decide) ?_
      exact wg_iret X ⟨(sm_inj h), rfl, rfl⟩ hr dX6_start_25
-- WindowsGive$Text.end(I)I ('TX', 'i')
def f_X6_end (S : wg_Sh) (C : wg_C) (p0 : Nat) (p1 : Int32) : Option Int32 :=
  if p1 < 0 then (
    some (0 : Int32))
  else (
    if (3 : Int32) ≤ p1 then (
      some (0 : Int32))
    else (
      ck (inb p1 3) <|
      some (C (p0 + 2) p1.toNatClampNeg)))
set_option maxHeartbeats 4000000 in
set_option maxRecDepth 100000 in
theorem c_X6_end (l : Launch) (E : wg_Ev) (ad : Nat → Nat) (S : wg_Sh) (hS : wg_SC S) (C : wg_C) (M : wg_M) (p0 : Nat) (p1 : Int32) (hp0 : wg_Txt S p0) {r0 : Int32} (h : f_X6_end S C p0 p1 = some r0) : wg_Ci l yX6_end cX6_end 2 (some .int) 0 0 E ad S C M [.ref (ad p0), .int p1] r0 C M := by
  refine wg_start (own := RX6) (by decide +kernel) rfl (Nat.le_of_ble_eq_true rfl) ?_
  intro p e s m below meth c X hr hnm
  refine wg_lv (lv' := [(0, .ref (ad p0)), (1, .int p1)]) rfl ?_
  unfold f_X6_end at h
  refine wg_iload_n X 1 dX6_end_0 rfl rfl ?_
  refine wg_if_lt X 22 dX6_end_1 (by decide) (fun c1 => ?_) (fun c1 => ?_)
  · have h := if_t c1 h
    refine wg_iconst (v := 0) X dX6_end_22 (by decide) ?_
    exact wg_iret X ⟨(sm_inj h), rfl, rfl⟩ hr dX6_end_23
  · have h := if_f c1 h
    refine wg_iload_n X 1 dX6_end_4 rfl rfl ?_
    refine wg_aload_n X 0 dX6_end_5 rfl rfl ?_
    refine wg_getR (b := (p0 + 2)) X cl6 hp0.1 1 (by decide) dX6_end_6 k_457 rfl hp0.2.2.2.1 ?_
    refine wg_alenC (v := 3) X hp0.2.2.2.2.1 hp0.2.2.2.2.2 (by decide) dX6_end_9 ?_
    refine wg_icmp_ge X 22 dX6_end_10 (by decide) (fun c2 => ?_) (fun c2 => ?_)
    · have h := if_t c2 h
      refine wg_iconst (v := 0) X dX6_end_22 (by decide) ?_
      exact wg_iret X ⟨(sm_inj h), rfl, rfl⟩ hr dX6_end_23
    · have h := if_f c2 h
      refine wg_aload_n X 0 dX6_end_13 rfl rfl ?_
      refine wg_getR (b := (p0 + 2)) X cl6 hp0.1 1 (by decide) dX6_end_14 k_457 rfl hp0.2.2.2.1 ?_
      refine wg_iload_n X 1 dX6_end_17 rfl rfl ?_
      obtain ⟨z3, h⟩ := ck_some h
      refine wg_iald X hp0.2.2.2.2.1 hp0.2.2.2.2.2 z3 dX6_end_18 ?_
      refine wg_goto X 23 dX6_end_19 (by decide) ?_
      exact wg_iret X ⟨(sm_inj h), rfl, rfl⟩ hr dX6_end_23
-- WindowsGive$Rules.nameOf(I)I (('c', 31), 'i')
def f_X3_nameOf (C : wg_C) (p1 : Int32) : Option Int32 :=
  if p1 < 0 then (
    some (0 : Int32))
  else (
    if (6 : Int32) ≤ p1 then (
      some (0 : Int32))
    else (
      ck (inb p1 6) <|
      some (C 33 p1.toNatClampNeg)))
set_option maxHeartbeats 4000000 in
set_option maxRecDepth 100000 in
theorem c_X3_nameOf (l : Launch) (E : wg_Ev) (ad : Nat → Nat) (S : wg_Sh) (hS : wg_SC S) (C : wg_C) (M : wg_M) (p1 : Int32)  {r0 : Int32} (h : f_X3_nameOf C p1 = some r0) : wg_Ci l yX3_nameOf cX3_nameOf 2 (some .int) 0 0 E ad S C M [.ref (ad 31), .int p1] r0 C M := by
  refine wg_start (own := RX3) (by decide +kernel) rfl (Nat.le_of_ble_eq_true rfl) ?_
  intro p e s m below meth c X hr hnm
  refine wg_lv (lv' := [(0, .ref (ad 31)), (1, .int p1)]) rfl ?_
  unfold f_X3_nameOf at h
  refine wg_iload_n X 1 dX3_nameOf_0 rfl rfl ?_
  refine wg_if_lt X 22 dX3_nameOf_1 (by decide) (fun c1 => ?_) (fun c1 => ?_)
  · have h := if_t c1 h
    refine wg_iconst (v := 0) X dX3_nameOf_22 (by decide) ?_
    exact wg_iret X ⟨(sm_inj h), rfl, rfl⟩ hr dX3_nameOf_23
  · have h := if_f c1 h
    refine wg_iload_n X 1 dX3_nameOf_4 rfl rfl ?_
    refine wg_aload_n X 0 dX3_nameOf_5 rfl rfl ?_
    refine wg_getR (b := 33) X cl3 (SCi hS 31 3 rfl) 2 (by decide) dX3_nameOf_6 k_231 rfl (SCr hS 31 2 33 rfl) ?_
    refine wg_alenC (v := 6) X (SCi hS 33 10 rfl) (SCl hS 33 6 rfl) (by decide) dX3_nameOf_9 ?_
    refine wg_icmp_ge X 22 dX3_nameOf_10 (by decide) (fun c2 => ?_) (fun c2 => ?_)
    · have h := if_t c2 h
      refine wg_iconst (v := 0) X dX3_nameOf_22 (by decide) ?_
      exact wg_iret X ⟨(sm_inj h), rfl, rfl⟩ hr dX3_nameOf_23
    · have h := if_f c2 h
      refine wg_aload_n X 0 dX3_nameOf_13 rfl rfl ?_
      refine wg_getR (b := 33) X cl3 (SCi hS 31 3 rfl) 2 (by decide) dX3_nameOf_14 k_231 rfl (SCr hS 31 2 33 rfl) ?_
      refine wg_iload_n X 1 dX3_nameOf_17 rfl rfl ?_
      obtain ⟨z3, h⟩ := ck_some h
      refine wg_iald X (SCi hS 33 10 rfl) (SCl hS 33 6 rfl) z3 dX3_nameOf_18 ?_
      refine wg_goto X 23 dX3_nameOf_19 (by decide) ?_
      exact wg_iret X ⟨(sm_inj h), rfl, rfl⟩ hr dX3_nameOf_23
-- WindowsGive$Rules.truth(Z)I ('i',)
def f_X3_truth (p0 : Int32) : Option Int32 :=
  if p0 = 0 then (
    some (0 : Int32))
  else (
    some (1 : Int32))
set_option maxHeartbeats 4000000 in
set_option maxRecDepth 100000 in
theorem c_X3_truth (l : Launch) (E : wg_Ev) (ad : Nat → Nat) (S : wg_Sh) (C : wg_C) (M : wg_M) (p0 : Int32)  {r0 : Int32} (h : f_X3_truth p0 = some r0) : wg_Ci l yX3_truth cX3_truth 1 (some .int) 0 0 E ad S C M [.int p0] r0 C M := by
  refine wg_start (own := RX3) (by decide +kernel) rfl (Nat.le_of_ble_eq_true rfl) ?_
  intro p e s m below meth c X hr hnm
  refine wg_lv (lv' := [(0, .int p0)]) rfl ?_
  unfold f_X3_truth at h
  refine wg_iload_n X 0 dX3_truth_0 rfl rfl ?_
  refine wg_if_eq X 8 dX3_truth_1 (by decide) (fun c1 => ?_) (fun c1 => ?_)
  · have h := if_t c1 h
    refine wg_iconst (v := 0) X dX3_truth_8 (by decide) ?_
    exact wg_iret X ⟨(sm_inj h), rfl, rfl⟩ hr dX3_truth_9
  · have h := if_f c1 h
    refine wg_iconst (v := 1) X dX3_truth_4 (by decide) ?_
    refine wg_goto X 9 dX3_truth_5 (by decide) ?_
    exact wg_iret X ⟨(sm_inj h), rfl, rfl⟩ hr dX3_truth_9
-- WindowsGive$Rules.joined(III)I ('i', 'i', 'i')
def f_X3_joined (p0 : Int32) (p1 : Int32) (p2 : Int32) : Option Int32 :=
  if p0 = (4 : Int32) then (
    some (p1 + p2))
  else
  if p0 = (5 : Int32) then (
    some (p1 - p2))
  else
  if p0 = (6 : Int32) then (
    some (p1 * p2))
  else
  if p0 = (7 : Int32) then (
    if p2 ≤ p1 then (
      bd (f_X3_truth (0 : Int32)) fun r7 =>
      some r7)
    else (
      bd (f_X3_truth (1 : Int32)) fun r9 =>
      some r9))
  else
  if p0 = (8 : Int32) then (
    if p1 = p2 then (
      bd (f_X3_truth (1 : Int32)) fun r15 =>
      some r15)
    else (
      bd (f_X3_truth (0 : Int32)) fun r13 =>
      some r13))
  else
  if p0 = (9 : Int32) then (
    if p1 = 0 then (
      bd (f_X3_truth (0 : Int32)) fun r19 =>
      some r19)
    else (
      if p2 = 0 then (
        bd (f_X3_truth (0 : Int32)) fun r22 =>
        some r22)
      else (
        bd (f_X3_truth (1 : Int32)) fun r24 =>
        some r24)))
  else
  if p1 = 0 then (
    if p2 = 0 then (
      bd (f_X3_truth (0 : Int32)) fun r30 =>
      some r30)
    else (
      bd (f_X3_truth (1 : Int32)) fun r32 =>
      some r32))
  else (
    bd (f_X3_truth (1 : Int32)) fun r27 =>
    some r27)
set_option maxHeartbeats 4000000 in
set_option maxRecDepth 100000 in
theorem c_X3_joined (l : Launch) (E : wg_Ev) (ad : Nat → Nat) (S : wg_Sh) (C : wg_C) (M : wg_M) (p0 : Int32) (p1 : Int32) (p2 : Int32)  {r0 : Int32} (h : f_X3_joined p0 p1 p2 = some r0) : wg_Ci l yX3_joined cX3_joined 3 (some .int) 1 20 E ad S C M [.int p0, .int p1, .int p2] r0 C M := by
  refine wg_start (own := RX3) (by decide +kernel) rfl (Nat.le_of_ble_eq_true rfl) ?_
  intro p e s m below meth c X hr hnm
  refine wg_lv (lv' := [(0, .int p0), (1, .int p1), (2, .int p2)]) rfl ?_
  unfold f_X3_joined at h
  refine wg_iload_n X 0 dX3_joined_0 rfl rfl ?_
  by_cases c1 : p0 = (4 : Int32)
  · have h := if_t c1 h
    refine wg_tblIn (off := 39) X 40 dX3_joined_1 c1 (by decide) (by decide) (by decide) (by decide) ?_
    refine wg_iload_n X 1 dX3_joined_40 rfl rfl ?_
    refine wg_iload_n X 2 dX3_joined_41 rfl rfl ?_
    refine wg_iadd X dX3_joined_42 ?_
    exact wg_iret X ⟨(sm_inj h), rfl, rfl⟩ hr dX3_joined_43
  have h := if_f c1 h
  by_cases c2 : p0 = (5 : Int32)
  · have h := if_t c2 h
    refine wg_tblIn (off := 43) X 44 dX3_joined_1 c2 (by decide) (by decide) (by decide) (by decide) ?_
    refine wg_iload_n X 1 dX3_joined_44 rfl rfl ?_
    refine wg_iload_n X 2 dX3_joined_45 rfl rfl ?_
    refine wg_isub X dX3_joined_46 ?_
    exact wg_iret X ⟨(sm_inj h), rfl, rfl⟩ hr dX3_joined_47
  have h := if_f c2 h
  by_cases c3 : p0 = (6 : Int32)
  · have h := if_t c3 h
    refine wg_tblIn (off := 47) X 48 dX3_joined_1 c3 (by decide) (by decide) (by decide) (by decide) ?_
    refine wg_iload_n X 1 dX3_joined_48 rfl rfl ?_
    refine wg_iload_n X 2 dX3_joined_49 rfl rfl ?_
    refine wg_imul X dX3_joined_50 ?_
    exact wg_iret X ⟨(sm_inj h), rfl, rfl⟩ hr dX3_joined_51
  have h := if_f c3 h
  by_cases c4 : p0 = (7 : Int32)
  · have h := if_t c4 h
    refine wg_tblIn (off := 51) X 52 dX3_joined_1 c4 (by decide) (by decide) (by decide) (by decide) ?_
    refine wg_iload_n X 1 dX3_joined_52 rfl rfl ?_
    refine wg_iload_n X 2 dX3_joined_53 rfl rfl ?_
    refine wg_icmp_ge X 61 dX3_joined_54 (by decide) (fun c5 => ?_) (fun c5 => ?_)
    · have h := if_t c5 h
      refine wg_iconst (v := 0) X dX3_joined_61 (by decide) ?_
      obtain ⟨r7, h6, h⟩ := bd_some h
      refine wg_callSi (As := [.int (0 : Int32)]) (rest := []) X (c_X3_truth l E ad S C M (0 : Int32)  h6) T_yX3_truth k_633 dX3_joined_62 rfl rfl (Nat.le_of_ble_eq_true rfl) ⟨Nat.le_of_ble_eq_true rfl, Nat.le_of_ble_eq_true rfl⟩ ⟨Nat.zero_le _, Nat.zero_le _⟩ ?_
      exact wg_iret X ⟨(sm_inj h), rfl, rfl⟩ hr dX3_joined_65
    · have h := if_f c5 h
      refine wg_iconst (v := 1) X dX3_joined_57 (by decide) ?_
      refine wg_goto X 62 dX3_joined_58 (by decide) ?_
      obtain ⟨r9, h8, h⟩ := bd_some h
      refine wg_callSi (As := [.int (1 : Int32)]) (rest := []) X (c_X3_truth l E ad S C M (1 : Int32)  h8) T_yX3_truth k_633 dX3_joined_62 rfl rfl (Nat.le_of_ble_eq_true rfl) ⟨Nat.le_of_ble_eq_true rfl, Nat.le_of_ble_eq_true rfl⟩ ⟨Nat.zero_le _, Nat.zero_le _⟩ ?_
      exact wg_iret X ⟨(sm_inj h), rfl, rfl⟩ hr dX3_joined_65
  have h := if_f c4 h
  by_cases c10 : p0 = (8 : Int32)
  · have h := if_t c10 h
    refine wg_tblIn (off := 65) X 66 dX3_joined_1 c10 (by decide) (by decide) (by decide) (by decide) ?_
    refine wg_iload_n X 1 dX3_joined_66 rfl rfl ?_
    refine wg_iload_n X 2 dX3_joined_67 rfl rfl ?_
    refine wg_icmp_ne X 75 dX3_joined_68 (by decide) (fun c11 => ?_) (fun c11 => ?_)
    · have h := if_f c11 h
      refine wg_iconst (v := 0) X dX3_joined_75 (by decide) ?_
      obtain ⟨r13, h12, h⟩ := bd_some h
      refine wg_callSi (As := [.int (0 : Int32)]) (rest := []) X (c_X3_truth l E ad S C M (0 : Int32)  h12) T_yX3_truth k_633 dX3_joined_76 rfl rfl (Nat.le_of_ble_eq_true rfl) ⟨Nat.le_of_ble_eq_true rfl, Nat.le_of_ble_eq_true rfl⟩ ⟨Nat.zero_le _, Nat.zero_le _⟩ ?_
      exact wg_iret X ⟨(sm_inj h), rfl, rfl⟩ hr dX3_joined_79
    · have h := if_t c11 h
      refine wg_iconst (v := 1) X dX3_joined_71 (by decide) ?_
      refine wg_goto X 76 dX3_joined_72 (by decide) ?_
      obtain ⟨r15, h14, h⟩ := bd_some h
      refine wg_callSi (As := [.int (1 : Int32)]) (rest := []) X (c_X3_truth l E ad S C M (1 : Int32)  h14) T_yX3_truth k_633 dX3_joined_76 rfl rfl (Nat.le_of_ble_eq_true rfl) ⟨Nat.le_of_ble_eq_true rfl, Nat.le_of_ble_eq_true rfl⟩ ⟨Nat.zero_le _, Nat.zero_le _⟩ ?_
      exact wg_iret X ⟨(sm_inj h), rfl, rfl⟩ hr dX3_joined_79
  have h := if_f c10 h
  by_cases c16 : p0 = (9 : Int32)
  · have h := if_t c16 h
    refine wg_tblIn (off := 79) X 80 dX3_joined_1 c16 (by decide) (by decide) (by decide) (by decide) ?_
    refine wg_iload_n X 1 dX3_joined_80 rfl rfl ?_
    refine wg_if_eq X 92 dX3_joined_81 (by decide) (fun c17 => ?_) (fun c17 => ?_)
    · have h := if_t c17 h
      refine wg_iconst (v := 0) X dX3_joined_92 (by decide) ?_
      obtain ⟨r19, h18, h⟩ := bd_some h
      refine wg_callSi (As := [.int (0 : Int32)]) (rest := []) X (c_X3_truth l E ad S C M (0 : Int32)  h18) T_yX3_truth k_633 dX3_joined_93 rfl rfl (Nat.le_of_ble_eq_true rfl) ⟨Nat.le_of_ble_eq_true rfl, Nat.le_of_ble_eq_true rfl⟩ ⟨Nat.zero_le _, Nat.zero_le _⟩ ?_
      exact wg_iret X ⟨(sm_inj h), rfl, rfl⟩ hr dX3_joined_96
    · have h := if_f c17 h
      refine wg_iload_n X 2 dX3_joined_84 rfl rfl ?_
      refine wg_if_eq X 92 dX3_joined_85 (by decide) (fun c20 => ?_) (fun c20 => ?_)
      · have h := if_t c20 h
        refine wg_iconst (v := 0) X dX3_joined_92 (by decide) ?_
        obtain ⟨r22, h21, h⟩ := bd_some h
        refine wg_callSi (As := [.int (0 : Int32)]) (rest := []) X (c_X3_truth l E ad S C M (0 : Int32)  h21) T_yX3_truth k_633 dX3_joined_93 rfl rfl (Nat.le_of_ble_eq_true rfl) ⟨Nat.le_of_ble_eq_true rfl, Nat.le_of_ble_eq_true rfl⟩ ⟨Nat.zero_le _, Nat.zero_le _⟩ ?_
        exact wg_iret X ⟨(sm_inj h), rfl, rfl⟩ hr dX3_joined_96
      · have h := if_f c20 h
        refine wg_iconst (v := 1) X dX3_joined_88 (by decide) ?_
        refine wg_goto X 93 dX3_joined_89 (by decide) ?_
        obtain ⟨r24, h23, h⟩ := bd_some h
        refine wg_callSi (As := [.int (1 : Int32)]) (rest := []) X (c_X3_truth l E ad S C M (1 : Int32)  h23) T_yX3_truth k_633 dX3_joined_93 rfl rfl (Nat.le_of_ble_eq_true rfl) ⟨Nat.le_of_ble_eq_true rfl, Nat.le_of_ble_eq_true rfl⟩ ⟨Nat.zero_le _, Nat.zero_le _⟩ ?_
        exact wg_iret X ⟨(sm_inj h), rfl, rfl⟩ hr dX3_joined_96
  have h := if_f c16 h
  refine wg_tblOut X 97 dX3_joined_1 (wg_tout (4) (9) (fun k hk => by
      rcases (show k = 0 ∨ k = 1 ∨ k = 2 ∨ k = 3 ∨ k = 4 ∨ k = 5 by omega) with rfl | rfl | rfl | rfl | rfl | rfl
      · exact fun q => c1 (q.trans (by decide))
      · exact fun q => c2 (q.trans (by decide))
      · exact fun q => c3 (q.trans (by decide))
      · exact fun q => c4 (q.trans (by decide))
      · exact fun q => c10 (q.trans (by decide))
      · exact fun q => c16 (q.trans (by decide))) (by decide) (by decide)) (by decide) ?_
  refine wg_iload_n X 1 dX3_joined_97 rfl rfl ?_
  refine wg_if_ne X 105 dX3_joined_98 (by decide) (fun c25 => ?_) (fun c25 => ?_)
  · have h := if_f c25 h
    refine wg_iconst (v := 1) X dX3_joined_105 (by decide) ?_
    refine wg_goto X 110 dX3_joined_106 (by decide) ?_
    obtain ⟨r27, h26, h⟩ := bd_some h
    refine wg_callSi (As := [.int (1 : Int32)]) (rest := []) X (c_X3_truth l E ad S C M (1 : Int32)  h26) T_yX3_truth k_633 dX3_joined_110 rfl rfl (Nat.le_of_ble_eq_true rfl) ⟨Nat.le_of_ble_eq_true rfl, Nat.le_of_ble_eq_true rfl⟩ ⟨Nat.zero_le _, Nat.zero_le _⟩ ?_
    exact wg_iret X ⟨(sm_inj h), rfl, rfl⟩ hr dX3_joined_113
  · have h := if_t c25 h
    refine wg_iload_n X 2 dX3_joined_101 rfl rfl ?_
    refine wg_if_eq X 109 dX3_joined_102 (by decide) (fun c28 => ?_) (fun c28 => ?_)
    · have h := if_t c28 h
      refine wg_iconst (v := 0) X dX3_joined_109 (by decide) ?_
      obtain ⟨r30, h29, h⟩ := bd_some h
      refine wg_callSi (As := [.int (0 : Int32)]) (rest := []) X (c_X3_truth l E ad S C M (0 : Int32)  h29) T_yX3_truth k_633 dX3_joined_110 rfl rfl (Nat.le_of_ble_eq_true rfl) ⟨Nat.le_of_ble_eq_true rfl, Nat.le_of_ble_eq_true rfl⟩ ⟨Nat.zero_le _, Nat.zero_le _⟩ ?_
      exact wg_iret X ⟨(sm_inj h), rfl, rfl⟩ hr dX3_joined_113
    · have h := if_f c28 h
      refine wg_iconst (v := 1) X dX3_joined_105 (by decide) ?_
      refine wg_goto X 110 dX3_joined_106 (by decide) ?_
      obtain ⟨r32, h31, h⟩ := bd_some h
      refine wg_callSi (As := [.int (1 : Int32)]) (rest := []) X (c_X3_truth l E ad S C M (1 : Int32)  h31) T_yX3_truth k_633 dX3_joined_110 rfl rfl (Nat.le_of_ble_eq_true rfl) ⟨Nat.le_of_ble_eq_true rfl, Nat.le_of_ble_eq_true rfl⟩ ⟨Nat.zero_le _, Nat.zero_le _⟩ ?_
      exact wg_iret X ⟨(sm_inj h), rfl, rfl⟩ hr dX3_joined_113
