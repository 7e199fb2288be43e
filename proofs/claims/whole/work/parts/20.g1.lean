-- WindowsGive$House.has(I)Z (('c', 1), 'i')
def f_X0_has (C : wg_C) (p1 : Int32) : Option Int32 :=
  if p1 < 0 then (
    some (0 : Int32))
  else (
    if (C 1 2) ≤ p1 then (
      some (0 : Int32))
    else (
      some (1 : Int32)))
set_option maxHeartbeats 4000000 in
set_option maxRecDepth 100000 in
theorem c_X0_has (l : Launch) (E : wg_Ev) (ad : Nat → Nat) (S : wg_Sh) (hS : wg_SC S) (C : wg_C) (M : wg_M) (p1 : Int32)  {r0 : Int32} (h : f_X0_has C p1 = some r0) : wg_Ci l yX0_has cX0_has 2 (some .boolean) 0 0 E ad S C M [.ref (ad 1), .int p1] r0 C M := by
  refine wg_start (own := RX0) (by decide +kernel) rfl (Nat.le_of_ble_eq_true rfl) ?_
  intro p e s m below meth c X hr hnm
  refine wg_lv (lv' := [(0, .ref (ad 1)), (1, .int p1)]) rfl ?_
  unfold f_X0_has at h
  refine wg_iload_n X 1 dX0_has_0 rfl rfl ?_
  refine wg_if_lt X 16 dX0_has_1 (by decide) (fun c1 => ?_) (fun c1 => ?_)
  · have h := if_t c1 h
    refine wg_iconst (v := 0) X dX0_has_16 (by decide) ?_
    exact wg_zret X ⟨(sm_inj h), rfl, rfl⟩ hr (by decide) dX0_has_17
  · have h := if_f c1 h
    refine wg_iload_n X 1 dX0_has_4 rfl rfl ?_
    refine wg_aload_n X 0 dX0_has_5 rfl rfl ?_
    refine wg_getC X cl0 (SCi hS 1 0 rfl) 2 (by decide) dX0_has_6 k_146 rfl ?_
    refine wg_icmp_ge X 16 dX0_has_9 (by decide) (fun c2 => ?_) (fun c2 => ?_)
    · have h := if_t c2 h
      refine wg_iconst (v := 0) X dX0_has_16 (by decide) ?_
      exact wg_zret X ⟨(sm_inj h), rfl, rfl⟩ hr (by decide) dX0_has_17
    · have h := if_f c2 h
      refine wg_iconst (v := 1) X dX0_has_12 (by decide) ?_
      refine wg_goto X 17 dX0_has_13 (by decide) ?_
      exact wg_zret X ⟨(sm_inj h), rfl, rfl⟩ hr (by decide) dX0_has_17
-- WindowsGive$Pane.leads()I ('P',)
def f_X1_leads (C : wg_C) (p0 : Nat) : Option Int32 :=
  if (C p0 1) = (4 : Int32) then (
    some (C p0 4))
  else (
    some (C p0 5))
set_option maxHeartbeats 4000000 in
set_option maxRecDepth 100000 in
theorem c_X1_leads (l : Launch) (E : wg_Ev) (ad : Nat → Nat) (S : wg_Sh) (hS : wg_SC S) (C : wg_C) (M : wg_M) (p0 : Nat) (hp0 : wg_id S p0 1) {r0 : Int32} (h : f_X1_leads C p0 = some r0) : wg_Ci l yX1_leads cX1_leads 1 (some .int) 0 0 E ad S C M [.ref (ad p0)] r0 C M := by
  refine wg_start (own := RX1) (by decide +kernel) rfl (Nat.le_of_ble_eq_true rfl) ?_
  intro p e s m below meth c X hr hnm
  refine wg_lv (lv' := [(0, .ref (ad p0))]) rfl ?_
  unfold f_X1_leads at h
  refine wg_aload_n X 0 dX1_leads_0 rfl rfl ?_
  refine wg_getC X cl1 hp0 1 (by decide) dX1_leads_1 k_112 rfl ?_
  refine wg_iconst (v := 4) X dX1_leads_4 (by decide) ?_
  refine wg_icmp_ne X 15 dX1_leads_5 (by decide) (fun c1 => ?_) (fun c1 => ?_)
  · have h := if_f c1 h
    refine wg_aload_n X 0 dX1_leads_15 rfl rfl ?_
    refine wg_getC X cl1 hp0 5 (by decide) dX1_leads_16 k_124 rfl ?_
    exact wg_iret X ⟨(sm_inj h), rfl, rfl⟩ hr dX1_leads_19
  · have h := if_t c1 h
    refine wg_aload_n X 0 dX1_leads_8 rfl rfl ?_
    refine wg_getC X cl1 hp0 4 (by decide) dX1_leads_9 k_120 rfl ?_
    refine wg_goto X 19 dX1_leads_12 (by decide) ?_
    exact wg_iret X ⟨(sm_inj h), rfl, rfl⟩ hr dX1_leads_19
-- WindowsGive$Pane.tell(I)I ('P', 'i')
def f_X1_tell (C : wg_C) (p0 : Nat) (p1 : Int32) : Option Int32 :=
  if p1 = (1 : Int32) then (
    some (C p0 2))
  else
  if p1 = (2 : Int32) then (
    some (C p0 3))
  else
  if p1 = (3 : Int32) then (
    some (C p0 4))
  else
  if p1 = (4 : Int32) then (
    some (C p0 5))
  else
  if p1 = (5 : Int32) then (
    some (C p0 1))
  else
  if p1 = (6 : Int32) then (
    bd (f_X1_leads C p0) fun r8 =>
    some r8)
  else
  some (-100 : Int32)
set_option maxHeartbeats 4000000 in
set_option maxRecDepth 100000 in
theorem c_X1_tell (l : Launch) (E : wg_Ev) (ad : Nat → Nat) (S : wg_Sh) (hS : wg_SC S) (C : wg_C) (M : wg_M) (p0 : Nat) (p1 : Int32) (hp0 : wg_id S p0 1) {r0 : Int32} (h : f_X1_tell C p0 p1 = some r0) : wg_Ci l yX1_tell cX1_tell 2 (some .int) 1 20 E ad S C M [.ref (ad p0), .int p1] r0 C M := by
  refine wg_start (own := RX1) (by decide +kernel) rfl (Nat.le_of_ble_eq_true rfl) ?_
  intro p e s m below meth c X hr hnm
  refine wg_lv (lv' := [(0, .ref (ad p0)), (1, .int p1)]) rfl ?_
  unfold f_X1_tell at h
  refine wg_iload_n X 1 dX1_tell_0 rfl rfl ?_
  by_cases c1 : p1 = (1 : Int32)
  · have h := if_t c1 h
    refine wg_tblIn (off := 39) X 40 dX1_tell_1 c1 (by decide) (by decide) (by decide) (by decide) ?_
    refine wg_aload_n X 0 dX1_tell_40 rfl rfl ?_
    refine wg_getC X cl1 hp0 2 (by decide) dX1_tell_41 k_114 rfl ?_
    exact wg_iret X ⟨(sm_inj h), rfl, rfl⟩ hr dX1_tell_44
  have h := if_f c1 h
  by_cases c2 : p1 = (2 : Int32)
  · have h := if_t c2 h
    refine wg_tblIn (off := 44) X 45 dX1_tell_1 c2 (by decide) (by decide) (by decide) (by decide) ?_
    refine wg_aload_n X 0 dX1_tell_45 rfl rfl ?_
    refine wg_getC X cl1 hp0 3 (by decide) dX1_tell_46 k_117 rfl ?_
    exact wg_iret X ⟨(sm_inj h), rfl, rfl⟩ hr dX1_tell_49
  have h := if_f c2 h
  by_cases c3 : p1 = (3 : Int32)
  · have h := if_t c3 h
    refine wg_tblIn (off := 49) X 50 dX1_tell_1 c3 (by decide) (by decide) (by decide) (by decide) ?_
    refine wg_aload_n X 0 dX1_tell_50 rfl rfl ?_
    refine wg_getC X cl1 hp0 4 (by decide) dX1_tell_51 k_120 rfl ?_
    exact wg_iret X ⟨(sm_inj h), rfl, rfl⟩ hr dX1_tell_54
  have h := if_f c3 h
  by_cases c4 : p1 = (4 : Int32)
  · have h := if_t c4 h
    refine wg_tblIn (off := 54) X 55 dX1_tell_1 c4 (by decide) (by decide) (by decide) (by decide) ?_
    refine wg_aload_n X 0 dX1_tell_55 rfl rfl ?_
    refine wg_getC X cl1 hp0 5 (by decide) dX1_tell_56 k_124 rfl ?_
    exact wg_iret X ⟨(sm_inj h), rfl, rfl⟩ hr dX1_tell_59
  have h := if_f c4 h
  by_cases c5 : p1 = (5 : Int32)
  · have h := if_t c5 h
    refine wg_tblIn (off := 59) X 60 dX1_tell_1 c5 (by decide) (by decide) (by decide) (by decide) ?_
    refine wg_aload_n X 0 dX1_tell_60 rfl rfl ?_
    refine wg_getC X cl1 hp0 1 (by decide) dX1_tell_61 k_112 rfl ?_
    exact wg_iret X ⟨(sm_inj h), rfl, rfl⟩ hr dX1_tell_64
  have h := if_f c5 h
  by_cases c6 : p1 = (6 : Int32)
  · have h := if_t c6 h
    refine wg_tblIn (off := 64) X 65 dX1_tell_1 c6 (by decide) (by decide) (by decide) (by decide) ?_
    refine wg_aload_n X 0 dX1_tell_65 rfl rfl ?_
    obtain ⟨r8, h7, h⟩ := bd_some h
    refine wg_callVi (As := []) (rest := []) X (c_X1_leads l E ad S hS C M p0 hp0 h7) T_yX1_leads k_528 cl1 hp0 dX1_tell_66 rfl rfl (Nat.le_of_ble_eq_true rfl) ⟨Nat.le_of_ble_eq_true rfl, Nat.le_of_ble_eq_true rfl⟩ ⟨Nat.zero_le _, Nat.zero_le _⟩ ?_
    exact wg_iret X ⟨(sm_inj h), rfl, rfl⟩ hr dX1_tell_69
  have h := if_f c6 h
  refine wg_tblOut X 70 dX1_tell_1 (wg_tout (1) (6) (fun k hk => by
      rcases (show k = 0 ∨ k = 1 ∨ k = 2 ∨ k = 3 ∨ k = 4 ∨ k = 5 by omega) with rfl | rfl | rfl | rfl | rfl | rfl
      · exact fun q => c1 (q.trans (by decide))
      · exact fun q => c2 (q.trans (by decide))
      · exact fun q => c3 (q.trans (by decide))
      · exact fun q => c4 (q.trans (by decide))
      · exact fun q => c5 (q.trans (by decide))
      · exact fun q => c6 (q.trans (by decide))) (by decide) (by decide)) (by decide) ?_
  refine wg_bipush (v := -100) X dX1_tell_70 (by decide) ?_
  exact wg_iret X ⟨(sm_inj h), rfl, rfl⟩ hr dX1_tell_72
-- WindowsGive.isDay(I)Z ('i',)
def f_X8_isDay (p0 : Int32) : Option Int32 :=
  if p0 < 0 then (
    some (0 : Int32))
  else (
    if (32 : Int32) ≤ p0 then (
      some (0 : Int32))
    else (
      some (1 : Int32)))
set_option maxHeartbeats 4000000 in
set_option maxRecDepth 100000 in
theorem c_X8_isDay (l : Launch) (E : wg_Ev) (ad : Nat → Nat) (S : wg_Sh) (C : wg_C) (M : wg_M) (p0 : Int32)  {r0 : Int32} (h : f_X8_isDay p0 = some r0) : wg_Ci l yX8_isDay cX8_isDay 1 (some .boolean) 0 0 E ad S C M [.int p0] r0 C M := by
  refine wg_start (own := RX8) (by decide +kernel) rfl (Nat.le_of_ble_eq_true rfl) ?_
  intro p e s m below meth c X hr hnm
  refine wg_lv (lv' := [(0, .int p0)]) rfl ?_
  unfold f_X8_isDay at h
  refine wg_iload_n X 0 dX8_isDay_0 rfl rfl ?_
  refine wg_if_lt X 14 dX8_isDay_1 (by decide) (fun c1 => ?_) (fun c1 => ?_)
  · have h := if_t c1 h
    refine wg_iconst (v := 0) X dX8_isDay_14 (by decide) ?_
    exact wg_zret X ⟨(sm_inj h), rfl, rfl⟩ hr (by decide) dX8_isDay_15
  · have h := if_f c1 h
    refine wg_iload_n X 0 dX8_isDay_4 rfl rfl ?_
    refine wg_bipush (v := 32) X dX8_isDay_5 (by decide) ?_
    refine wg_icmp_ge X 14 dX8_isDay_7 (by decide) (fun c2 => ?_) (fun c2 => ?_)
    · have h := if_t c2 h
      refine wg_iconst (v := 0) X dX8_isDay_14 (by decide) ?_
      exact wg_zret X ⟨(sm_inj h), rfl, rfl⟩ hr (by decide) dX8_isDay_15
    · have h := if_f c2 h
      refine wg_iconst (v := 1) X dX8_isDay_10 (by decide) ?_
      refine wg_goto X 15 dX8_isDay_11 (by decide) ?_
      exact wg_zret X ⟨(sm_inj h), rfl, rfl⟩ hr (by decide) dX8_isDay_15
-- WindowsGive.told(II)I (('c', 0), 'i', 'i')
def f_X8_told (C : wg_C) (p1 : Int32) (p2 : Int32) : Option Int32 :=
  if p2 = 0 then (
    bd (f_X8_isDay p1) fun r9 =>
    if r9 = 0 then (
      some (-100 : Int32))
    else (
      ck (inb p1 32) <|
      some (C 2 p1.toNatClampNeg)))
  else (
    bd (f_X0_has C p1) fun r3 =>
    if r3 = 0 then (
      some (-100 : Int32))
    else (
      ck (inb p1 8) <|
      bd (f_X1_tell C (4 + p1.toNatClampNeg) p2) fun r7 =>
      some r7))
set_option maxHeartbeats 4000000 in
set_option maxRecDepth 100000 in
theorem c_X8_told (l : Launch) (E : wg_Ev) (ad : Nat → Nat) (S : wg_Sh) (hS : wg_SC S) (C : wg_C) (M : wg_M) (p1 : Int32) (p2 : Int32)  {r0 : Int32} (h : f_X8_told C p1 p2 = some r0) : wg_Ci l yX8_told cX8_told 3 (some .int) 2 41 E ad S C M [.ref (ad 0), .int p1, .int p2] r0 C M := by
  refine wg_start (own := RX8) (by decide +kernel) rfl (Nat.le_of_ble_eq_true rfl) ?_
  intro p e s m below meth c X hr hnm
  refine wg_lv (lv' := [(0, .ref (ad 0)), (1, .int p1), (2, .int p2)]) rfl ?_
  unfold f_X8_told at h
  refine wg_iload_n X 2 dX8_told_0 rfl rfl ?_
  refine wg_if_ne X 26 dX8_told_1 (by decide) (fun c1 => ?_) (fun c1 => ?_)
  · have h := if_f c1 h
    refine wg_aload_n X 0 dX8_told_26 rfl rfl ?_
    refine wg_getR (b := 1) X cl8 (SCi hS 0 8 rfl) 0 (by decide) dX8_told_27 k_472 rfl (SCr hS 0 0 1 rfl) ?_
    refine wg_iload_n X 1 dX8_told_30 rfl rfl ?_
    obtain ⟨r3, h2, h⟩ := bd_some h
    refine wg_callVi (As := [.int p1]) (rest := []) X (c_X0_has l E ad S hS C M p1  h2) T_yX0_has k_520 cl0 (SCi hS 1 0 rfl) dX8_told_31 rfl rfl (Nat.le_of_ble_eq_true rfl) ⟨Nat.le_of_ble_eq_true rfl, Nat.le_of_ble_eq_true rfl⟩ ⟨Nat.zero_le _, Nat.zero_le _⟩ ?_
    refine wg_if_eq X 53 dX8_told_34 (by decide) (fun c4 => ?_) (fun c4 => ?_)
    · have h := if_t c4 h
      refine wg_bipush (v := -100) X dX8_told_53 (by decide) ?_
      exact wg_iret X ⟨(sm_inj h), rfl, rfl⟩ hr dX8_told_55
    · have h := if_f c4 h
      refine wg_aload_n X 0 dX8_told_37 rfl rfl ?_
      refine wg_getR (b := 1) X cl8 (SCi hS 0 8 rfl) 0 (by decide) dX8_told_38 k_472 rfl (SCr hS 0 0 1 rfl) ?_
      refine wg_getR (b := 3) X cl0 (SCi hS 1 0 rfl) 1 (by decide) dX8_told_41 k_144 rfl (SCr hS 1 1 3 rfl) ?_
      refine wg_iload_n X 1 dX8_told_44 rfl rfl ?_
      obtain ⟨z5, h⟩ := ck_some h
      refine wg_aalS13 (b := 4 + p1.toNatClampNeg) X (SCi hS 3 13 rfl) (SCl hS 3 8 rfl) z5 (SCp hS (inb_lt z5)).1 dX8_told_45 ?_
      refine wg_iload_n X 2 dX8_told_46 rfl rfl ?_
      obtain ⟨r7, h6, h⟩ := bd_some h
      refine wg_callVi (As := [.int p2]) (rest := []) X (c_X1_tell l E ad S hS C M (4 + p1.toNatClampNeg) p2 ((SCp hS (inb_lt z5)).2.1) h6) T_yX1_tell k_524 cl1 ((SCp hS (inb_lt z5)).2.1) dX8_told_47 rfl rfl (Nat.le_of_ble_eq_true rfl) ⟨Nat.le_of_ble_eq_true rfl, Nat.le_of_ble_eq_true rfl⟩ ⟨Nat.zero_le _, Nat.zero_le _⟩ ?_
      refine wg_goto X 55 dX8_told_50 (by decide) ?_
      exact wg_iret X ⟨(sm_inj h), rfl, rfl⟩ hr dX8_told_55
  · have h := if_t c1 h
    refine wg_iload_n X 1 dX8_told_4 rfl rfl ?_
    obtain ⟨r9, h8, h⟩ := bd_some h
    refine wg_callSi (As := [.int p1]) (rest := []) X (c_X8_isDay l E ad S C M p1  h8) T_yX8_isDay k_517 dX8_told_5 rfl rfl (Nat.le_of_ble_eq_true rfl) ⟨Nat.le_of_ble_eq_true rfl, Nat.le_of_ble_eq_true rfl⟩ ⟨Nat.zero_le _, Nat.zero_le _⟩ ?_
    refine wg_if_eq X 23 dX8_told_8 (by decide) (fun c10 => ?_) (fun c10 => ?_)
    · have h := if_t c10 h
      refine wg_bipush (v := -100) X dX8_told_23 (by decide) ?_
      exact wg_iret X ⟨(sm_inj h), rfl, rfl⟩ hr dX8_told_25
    · have h := if_f c10 h
      refine wg_aload_n X 0 dX8_told_11 rfl rfl ?_
      refine wg_getR (b := 1) X cl8 (SCi hS 0 8 rfl) 0 (by decide) dX8_told_12 k_472 rfl (SCr hS 0 0 1 rfl) ?_
      refine wg_getR (b := 2) X cl0 (SCi hS 1 0 rfl) 0 (by decide) dX8_told_15 k_141 rfl (SCr hS 1 0 2 rfl) ?_
      refine wg_iload_n X 1 dX8_told_18 rfl rfl ?_
      obtain ⟨z11, h⟩ := ck_some h
      refine wg_iald X (SCi hS 2 10 rfl) (SCl hS 2 32 rfl) z11 dX8_told_19 ?_
      refine wg_goto X 25 dX8_told_20 (by decide) ?_
      exact wg_iret X ⟨(sm_inj h), rfl, rfl⟩ hr dX8_told_25
-- WindowsGive.isRoom(I)Z ('i',)
def f_X8_isRoom (p0 : Int32) : Option Int32 :=
  if p0 < 0 then (
    some (0 : Int32))
  else (
    if (6 : Int32) ≤ p0 then (
      some (0 : Int32))
    else (
      some (1 : Int32)))
set_option maxHeartbeats 4000000 in
set_option maxRecDepth 100000 in
theorem c_X8_isRoom (l : Launch) (E : wg_Ev) (ad : Nat → Nat) (S : wg_Sh) (C : wg_C) (M : wg_M) (p0 : Int32)  {r0 : Int32} (h : f_X8_isRoom p0 = some r0) : wg_Ci l yX8_isRoom cX8_isRoom 1 (some .boolean) 0 0 E ad S C M [.int p0] r0 C M := by
  refine wg_start (own := RX8) (by decide +kernel) rfl (Nat.le_of_ble_eq_true rfl) ?_
  intro p e s m below meth c X hr hnm
  refine wg_lv (lv' := [(0, .int p0)]) rfl ?_
  unfold f_X8_isRoom at h
  refine wg_iload_n X 0 dX8_isRoom_0 rfl rfl ?_
  refine wg_if_lt X 14 dX8_isRoom_1 (by decide) (fun c1 => ?_) (fun c1 => ?_)
  · have h := if_t c1 h
    refine wg_iconst (v := 0) X dX8_isRoom_14 (by decide) ?_
    exact wg_zret X ⟨(sm_inj h), rfl, rfl⟩ hr (by decide) dX8_isRoom_15
  · have h := if_f c1 h
    refine wg_iload_n X 0 dX8_isRoom_4 rfl rfl ?_
    refine wg_bipush (v := 6) X dX8_isRoom_5 (by decide) ?_
    refine wg_icmp_ge X 14 dX8_isRoom_7 (by decide) (fun c2 => ?_) (fun c2 => ?_)
    · have h := if_t c2 h
      refine wg_iconst (v := 0) X dX8_isRoom_14 (by decide) ?_
      exact wg_zret X ⟨(sm_inj h), rfl, rfl⟩ hr (by decide) dX8_isRoom_15
    · have h := if_f c2 h
      refine wg_iconst (v := 1) X dX8_isRoom_10 (by decide) ?_
      refine wg_goto X 15 dX8_isRoom_11 (by decide) ?_
      exact wg_zret X ⟨(sm_inj h), rfl, rfl⟩ hr (by decide) dX8_isRoom_15
-- WindowsGive.fits(II)Z ('i', 'i')
def f_X8_fits (p0 : Int32) (p1 : Int32) : Option Int32 :=
  if p0 = (0 : Int32) then (
    if p1 < 0 then (
      some (0 : Int32))
    else (
      if (9 : Int32) < p1 then (
        some (0 : Int32))
      else (
        some (1 : Int32))))
  else
  if p0 = (1 : Int32) then (
    if p1 < 0 then (
      some (0 : Int32))
    else (
      if (9 : Int32) < p1 then (
        some (0 : Int32))
      else (
        some (1 : Int32))))
  else
  if p0 = (2 : Int32) then (
    if p1 < (-9 : Int32) then (
      some (0 : Int32))
    else (
      if (9 : Int32) < p1 then (
        some (0 : Int32))
      else (
        some (1 : Int32))))
  else
  if p0 = (3 : Int32) then (
    bd (f_X8_isRoom p1) fun r12 =>
    ck (r12 = 0 ∨ r12 = 1) <|
    some r12)
  else
  if p0 = (4 : Int32) then (
    bd (f_X8_isRoom p1) fun r16 =>
    ck (r16 = 0 ∨ r16 = 1) <|
    some r16)
  else
  some (0 : Int32)
set_option maxHeartbeats 4000000 in
set_option maxRecDepth 100000 in
theorem c_X8_fits (l : Launch) (E : wg_Ev) (ad : Nat → Nat) (S : wg_Sh) (C : wg_C) (M : wg_M) (p0 : Int32) (p1 : Int32)  {r0 : Int32} (h : f_X8_fits p0 p1 = some r0) : wg_Ci l yX8_fits cX8_fits 2 (some .boolean) 1 20 E ad S C M [.int p0, .int p1] r0 C M := by
  refine wg_start (own := RX8) (by decide +kernel) rfl (Nat.le_of_ble_eq_true rfl) ?_
  intro p e s m below meth c X hr hnm
  refine wg_lv (lv' := [(0, .int p0), (1, .int p1)]) rfl ?_
  unfold f_X8_fits at h
  refine wg_iload_n X 0 dX8_fits_0 rfl rfl ?_
  by_cases c1 : p0 = (0 : Int32)
  · have h := if_t c1 h
    refine wg_tblIn (off := 35) X 36 dX8_fits_1 c1 (by decide) (by decide) (by decide) (by decide) ?_
    refine wg_iload_n X 1 dX8_fits_36 rfl rfl ?_
    refine wg_if_lt X 50 dX8_fits_37 (by decide) (fun c2 => ?_) (fun c2 => ?_)
    · have h := if_t c2 h
      refine wg_iconst (v := 0) X dX8_fits_50 (by decide) ?_
      exact wg_zret X ⟨(sm_inj h), rfl, rfl⟩ hr (by decide) dX8_fits_51
    · have h := if_f c2 h
      refine wg_iload_n X 1 dX8_fits_40 rfl rfl ?_
      refine wg_bipush (v := 9) X dX8_fits_41 (by decide) ?_
      refine wg_icmp_gt X 50 dX8_fits_43 (by decide) (fun c3 => ?_) (fun c3 => ?_)
      · have h := if_t c3 h
        refine wg_iconst (v := 0) X dX8_fits_50 (by decide) ?_
        exact wg_zret X ⟨(sm_inj h), rfl, rfl⟩ hr (by decide) dX8_fits_51
      · have h := if_f c3 h
        refine wg_iconst (v := 1) X dX8_fits_46 (by decide) ?_
        refine wg_goto X 51 dX8_fits_47 (by decide) ?_
        exact wg_zret X ⟨(sm_inj h), rfl, rfl⟩ hr (by decide) dX8_fits_51
  have h := if_f c1 h
  by_cases c4 : p0 = (1 : Int32)
  · have h := if_t c4 h
    refine wg_tblIn (off := 51) X 52 dX8_fits_1 c4 (by decide) (by decide) (by decide) (by decide) ?_
    refine wg_iload_n X 1 dX8_fits_52 rfl rfl ?_
    refine wg_if_lt X 66 dX8_fits_53 (by decide) (fun c5 => ?_) (fun c5 => ?_)
    · have h := if_t c5 h
      refine wg_iconst (v := 0) X dX8_fits_66 (by decide) ?_
      exact wg_zret X ⟨(sm_inj h), rfl, rfl⟩ hr (by decide) dX8_fits_67
    · have h := if_f c5 h
      refine wg_iload_n X 1 dX8_fits_56 rfl rfl ?_
      refine wg_bipush (v := 9) X dX8_fits_57 (by decide) ?_
      refine wg_icmp_gt X 66 dX8_fits_59 (by decide) (fun c6 => ?_) (fun c6 => ?_)
      · have h := if_t c6 h
        refine wg_iconst (v := 0) X dX8_fits_66 (by decide) ?_
        exact wg_zret X ⟨(sm_inj h), rfl, rfl⟩ hr (by decide) dX8_fits_67
      · have h := if_f c6 h
        refine wg_iconst (v := 1) X dX8_fits_62 (by decide) ?_
        refine wg_goto X 67 dX8_fits_63 (by decide) ?_
        exact wg_zret X ⟨(sm_inj h), rfl, rfl⟩ hr (by decide) dX8_fits_67
  have h := if_f c4 h
  by_cases c7 : p0 = (2 : Int32)
  · have h := if_t c7 h
    refine wg_tblIn (off := 67) X 68 dX8_fits_1 c7 (by decide) (by decide) (by decide) (by decide) ?_
    refine wg_iload_n X 1 dX8_fits_68 rfl rfl ?_
    refine wg_bipush (v := -9) X dX8_fits_69 (by decide) ?_
    refine wg_icmp_lt X 84 dX8_fits_71 (by decide) (fun c8 => ?_) (fun c8 => ?_)
    · have h := if_t c8 h
      refine wg_iconst (v := 0) X dX8_fits_84 (by decide) ?_
      exact wg_zret X ⟨(sm_inj h), rfl, rfl⟩ hr (by decide) dX8_fits_85
    · have h := if_f c8 h
      refine wg_iload_n X 1 dX8_fits_74 rfl rfl ?_
      refine wg_bipush (v := 9) X dX8_fits_75 (by decide) ?_
      refine wg_icmp_gt X 84 dX8_fits_77 (by decide) (fun c9 => ?_) (fun c9 => ?_)
      · have h := if_t c9 h
        refine wg_iconst (v := 0) X dX8_fits_84 (by decide) ?_
        exact wg_zret X ⟨(sm_inj h), rfl, rfl⟩ hr (by decide) dX8_fits_85
      · have h := if_f c9 h
        refine wg_iconst (v := 1) X dX8_fits_80 (by decide) ?_
        refine wg_goto X 85 dX8_fits_81 (by decide) ?_
        exact wg_zret X ⟨(sm_inj h), rfl, rfl⟩ hr (by decide) dX8_fits_85
  have h := if_f c7 h
  by_cases c10 : p0 = (3 : Int32)
  · have h := if_t c10 h
    refine wg_tblIn (off := 85) X 86 dX8_fits_1 c10 (by decide) (by decide) (by decide) (by decide) ?_
    refine wg_iload_n X 1 dX8_fits_86 rfl rfl ?_
    obtain ⟨r12, h11, h⟩ := bd_some h
    refine wg_callSi (As := [.int p1]) (rest := []) X (c_X8_isRoom l E ad S C M p1  h11) T_yX8_isRoom k_535 dX8_fits_87 rfl rfl (Nat.le_of_ble_eq_true rfl) ⟨Nat.le_of_ble_eq_true rfl, Nat.le_of_ble_eq_true rfl⟩ ⟨Nat.zero_le _, Nat.zero_le _⟩ ?_
    obtain ⟨z13, h⟩ := ck_some h
    exact wg_zret X ⟨(sm_inj h), rfl, rfl⟩ hr z13 dX8_fits_90
  have h := if_f c10 h
  by_cases c14 : p0 = (4 : Int32)
  · have h := if_t c14 h
    refine wg_tblIn (off := 85) X 86 dX8_fits_1 c14 (by decide) (by decide) (by decide) (by decide) ?_
    refine wg_iload_n X 1 dX8_fits_86 rfl rfl ?_
    obtain ⟨r16, h15, h⟩ := bd_some h
    refine wg_callSi (As := [.int p1]) (rest := []) X (c_X8_isRoom l E ad S C M p1  h15) T_yX8_isRoom k_535 dX8_fits_87 rfl rfl (Nat.le_of_ble_eq_true rfl) ⟨Nat.le_of_ble_eq_true rfl, Nat.le_of_ble_eq_true rfl⟩ ⟨Nat.zero_le _, Nat.zero_le _⟩ ?_
    obtain ⟨z17, h⟩ := ck_some h
    exact wg_zret X ⟨(sm_inj h), rfl, rfl⟩ hr z17 dX8_fits_90
  have h := if_f c14 h
  refine wg_tblOut X 91 dX8_fits_1 (wg_tout (0) (4) (fun k hk => by
      rcases (show k = 0 ∨ k = 1 ∨ k = 2 ∨ k = 3 ∨ k = 4 by omega) with rfl | rfl | rfl | rfl | rfl
      · exact fun q => c1 (q.trans (by decide))
      · exact fun q => c4 (q.trans (by decide))
      · exact fun q => c7 (q.trans (by decide))
      · exact fun q => c10 (q.trans (by decide))
      · exact fun q => c14 (q.trans (by decide))) (by decide) (by decide)) (by decide) ?_
  refine wg_iconst (v := 0) X dX8_fits_91 (by decide) ?_
  exact wg_zret X ⟨(sm_inj h), rfl, rfl⟩ hr (by decide) dX8_fits_92
-- WindowsGive$Pane.change(II)V ('P', 'i', 'i')
def f_X1_change (C : wg_C) (p0 : Nat) (p1 : Int32) (p2 : Int32) : Option wg_C :=
  if p1 = (1 : Int32) then (
    lt_ (wg_up C p0 2 p2) fun C2 =>
    some C2)
  else
  if p1 = (2 : Int32) then (
    lt_ (wg_up C p0 3 p2) fun C5 =>
    some C5)
  else
  if p1 = (3 : Int32) then (
    lt_ (wg_up C p0 4 p2) fun C8 =>
    some C8)
  else
  if p1 = (4 : Int32) then (
    lt_ (wg_up C p0 5 p2) fun C11 =>
    some C11)
  else
  some C
set_option maxHeartbeats 4000000 in
set_option maxRecDepth 100000 in
theorem c_X1_change (l : Launch) (E : wg_Ev) (ad : Nat → Nat) (S : wg_Sh) (hS : wg_SC S) (C : wg_C) (M : wg_M) (p0 : Nat) (p1 : Int32) (p2 : Int32) (hp0 : wg_id S p0 1) {D0 : wg_C} (h : f_X1_change C p0 p1 p2 = some D0) : wg_Cv l yX1_change cX1_change 3 none 0 0 E ad S C M [.ref (ad p0), .int p1, .int p2] D0 M := by
  refine wg_start (own := RX1) (by decide +kernel) rfl (Nat.le_of_ble_eq_true rfl) ?_
  intro p e s m below meth c X hr hnm
  refine wg_lv (lv' := [(0, .ref (ad p0)), (1, .int p1), (2, .int p2)]) rfl ?_
  unfold f_X1_change at h
  refine wg_iload_n X 1 dX1_change_0 rfl rfl ?_
  by_cases c1 : p1 = (1 : Int32)
  · have h := if_t c1 h
    refine wg_tblIn (off := 31) X 32 dX1_change_1 c1 (by decide) (by decide) (by decide) (by decide) ?_
    refine wg_aload_n X 0 dX1_change_32 rfl rfl ?_
    refine wg_iload_n X 2 dX1_change_33 rfl rfl ?_
    obtain ⟨C2, e3, h⟩ := lt_some h
    refine wg_putCe X cl1 hp0 2 (by decide) dX1_change_34 k_114 rfl rfl rfl rfl e3 ?_
    refine wg_goto X 64 dX1_change_37 (by decide) ?_
    exact wg_vret X ⟨(sm_inj h), rfl⟩ hr dX1_change_64
  have h := if_f c1 h
  by_cases c4 : p1 = (2 : Int32)
  · have h := if_t c4 h
    refine wg_tblIn (off := 39) X 40 dX1_change_1 c4 (by decide) (by decide) (by decide) (by decide) ?_
    refine wg_aload_n X 0 dX1_change_40 rfl rfl ?_
    refine wg_iload_n X 2 dX1_change_41 rfl rfl ?_
    obtain ⟨C5, e6, h⟩ := lt_some h
    refine wg_putCe X cl1 hp0 3 (by decide) dX1_change_42 k_117 rfl rfl rfl rfl e6 ?_
    refine wg_goto X 64 dX1_change_45 (by decide) ?_
    exact wg_vret X ⟨(sm_inj h), rfl⟩ hr dX1_change_64
  have h := if_f c4 h
  by_cases c7 : p1 = (3 : Int32)
  · have h := if_t c7 h
    refine wg_tblIn (off := 47) X 48 dX1_change_1 c7 (by decide) (by decide) (by decide) (by decide) ?_
    refine wg_aload_n X 0 dX1_change_48 rfl rfl ?_
    refine wg_iload_n X 2 dX1_change_49 rfl rfl ?_
    obtain ⟨C8, e9, h⟩ := lt_some h
    refine wg_putCe X cl1 hp0 4 (by decide) dX1_change_50 k_120 rfl rfl rfl rfl e9 ?_
    refine wg_goto X 64 dX1_change_53 (by decide) ?_
    exact wg_vret X ⟨(sm_inj h), rfl⟩ hr dX1_change_64
  have h := if_f c7 h
  by_cases c10 : p1 = (4 : Int32)
  · have h := if_t c10 h
    refine wg_tblIn (off := 55) X 56 dX1_change_1 c10 (by decide) (by decide) (by decide) (by decide) ?_
    refine wg_aload_n X 0 dX1_change_56 rfl rfl ?_
    refine wg_iload_n X 2 dX1_change_57 rfl rfl ?_
    obtain ⟨C11, e12, h⟩ := lt_some h
    refine wg_putCe X cl1 hp0 5 (by decide) dX1_change_58 k_124 rfl rfl rfl rfl e12 ?_
    refine wg_goto X 64 dX1_change_61 (by decide) ?_
    exact wg_vret X ⟨(sm_inj h), rfl⟩ hr dX1_change_64
  have h := if_f c10 h
  refine wg_tblOut X 64 dX1_change_1 (wg_tout (1) (4) (fun k hk => by
      rcases (show k = 0 ∨ k = 1 ∨ k = 2 ∨ k = 3 by omega) with rfl | rfl | rfl | rfl
      · exact fun q => c1 (q.trans (by decide))
      · exact fun q => c4 (q.trans (by decide))
      · exact fun q => c7 (q.trans (by decide))
      · exact fun q => c10 (q.trans (by decide))) (by decide) (by decide)) (by decide) ?_
  exact wg_vret X ⟨(sm_inj h), rfl⟩ hr dX1_change_64
-- WindowsGive.set(III)I (('c', 0), 'i', 'i', 'i')
def f_X8_set (C : wg_C) (p1 : Int32) (p2 : Int32) (p3 : Int32) : Option (Int32 × wg_C) :=
  bd (f_X8_told C p2 p1) fun r2 =>
  if r2 = (-100 : Int32) then (
    some ((-100 : Int32), C))
  else (
    bd (f_X8_fits p1 p3) fun r5 =>
    if r5 = 0 then (
      some ((-100 : Int32), C))
    else (
      if p1 = 0 then (
        ck (inb p2 32) <|
        lt_ (wg_up C 2 p2.toNatClampNeg p3) fun C12 =>
        some (r2, C12))
      else (
        ck (inb p2 8) <|
        bd (f_X1_change C (4 + p2.toNatClampNeg) p1 p3) fun C10 =>
        some (r2, C10))))
set_option maxHeartbeats 4000000 in
set_option maxRecDepth 100000 in
theorem c_X8_set (l : Launch) (E : wg_Ev) (ad : Nat → Nat) (S : wg_Sh) (hS : wg_SC S) (C : wg_C) (M : wg_M) (p1 : Int32) (p2 : Int32) (p3 : Int32)  {r0 : Int32} {D0 : wg_C} (h : f_X8_set C p1 p2 p3 = some (r0, D0)) : wg_Ci l yX8_set cX8_set 5 (some .int) 3 63 E ad S C M [.ref (ad 0), .int p1, .int p2, .int p3] r0 D0 M := by
  refine wg_start (own := RX8) (by decide +kernel) rfl (Nat.le_of_ble_eq_true rfl) ?_
  intro p e s m below meth c X hr hnm
  refine wg_lv (lv' := [(0, .ref (ad 0)), (1, .int p1), (2, .int p2), (3, .int p3)]) rfl ?_
  unfold f_X8_set at h
  refine wg_aload_n X 0 dX8_set_0 rfl rfl ?_
  refine wg_iload_n X 2 dX8_set_1 rfl rfl ?_
  refine wg_iload_n X 1 dX8_set_2 rfl rfl ?_
  obtain ⟨r2, h1, h⟩ := bd_some h
  refine wg_callVi (As := [.int p2, .int p1]) (rest := []) X (c_X8_told l E ad S hS C M p2 p1  h1) T_yX8_told k_513 cl8 (SCi hS 0 8 rfl) dX8_set_3 rfl rfl (Nat.le_of_ble_eq_true rfl) ⟨Nat.le_of_ble_eq_true rfl, Nat.le_of_ble_eq_true rfl⟩ ⟨Nat.zero_le _, Nat.zero_le _⟩ ?_
  refine wg_istore (lv' := [(4, .int r2), (0, .ref (ad 0)), (1, .int p1), (2, .int p2), (3, .int p3)]) X dX8_set_6 rfl (by decide) rfl ?_
  refine wg_iload X 0 dX8_set_8 rfl ?_
  refine wg_bipush (v := -100) X dX8_set_10 (by decide) ?_
  refine wg_icmp_eq X 23 dX8_set_12 (by decide) (fun c3 => ?_) (fun c3 => ?_)
  · have h := if_t c3 h
    refine wg_bipush (v := -100) X dX8_set_23 (by decide) ?_
    exact wg_iret X ⟨(Prod.mk.inj (sm_inj h)).1, (Prod.mk.inj (sm_inj h)).2, rfl⟩ hr dX8_set_25
  · have h := if_f c3 h
    refine wg_iload_n X 2 dX8_set_15 rfl rfl ?_
    refine wg_iload_n X 4 dX8_set_16 rfl rfl ?_
    obtain ⟨r5, h4, h⟩ := bd_some h
    refine wg_callSi (As := [.int p1, .int p3]) (rest := []) X (c_X8_fits l E ad S C M p1 p3  h4) T_yX8_fits k_532 dX8_set_17 rfl rfl (Nat.le_of_ble_eq_true rfl) ⟨Nat.le_of_ble_eq_true rfl, Nat.le_of_ble_eq_true rfl⟩ ⟨Nat.zero_le _, Nat.zero_le _⟩ ?_
    refine wg_if_ne X 26 dX8_set_20 (by decide) (fun c6 => ?_) (fun c6 => ?_)
    · have h := if_f c6 h
      refine wg_iload_n X 2 dX8_set_26 rfl rfl ?_
      refine wg_if_ne X 43 dX8_set_27 (by decide) (fun c7 => ?_) (fun c7 => ?_)
      · have h := if_f c7 h
        refine wg_aload_n X 1 dX8_set_43 rfl rfl ?_
        refine wg_getR (b := 1) X cl8 (SCi hS 0 8 rfl) 0 (by decide) dX8_set_44 k_472 rfl (SCr hS 0 0 1 rfl) ?_
        refine wg_getR (b := 3) X cl0 (SCi hS 1 0 rfl) 1 (by decide) dX8_set_47 k_144 rfl (SCr hS 1 1 3 rfl) ?_
        refine wg_iload_n X 3 dX8_set_50 rfl rfl ?_
        obtain ⟨z8, h⟩ := ck_some h
        refine wg_aalS13 (b := 4 + p2.toNatClampNeg) X (SCi hS 3 13 rfl) (SCl hS 3 8 rfl) z8 (SCp hS (inb_lt z8)).1 dX8_set_51 ?_
        refine wg_iload_n X 2 dX8_set_52 rfl rfl ?_
        refine wg_iload_n X 4 dX8_set_53 rfl rfl ?_
        obtain ⟨C10, h9, h⟩ := bd_some h
        refine wg_callVv (As := [.int p1, .int p3]) (rest := []) X (c_X1_change l E ad S hS C M (4 + p2.toNatClampNeg) p1 p3 ((SCp hS (inb_lt z8)).2.1) h9) T_yX1_change k_538 cl1 ((SCp hS (inb_lt z8)).2.1) dX8_set_54 rfl rfl (Nat.le_of_ble_eq_true rfl) ⟨Nat.le_of_ble_eq_true rfl, Nat.le_of_ble_eq_true rfl⟩ ⟨Nat.zero_le _, Nat.zero_le _⟩ ?_
        refine wg_iload X 0 dX8_set_57 rfl ?_
        exact wg_iret X ⟨(Prod.mk.inj (sm_inj h)).1, (Prod.mk.inj (sm_inj h)).2, rfl⟩ hr dX8_set_59
      · have h := if_t c7 h
        refine wg_aload_n X 1 dX8_set_30 rfl rfl ?_
        refine wg_getR (b := 1) X cl8 (SCi hS 0 8 rfl) 0 (by decide) dX8_set_31 k_472 rfl (SCr hS 0 0 1 rfl) ?_
        refine wg_getR (b := 2) X cl0 (SCi hS 1 0 rfl) 0 (by decide) dX8_set_34 k_141 rfl (SCr hS 1 0 2 rfl) ?_
        refine wg_iload_n X 3 dX8_set_37 rfl rfl ?_
        refine wg_iload_n X 4 dX8_set_38 rfl rfl ?_
        obtain ⟨z11, h⟩ := ck_some h
        obtain ⟨C12, e13, h⟩ := lt_some h
        refine wg_iaste X (SCi hS 2 10 rfl) (SCl hS 2 32 rfl) z11 dX8_set_39 e13 ?_
        refine wg_goto X 57 dX8_set_40 (by decide) ?_
        refine wg_iload X 0 dX8_set_57 rfl ?_
        exact wg_iret X ⟨(Prod.mk.inj (sm_inj h)).1, (Prod.mk.inj (sm_inj h)).2, rfl⟩ hr dX8_set_59
    · have h := if_t c6 h
      refine wg_bipush (v := -100) X dX8_set_23 (by decide) ?_
      exact wg_iret X ⟨(Prod.mk.inj (sm_inj h)).1, (Prod.mk.inj (sm_inj h)).2, rfl⟩ hr dX8_set_25
-- WindowsGive.isKind(I)Z ('i',)
def f_X8_isKind (p0 : Int32) : Option Int32 :=
  if p0 < 0 then (
    some (0 : Int32))
  else (
    if (5 : Int32) < p0 then (
      some (0 : Int32))
    else (
      some (1 : Int32)))
set_option maxHeartbeats 4000000 in
set_option maxRecDepth 100000 in
theorem c_X8_isKind (l : Launch) (E : wg_Ev) (ad : Nat → Nat) (S : wg_Sh) (C : wg_C) (M : wg_M) (p0 : Int32)  {r0 : Int32} (h : f_X8_isKind p0 = some r0) : wg_Ci l yX8_isKind cX8_isKind 1 (some .boolean) 0 0 E ad S C M [.int p0] r0 C M := by
  refine wg_start (own := RX8) (by decide +kernel) rfl (Nat.le_of_ble_eq_true rfl) ?_
  intro p e s m below meth c X hr hnm
  refine wg_lv (lv' := [(0, .int p0)]) rfl ?_
  unfold f_X8_isKind at h
  refine wg_iload_n X 0 dX8_isKind_0 rfl rfl ?_
  refine wg_if_lt X 13 dX8_isKind_1 (by decide) (fun c1 => ?_) (fun c1 => ?_)
  · have h := if_t c1 h
    refine wg_iconst (v := 0) X dX8_isKind_13 (by decide) ?_
    exact wg_zret X ⟨(sm_inj h), rfl, rfl⟩ hr (by decide) dX8_isKind_14
  · have h := if_f c1 h
    refine wg_iload_n X 0 dX8_isKind_4 rfl rfl ?_
    refine wg_iconst (v := 5) X dX8_isKind_5 (by decide) ?_
    refine wg_icmp_gt X 13 dX8_isKind_6 (by decide) (fun c2 => ?_) (fun c2 => ?_)
    · have h := if_t c2 h
      refine wg_iconst (v := 0) X dX8_isKind_13 (by decide) ?_
      exact wg_zret X ⟨(sm_inj h), rfl, rfl⟩ hr (by decide) dX8_isKind_14
    · have h := if_f c2 h
      refine wg_iconst (v := 1) X dX8_isKind_9 (by decide) ?_
      refine wg_goto X 14 dX8_isKind_10 (by decide) ?_
      exact wg_zret X ⟨(sm_inj h), rfl, rfl⟩ hr (by decide) dX8_isKind_14
-- WindowsGive.pane(III)I (('c', 0), 'i', 'i', 'i')
def f_X8_pane (C : wg_C) (p1 : Int32) (p2 : Int32) (p3 : Int32) : Option (Int32 × wg_C) :=
  lt_ (p2 / (100 : Int32)) fun v1 =>
  lt_ ((p2 - p2 / (100 : Int32) * (100 : Int32)) - (9 : Int32)) fun v3 =>
  lt_ (p3 / (10 : Int32)) fun v5 =>
  lt_ (p3 - p3 / (10 : Int32) * (10 : Int32)) fun v7 =>
  bd (f_X8_isKind p1) fun r10 =>
  if r10 = 0 then (
    some ((-2 : Int32), C))
  else (
    if p2 < 0 then (
      some ((-2 : Int32), C))
    else (
      bd (f_X8_fits (1 : Int32) v1) fun r14 =>
      if r14 = 0 then (
        some ((-2 : Int32), C))
      else (
        bd (f_X8_fits (2 : Int32) v3) fun r17 =>
        if r17 = 0 then (
          some ((-2 : Int32), C))
        else (
          if p3 < 0 then (
            some ((-2 : Int32), C))
          else (
            bd (f_X8_isRoom v5) fun r21 =>
            if r21 = 0 then (
              some ((-2 : Int32), C))
            else (
              bd (f_X8_isRoom v7) fun r24 =>
              if r24 = 0 then (
                some ((-2 : Int32), C))
              else (
                if (C 1 2) < (8 : Int32) then (
                  ck (inb (C 1 2) 8) <|
                  lt_ (wg_up C (4 + (C 1 2).toNatClampNeg) 1 p1) fun C28 =>
                  lt_ (wg_up C28 (4 + (C 1 2).toNatClampNeg) 2 v1) fun C30 =>
                  lt_ (wg_up C30 (4 + (C 1 2).toNatClampNeg) 3 v3) fun C32 =>
                  lt_ (wg_up C32 (4 + (C 1 2).toNatClampNeg) 4 v5) fun C34 =>
                  lt_ (wg_up C34 (4 + (C 1 2).toNatClampNeg) 5 v7) fun C36 =>
                  lt_ (wg_up C36 1 2 ((C36 1 2) + (1 : Int32))) fun C38 =>
                  some ((C38 (4 + (C 1 2).toNatClampNeg) 0), C38))
                else (
                  some ((-4 : Int32), C)))))))))
set_option maxHeartbeats 4000000 in
set_option maxRecDepth 100000 in
theorem c_X8_pane (l : Launch) (E : wg_Ev) (ad : Nat → Nat) (S : wg_Sh) (hS : wg_SC S) (C : wg_C) (M : wg_M) (p1 : Int32) (p2 : Int32) (p3 : Int32)  {r0 : Int32} {D0 : wg_C} (h : f_X8_pane C p1 p2 p3 = some (r0, D0)) : wg_Ci l yX8_pane cX8_pane 9 (some .int) 2 41 E ad S C M [.ref (ad 0), .int p1, .int p2, .int p3] r0 D0 M := by
  refine wg_start (own := RX8) (by decide +kernel) rfl (Nat.le_of_ble_eq_true rfl) ?_
  intro p e s m below meth c X hr hnm
  refine wg_lv (lv' := [(0, .ref (ad 0)), (1, .int p1), (2, .int p2), (3, .int p3)]) rfl ?_
  unfold f_X8_pane at h
  refine wg_iload_n X 2 dX8_pane_0 rfl rfl ?_
  refine wg_bipush (v := 100) X dX8_pane_1 (by decide) ?_
  refine wg_idiv X dX8_pane_3 (by decide) ?_
  obtain ⟨v1, e2, h⟩ := lt_some h
  refine wg_istore (lv' := [(4, .int v1), (0, .ref (ad 0)), (1, .int p1), (2, .int p2), (3, .int p3)]) X dX8_pane_4 e2 (by decide) rfl ?_
  refine wg_iload_n X 3 dX8_pane_6 rfl rfl ?_
  refine wg_bipush (v := 100) X dX8_pane_7 (by decide) ?_
  refine wg_irem X dX8_pane_9 (by decide) ?_
  refine wg_bipush (v := 9) X dX8_pane_10 (by decide) ?_
  refine wg_isub X dX8_pane_12 ?_
  obtain ⟨v3, e4, h⟩ := lt_some h
  refine wg_istore (lv' := [(5, .int v3), (4, .int v1), (0, .ref (ad 0)), (1, .int p1), (2, .int p2), (3, .int p3)]) X dX8_pane_13 e4 (by decide) rfl ?_
  refine wg_iload_n X 5 dX8_pane_15 rfl rfl ?_
  refine wg_bipush (v := 10) X dX8_pane_16 (by decide) ?_
  refine wg_idiv X dX8_pane_18 (by decide) ?_
  obtain ⟨v5, e6, h⟩ := lt_some h
  refine wg_istore (lv' := [(6, .int v5), (5, .int v3), (4, .int v1), (0, .ref (ad 0)), (1, .int p1), (2, .int p2), (3, .int p3)]) X dX8_pane_19 e6 (by decide) rfl ?_
  refine wg_iload_n X 6 dX8_pane_21 rfl rfl ?_
  refine wg_bipush (v := 10) X dX8_pane_22 (by decide) ?_
  refine wg_irem X dX8_pane_24 (by decide) ?_
  obtain ⟨v7, e8, h⟩ := lt_some h
  refine wg_istore (lv' := [(7, .int v7), (6, .int v5), (5, .int v3), (4, .int v1), (0, .ref (ad 0)), (1, .int p1), (2, .int p2), (3, .int p3)]) X dX8_pane_25 e8 (by decide) rfl ?_
  refine wg_iload_n X 5 dX8_pane_27 rfl rfl ?_
  obtain ⟨r10, h9, h⟩ := bd_some h
  refine wg_callSi (As := [.int p1]) (rest := []) X (c_X8_isKind l E ad S C M p1  h9) T_yX8_isKind k_546 dX8_pane_28 rfl rfl (Nat.le_of_ble_eq_true rfl) ⟨Nat.le_of_ble_eq_true rfl, Nat.le_of_ble_eq_true rfl⟩ ⟨Nat.zero_le _, Nat.zero_le _⟩ ?_
  refine wg_if_eq X 56 dX8_pane_31 (by decide) (fun c11 => ?_) (fun c11 => ?_)
  · have h := if_t c11 h
    refine wg_bipush (v := -2) X dX8_pane_56 (by decide) ?_
    exact wg_iret X ⟨(Prod.mk.inj (sm_inj h)).1, (Prod.mk.inj (sm_inj h)).2, rfl⟩ hr dX8_pane_58
  · have h := if_f c11 h
    refine wg_iload_n X 6 dX8_pane_34 rfl rfl ?_
    refine wg_if_lt X 56 dX8_pane_35 (by decide) (fun c12 => ?_) (fun c12 => ?_)
    · have h := if_t c12 h
      refine wg_bipush (v := -2) X dX8_pane_56 (by decide) ?_
      exact wg_iret X ⟨(Prod.mk.inj (sm_inj h)).1, (Prod.mk.inj (sm_inj h)).2, rfl⟩ hr dX8_pane_58
    · have h := if_f c12 h
      refine wg_iconst (v := 1) X dX8_pane_38 (by decide) ?_
      refine wg_iload X 3 dX8_pane_39 rfl ?_
      obtain ⟨r14, h13, h⟩ := bd_some h
      refine wg_callSi (As := [.int (1 : Int32), .int v1]) (rest := []) X (c_X8_fits l E ad S C M (1 : Int32) v1  h13) T_yX8_fits k_532 dX8_pane_41 rfl rfl (Nat.le_of_ble_eq_true rfl) ⟨Nat.le_of_ble_eq_true rfl, Nat.le_of_ble_eq_true rfl⟩ ⟨Nat.zero_le _, Nat.zero_le _⟩ ?_
      refine wg_if_eq X 56 dX8_pane_44 (by decide) (fun c15 => ?_) (fun c15 => ?_)
      · have h := if_t c15 h
        refine wg_bipush (v := -2) X dX8_pane_56 (by decide) ?_
        exact wg_iret X ⟨(Prod.mk.inj (sm_inj h)).1, (Prod.mk.inj (sm_inj h)).2, rfl⟩ hr dX8_pane_58
      · have h := if_f c15 h
        refine wg_iconst (v := 2) X dX8_pane_47 (by decide) ?_
        refine wg_iload X 2 dX8_pane_48 rfl ?_
        obtain ⟨r17, h16, h⟩ := bd_some h
        refine wg_callSi (As := [.int (2 : Int32), .int v3]) (rest := []) X (c_X8_fits l E ad S C M (2 : Int32) v3  h16) T_yX8_fits k_532 dX8_pane_50 rfl rfl (Nat.le_of_ble_eq_true rfl) ⟨Nat.le_of_ble_eq_true rfl, Nat.le_of_ble_eq_true rfl⟩ ⟨Nat.zero_le _, Nat.zero_le _⟩ ?_
        refine wg_if_ne X 59 dX8_pane_53 (by decide) (fun c18 => ?_) (fun c18 => ?_)
        · have h := if_f c18 h
          refine wg_iload_n X 7 dX8_pane_59 rfl rfl ?_
          refine wg_if_lt X 79 dX8_pane_60 (by decide) (fun c19 => ?_) (fun c19 => ?_)
          · have h := if_t c19 h
            refine wg_bipush (v := -2) X dX8_pane_79 (by decide) ?_
            exact wg_iret X ⟨(Prod.mk.inj (sm_inj h)).1, (Prod.mk.inj (sm_inj h)).2, rfl⟩ hr dX8_pane_81
          · have h := if_f c19 h
            refine wg_iload X 1 dX8_pane_63 rfl ?_
            obtain ⟨r21, h20, h⟩ := bd_some h
            refine wg_callSi (As := [.int v5]) (rest := []) X (c_X8_isRoom l E ad S C M v5  h20) T_yX8_isRoom k_535 dX8_pane_65 rfl rfl (Nat.le_of_ble_eq_true rfl) ⟨Nat.le_of_ble_eq_true rfl, Nat.le_of_ble_eq_true rfl⟩ ⟨Nat.zero_le _, Nat.zero_le _⟩ ?_
            refine wg_if_eq X 79 dX8_pane_68 (by decide) (fun c22 => ?_) (fun c22 => ?_)
            · have h := if_t c22 h
              refine wg_bipush (v := -2) X dX8_pane_79 (by decide) ?_
              exact wg_iret X ⟨(Prod.mk.inj (sm_inj h)).1, (Prod.mk.inj (sm_inj h)).2, rfl⟩ hr dX8_pane_81
            · have h := if_f c22 h
              refine wg_iload X 0 dX8_pane_71 rfl ?_
              obtain ⟨r24, h23, h⟩ := bd_some h
              refine wg_callSi (As := [.int v7]) (rest := []) X (c_X8_isRoom l E ad S C M v7  h23) T_yX8_isRoom k_535 dX8_pane_73 rfl rfl (Nat.le_of_ble_eq_true rfl) ⟨Nat.le_of_ble_eq_true rfl, Nat.le_of_ble_eq_true rfl⟩ ⟨Nat.zero_le _, Nat.zero_le _⟩ ?_
              refine wg_if_ne X 82 dX8_pane_76 (by decide) (fun c25 => ?_) (fun c25 => ?_)
              · have h := if_f c25 h
                refine wg_aload_n X 4 dX8_pane_82 rfl rfl ?_
                refine wg_getR (b := 1) X cl8 (SCi hS 0 8 rfl) 0 (by decide) dX8_pane_83 k_472 rfl (SCr hS 0 0 1 rfl) ?_
                refine wg_getC X cl0 (SCi hS 1 0 rfl) 2 (by decide) dX8_pane_86 k_147 rfl ?_
                refine wg_bipush (v := 8) X dX8_pane_89 (by decide) ?_
                refine wg_icmp_lt X 97 dX8_pane_91 (by decide) (fun c26 => ?_) (fun c26 => ?_)
                · have h := if_t c26 h
                  refine wg_aload_n X 4 dX8_pane_97 rfl rfl ?_
                  refine wg_getR (b := 1) X cl8 (SCi hS 0 8 rfl) 0 (by decide) dX8_pane_98 k_472 rfl (SCr hS 0 0 1 rfl) ?_
                  refine wg_getR (b := 3) X cl0 (SCi hS 1 0 rfl) 1 (by decide) dX8_pane_101 k_144 rfl (SCr hS 1 1 3 rfl) ?_
                  refine wg_aload_n X 4 dX8_pane_104 rfl rfl ?_
                  refine wg_getR (b := 1) X cl8 (SCi hS 0 8 rfl) 0 (by decide) dX8_pane_105 k_472 rfl (SCr hS 0 0 1 rfl) ?_
                  refine wg_getC X cl0 (SCi hS 1 0 rfl) 2 (by decide) dX8_pane_108 k_147 rfl ?_
                  obtain ⟨z27, h⟩ := ck_some h
                  refine wg_aalS13 (b := 4 + (C 1 2).toNatClampNeg) X (SCi hS 3 13 rfl) (SCl hS 3 8 rfl) z27 (SCp hS (inb_lt z27)).1 dX8_pane_111 ?_
                  refine wg_astore (lv' := [(8, .ref (ad (4 + (C 1 2).toNatClampNeg))), (7, .int v7), (6, .int v5), (5, .int v3), (4, .int v1), (0, .ref (ad 0)), (1, .int p1), (2, .int p2), (3, .int p3)]) X dX8_pane_112 rfl (by decide) rfl ?_
                  refine wg_aload X 0 dX8_pane_114 rfl ?_
                  refine wg_iload_n X 6 dX8_pane_116 rfl rfl ?_
                  obtain ⟨C28, e29, h⟩ := lt_some h
                  refine wg_putCe X cl1 (SCp hS (inb_lt z27)).2.1 1 (by decide) dX8_pane_117 k_113 rfl rfl rfl rfl e29 ?_
                  refine wg_aload X 0 dX8_pane_120 rfl ?_
                  refine wg_iload X 4 dX8_pane_122 rfl ?_
                  obtain ⟨C30, e31, h⟩ := lt_some h
                  refine wg_putCe X cl1 (SCp hS (inb_lt z27)).2.1 2 (by decide) dX8_pane_124 k_116 rfl rfl rfl rfl e31 ?_
                  refine wg_aload X 0 dX8_pane_127 rfl ?_
                  refine wg_iload X 3 dX8_pane_129 rfl ?_
                  obtain ⟨C32, e33, h⟩ := lt_some h
                  refine wg_putCe X cl1 (SCp hS (inb_lt z27)).2.1 3 (by decide) dX8_pane_131 k_119 rfl rfl rfl rfl e33 ?_
                  refine wg_aload X 0 dX8_pane_134 rfl ?_
                  refine wg_iload X 2 dX8_pane_136 rfl ?_
                  obtain ⟨C34, e35, h⟩ := lt_some h
                  refine wg_putCe X cl1 (SCp hS (inb_lt z27)).2.1 4 (by decide) dX8_pane_138 k_122 rfl rfl rfl rfl e35 ?_
                  refine wg_aload X 0 dX8_pane_141 rfl ?_
                  refine wg_iload X 1 dX8_pane_143 rfl ?_
                  obtain ⟨C36, e37, h⟩ := lt_some h
                  refine wg_putCe X cl1 (SCp hS (inb_lt z27)).2.1 5 (by decide) dX8_pane_145 k_125 rfl rfl rfl rfl e37 ?_
                  refine wg_aload_n X 5 dX8_pane_148 rfl rfl ?_
                  refine wg_getR (b := 1) X cl8 (SCi hS 0 8 rfl) 0 (by decide) dX8_pane_149 k_472 rfl (SCr hS 0 0 1 rfl) ?_
                  refine wg_dup X dX8_pane_152 rfl ?_
                  refine wg_getC X cl0 (SCi hS 1 0 rfl) 2 (by decide) dX8_pane_153 k_147 rfl ?_
                  refine wg_iconst (v := 1) X dX8_pane_156 (by decide) ?_
                  refine wg_iadd X dX8_pane_157 ?_
                  obtain ⟨C38, e39, h⟩ := lt_some h
                  refine wg_putCe X cl0 (SCi hS 1 0 rfl) 2 (by decide) dX8_pane_158 k_147 rfl rfl rfl rfl e39 ?_
                  refine wg_aload X 0 dX8_pane_161 rfl ?_
                  refine wg_getC X cl1 (SCp hS (inb_lt z27)).2.1 0 (by decide) dX8_pane_163 k_111 rfl ?_
                  exact wg_iret X ⟨(Prod.mk.inj (sm_inj h)).1, (Prod.mk.inj (sm_inj h)).2, rfl⟩ hr dX8_pane_166
                · have h := if_f c26 h
                  refine wg_bipush (v := -4) X dX8_pane_94 (by decide) ?_
                  exact wg_iret X ⟨(Prod.mk.inj (sm_inj h)).1, (Prod.mk.inj (sm_inj h)).2, rfl⟩ hr dX8_pane_96
              · have h := if_t c25 h
                refine wg_bipush (v := -2) X dX8_pane_79 (by decide) ?_
                exact wg_iret X ⟨(Prod.mk.inj (sm_inj h)).1, (Prod.mk.inj (sm_inj h)).2, rfl⟩ hr dX8_pane_81
        · have h := if_t c18 h
          refine wg_bipush (v := -2) X dX8_pane_56 (by decide) ?_
          exact wg_iret X ⟨(Prod.mk.inj (sm_inj h)).1, (Prod.mk.inj (sm_inj h)).2, rfl⟩ hr dX8_pane_58
-- WindowsGive$Pane.on(I)I ('P', 'i')
def f_X1_on_j40 (p0 : Nat) (C : wg_C)  (x1 : Int32) : Option Int32 :=
  some ((x1 + (C p0 3)) - (C p0 2))
def f_X1_on (C : wg_C) (p0 : Nat) (p1 : Int32) : Option Int32 :=
  lt_ (C p0 1) fun v1 =>
  if v1 = (1 : Int32) then (
    f_X1_on_j40 p0 C  p1)
  else
  if v1 = (2 : Int32) then (
    some (p1 + (C p0 3)))
  else
  if v1 = (3 : Int32) then (
    f_X1_on_j40 p0 C  p1)
  else
  if v1 = (4 : Int32) then (
    some p1)
  else
  if v1 = (5 : Int32) then (
    some (p1 + ((C p0 3) * ((C p0 2) + (1 : Int32)))))
  else
  some (p1 + (C p0 3))
abbrev G_X1_on (p : Program) (l : Launch) (e : Env) (s : State) (m : MethodId) (args : Array Value) (below : List Frame) (meth : Method) (c : Code) (E : wg_Ev) (ad : Nat → Nat) (S : wg_Sh) (r0 : Int32) (C0 : wg_C) (M0 : wg_M) (pc : Nat) (C : wg_C) (M : wg_M) (lv : List (Nat × Value)) (st : List Value) : Prop := wg_G p l e (wg_Rm 0 0) s m args below meth c (MQ below (wg_Qi E ad S r0 C0 M0) args s 0 0 (wg_A E)) 2 E ad S 0 0 pc C M lv st
set_option maxHeartbeats 4000000 in
set_option maxRecDepth 100000 in
theorem J_X1_on_j40 {p : Program} {l : Launch} {e : Env} {s : State} {m : MethodId} {args : Array Value} {below : List Frame} {meth : Method} {c : Code} {E : wg_Ev} {ad : Nat → Nat} {S : wg_Sh} (X : wg_X p s m args meth c cX1_on 2 RX1 E) (hr : meth.sig.returnType = (some .int)) (hS : wg_SC S) (r0 : Int32) (M : wg_M) (p0 : Nat) (hp0 : wg_id S p0 1) (C : wg_C)  (x1 : Int32)   (h : f_X1_on_j40 p0 C  x1 = some r0) : G_X1_on p l e s m args below meth c E ad S r0 C M 40 C M [(0, .ref (ad p0)), (1, .int x1)] [] := by
  unfold f_X1_on_j40 at h
  refine wg_iload_n X 1 dX1_on_40 rfl rfl ?_
  refine wg_aload_n X 0 dX1_on_41 rfl rfl ?_
  refine wg_getC X cl1 hp0 3 (by decide) dX1_on_42 k_117 rfl ?_
  refine wg_iadd X dX1_on_45 ?_
  refine wg_aload_n X 0 dX1_on_46 rfl rfl ?_
  refine wg_getC X cl1 hp0 2 (by decide) dX1_on_47 k_114 rfl ?_
  refine wg_isub X dX1_on_50 ?_
  exact wg_iret X ⟨(sm_inj h), rfl, rfl⟩ hr dX1_on_51
set_option maxHeartbeats 4000000 in
set_option maxRecDepth 100000 in
theorem c_X1_on (l : Launch) (E : wg_Ev) (ad : Nat → Nat) (S : wg_Sh) (hS : wg_SC S) (C : wg_C) (M : wg_M) (p0 : Nat) (p1 : Int32) (hp0 : wg_id S p0 1) {r0 : Int32} (h : f_X1_on C p0 p1 = some r0) : wg_Ci l yX1_on cX1_on 2 (some .int) 0 0 E ad S C M [.ref (ad p0), .int p1] r0 C M := by
  refine wg_start (own := RX1) (by decide +kernel) rfl (Nat.le_of_ble_eq_true rfl) ?_
  intro p e s m below meth c X hr hnm
  refine wg_lv (lv' := [(0, .ref (ad p0)), (1, .int p1)]) rfl ?_
  unfold f_X1_on at h
  refine wg_aload_n X 0 dX1_on_0 rfl rfl ?_
  refine wg_getC X cl1 hp0 1 (by decide) dX1_on_1 k_112 rfl ?_
  obtain ⟨v1, e2, h⟩ := lt_some h
  refine wg_top e2 ?_
  by_cases c3 : v1 = (1 : Int32)
  · have h := if_t c3 h
    refine wg_tblIn (off := 36) X 40 dX1_on_4 c3 (by decide) (by decide) (by decide) (by decide) ?_
    exact J_X1_on_j40 X hr hS r0 M p0 hp0 C  p1   h
  have h := if_f c3 h
  by_cases c4 : v1 = (2 : Int32)
  · have h := if_t c4 h
    refine wg_tblIn (off := 64) X 68 dX1_on_4 c4 (by decide) (by decide) (by decide) (by decide) ?_
    refine wg_iload_n X 1 dX1_on_68 rfl rfl ?_
    refine wg_aload_n X 0 dX1_on_69 rfl rfl ?_
    refine wg_getC X cl1 hp0 3 (by decide) dX1_on_70 k_117 rfl ?_
    refine wg_iadd X dX1_on_73 ?_
    exact wg_iret X ⟨(sm_inj h), rfl, rfl⟩ hr dX1_on_74
  have h := if_f c4 h
  by_cases c5 : v1 = (3 : Int32)
  · have h := if_t c5 h
    refine wg_tblIn (off := 36) X 40 dX1_on_4 c5 (by decide) (by decide) (by decide) (by decide) ?_
    exact J_X1_on_j40 X hr hS r0 M p0 hp0 C  p1   h
  have h := if_f c5 h
  by_cases c6 : v1 = (4 : Int32)
  · have h := if_t c6 h
    refine wg_tblIn (off := 48) X 52 dX1_on_4 c6 (by decide) (by decide) (by decide) (by decide) ?_
    refine wg_iload_n X 1 dX1_on_52 rfl rfl ?_
    exact wg_iret X ⟨(sm_inj h), rfl, rfl⟩ hr dX1_on_53
  have h := if_f c6 h
  by_cases c7 : v1 = (5 : Int32)
  · have h := if_t c7 h
    refine wg_tblIn (off := 50) X 54 dX1_on_4 c7 (by decide) (by decide) (by decide) (by decide) ?_
    refine wg_iload_n X 1 dX1_on_54 rfl rfl ?_
    refine wg_aload_n X 0 dX1_on_55 rfl rfl ?_
    refine wg_getC X cl1 hp0 3 (by decide) dX1_on_56 k_117 rfl ?_
    refine wg_aload_n X 0 dX1_on_59 rfl rfl ?_
    refine wg_getC X cl1 hp0 2 (by decide) dX1_on_60 k_114 rfl ?_
    refine wg_iconst (v := 1) X dX1_on_63 (by decide) ?_
    refine wg_iadd X dX1_on_64 ?_
    refine wg_imul X dX1_on_65 ?_
    refine wg_iadd X dX1_on_66 ?_
    exact wg_iret X ⟨(sm_inj h), rfl, rfl⟩ hr dX1_on_67
  have h := if_f c7 h
  refine wg_tblOut X 68 dX1_on_4 (wg_tout (1) (5) (fun k hk => by
      rcases (show k = 0 ∨ k = 1 ∨ k = 2 ∨ k = 3 ∨ k = 4 by omega) with rfl | rfl | rfl | rfl | rfl
      · exact fun q => c3 (q.trans (by decide))
      · exact fun q => c4 (q.trans (by decide))
      · exact fun q => c5 (q.trans (by decide))
      · exact fun q => c6 (q.trans (by decide))
      · exact fun q => c7 (q.trans (by decide))) (by decide) (by decide)) (by decide) ?_
  refine wg_iload_n X 1 dX1_on_68 rfl rfl ?_
  refine wg_aload_n X 0 dX1_on_69 rfl rfl ?_
  refine wg_getC X cl1 hp0 3 (by decide) dX1_on_70 k_117 rfl ?_
  refine wg_iadd X dX1_on_73 ?_
  exact wg_iret X ⟨(sm_inj h), rfl, rfl⟩ hr dX1_on_74
-- WindowsGive$Pane.lets(II)Z ('P', 'i', 'i')
def f_X1_lets (C : wg_C) (p0 : Nat) (p1 : Int32) (p2 : Int32) : Option Int32 :=
  lt_ (C p0 1) fun v1 =>
  if v1 = (2 : Int32) then (
    if p2 = (1 : Int32) then (
      some (1 : Int32))
    else (
      some (0 : Int32)))
  else
  if v1 = (3 : Int32) then (
    some (1 : Int32))
  else
  if v1 = (4 : Int32) then (
    if p2 = 0 then (
      some (1 : Int32))
    else (
      some (0 : Int32)))
  else
  if v1 = (5 : Int32) then (
    if (C p0 2) < 0 then (
      some (0 : Int32))
    else (
      ck (¬ ((C p0 2) + (1 : Int32)) = 0) <|
      if (p1 - p1 / ((C p0 2) + (1 : Int32)) * ((C p0 2) + (1 : Int32))) = 0 then (
        some (1 : Int32))
      else (
        some (0 : Int32))))
  else
  if p2 = 0 then (
    some (1 : Int32))
  else (
    if p2 = (1 : Int32) then (
      some (1 : Int32))
    else (
      some (0 : Int32)))
set_option maxHeartbeats 4000000 in
set_option maxRecDepth 100000 in
theorem c_X1_lets (l : Launch) (E : wg_Ev) (ad : Nat → Nat) (S : wg_Sh) (hS : wg_SC S) (C : wg_C) (M : wg_M) (p0 : Nat) (p1 : Int32) (p2 : Int32) (hp0 : wg_id S p0 1) {r0 : Int32} (h : f_X1_lets C p0 p1 p2 = some r0) : wg_Ci l yX1_lets cX1_lets 3 (some .boolean) 0 0 E ad S C M [.ref (ad p0), .int p1, .int p2] r0 C M := by
  refine wg_start (own := RX1) (by decide +kernel) rfl (Nat.le_of_ble_eq_true rfl) ?_
  intro p e s m below meth c X hr hnm
  refine wg_lv (lv' := [(0, .ref (ad p0)), (1, .int p1), (2, .int p2)]) rfl ?_
  unfold f_X1_lets at h
  refine wg_aload_n X 0 dX1_lets_0 rfl rfl ?_
  refine wg_getC X cl1 hp0 1 (by decide) dX1_lets_1 k_112 rfl ?_
  obtain ⟨v1, e2, h⟩ := lt_some h
  refine wg_top e2 ?_
  by_cases c3 : v1 = (2 : Int32)
  · have h := if_t c3 h
    refine wg_tblIn (off := 32) X 36 dX1_lets_4 c3 (by decide) (by decide) (by decide) (by decide) ?_
    refine wg_iload_n X 2 dX1_lets_36 rfl rfl ?_
    refine wg_iconst (v := 1) X dX1_lets_37 (by decide) ?_
    refine wg_icmp_ne X 45 dX1_lets_38 (by decide) (fun c4 => ?_) (fun c4 => ?_)
    · have h := if_f c4 h
      refine wg_iconst (v := 0) X dX1_lets_45 (by decide) ?_
      exact wg_zret X ⟨(sm_inj h), rfl, rfl⟩ hr (by decide) dX1_lets_46
    · have h := if_t c4 h
      refine wg_iconst (v := 1) X dX1_lets_41 (by decide) ?_
      refine wg_goto X 46 dX1_lets_42 (by decide) ?_
      exact wg_zret X ⟨(sm_inj h), rfl, rfl⟩ hr (by decide) dX1_lets_46
  have h := if_f c3 h
  by_cases c5 : v1 = (3 : Int32)
  · have h := if_t c5 h
    refine wg_tblIn (off := 43) X 47 dX1_lets_4 c5 (by decide) (by decide) (by decide) (by decide) ?_
    refine wg_iconst (v := 1) X dX1_lets_47 (by decide) ?_
    exact wg_zret X ⟨(sm_inj h), rfl, rfl⟩ hr (by decide) dX1_lets_48
  have h := if_f c5 h
  by_cases c6 : v1 = (4 : Int32)
  · have h := if_t c6 h
    refine wg_tblIn (off := 45) X 49 dX1_lets_4 c6 (by decide) (by decide) (by decide) (by decide) ?_
    refine wg_iload_n X 2 dX1_lets_49 rfl rfl ?_
    refine wg_if_ne X 57 dX1_lets_50 (by decide) (fun c7 => ?_) (fun c7 => ?_)
    · have h := if_f c7 h
      refine wg_iconst (v := 0) X dX1_lets_57 (by decide) ?_
      exact wg_zret X ⟨(sm_inj h), rfl, rfl⟩ hr (by decide) dX1_lets_58
    · have h := if_t c7 h
      refine wg_iconst (v := 1) X dX1_lets_53 (by decide) ?_
      refine wg_goto X 58 dX1_lets_54 (by decide) ?_
      exact wg_zret X ⟨(sm_inj h), rfl, rfl⟩ hr (by decide) dX1_lets_58
  have h := if_f c6 h
  by_cases c8 : v1 = (5 : Int32)
  · have h := if_t c8 h
    refine wg_tblIn (off := 55) X 59 dX1_lets_4 c8 (by decide) (by decide) (by decide) (by decide) ?_
    refine wg_aload_n X 0 dX1_lets_59 rfl rfl ?_
    refine wg_getC X cl1 hp0 2 (by decide) dX1_lets_60 k_114 rfl ?_
    refine wg_if_lt X 81 dX1_lets_63 (by decide) (fun c9 => ?_) (fun c9 => ?_)
    · have h := if_t c9 h
      refine wg_iconst (v := 0) X dX1_lets_81 (by decide) ?_
      exact wg_zret X ⟨(sm_inj h), rfl, rfl⟩ hr (by decide) dX1_lets_82
    · have h := if_f c9 h
      refine wg_iload_n X 1 dX1_lets_66 rfl rfl ?_
      refine wg_aload_n X 0 dX1_lets_67 rfl rfl ?_
      refine wg_getC X cl1 hp0 2 (by decide) dX1_lets_68 k_114 rfl ?_
      refine wg_iconst (v := 1) X dX1_lets_71 (by decide) ?_
      refine wg_iadd X dX1_lets_72 ?_
      obtain ⟨z10, h⟩ := ck_some h
      refine wg_irem X dX1_lets_73 z10 ?_
      refine wg_if_ne X 81 dX1_lets_74 (by decide) (fun c11 => ?_) (fun c11 => ?_)
      · have h := if_f c11 h
        refine wg_iconst (v := 0) X dX1_lets_81 (by decide) ?_
        exact wg_zret X ⟨(sm_inj h), rfl, rfl⟩ hr (by decide) dX1_lets_82
      · have h := if_t c11 h
        refine wg_iconst (v := 1) X dX1_lets_77 (by decide) ?_
        refine wg_goto X 82 dX1_lets_78 (by decide) ?_
        exact wg_zret X ⟨(sm_inj h), rfl, rfl⟩ hr (by decide) dX1_lets_82
  have h := if_f c8 h
  refine wg_tblOut X 83 dX1_lets_4 (wg_tout (2) (5) (fun k hk => by
      rcases (show k = 0 ∨ k = 1 ∨ k = 2 ∨ k = 3 by omega) with rfl | rfl | rfl | rfl
      · exact fun q => c3 (q.trans (by decide))
      · exact fun q => c5 (q.trans (by decide))
      · exact fun q => c6 (q.trans (by decide))
      · exact fun q => c8 (q.trans (by decide))) (by decide) (by decide)) (by decide) ?_
  refine wg_iload_n X 2 dX1_lets_83 rfl rfl ?_
  refine wg_if_eq X 92 dX1_lets_84 (by decide) (fun c12 => ?_) (fun c12 => ?_)
  · have h := if_t c12 h
    refine wg_iconst (v := 1) X dX1_lets_92 (by decide) ?_
    refine wg_goto X 97 dX1_lets_93 (by decide) ?_
    exact wg_zret X ⟨(sm_inj h), rfl, rfl⟩ hr (by decide) dX1_lets_97
  · have h := if_f c12 h
    refine wg_iload_n X 2 dX1_lets_87 rfl rfl ?_
    refine wg_iconst (v := 1) X dX1_lets_88 (by decide) ?_
    refine wg_icmp_ne X 96 dX1_lets_89 (by decide) (fun c13 => ?_) (fun c13 => ?_)
    · have h := if_f c13 h
      refine wg_iconst (v := 0) X dX1_lets_96 (by decide) ?_
      exact wg_zret X ⟨(sm_inj h), rfl, rfl⟩ hr (by decide) dX1_lets_97
    · have h := if_t c13 h
      refine wg_iconst (v := 1) X dX1_lets_92 (by decide) ?_
      refine wg_goto X 97 dX1_lets_93 (by decide) ?_
      exact wg_zret X ⟨(sm_inj h), rfl, rfl⟩ hr (by decide) dX1_lets_97
-- WindowsGive$Pane.passes(II)Z ('P', 'i', 'i')
def f_X1_passes (C : wg_C) (p0 : Nat) (p1 : Int32) (p2 : Int32) : Option Int32 :=
  bd (f_X1_on C p0 p1) fun r2 =>
  bd (f_X8_isDay r2) fun r4 =>
  if r4 = 0 then (
    some (0 : Int32))
  else (
    bd (f_X1_lets C p0 p1 p2) fun r7 =>
    if r7 = 0 then (
      some (0 : Int32))
    else (
      some (1 : Int32)))
set_option maxHeartbeats 4000000 in
set_option maxRecDepth 100000 in
theorem c_X1_passes (l : Launch) (E : wg_Ev) (ad : Nat → Nat) (S : wg_Sh) (hS : wg_SC S) (C : wg_C) (M : wg_M) (p0 : Nat) (p1 : Int32) (p2 : Int32) (hp0 : wg_id S p0 1) {r0 : Int32} (h : f_X1_passes C p0 p1 p2 = some r0) : wg_Ci l yX1_passes cX1_passes 3 (some .boolean) 1 22 E ad S C M [.ref (ad p0), .int p1, .int p2] r0 C M := by
  refine wg_start (own := RX1) (by decide +kernel) rfl (Nat.le_of_ble_eq_true rfl) ?_
  intro p e s m below meth c X hr hnm
  refine wg_lv (lv' := [(0, .ref (ad p0)), (1, .int p1), (2, .int p2)]) rfl ?_
  unfold f_X1_passes at h
  refine wg_aload_n X 0 dX1_passes_0 rfl rfl ?_
  refine wg_iload_n X 1 dX1_passes_1 rfl rfl ?_
  obtain ⟨r2, h1, h⟩ := bd_some h
  refine wg_callVi (As := [.int p1]) (rest := []) X (c_X1_on l E ad S hS C M p0 p1 hp0 h1) T_yX1_on k_565 cl1 hp0 dX1_passes_2 rfl rfl (Nat.le_of_ble_eq_true rfl) ⟨Nat.le_of_ble_eq_true rfl, Nat.le_of_ble_eq_true rfl⟩ ⟨Nat.zero_le _, Nat.zero_le _⟩ ?_
  obtain ⟨r4, h3, h⟩ := bd_some h
  refine wg_callNi (host := "WindowsGive") (As := [.int r2]) (rest := []) X (c_X8_isDay l E ad S C M r2  h3) T_yX8_isDay (by simp [wg_nest]) dX1_passes_5 rfl rfl (Nat.le_of_ble_eq_true rfl) ⟨Nat.le_of_ble_eq_true rfl, Nat.le_of_ble_eq_true rfl⟩ ⟨Nat.zero_le _, Nat.zero_le _⟩ ?_
  refine wg_if_eq X 24 dX1_passes_8 (by decide) (fun c5 => ?_) (fun c5 => ?_)
  · have h := if_t c5 h
    refine wg_iconst (v := 0) X dX1_passes_24 (by decide) ?_
    exact wg_zret X ⟨(sm_inj h), rfl, rfl⟩ hr (by decide) dX1_passes_25
  · have h := if_f c5 h
    refine wg_aload_n X 0 dX1_passes_11 rfl rfl ?_
    refine wg_iload_n X 1 dX1_passes_12 rfl rfl ?_
    refine wg_iload_n X 2 dX1_passes_13 rfl rfl ?_
    obtain ⟨r7, h6, h⟩ := bd_some h
    refine wg_callVi (As := [.int p1, .int p2]) (rest := []) X (c_X1_lets l E ad S hS C M p0 p1 p2 hp0 h6) T_yX1_lets k_567 cl1 hp0 dX1_passes_14 rfl rfl (Nat.le_of_ble_eq_true rfl) ⟨Nat.le_of_ble_eq_true rfl, Nat.le_of_ble_eq_true rfl⟩ ⟨Nat.zero_le _, Nat.zero_le _⟩ ?_
    refine wg_if_eq X 24 dX1_passes_17 (by decide) (fun c8 => ?_) (fun c8 => ?_)
    · have h := if_t c8 h
      refine wg_iconst (v := 0) X dX1_passes_24 (by decide) ?_
      exact wg_zret X ⟨(sm_inj h), rfl, rfl⟩ hr (by decide) dX1_passes_25
    · have h := if_f c8 h
      refine wg_iconst (v := 1) X dX1_passes_20 (by decide) ?_
      refine wg_goto X 25 dX1_passes_21 (by decide) ?_
      exact wg_zret X ⟨(sm_inj h), rfl, rfl⟩ hr (by decide) dX1_passes_25
-- WindowsGive.isSort(I)Z ('i',)
def f_X8_isSort (p0 : Int32) : Option Int32 :=
  if p0 < 0 then (
    some (0 : Int32))
  else (
    if (2 : Int32) < p0 then (
      some (0 : Int32))
    else (
      some (1 : Int32)))
set_option maxHeartbeats 4000000 in
set_option maxRecDepth 100000 in
theorem c_X8_isSort (l : Launch) (E : wg_Ev) (ad : Nat → Nat) (S : wg_Sh) (C : wg_C) (M : wg_M) (p0 : Int32)  {r0 : Int32} (h : f_X8_isSort p0 = some r0) : wg_Ci l yX8_isSort cX8_isSort 1 (some .boolean) 0 0 E ad S C M [.int p0] r0 C M := by
  refine wg_start (own := RX8) (by decide +kernel) rfl (Nat.le_of_ble_eq_true rfl) ?_
  intro p e s m below meth c X hr hnm
  refine wg_lv (lv' := [(0, .int p0)]) rfl ?_
  unfold f_X8_isSort at h
  refine wg_iload_n X 0 dX8_isSort_0 rfl rfl ?_
  refine wg_if_lt X 13 dX8_isSort_1 (by decide) (fun c1 => ?_) (fun c1 => ?_)
  · have h := if_t c1 h
    refine wg_iconst (v := 0) X dX8_isSort_13 (by decide) ?_
    exact wg_zret X ⟨(sm_inj h), rfl, rfl⟩ hr (by decide) dX8_isSort_14
  · have h := if_f c1 h
    refine wg_iload_n X 0 dX8_isSort_4 rfl rfl ?_
    refine wg_iconst (v := 2) X dX8_isSort_5 (by decide) ?_
    refine wg_icmp_gt X 13 dX8_isSort_6 (by decide) (fun c2 => ?_) (fun c2 => ?_)
    · have h := if_t c2 h
      refine wg_iconst (v := 0) X dX8_isSort_13 (by decide) ?_
      exact wg_zret X ⟨(sm_inj h), rfl, rfl⟩ hr (by decide) dX8_isSort_14
    · have h := if_f c2 h
      refine wg_iconst (v := 1) X dX8_isSort_9 (by decide) ?_
      refine wg_goto X 14 dX8_isSort_10 (by decide) ?_
      exact wg_zret X ⟨(sm_inj h), rfl, rfl⟩ hr (by decide) dX8_isSort_14
-- WindowsGive.gives(III)I (('c', 0), 'i', 'i', 'i')
def f_X8_gives_j34 (C : wg_C)  (x1 : Int32) (x2 : Int32) (x3 : Int32) : Option Int32 :=
  ck (inb x1 8) <|
  if x3 = (-1 : Int32) then (
    bd (f_X1_on C (4 + x1.toNatClampNeg) x2) fun r14 =>
    some r14)
  else (
    bd (f_X1_passes C (4 + x1.toNatClampNeg) x2 x3) fun r11 =>
    if r11 = 0 then (
      some (0 : Int32))
    else (
      some (1 : Int32)))
def f_X8_gives (C : wg_C) (p1 : Int32) (p2 : Int32) (p3 : Int32) : Option Int32 :=
  bd (f_X0_has C p1) fun r2 =>
  if r2 = 0 then (
    some (-1000 : Int32))
  else (
    bd (f_X8_isDay p2) fun r5 =>
    if r5 = 0 then (
      some (-1000 : Int32))
    else (
      if p3 = (-1 : Int32) then (
        f_X8_gives_j34 C  p1 p2 p3)
      else (
        bd (f_X8_isSort p3) fun r16 =>
        if r16 = 0 then (
          some (-1000 : Int32))
        else (
          f_X8_gives_j34 C  p1 p2 p3))))
abbrev G_X8_gives (p : Program) (l : Launch) (e : Env) (s : State) (m : MethodId) (args : Array Value) (below : List Frame) (meth : Method) (c : Code) (E : wg_Ev) (ad : Nat → Nat) (S : wg_Sh) (r0 : Int32) (C0 : wg_C) (M0 : wg_M) (pc : Nat) (C : wg_C) (M : wg_M) (lv : List (Nat × Value)) (st : List Value) : Prop := wg_G p l e (wg_Rm 2 44) s m args below meth c (MQ below (wg_Qi E ad S r0 C0 M0) args s 0 0 (wg_A E)) 5 E ad S 0 0 pc C M lv st
set_option maxHeartbeats 4000000 in
set_option maxRecDepth 100000 in
theorem J_X8_gives_j34 {p : Program} {l : Launch} {e : Env} {s : State} {m : MethodId} {args : Array Value} {below : List Frame} {meth : Method} {c : Code} {E : wg_Ev} {ad : Nat → Nat} {S : wg_Sh} (X : wg_X p s m args meth c cX8_gives 5 RX8 E) (hr : meth.sig.returnType = (some .int)) (hS : wg_SC S) (r0 : Int32) (M : wg_M)  (C : wg_C)  (x1 : Int32) (x2 : Int32) (x3 : Int32)   (h : f_X8_gives_j34 C  x1 x2 x3 = some r0) : G_X8_gives p l e s m args below meth c E ad S r0 C M 34 C M [(0, .ref (ad 0)), (1, .int x1), (2, .int x2), (3, .int x3)] [] := by
  unfold f_X8_gives_j34 at h
  refine wg_aload_n X 0 dX8_gives_34 rfl rfl ?_
  refine wg_getR (b := 1) X cl8 (SCi hS 0 8 rfl) 0 (by decide) dX8_gives_35 k_472 rfl (SCr hS 0 0 1 rfl) ?_
  refine wg_getR (b := 3) X cl0 (SCi hS 1 0 rfl) 1 (by decide) dX8_gives_38 k_144 rfl (SCr hS 1 1 3 rfl) ?_
  refine wg_iload_n X 1 dX8_gives_41 rfl rfl ?_
  obtain ⟨z8, h⟩ := ck_some h
  refine wg_aalS13 (b := 4 + x1.toNatClampNeg) X (SCi hS 3 13 rfl) (SCl hS 3 8 rfl) z8 (SCp hS (inb_lt z8)).1 dX8_gives_42 ?_
  refine wg_astore (lv' := [(4, .ref (ad (4 + x1.toNatClampNeg))), (0, .ref (ad 0)), (1, .int x1), (2, .int x2), (3, .int x3)]) X dX8_gives_43 rfl (by decide) rfl ?_
  refine wg_iload_n X 4 dX8_gives_45 rfl rfl ?_
  refine wg_iconst (v := -1) X dX8_gives_46 (by decide) ?_
  refine wg_icmp_ne X 57 dX8_gives_47 (by decide) (fun c9 => ?_) (fun c9 => ?_)
  · have h := if_f c9 h
    refine wg_aload X 0 dX8_gives_57 rfl ?_
    refine wg_iload_n X 3 dX8_gives_59 rfl rfl ?_
    refine wg_iload_n X 4 dX8_gives_60 rfl rfl ?_
    obtain ⟨r11, h10, h⟩ := bd_some h
    refine wg_callVi (As := [.int x2, .int x3]) (rest := []) X (c_X1_passes l E ad S hS C M (4 + x1.toNatClampNeg) x2 x3 ((SCp hS (inb_lt z8)).2.1) h10) T_yX1_passes k_561 cl1 ((SCp hS (inb_lt z8)).2.1) dX8_gives_61 rfl rfl (Nat.le_of_ble_eq_true rfl) ⟨Nat.le_of_ble_eq_true rfl, Nat.le_of_ble_eq_true rfl⟩ ⟨Nat.zero_le _, Nat.zero_le _⟩ ?_
    refine wg_if_eq X 71 dX8_gives_64 (by decide) (fun c12 => ?_) (fun c12 => ?_)
    · have h := if_t c12 h
      refine wg_iconst (v := 0) X dX8_gives_71 (by decide) ?_
      exact wg_iret X ⟨(sm_inj h), rfl, rfl⟩ hr dX8_gives_72
    · have h := if_f c12 h
      refine wg_iconst (v := 1) X dX8_gives_67 (by decide) ?_
      refine wg_goto X 72 dX8_gives_68 (by decide) ?_
      exact wg_iret X ⟨(sm_inj h), rfl, rfl⟩ hr dX8_gives_72
  · have h := if_t c9 h
    refine wg_aload X 0 dX8_gives_50 rfl ?_
    refine wg_iload_n X 3 dX8_gives_52 rfl rfl ?_
    obtain ⟨r14, h13, h⟩ := bd_some h
    refine wg_callVi (As := [.int x2]) (rest := []) X (c_X1_on l E ad S hS C M (4 + x1.toNatClampNeg) x2 ((SCp hS (inb_lt z8)).2.1) h13) T_yX1_on k_557 cl1 ((SCp hS (inb_lt z8)).2.1) dX8_gives_53 rfl rfl (Nat.le_of_ble_eq_true rfl) ⟨Nat.le_of_ble_eq_true rfl, Nat.le_of_ble_eq_true rfl⟩ ⟨Nat.zero_le _, Nat.zero_le _⟩ ?_
    exact wg_iret X ⟨(sm_inj h), rfl, rfl⟩ hr dX8_gives_56
set_option maxHeartbeats 4000000 in
set_option maxRecDepth 100000 in
theorem c_X8_gives (l : Launch) (E : wg_Ev) (ad : Nat → Nat) (S : wg_Sh) (hS : wg_SC S) (C : wg_C) (M : wg_M) (p1 : Int32) (p2 : Int32) (p3 : Int32)  {r0 : Int32} (h : f_X8_gives C p1 p2 p3 = some r0) : wg_Ci l yX8_gives cX8_gives 5 (some .int) 2 44 E ad S C M [.ref (ad 0), .int p1, .int p2, .int p3] r0 C M := by
  refine wg_start (own := RX8) (by decide +kernel) rfl (Nat.le_of_ble_eq_true rfl) ?_
  intro p e s m below meth c X hr hnm
  refine wg_lv (lv' := [(0, .ref (ad 0)), (1, .int p1), (2, .int p2), (3, .int p3)]) rfl ?_
  unfold f_X8_gives at h
  refine wg_aload_n X 0 dX8_gives_0 rfl rfl ?_
  refine wg_getR (b := 1) X cl8 (SCi hS 0 8 rfl) 0 (by decide) dX8_gives_1 k_472 rfl (SCr hS 0 0 1 rfl) ?_
  refine wg_iload_n X 1 dX8_gives_4 rfl rfl ?_
  obtain ⟨r2, h1, h⟩ := bd_some h
  refine wg_callVi (As := [.int p1]) (rest := []) X (c_X0_has l E ad S hS C M p1  h1) T_yX0_has k_520 cl0 (SCi hS 1 0 rfl) dX8_gives_5 rfl rfl (Nat.le_of_ble_eq_true rfl) ⟨Nat.le_of_ble_eq_true rfl, Nat.le_of_ble_eq_true rfl⟩ ⟨Nat.zero_le _, Nat.zero_le _⟩ ?_
  refine wg_if_eq X 30 dX8_gives_8 (by decide) (fun c3 => ?_) (fun c3 => ?_)
  · have h := if_t c3 h
    refine wg_sipush (v := -1000) X dX8_gives_30 (by decide) ?_
    exact wg_iret X ⟨(sm_inj h), rfl, rfl⟩ hr dX8_gives_33
  · have h := if_f c3 h
    refine wg_iload_n X 2 dX8_gives_11 rfl rfl ?_
    obtain ⟨r5, h4, h⟩ := bd_some h
    refine wg_callSi (As := [.int p2]) (rest := []) X (c_X8_isDay l E ad S C M p2  h4) T_yX8_isDay k_517 dX8_gives_12 rfl rfl (Nat.le_of_ble_eq_true rfl) ⟨Nat.le_of_ble_eq_true rfl, Nat.le_of_ble_eq_true rfl⟩ ⟨Nat.zero_le _, Nat.zero_le _⟩ ?_
    refine wg_if_eq X 30 dX8_gives_15 (by decide) (fun c6 => ?_) (fun c6 => ?_)
    · have h := if_t c6 h
      refine wg_sipush (v := -1000) X dX8_gives_30 (by decide) ?_
      exact wg_iret X ⟨(sm_inj h), rfl, rfl⟩ hr dX8_gives_33
    · have h := if_f c6 h
      refine wg_iload_n X 3 dX8_gives_18 rfl rfl ?_
      refine wg_iconst (v := -1) X dX8_gives_19 (by decide) ?_
      refine wg_icmp_eq X 34 dX8_gives_20 (by decide) (fun c7 => ?_) (fun c7 => ?_)
      · have h := if_t c7 h
        exact J_X8_gives_j34 X hr hS r0 M  C  p1 p2 p3   h
      · have h := if_f c7 h
        refine wg_iload_n X 3 dX8_gives_23 rfl rfl ?_
        obtain ⟨r16, h15, h⟩ := bd_some h
        refine wg_callSi (As := [.int p3]) (rest := []) X (c_X8_isSort l E ad S C M p3  h15) T_yX8_isSort k_554 dX8_gives_24 rfl rfl (Nat.le_of_ble_eq_true rfl) ⟨Nat.le_of_ble_eq_true rfl, Nat.le_of_ble_eq_true rfl⟩ ⟨Nat.zero_le _, Nat.zero_le _⟩ ?_
        refine wg_if_ne X 34 dX8_gives_27 (by decide) (fun c17 => ?_) (fun c17 => ?_)
        · have h := if_f c17 h
          exact J_X8_gives_j34 X hr hS r0 M  C  p1 p2 p3   h
        · have h := if_t c17 h
          refine wg_sipush (v := -1000) X dX8_gives_30 (by decide) ?_
          exact wg_iret X ⟨(sm_inj h), rfl, rfl⟩ hr dX8_gives_33
-- WindowsGive$Tape.put(I)Z (('c', 23), 'i')
def f_X5_put (C : wg_C) (p1 : Int32) : Option (Int32 × wg_C) :=
  if (C 23 1) < (160 : Int32) then (
    ck (inb (C 23 1) 160) <|
    lt_ (wg_up C 24 (C 23 1).toNatClampNeg p1) fun C3 =>
    lt_ (wg_up C3 23 1 ((C3 23 1) + (1 : Int32))) fun C5 =>
    some ((1 : Int32), C5))
  else (
    some ((0 : Int32), C))
set_option maxHeartbeats 4000000 in
set_option maxRecDepth 100000 in
theorem c_X5_put (l : Launch) (E : wg_Ev) (ad : Nat → Nat) (S : wg_Sh) (hS : wg_SC S) (C : wg_C) (M : wg_M) (p1 : Int32)  {r0 : Int32} {D0 : wg_C} (h : f_X5_put C p1 = some (r0, D0)) : wg_Ci l yX5_put cX5_put 2 (some .boolean) 0 0 E ad S C M [.ref (ad 23), .int p1] r0 D0 M := by
  refine wg_start (own := RX5) (by decide +kernel) rfl (Nat.le_of_ble_eq_true rfl) ?_
  intro p e s m below meth c X hr hnm
  refine wg_lv (lv' := [(0, .ref (ad 23)), (1, .int p1)]) rfl ?_
  unfold f_X5_put at h
  refine wg_aload_n X 0 dX5_put_0 rfl rfl ?_
  refine wg_getC X cl5 (SCi hS 23 5 rfl) 1 (by decide) dX5_put_1 k_168 rfl ?_
  refine wg_sipush (v := 160) X dX5_put_4 (by decide) ?_
  refine wg_icmp_lt X 12 dX5_put_7 (by decide) (fun c1 => ?_) (fun c1 => ?_)
  · have h := if_t c1 h
    refine wg_aload_n X 0 dX5_put_12 rfl rfl ?_
    refine wg_getR (b := 24) X cl5 (SCi hS 23 5 rfl) 0 (by decide) dX5_put_13 k_167 rfl (SCr hS 23 0 24 rfl) ?_
    refine wg_aload_n X 0 dX5_put_16 rfl rfl ?_
    refine wg_getC X cl5 (SCi hS 23 5 rfl) 1 (by decide) dX5_put_17 k_168 rfl ?_
    refine wg_iload_n X 1 dX5_put_20 rfl rfl ?_
    obtain ⟨z2, h⟩ := ck_some h
    obtain ⟨C3, e4, h⟩ := lt_some h
    refine wg_iaste X (SCi hS 24 10 rfl) (SCl hS 24 160 rfl) z2 dX5_put_21 e4 ?_
    refine wg_aload_n X 0 dX5_put_22 rfl rfl ?_
    refine wg_dup X dX5_put_23 rfl ?_
    refine wg_getC X cl5 (SCi hS 23 5 rfl) 1 (by decide) dX5_put_24 k_168 rfl ?_
    refine wg_iconst (v := 1) X dX5_put_27 (by decide) ?_
    refine wg_iadd X dX5_put_28 ?_
    obtain ⟨C5, e6, h⟩ := lt_some h
    refine wg_putCe X cl5 (SCi hS 23 5 rfl) 1 (by decide) dX5_put_29 k_168 rfl rfl rfl rfl e6 ?_
    refine wg_iconst (v := 1) X dX5_put_32 (by decide) ?_
    exact wg_zret X ⟨(Prod.mk.inj (sm_inj h)).1, (Prod.mk.inj (sm_inj h)).2, rfl⟩ hr (by decide) dX5_put_33
  · have h := if_f c1 h
    refine wg_iconst (v := 0) X dX5_put_10 (by decide) ?_
    exact wg_zret X ⟨(Prod.mk.inj (sm_inj h)).1, (Prod.mk.inj (sm_inj h)).2, rfl⟩ hr (by decide) dX5_put_11
-- WindowsGive.feed(I)I (('c', 0), 'i')
def f_X8_feed (C : wg_C) (p1 : Int32) : Option (Int32 × wg_C) :=
  if p1 < 0 then (
    some ((-2 : Int32), C))
  else (
    if p1 ≤ (255 : Int32) then (
      bd2 (f_X5_put C p1) fun r4 C5 =>
      if r4 = 0 then (
        some ((-4 : Int32), C5))
      else (
        some ((C5 23 1), C5)))
    else (
      some ((-2 : Int32), C)))
set_option maxHeartbeats 4000000 in
set_option maxRecDepth 100000 in
theorem c_X8_feed (l : Launch) (E : wg_Ev) (ad : Nat → Nat) (S : wg_Sh) (hS : wg_SC S) (C : wg_C) (M : wg_M) (p1 : Int32)  {r0 : Int32} {D0 : wg_C} (h : f_X8_feed C p1 = some (r0, D0)) : wg_Ci l yX8_feed cX8_feed 2 (some .int) 1 21 E ad S C M [.ref (ad 0), .int p1] r0 D0 M := by
  refine wg_start (own := RX8) (by decide +kernel) rfl (Nat.le_of_ble_eq_true rfl) ?_
  intro p e s m below meth c X hr hnm
  refine wg_lv (lv' := [(0, .ref (ad 0)), (1, .int p1)]) rfl ?_
  unfold f_X8_feed at h
  refine wg_iload_n X 1 dX8_feed_0 rfl rfl ?_
  refine wg_if_lt X 11 dX8_feed_1 (by decide) (fun c1 => ?_) (fun c1 => ?_)
  · have h := if_t c1 h
    refine wg_bipush (v := -2) X dX8_feed_11 (by decide) ?_
    exact wg_iret X ⟨(Prod.mk.inj (sm_inj h)).1, (Prod.mk.inj (sm_inj h)).2, rfl⟩ hr dX8_feed_13
  · have h := if_f c1 h
    refine wg_iload_n X 1 dX8_feed_4 rfl rfl ?_
    refine wg_sipush (v := 255) X dX8_feed_5 (by decide) ?_
    refine wg_icmp_le X 14 dX8_feed_8 (by decide) (fun c2 => ?_) (fun c2 => ?_)
    · have h := if_t c2 h
      refine wg_aload_n X 0 dX8_feed_14 rfl rfl ?_
      refine wg_getR (b := 23) X cl8 (SCi hS 0 8 rfl) 3 (by decide) dX8_feed_15 k_475 rfl (SCr hS 0 3 23 rfl) ?_
      refine wg_iload_n X 1 dX8_feed_18 rfl rfl ?_
      obtain ⟨r4, C5, h3, h⟩ := bd2_some h
      refine wg_callVi (As := [.int p1]) (rest := []) X (c_X5_put l E ad S hS C M p1  h3) T_yX5_put k_331 cl5 (SCi hS 23 5 rfl) dX8_feed_19 rfl rfl (Nat.le_of_ble_eq_true rfl) ⟨Nat.le_of_ble_eq_true rfl, Nat.le_of_ble_eq_true rfl⟩ ⟨Nat.zero_le _, Nat.zero_le _⟩ ?_
      refine wg_if_eq X 35 dX8_feed_22 (by decide) (fun c6 => ?_) (fun c6 => ?_)
      · have h := if_t c6 h
        refine wg_bipush (v := -4) X dX8_feed_35 (by decide) ?_
        exact wg_iret X ⟨(Prod.mk.inj (sm_inj h)).1, (Prod.mk.inj (sm_inj h)).2, rfl⟩ hr dX8_feed_37
      · have h := if_f c6 h
        refine wg_aload_n X 0 dX8_feed_25 rfl rfl ?_
        refine wg_getR (b := 23) X cl8 (SCi hS 0 8 rfl) 3 (by decide) dX8_feed_26 k_475 rfl (SCr hS 0 3 23 rfl) ?_
        refine wg_getC X cl5 (SCi hS 23 5 rfl) 1 (by decide) dX8_feed_29 k_169 rfl ?_
        refine wg_goto X 37 dX8_feed_32 (by decide) ?_
        exact wg_iret X ⟨(Prod.mk.inj (sm_inj h)).1, (Prod.mk.inj (sm_inj h)).2, rfl⟩ hr dX8_feed_37
    · have h := if_f c2 h
      refine wg_bipush (v := -2) X dX8_feed_11 (by decide) ?_
      exact wg_iret X ⟨(Prod.mk.inj (sm_inj h)).1, (Prod.mk.inj (sm_inj h)).2, rfl⟩ hr dX8_feed_13
-- WindowsGive$Tape.skipBlanks()V (('c', 23),)
def f_X5_skipBlanks_j39l0 (N : Nat) (C : wg_C)   : Option ((wg_C) ⊕ (wg_C)) :=
  lt_ (wg_up C 23 2 ((C 23 2) + (1 : Int32))) fun C4 =>
  some (.inl C4)
def f_X5_skipBlanks_l0 (N : Nat)   (C : wg_C)  : Option ((wg_C) ⊕ (wg_C)) :=
  if (C 23 1) ≤ (C 23 2) then (
    some (.inr C))
  else (
    ck (inb (C 23 2) 160) <|
    if (C 24 (C 23 2).toNatClampNeg) = (32 : Int32) then (
      f_X5_skipBlanks_j39l0 N C  )
    else (
      ck (inb (C 23 2) 160) <|
      if (C 24 (C 23 2).toNatClampNeg) = (10 : Int32) then (
        f_X5_skipBlanks_j39l0 N C  )
      else (
        some (.inr C))))
def f_X5_skipBlanks (N : Nat) (C : wg_C)  : Option wg_C :=
  bd (lp (fun o => f_X5_skipBlanks_l0 N   o) N C) fun C8 =>
  some C8
abbrev G_X5_skipBlanks (p : Program) (l : Launch) (e : Env) (s : State) (m : MethodId) (args : Array Value) (below : List Frame) (meth : Method) (c : Code) (E : wg_Ev) (ad : Nat → Nat) (S : wg_Sh) (C0 : wg_C) (M0 : wg_M) (pc : Nat) (C : wg_C) (M : wg_M) (lv : List (Nat × Value)) (st : List Value) : Prop := wg_G p l e (wg_Rm 0 0) s m args below meth c (MQ below (wg_Qv E ad S C0 M0) args s 0 0 (wg_A E)) 1 E ad S 0 0 pc C M lv st
set_option maxHeartbeats 4000000 in
set_option maxRecDepth 100000 in
theorem J_X5_skipBlanks_j39l0 {p : Program} {l : Launch} {e : Env} {s : State} {m : MethodId} {args : Array Value} {below : List Frame} {meth : Method} {c : Code} {E : wg_Ev} {ad : Nat → Nat} {S : wg_Sh} (X : wg_X p s m args meth c cX5_skipBlanks 1 RX5 E) (hr : meth.sig.returnType = none) (hS : wg_SC S) (D0 : wg_C) (M : wg_M) (N : Nat)  (C : wg_C)    (y : ((wg_C) ⊕ (wg_C))) (Kc : ∀ (Dy : wg_C), y = Sum.inl Dy → G_X5_skipBlanks p l e s m args below meth c E ad S D0 M 0 Dy M [(0, .ref (ad 23))] []) (Ke : ∀ (Dy : wg_C), y = Sum.inr (Dy) → G_X5_skipBlanks p l e s m args below meth c E ad S D0 M 52 Dy M [(0, .ref (ad 23))] []) (h : f_X5_skipBlanks_j39l0 N C   = some y) : G_X5_skipBlanks p l e s m args below meth c E ad S D0 M 39 C M [(0, .ref (ad 23))] [] := by
  unfold f_X5_skipBlanks_j39l0 at h
  refine wg_aload_n X 0 dX5_skipBlanks_39 rfl rfl ?_
  refine wg_dup X dX5_skipBlanks_40 rfl ?_
  refine wg_getC X cl5 (SCi hS 23 5 rfl) 2 (by decide) dX5_skipBlanks_41 k_170 rfl ?_
  refine wg_iconst (v := 1) X dX5_skipBlanks_44 (by decide) ?_
  refine wg_iadd X dX5_skipBlanks_45 ?_
  obtain ⟨C4, e5, h⟩ := lt_some h
  refine wg_putCe X cl5 (SCi hS 23 5 rfl) 2 (by decide) dX5_skipBlanks_46 k_170 rfl rfl rfl rfl e5 ?_
  refine wg_goto X 0 dX5_skipBlanks_49 (by decide) ?_
  exact Kc C4 (sm_inj h).symm
set_option maxHeartbeats 4000000 in
set_option maxRecDepth 100000 in
theorem L_X5_skipBlanks_l0 {p : Program} {l : Launch} {e : Env} {s : State} {m : MethodId} {args : Array Value} {below : List Frame} {meth : Method} {c : Code} {E : wg_Ev} {ad : Nat → Nat} {S : wg_Sh} (X : wg_X p s m args meth c cX5_skipBlanks 1 RX5 E) (hr : meth.sig.returnType = none) (hS : wg_SC S) (D0 : wg_C) (M : wg_M) (N : Nat)     : ∀ (n : Nat) (C : wg_C) (o : (wg_C)), lp (fun o => f_X5_skipBlanks_l0 N   o) n C = some o → (∀ (Dy : wg_C), o = Dy → G_X5_skipBlanks p l e s m args below meth c E ad S D0 M 52 Dy M [(0, .ref (ad 23))] []) → G_X5_skipBlanks p l e s m args below meth c E ad S D0 M 0 C M [(0, .ref (ad 23))] [] := by
  intro n
  induction n with
  | zero => exact fun _ o h => (lp_zero h).elim
  | succ n ih =>
    intro C o h K
    obtain ⟨o1, hb, h2⟩ := lp_some h
    replace hb : f_X5_skipBlanks_l0 N   C = some o1 := hb
    clear h
    have Kc : ∀ (Dy : wg_C), o1 = Sum.inl Dy → G_X5_skipBlanks p l e s m args below meth c E ad S D0 M 0 Dy M [(0, .ref (ad 23))] [] := fun Dy e1 => by
      subst e1
      exact ih Dy o h2 K
    have Ke : ∀ (Dy : wg_C), o1 = Sum.inr (Dy) → G_X5_skipBlanks p l e s m args below meth c E ad S D0 M 52 Dy M [(0, .ref (ad 23))] [] := fun Dy e1 => by
      subst e1
      exact K Dy (sm_inj (α := (wg_C)) h2).symm
    clear ih K h2
    unfold f_X5_skipBlanks_l0 at hb
    have h := hb
    clear hb
    refine wg_aload_n X 0 dX5_skipBlanks_0 rfl rfl ?_
    refine wg_getC X cl5 (SCi hS 23 5 rfl) 2 (by decide) dX5_skipBlanks_1 k_170 rfl ?_
    refine wg_aload_n X 0 dX5_skipBlanks_4 rfl rfl ?_
    refine wg_getC X cl5 (SCi hS 23 5 rfl) 1 (by decide) dX5_skipBlanks_5 k_168 rfl ?_
    refine wg_icmp_ge X 52 dX5_skipBlanks_8 (by decide) (fun c1 => ?_) (fun c1 => ?_)
    · have h := if_t c1 h
      exact Ke C (sm_inj h).symm
    · have h := if_f c1 h
      refine wg_aload_n X 0 dX5_skipBlanks_11 rfl rfl ?_
      refine wg_getR (b := 24) X cl5 (SCi hS 23 5 rfl) 0 (by decide) dX5_skipBlanks_12 k_167 rfl (SCr hS 23 0 24 rfl) ?_
      refine wg_aload_n X 0 dX5_skipBlanks_15 rfl rfl ?_
      refine wg_getC X cl5 (SCi hS 23 5 rfl) 2 (by decide) dX5_skipBlanks_16 k_170 rfl ?_
      obtain ⟨z2, h⟩ := ck_some h
      refine wg_iald X (SCi hS 24 10 rfl) (SCl hS 24 160 rfl) z2 dX5_skipBlanks_19 ?_
      refine wg_bipush (v := 32) X dX5_skipBlanks_20 (by decide) ?_
      refine wg_icmp_eq X 39 dX5_skipBlanks_22 (by decide) (fun c3 => ?_) (fun c3 => ?_)
      · have h := if_t c3 h
        exact J_X5_skipBlanks_j39l0 X hr hS D0 M N  C    _ Kc Ke h
      · have h := if_f c3 h
        refine wg_aload_n X 0 dX5_skipBlanks_25 rfl rfl ?_
        refine wg_getR (b := 24) X cl5 (SCi hS 23 5 rfl) 0 (by decide) dX5_skipBlanks_26 k_167 rfl (SCr hS 23 0 24 rfl) ?_
        refine wg_aload_n X 0 dX5_skipBlanks_29 rfl rfl ?_
        refine wg_getC X cl5 (SCi hS 23 5 rfl) 2 (by decide) dX5_skipBlanks_30 k_170 rfl ?_
        obtain ⟨z6, h⟩ := ck_some h
        refine wg_iald X (SCi hS 24 10 rfl) (SCl hS 24 160 rfl) z6 dX5_skipBlanks_33 ?_
        refine wg_bipush (v := 10) X dX5_skipBlanks_34 (by decide) ?_
        refine wg_icmp_ne X 52 dX5_skipBlanks_36 (by decide) (fun c7 => ?_) (fun c7 => ?_)
        · have h := if_f c7 h
          exact Ke C (sm_inj h).symm
        · have h := if_t c7 h
          exact J_X5_skipBlanks_j39l0 X hr hS D0 M N  C    _ Kc Ke h
set_option maxHeartbeats 4000000 in
set_option maxRecDepth 100000 in
theorem c_X5_skipBlanks (l : Launch) (E : wg_Ev) (ad : Nat → Nat) (S : wg_Sh) (hS : wg_SC S) (N : Nat) (C : wg_C) (M : wg_M)   {D0 : wg_C} (h : f_X5_skipBlanks N C  = some D0) : wg_Cv l yX5_skipBlanks cX5_skipBlanks 1 none 0 0 E ad S C M [.ref (ad 23)] D0 M := by
  refine wg_start (own := RX5) (by decide +kernel) rfl (Nat.le_of_ble_eq_true rfl) ?_
  intro p e s m below meth c X hr hnm
  refine wg_lv (lv' := [(0, .ref (ad 23))]) rfl ?_
  unfold f_X5_skipBlanks at h
  obtain ⟨o9, h10, h⟩ := bd_o h
  refine L_X5_skipBlanks_l0 X hr hS D0 M N     N C o9 h10 (fun C8 e12 => ?_)
  · subst e12
    replace h := bd_in h
    exact wg_vret X ⟨(sm_inj h), rfl⟩ hr dX5_skipBlanks_52
-- WindowsGive$Tape.isLetter(I)Z ('i',)
def f_X5_isLetter (p0 : Int32) : Option Int32 :=
  if p0 < (97 : Int32) then (
    some (0 : Int32))
  else (
    if (122 : Int32) < p0 then (
      some (0 : Int32))
    else (
      some (1 : Int32)))
set_option maxHeartbeats 4000000 in
set_option maxRecDepth 100000 in
theorem c_X5_isLetter (l : Launch) (E : wg_Ev) (ad : Nat → Nat) (S : wg_Sh) (C : wg_C) (M : wg_M) (p0 : Int32)  {r0 : Int32} (h : f_X5_isLetter p0 = some r0) : wg_Ci l yX5_isLetter cX5_isLetter 1 (some .boolean) 0 0 E ad S C M [.int p0] r0 C M := by
  refine wg_start (own := RX5) (by decide +kernel) rfl (Nat.le_of_ble_eq_true rfl) ?_
  intro p e s m below meth c X hr hnm
  refine wg_lv (lv' := [(0, .int p0)]) rfl ?_
  unfold f_X5_isLetter at h
  refine wg_iload_n X 0 dX5_isLetter_0 rfl rfl ?_
  refine wg_bipush (v := 97) X dX5_isLetter_1 (by decide) ?_
  refine wg_icmp_lt X 16 dX5_isLetter_3 (by decide) (fun c1 => ?_) (fun c1 => ?_)
  · have h := if_t c1 h
    refine wg_iconst (v := 0) X dX5_isLetter_16 (by decide) ?_
    exact wg_zret X ⟨(sm_inj h), rfl, rfl⟩ hr (by decide) dX5_isLetter_17
  · have h := if_f c1 h
    refine wg_iload_n X 0 dX5_isLetter_6 rfl rfl ?_
    refine wg_bipush (v := 122) X dX5_isLetter_7 (by decide) ?_
    refine wg_icmp_gt X 16 dX5_isLetter_9 (by decide) (fun c2 => ?_) (fun c2 => ?_)
    · have h := if_t c2 h
      refine wg_iconst (v := 0) X dX5_isLetter_16 (by decide) ?_
      exact wg_zret X ⟨(sm_inj h), rfl, rfl⟩ hr (by decide) dX5_isLetter_17
    · have h := if_f c2 h
      refine wg_iconst (v := 1) X dX5_isLetter_12 (by decide) ?_
      refine wg_goto X 17 dX5_isLetter_13 (by decide) ?_
      exact wg_zret X ⟨(sm_inj h), rfl, rfl⟩ hr (by decide) dX5_isLetter_17
-- WindowsGive$Tape.isDigit(I)Z ('i',)
def f_X5_isDigit (p0 : Int32) : Option Int32 :=
  if p0 < (48 : Int32) then (
    some (0 : Int32))
  else (
    if (57 : Int32) < p0 then (
      some (0 : Int32))
    else (
      some (1 : Int32)))
set_option maxHeartbeats 4000000 in
set_option maxRecDepth 100000 in
theorem c_X5_isDigit (l : Launch) (E : wg_Ev) (ad : Nat → Nat) (S : wg_Sh) (C : wg_C) (M : wg_M) (p0 : Int32)  {r0 : Int32} (h : f_X5_isDigit p0 = some r0) : wg_Ci l yX5_isDigit cX5_isDigit 1 (some .boolean) 0 0 E ad S C M [.int p0] r0 C M := by
  refine wg_start (own := RX5) (by decide +kernel) rfl (Nat.le_of_ble_eq_true rfl) ?_
  intro p e s m below meth c X hr hnm
  refine wg_lv (lv' := [(0, .int p0)]) rfl ?_
  unfold f_X5_isDigit at h
  refine wg_iload_n X 0 dX5_isDigit_0 rfl rfl ?_
  refine wg_bipush (v := 48) X dX5_isDigit_1 (by decide) ?_
  refine wg_icmp_lt X 16 dX5_isDigit_3 (by decide) (fun c1 => ?_) (fun c1 => ?_)
  · have h := if_t c1 h
    refine wg_iconst (v := 0) X dX5_isDigit_16 (by decide) ?_
    exact wg_zret X ⟨(sm_inj h), rfl, rfl⟩ hr (by decide) dX5_isDigit_17
  · have h := if_f c1 h
    refine wg_iload_n X 0 dX5_isDigit_6 rfl rfl ?_
    refine wg_bipush (v := 57) X dX5_isDigit_7 (by decide) ?_
    refine wg_icmp_gt X 16 dX5_isDigit_9 (by decide) (fun c2 => ?_) (fun c2 => ?_)
    · have h := if_t c2 h
      refine wg_iconst (v := 0) X dX5_isDigit_16 (by decide) ?_
      exact wg_zret X ⟨(sm_inj h), rfl, rfl⟩ hr (by decide) dX5_isDigit_17
    · have h := if_f c2 h
      refine wg_iconst (v := 1) X dX5_isDigit_12 (by decide) ?_
      refine wg_goto X 17 dX5_isDigit_13 (by decide) ?_
      exact wg_zret X ⟨(sm_inj h), rfl, rfl⟩ hr (by decide) dX5_isDigit_17
-- WindowsGive$Tape.isSign(I)Z ('i',)
def f_X5_isSign (p0 : Int32) : Option Int32 :=
  if p0 = (40 : Int32) then (
    some (1 : Int32))
  else
  if p0 = (41 : Int32) then (
    some (1 : Int32))
  else
  if p0 = (42 : Int32) then (
    some (1 : Int32))
  else
  if p0 = (43 : Int32) then (
    some (1 : Int32))
  else
  if p0 = (44 : Int32) then (
    some (0 : Int32))
  else
  if p0 = (45 : Int32) then (
    some (1 : Int32))
  else
  if p0 = (46 : Int32) then (
    some (0 : Int32))
  else
  if p0 = (47 : Int32) then (
    some (0 : Int32))
  else
  if p0 = (48 : Int32) then (
    some (0 : Int32))
  else
  if p0 = (49 : Int32) then (
    some (0 : Int32))
  else
  if p0 = (50 : Int32) then (
    some (0 : Int32))
  else
  if p0 = (51 : Int32) then (
    some (0 : Int32))
  else
  if p0 = (52 : Int32) then (
    some (0 : Int32))
  else
  if p0 = (53 : Int32) then (
    some (0 : Int32))
  else
  if p0 = (54 : Int32) then (
    some (0 : Int32))
  else
  if p0 = (55 : Int32) then (
    some (0 : Int32))
  else
  if p0 = (56 : Int32) then (
    some (0 : Int32))
  else
  if p0 = (57 : Int32) then (
    some (0 : Int32))
  else
  if p0 = (58 : Int32) then (
    some (0 : Int32))
  else
  if p0 = (59 : Int32) then (
    some (1 : Int32))
  else
  if p0 = (60 : Int32) then (
    some (1 : Int32))
  else
  if p0 = (61 : Int32) then (
    some (1 : Int32))
  else
  some (0 : Int32)
set_option maxHeartbeats 4000000 in
set_option maxRecDepth 100000 in
theorem c_X5_isSign (l : Launch) (E : wg_Ev) (ad : Nat → Nat) (S : wg_Sh) (C : wg_C) (M : wg_M) (p0 : Int32)  {r0 : Int32} (h : f_X5_isSign p0 = some r0) : wg_Ci l yX5_isSign cX5_isSign 1 (some .boolean) 0 0 E ad S C M [.int p0] r0 C M := by
  refine wg_start (own := RX5) (by decide +kernel) rfl (Nat.le_of_ble_eq_true rfl) ?_
  intro p e s m below meth c X hr hnm
  refine wg_lv (lv' := [(0, .int p0)]) rfl ?_
  unfold f_X5_isSign at h
  refine wg_iload_n X 0 dX5_isSign_0 rfl rfl ?_
  by_cases c1 : p0 = (40 : Int32)
  · have h := if_t c1 h
    refine wg_tblIn (off := 103) X 104 dX5_isSign_1 c1 (by decide) (by decide) (by decide) (by decide) ?_
    refine wg_iconst (v := 1) X dX5_isSign_104 (by decide) ?_
    exact wg_zret X ⟨(sm_inj h), rfl, rfl⟩ hr (by decide) dX5_isSign_105
  have h := if_f c1 h
  by_cases c2 : p0 = (41 : Int32)
  · have h := if_t c2 h
    refine wg_tblIn (off := 103) X 104 dX5_isSign_1 c2 (by decide) (by decide) (by decide) (by decide) ?_
    refine wg_iconst (v := 1) X dX5_isSign_104 (by decide) ?_
    exact wg_zret X ⟨(sm_inj h), rfl, rfl⟩ hr (by decide) dX5_isSign_105
  have h := if_f c2 h
  by_cases c3 : p0 = (42 : Int32)
  · have h := if_t c3 h
    refine wg_tblIn (off := 103) X 104 dX5_isSign_1 c3 (by decide) (by decide) (by decide) (by decide) ?_
    refine wg_iconst (v := 1) X dX5_isSign_104 (by decide) ?_
    exact wg_zret X ⟨(sm_inj h), rfl, rfl⟩ hr (by decide) dX5_isSign_105
  have h := if_f c3 h
  by_cases c4 : p0 = (43 : Int32)
  · have h := if_t c4 h
    refine wg_tblIn (off := 103) X 104 dX5_isSign_1 c4 (by decide) (by decide) (by decide) (by decide) ?_
    refine wg_iconst (v := 1) X dX5_isSign_104 (by decide) ?_
    exact wg_zret X ⟨(sm_inj h), rfl, rfl⟩ hr (by decide) dX5_isSign_105
  have h := if_f c4 h
  by_cases c5 : p0 = (44 : Int32)
  · have h := if_t c5 h
    refine wg_tblIn (off := 105) X 106 dX5_isSign_1 c5 (by decide) (by decide) (by decide) (by decide) ?_
    refine wg_iconst (v := 0) X dX5_isSign_106 (by decide) ?_
    exact wg_zret X ⟨(sm_inj h), rfl, rfl⟩ hr (by decide) dX5_isSign_107
  have h := if_f c5 h
  by_cases c6 : p0 = (45 : Int32)
  · have h := if_t c6 h
    refine wg_tblIn (off := 103) X 104 dX5_isSign_1 c6 (by decide) (by decide) (by decide) (by decide) ?_
    refine wg_iconst (v := 1) X dX5_isSign_104 (by decide) ?_
    exact wg_zret X ⟨(sm_inj h), rfl, rfl⟩ hr (by decide) dX5_isSign_105
  have h := if_f c6 h
  by_cases c7 : p0 = (46 : Int32)
  · have h := if_t c7 h
    refine wg_tblIn (off := 105) X 106 dX5_isSign_1 c7 (by decide) (by decide) (by decide) (by decide) ?_
    refine wg_iconst (v := 0) X dX5_isSign_106 (by decide) ?_
    exact wg_zret X ⟨(sm_inj h), rfl, rfl⟩ hr (by decide) dX5_isSign_107
  have h := if_f c7 h
  by_cases c8 : p0 = (47 : Int32)
  · have h := if_t c8 h
    refine wg_tblIn (off := 105) X 106 dX5_isSign_1 c8 (by decide) (by decide) (by decide) (by decide) ?_
    refine wg_iconst (v := 0) X dX5_isSign_106 (by decide) ?_
    exact wg_zret X ⟨(sm_inj h), rfl, rfl⟩ hr (by decide) dX5_isSign_107
  have h := if_f c8 h
  by_cases c9 : p0 = (48 : Int32)
  · have h := if_t c9 h
    refine wg_tblIn (off := 105) X 106 dX5_isSign_1 c9 (by decide) (by decide) (by decide) (by decide) ?_
    refine wg_iconst (v := 0) X dX5_isSign_106 (by decide) ?_
    exact wg_zret X ⟨(sm_inj h), rfl, rfl⟩ hr (by decide) dX5_isSign_107
  have h := if_f c9 h
  by_cases c10 : p0 = (49 : Int32)
  · have h := if_t c10 h
    refine wg_tblIn (off := 105) X 106 dX5_isSign_1 c10 (by decide) (by decide) (by decide) (by decide) ?_
    refine wg_iconst (v := 0) X dX5_isSign_106 (by decide) ?_
    exact wg_zret X ⟨(sm_inj h), rfl, rfl⟩ hr (by decide) dX5_isSign_107
  have h := if_f c10 h
  by_cases c11 : p0 = (50 : Int32)
  · have h := if_t c11 h
    refine wg_tblIn (off := 105) X 106 dX5_isSign_1 c11 (by decide) (by decide) (by decide) (by decide) ?_
    refine wg_iconst (v := 0) X dX5_isSign_106 (by decide) ?_
    exact wg_zret X ⟨(sm_inj h), rfl, rfl⟩ hr (by decide) dX5_isSign_107
  have h := if_f c11 h
  by_cases c12 : p0 = (51 : Int32)
  · have h := if_t c12 h
    refine wg_tblIn (off := 105) X 106 dX5_isSign_1 c12 (by decide) (by decide) (by decide) (by decide) ?_
    refine wg_iconst (v := 0) X dX5_isSign_106 (by decide) ?_
    exact wg_zret X ⟨(sm_inj h), rfl, rfl⟩ hr (by decide) dX5_isSign_107
  have h := if_f c12 h
  by_cases c13 : p0 = (52 : Int32)
  · have h := if_t c13 h
    refine wg_tblIn (off := 105) X 106 dX5_isSign_1 c13 (by decide) (by decide) (by decide) (by decide) ?_
    refine wg_iconst (v := 0) X dX5_isSign_106 (by decide) ?_
    exact wg_zret X ⟨(sm_inj h), rfl, rfl⟩ hr (by decide) dX5_isSign_107
  have h := if_f c13 h
  by_cases c14 : p0 = (53 : Int32)
  · have h := if_t c14 h
    refine wg_tblIn (off := 105) X 106 dX5_isSign_1 c14 (by decide) (by decide) (by decide) (by decide) ?_
    refine wg_iconst (v := 0) X dX5_isSign_106 (by decide) ?_
    exact wg_zret X ⟨(sm_inj h), rfl, rfl⟩ hr (by decide) dX5_isSign_107
  have h := if_f c14 h
  by_cases c15 : p0 = (54 : Int32)
  · have h := if_t c15 h
    refine wg_tblIn (off := 105) X 106 dX5_isSign_1 c15 (by decide) (by decide) (by decide) (by decide) ?_
    refine wg_iconst (v := 0) X dX5_isSign_106 (by decide) ?_
    exact wg_zret X ⟨(sm_inj h), rfl, rfl⟩ hr (by decide) dX5_isSign_107
  have h := if_f c15 h
  by_cases c16 : p0 = (55 : Int32)
  · have h := if_t c16 h
    refine wg_tblIn (off := 105) X 106 dX5_isSign_1 c16 (by decide) (by decide) (by decide) (by decide) ?_
    refine wg_iconst (v := 0) X dX5_isSign_106 (by decide) ?_
    exact wg_zret X ⟨(sm_inj h), rfl, rfl⟩ hr (by decide) dX5_isSign_107
  have h := if_f c16 h
  by_cases c17 : p0 = (56 : Int32)
  · have h := if_t c17 h
    refine wg_tblIn (off := 105) X 106 dX5_isSign_1 c17 (by decide) (by decide) (by decide) (by decide) ?_
    refine wg_iconst (v := 0) X dX5_isSign_106 (by decide) ?_
    exact wg_zret X ⟨(sm_inj h), rfl, rfl⟩ hr (by decide) dX5_isSign_107
  have h := if_f c17 h
  by_cases c18 : p0 = (57 : Int32)
  · have h := if_t c18 h
    refine wg_tblIn (off := 105) X 106 dX5_isSign_1 c18 (by decide) (by decide) (by decide) (by decide) ?_
    refine wg_iconst (v := 0) X dX5_isSign_106 (by decide) ?_
    exact wg_zret X ⟨(sm_inj h), rfl, rfl⟩ hr (by decide) dX5_isSign_107
  have h := if_f c18 h
  by_cases c19 : p0 = (58 : Int32)
  · have h := if_t c19 h
    refine wg_tblIn (off := 105) X 106 dX5_isSign_1 c19 (by decide) (by decide) (by decide) (by decide) ?_
    refine wg_iconst (v := 0) X dX5_isSign_106 (by decide) ?_
    exact wg_zret X ⟨(sm_inj h), rfl, rfl⟩ hr (by decide) dX5_isSign_107
  have h := if_f c19 h
  by_cases c20 : p0 = (59 : Int32)
  · have h := if_t c20 h
    refine wg_tblIn (off := 103) X 104 dX5_isSign_1 c20 (by decide) (by decide) (by decide) (by decide) ?_
    refine wg_iconst (v := 1) X dX5_isSign_104 (by decide) ?_
    exact wg_zret X ⟨(sm_inj h), rfl, rfl⟩ hr (by decide) dX5_isSign_105
  have h := if_f c20 h
  by_cases c21 : p0 = (60 : Int32)
  · have h := if_t c21 h
    refine wg_tblIn (off := 103) X 104 dX5_isSign_1 c21 (by decide) (by decide) (by decide) (by decide) ?_
    refine wg_iconst (v := 1) X dX5_isSign_104 (by decide) ?_
    exact wg_zret X ⟨(sm_inj h), rfl, rfl⟩ hr (by decide) dX5_isSign_105
  have h := if_f c21 h
  by_cases c22 : p0 = (61 : Int32)
  · have h := if_t c22 h
    refine wg_tblIn (off := 103) X 104 dX5_isSign_1 c22 (by decide) (by decide) (by decide) (by decide) ?_
    refine wg_iconst (v := 1) X dX5_isSign_104 (by decide) ?_
    exact wg_zret X ⟨(sm_inj h), rfl, rfl⟩ hr (by decide) dX5_isSign_105
  have h := if_f c22 h
  refine wg_tblOut X 106 dX5_isSign_1 (wg_tout (40) (61) (fun k hk => by
      rcases (show k = 0 ∨ k = 1 ∨ k = 2 ∨ k = 3 ∨ k = 4 ∨ k = 5 ∨ k = 6 ∨ k = 7 ∨ k = 8 ∨ k = 9 ∨ k = 10 ∨ k = 11 ∨ k = 12 ∨ k = 13 ∨ k = 14 ∨ k = 15 ∨ k = 16 ∨ k = 17 ∨ k = 18 ∨ k = 19 ∨ k = 20 ∨ k = 21 by omega) with rfl | rfl | rfl | rfl | rfl | rfl | rfl | rfl | rfl | rfl | rfl | rfl | rfl | rfl | rfl | rfl | rfl | rfl | rfl | rfl | rfl | rfl
      · exact fun q => c1 (q.trans (by decide))
      · exact fun q => c2 (q.trans (by decide))
      · exact fun q => c3 (q.trans (by decide))
      · exact fun q => c4 (q.trans (by decide))
      · exact fun q => c5 (q.trans (by decide))
      · exact fun q => c6 (q.trans (by decide))
      · exact fun q => c7 (q.trans (by decide))
      · exact fun q => c8 (q.trans (by decide))
      · exact fun q => c9 (q.trans (by decide))
      · exact fun q => c10 (q.trans (by decide))
      · exact fun q => c11 (q.trans (by decide))
      · exact fun q => c12 (q.trans (by decide))
      · exact fun q => c13 (q.trans (by decide))
      · exact fun q => c14 (q.trans (by decide))
      · exact fun q => c15 (q.trans (by decide))
      · exact fun q => c16 (q.trans (by decide))
      · exact fun q => c17 (q.trans (by decide))
      · exact fun q => c18 (q.trans (by decide))
      · exact fun q => c19 (q.trans (by decide))
      · exact fun q => c20 (q.trans (by decide))
      · exact fun q => c21 (q.trans (by decide))
      · exact fun q => c22 (q.trans (by decide))) (by decide) (by decide)) (by decide) ?_
  refine wg_iconst (v := 0) X dX5_isSign_106 (by decide) ?_
  exact wg_zret X ⟨(sm_inj h), rfl, rfl⟩ hr (by decide) dX5_isSign_107
-- WindowsGive$Tape.cutNumber()I (('c', 23),)
def f_X5_cutNumber_l7 (N : Nat)  (x1 : Int32) (C : wg_C) (x2 : Int32) : Option ((wg_C × Int32) ⊕ (wg_C × Int32)) :=
  if (C 23 1) ≤ (C 23 2) then (
    some (.inr (C, x2)))
  else (
    ck (inb (C 23 2) 160) <|
    bd (f_X5_isDigit (C 24 (C 23 2).toNatClampNeg)) fun r6 =>
    if r6 = 0 then (
      some (.inr (C, x2)))
    else (
      ck (inb (C 23 2) 160) <|
      lt_ (((x2 * (10 : Int32)) + (C 24 (C 23 2).toNatClampNeg)) - (48 : Int32)) fun v9 =>
      lt_ (wg_up C 23 2 ((C 23 2) + (1 : Int32))) fun C11 =>
      some (.inl (C11, v9))))
def f_X5_cutNumber (N : Nat) (C : wg_C)  : Option (Int32 × wg_C) :=
  lt_ (C 23 2) fun v1 =>
  bd2 (lp (fun o => f_X5_cutNumber_l7 N  v1 o.1 o.2) N (C, (0 : Int32))) fun C13 v14 =>
  ck (inb (C13 23 6) 161) <|
  lt_ (wg_up C13 26 (C13 23 6).toNatClampNeg v14) fun C20 =>
  if (4 : Int32) < ((C20 23 2) - v1) then (
    some ((-2 : Int32), C20))
  else (
    some ((1 : Int32), C20))
abbrev G_X5_cutNumber (p : Program) (l : Launch) (e : Env) (s : State) (m : MethodId) (args : Array Value) (below : List Frame) (meth : Method) (c : Code) (E : wg_Ev) (ad : Nat → Nat) (S : wg_Sh) (r0 : Int32) (C0 : wg_C) (M0 : wg_M) (pc : Nat) (C : wg_C) (M : wg_M) (lv : List (Nat × Value)) (st : List Value) : Prop := wg_G p l e (wg_Rm 1 20) s m args below meth c (MQ below (wg_Qi E ad S r0 C0 M0) args s 0 0 (wg_A E)) 3 E ad S 0 0 pc C M lv st
set_option maxHeartbeats 4000000 in
set_option maxRecDepth 100000 in
theorem L_X5_cutNumber_l7 {p : Program} {l : Launch} {e : Env} {s : State} {m : MethodId} {args : Array Value} {below : List Frame} {meth : Method} {c : Code} {E : wg_Ev} {ad : Nat → Nat} {S : wg_Sh} (X : wg_X p s m args meth c cX5_cutNumber 3 RX5 E) (hr : meth.sig.returnType = (some .int)) (hS : wg_SC S) (r0 : Int32) (D0 : wg_C) (M : wg_M) (N : Nat)   (x1 : Int32)  : ∀ (n : Nat) (C : wg_C) (x2 : Int32) (o : (wg_C × Int32)), lp (fun o => f_X5_cutNumber_l7 N  x1 o.1 o.2) n (C, x2) = some o → (∀ (Dy : wg_C) (y2 : Int32), o = (Dy, y2) → G_X5_cutNumber p l e s m args below meth c E ad S r0 D0 M 64 Dy M [(0, .ref (ad 23)), (1, .int x1), (2, .int y2)] []) → G_X5_cutNumber p l e s m args below meth c E ad S r0 D0 M 7 C M [(0, .ref (ad 23)), (1, .int x1), (2, .int x2)] [] := by
  intro n
  induction n with
  | zero => exact fun _ _ o h => (lp_zero h).elim
  | succ n ih =>
    intro C x2 o h K
    obtain ⟨o1, hb, h2⟩ := lp_some h
    replace hb : f_X5_cutNumber_l7 N  x1 C x2 = some o1 := hb
    clear h
    have Kc : ∀ (Dy : wg_C) (y2 : Int32), o1 = Sum.inl (Dy, y2) → G_X5_cutNumber p l e s m args below meth c E ad S r0 D0 M 7 Dy M [(0, .ref (ad 23)), (1, .int x1), (2, .int y2)] [] := fun Dy y2 e1 => by
      subst e1
      exact ih Dy y2 o h2 K
    have Ke : ∀ (Dy : wg_C) (y2 : Int32), o1 = Sum.inr ((Dy, y2)) → G_X5_cutNumber p l e s m args below meth c E ad S r0 D0 M 64 Dy M [(0, .ref (ad 23)), (1, .int x1), (2, .int y2)] [] := fun Dy y2 e1 => by
      subst e1
      exact K Dy y2 (sm_inj (α := (wg_C × Int32)) h2).symm
    clear ih K h2
    unfold f_X5_cutNumber_l7 at hb
    have h := hb
    clear hb
    refine wg_aload_n X 0 dX5_cutNumber_7 rfl rfl ?_
    refine wg_getC X cl5 (SCi hS 23 5 rfl) 2 (by decide) dX5_cutNumber_8 k_170 rfl ?_
    refine wg_aload_n X 0 dX5_cutNumber_11 rfl rfl ?_
    refine wg_getC X cl5 (SCi hS 23 5 rfl) 1 (by decide) dX5_cutNumber_12 k_168 rfl ?_
    refine wg_icmp_ge X 64 dX5_cutNumber_15 (by decide) (fun c3 => ?_) (fun c3 => ?_)
    · have h := if_t c3 h
      exact Ke C x2 (sm_inj h).symm
    · have h := if_f c3 h
      refine wg_aload_n X 0 dX5_cutNumber_18 rfl rfl ?_
      refine wg_getR (b := 24) X cl5 (SCi hS 23 5 rfl) 0 (by decide) dX5_cutNumber_19 k_167 rfl (SCr hS 23 0 24 rfl) ?_
      refine wg_aload_n X 0 dX5_cutNumber_22 rfl rfl ?_
      refine wg_getC X cl5 (SCi hS 23 5 rfl) 2 (by decide) dX5_cutNumber_23 k_170 rfl ?_
      obtain ⟨z4, h⟩ := ck_some h
      refine wg_iald X (SCi hS 24 10 rfl) (SCl hS 24 160 rfl) z4 dX5_cutNumber_26 ?_
      obtain ⟨r6, h5, h⟩ := bd_some h
      refine wg_callSi (As := [.int (C 24 (C 23 2).toNatClampNeg)]) (rest := []) X (c_X5_isDigit l E ad S C M (C 24 (C 23 2).toNatClampNeg)  h5) T_yX5_isDigit k_379 dX5_cutNumber_27 rfl rfl (Nat.le_of_ble_eq_true rfl) ⟨Nat.le_of_ble_eq_true rfl, Nat.le_of_ble_eq_true rfl⟩ ⟨Nat.zero_le _, Nat.zero_le _⟩ ?_
      refine wg_if_eq X 64 dX5_cutNumber_30 (by decide) (fun c7 => ?_) (fun c7 => ?_)
      · have h := if_t c7 h
        exact Ke C x2 (sm_inj h).symm
      · have h := if_f c7 h
        refine wg_iload_n X 2 dX5_cutNumber_33 rfl rfl ?_
        refine wg_bipush (v := 10) X dX5_cutNumber_34 (by decide) ?_
        refine wg_imul X dX5_cutNumber_36 ?_
        refine wg_aload_n X 0 dX5_cutNumber_37 rfl rfl ?_
        refine wg_getR (b := 24) X cl5 (SCi hS 23 5 rfl) 0 (by decide) dX5_cutNumber_38 k_167 rfl (SCr hS 23 0 24 rfl) ?_
        refine wg_aload_n X 0 dX5_cutNumber_41 rfl rfl ?_
        refine wg_getC X cl5 (SCi hS 23 5 rfl) 2 (by decide) dX5_cutNumber_42 k_170 rfl ?_
        obtain ⟨z8, h⟩ := ck_some h
        refine wg_iald X (SCi hS 24 10 rfl) (SCl hS 24 160 rfl) z8 dX5_cutNumber_45 ?_
        refine wg_iadd X dX5_cutNumber_46 ?_
        refine wg_bipush (v := 48) X dX5_cutNumber_47 (by decide) ?_
        refine wg_isub X dX5_cutNumber_49 ?_
        obtain ⟨v9, e10, h⟩ := lt_some h
        refine wg_istore_n (lv' := [(2, .int v9), (0, .ref (ad 23)), (1, .int x1)]) X dX5_cutNumber_50 rfl e10 (by decide) rfl ?_
        refine wg_aload_n X 1 dX5_cutNumber_51 rfl rfl ?_
        refine wg_dup X dX5_cutNumber_52 rfl ?_
        refine wg_getC X cl5 (SCi hS 23 5 rfl) 2 (by decide) dX5_cutNumber_53 k_170 rfl ?_
        refine wg_iconst (v := 1) X dX5_cutNumber_56 (by decide) ?_
        refine wg_iadd X dX5_cutNumber_57 ?_
        obtain ⟨C11, e12, h⟩ := lt_some h
        refine wg_putCe X cl5 (SCi hS 23 5 rfl) 2 (by decide) dX5_cutNumber_58 k_170 rfl rfl rfl rfl e12 ?_
        refine wg_goto X 7 dX5_cutNumber_61 (by decide) ?_
        refine wg_pick [1, 2, 0] (lv' := [(0, .ref (ad 23)), (1, .int x1), (2, .int v9)]) rfl ?_
        exact Kc C11 v9 (sm_inj h).symm
set_option maxHeartbeats 4000000 in
set_option maxRecDepth 100000 in
theorem c_X5_cutNumber (l : Launch) (E : wg_Ev) (ad : Nat → Nat) (S : wg_Sh) (hS : wg_SC S) (N : Nat) (C : wg_C) (M : wg_M)   {r0 : Int32} {D0 : wg_C} (h : f_X5_cutNumber N C  = some (r0, D0)) : wg_Ci l yX5_cutNumber cX5_cutNumber 3 (some .int) 1 20 E ad S C M [.ref (ad 23)] r0 D0 M := by
  refine wg_start (own := RX5) (by decide +kernel) rfl (Nat.le_of_ble_eq_true rfl) ?_
  intro p e s m below meth c X hr hnm
  refine wg_lv (lv' := [(0, .ref (ad 23))]) rfl ?_
  unfold f_X5_cutNumber at h
  refine wg_aload_n X 0 dX5_cutNumber_0 rfl rfl ?_
  refine wg_getC X cl5 (SCi hS 23 5 rfl) 2 (by decide) dX5_cutNumber_1 k_170 rfl ?_
  obtain ⟨v1, e2, h⟩ := lt_some h
  refine wg_istore_n (lv' := [(1, .int v1), (0, .ref (ad 23))]) X dX5_cutNumber_4 rfl e2 (by decide) rfl ?_
  refine wg_iconst (v := 0) X dX5_cutNumber_5 (by decide) ?_
  refine wg_istore_n (lv' := [(2, .int (0 : Int32)), (1, .int v1), (0, .ref (ad 23))]) X dX5_cutNumber_6 rfl rfl (by decide) rfl ?_
  obtain ⟨o15, h16, h⟩ := bd2_o h
  refine wg_pick [2, 1, 0] (lv' := [(0, .ref (ad 23)), (1, .int v1), (2, .int (0 : Int32))]) rfl ?_
  refine L_X5_cutNumber_l7 X hr hS r0 D0 M N   v1  N C (0 : Int32) o15 h16 (fun C13 v14 e18 => ?_)
  · subst e18
    replace h := bd2_in h
    refine wg_aload_n X 0 dX5_cutNumber_64 rfl rfl ?_
    refine wg_getR (b := 26) X cl5 (SCi hS 23 5 rfl) 4 (by decide) dX5_cutNumber_65 k_173 rfl (SCr hS 23 4 26 rfl) ?_
    refine wg_aload_n X 0 dX5_cutNumber_68 rfl rfl ?_
    refine wg_getC X cl5 (SCi hS 23 5 rfl) 6 (by decide) dX5_cutNumber_69 k_177 rfl ?_
    refine wg_iload_n X 2 dX5_cutNumber_72 rfl rfl ?_
    obtain ⟨z19, h⟩ := ck_some h
    obtain ⟨C20, e21, h⟩ := lt_some h
    refine wg_iaste X (SCi hS 26 10 rfl) (SCl hS 26 161 rfl) z19 dX5_cutNumber_73 e21 ?_
    refine wg_aload_n X 0 dX5_cutNumber_74 rfl rfl ?_
    refine wg_getC X cl5 (SCi hS 23 5 rfl) 2 (by decide) dX5_cutNumber_75 k_170 rfl ?_
    refine wg_iload_n X 1 dX5_cutNumber_78 rfl rfl ?_
    refine wg_isub X dX5_cutNumber_79 ?_
    refine wg_iconst (v := 4) X dX5_cutNumber_80 (by decide) ?_
    refine wg_icmp_gt X 88 dX5_cutNumber_81 (by decide) (fun c22 => ?_) (fun c22 => ?_)
    · have h := if_t c22 h
      refine wg_bipush (v := -2) X dX5_cutNumber_88 (by decide) ?_
      exact wg_iret X ⟨(Prod.mk.inj (sm_inj h)).1, (Prod.mk.inj (sm_inj h)).2, rfl⟩ hr dX5_cutNumber_90
    · have h := if_f c22 h
      refine wg_iconst (v := 1) X dX5_cutNumber_84 (by decide) ?_
      refine wg_goto X 90 dX5_cutNumber_85 (by decide) ?_
      exact wg_iret X ⟨(Prod.mk.inj (sm_inj h)).1, (Prod.mk.inj (sm_inj h)).2, rfl⟩ hr dX5_cutNumber_90
-- WindowsGive.force(I)I (('c', 0), 'i')
def f_X8_force (C : wg_C) (p1 : Int32) : Option (Int32 × wg_C) :=
  if p1 < 0 then (
    some ((-2 : Int32), C))
  else (
    if p1 < (C 31 1) then (
      lt_ (C 1 3) fun v3 =>
      lt_ (wg_up C 1 3 p1) fun C5 =>
      some (v3, C5))
    else (
      some ((-2 : Int32), C)))
set_option maxHeartbeats 4000000 in
set_option maxRecDepth 100000 in
theorem c_X8_force (l : Launch) (E : wg_Ev) (ad : Nat → Nat) (S : wg_Sh) (hS : wg_SC S) (C : wg_C) (M : wg_M) (p1 : Int32)  {r0 : Int32} {D0 : wg_C} (h : f_X8_force C p1 = some (r0, D0)) : wg_Ci l yX8_force cX8_force 3 (some .int) 0 0 E ad S C M [.ref (ad 0), .int p1] r0 D0 M := by
  refine wg_start (own := RX8) (by decide +kernel) rfl (Nat.le_of_ble_eq_true rfl) ?_
  intro p e s m below meth c X hr hnm
  refine wg_lv (lv' := [(0, .ref (ad 0)), (1, .int p1)]) rfl ?_
  unfold f_X8_force at h
  refine wg_iload_n X 1 dX8_force_0 rfl rfl ?_
  refine wg_if_lt X 15 dX8_force_1 (by decide) (fun c1 => ?_) (fun c1 => ?_)
  · have h := if_t c1 h
    refine wg_bipush (v := -2) X dX8_force_15 (by decide) ?_
    exact wg_iret X ⟨(Prod.mk.inj (sm_inj h)).1, (Prod.mk.inj (sm_inj h)).2, rfl⟩ hr dX8_force_17
  · have h := if_f c1 h
    refine wg_iload_n X 1 dX8_force_4 rfl rfl ?_
    refine wg_aload_n X 0 dX8_force_5 rfl rfl ?_
    refine wg_getR (b := 31) X cl8 (SCi hS 0 8 rfl) 5 (by decide) dX8_force_6 k_477 rfl (SCr hS 0 5 31 rfl) ?_
    refine wg_getC X cl3 (SCi hS 31 3 rfl) 1 (by decide) dX8_force_9 k_230 rfl ?_
    refine wg_icmp_lt X 18 dX8_force_12 (by decide) (fun c2 => ?_) (fun c2 => ?_)
    · have h := if_t c2 h
      refine wg_aload_n X 0 dX8_force_18 rfl rfl ?_
      refine wg_getR (b := 1) X cl8 (SCi hS 0 8 rfl) 0 (by decide) dX8_force_19 k_472 rfl (SCr hS 0 0 1 rfl) ?_
      refine wg_getC X cl0 (SCi hS 1 0 rfl) 3 (by decide) dX8_force_22 k_151 rfl ?_
      obtain ⟨v3, e4, h⟩ := lt_some h
      refine wg_istore_n (lv' := [(2, .int v3), (0, .ref (ad 0)), (1, .int p1)]) X dX8_force_25 rfl e4 (by decide) rfl ?_
      refine wg_aload_n X 1 dX8_force_26 rfl rfl ?_
      refine wg_getR (b := 1) X cl8 (SCi hS 0 8 rfl) 0 (by decide) dX8_force_27 k_472 rfl (SCr hS 0 0 1 rfl) ?_
      refine wg_iload_n X 2 dX8_force_30 rfl rfl ?_
      obtain ⟨C5, e6, h⟩ := lt_some h
      refine wg_putCe X cl0 (SCi hS 1 0 rfl) 3 (by decide) dX8_force_31 k_151 rfl rfl rfl rfl e6 ?_
      refine wg_iload_n X 0 dX8_force_34 rfl rfl ?_
      exact wg_iret X ⟨(Prod.mk.inj (sm_inj h)).1, (Prod.mk.inj (sm_inj h)).2, rfl⟩ hr dX8_force_35
    · have h := if_f c2 h
      refine wg_bipush (v := -2) X dX8_force_15 (by decide) ?_
      exact wg_iret X ⟨(Prod.mk.inj (sm_inj h)).1, (Prod.mk.inj (sm_inj h)).2, rfl⟩ hr dX8_force_17
-- WindowsGive.isSpot(I)Z ('i',)
def f_X8_isSpot (p0 : Int32) : Option Int32 :=
  if p0 < 0 then (
    some (0 : Int32))
  else (
    if (192 : Int32) ≤ p0 then (
      some (0 : Int32))
    else (
      some (1 : Int32)))
set_option maxHeartbeats 4000000 in
set_option maxRecDepth 100000 in
theorem c_X8_isSpot (l : Launch) (E : wg_Ev) (ad : Nat → Nat) (S : wg_Sh) (C : wg_C) (M : wg_M) (p0 : Int32)  {r0 : Int32} (h : f_X8_isSpot p0 = some r0) : wg_Ci l yX8_isSpot cX8_isSpot 1 (some .boolean) 0 0 E ad S C M [.int p0] r0 C M := by
  refine wg_start (own := RX8) (by decide +kernel) rfl (Nat.le_of_ble_eq_true rfl) ?_
  intro p e s m below meth c X hr hnm
  refine wg_lv (lv' := [(0, .int p0)]) rfl ?_
  unfold f_X8_isSpot at h
  refine wg_iload_n X 0 dX8_isSpot_0 rfl rfl ?_
  refine wg_if_lt X 15 dX8_isSpot_1 (by decide) (fun c1 => ?_) (fun c1 => ?_)
  · have h := if_t c1 h
    refine wg_iconst (v := 0) X dX8_isSpot_15 (by decide) ?_
    exact wg_zret X ⟨(sm_inj h), rfl, rfl⟩ hr (by decide) dX8_isSpot_16
  · have h := if_f c1 h
    refine wg_iload_n X 0 dX8_isSpot_4 rfl rfl ?_
    refine wg_sipush (v := 192) X dX8_isSpot_5 (by decide) ?_
    refine wg_icmp_ge X 15 dX8_isSpot_8 (by decide) (fun c2 => ?_) (fun c2 => ?_)
    · have h := if_t c2 h
      refine wg_iconst (v := 0) X dX8_isSpot_15 (by decide) ?_
      exact wg_zret X ⟨(sm_inj h), rfl, rfl⟩ hr (by decide) dX8_isSpot_16
    · have h := if_f c2 h
      refine wg_iconst (v := 1) X dX8_isSpot_11 (by decide) ?_
      refine wg_goto X 16 dX8_isSpot_12 (by decide) ?_
      exact wg_zret X ⟨(sm_inj h), rfl, rfl⟩ hr (by decide) dX8_isSpot_16
-- java/util/Arrays.fill([II)V ('IA', 'i')
def f_J7_fill_53178_l5 (N : Nat) (p0 n0 : Nat)  (x1 : Int32) (x3 : Int32) (C : wg_C) (x2 : Int32) : Option ((wg_C × Int32) ⊕ (wg_C × Int32)) :=
  if x3 ≤ x2 then (
    some (.inr (C, x2)))
  else (
    ck (inb x2 n0) <|
    lt_ (wg_up C p0 x2.toNatClampNeg x1) fun C5 =>
    lt_ (x2 + (1 : Int32)) fun v7 =>
    some (.inl (C5, v7)))
def f_J7_fill_53178 (N : Nat) (C : wg_C) (p0 n0 : Nat) (p1 : Int32) : Option wg_C :=
  lt_ (Int32.ofNat n0) fun v1 =>
  bd2 (lp (fun o => f_J7_fill_53178_l5 N p0 n0  p1 v1 o.1 o.2) N (C, (0 : Int32))) fun C9 v10 =>
  some C9
abbrev G_J7_fill_53178 (p : Program) (l : Launch) (e : Env) (s : State) (m : MethodId) (args : Array Value) (below : List Frame) (meth : Method) (c : Code) (E : wg_Ev) (ad : Nat → Nat) (S : wg_Sh) (C0 : wg_C) (M0 : wg_M) (pc : Nat) (C : wg_C) (M : wg_M) (lv : List (Nat × Value)) (st : List Value) : Prop := wg_G p l e (wg_Rm 0 0) s m args below meth c (MQ below (wg_Qv E ad S C0 M0) args s 0 0 (wg_A E)) 4 E ad S 0 0 pc C M lv st
set_option maxHeartbeats 4000000 in
set_option maxRecDepth 100000 in
theorem L_J7_fill_53178_l5 {p : Program} {l : Launch} {e : Env} {s : State} {m : MethodId} {args : Array Value} {below : List Frame} {meth : Method} {c : Code} {E : wg_Ev} {ad : Nat → Nat} {S : wg_Sh} (X : wg_X p s m args meth c cJ7_fill_53178 4 RJ7 E) (hr : meth.sig.returnType = none) (hS : wg_SC S) (D0 : wg_C) (M : wg_M) (N : Nat) (p0 n0 : Nat) (hp0 : wg_IA S p0 n0)  (x1 : Int32) (x3 : Int32)  : ∀ (n : Nat) (C : wg_C) (x2 : Int32) (o : (wg_C × Int32)), lp (fun o => f_J7_fill_53178_l5 N p0 n0  x1 x3 o.1 o.2) n (C, x2) = some o → (∀ (Dy : wg_C) (y2 : Int32), o = (Dy, y2) → G_J7_fill_53178 p l e s m args below meth c E ad S D0 M 20 Dy M [(0, .ref (ad p0)), (1, .int x1), (2, .int y2), (3, .int x3)] []) → G_J7_fill_53178 p l e s m args below meth c E ad S D0 M 5 C M [(0, .ref (ad p0)), (1, .int x1), (2, .int x2), (3, .int x3)] [] := by
  intro n
  induction n with
  | zero => exact fun _ _ o h => (lp_zero h).elim
  | succ n ih =>
    intro C x2 o h K
    obtain ⟨o1, hb, h2⟩ := lp_some h
    replace hb : f_J7_fill_53178_l5 N p0 n0  x1 x3 C x2 = some o1 := hb
    clear h
    have Kc : ∀ (Dy : wg_C) (y2 : Int32), o1 = Sum.inl (Dy, y2) → G_J7_fill_53178 p l e s m args below meth c E ad S D0 M 5 Dy M [(0, .ref (ad p0)), (1, .int x1), (2, .int y2), (3, .int x3)] [] := fun Dy y2 e1 => by
      subst e1
      exact ih Dy y2 o h2 K
    have Ke : ∀ (Dy : wg_C) (y2 : Int32), o1 = Sum.inr ((Dy, y2)) → G_J7_fill_53178 p l e s m args below meth c E ad S D0 M 20 Dy M [(0, .ref (ad p0)), (1, .int x1), (2, .int y2), (3, .int x3)] [] := fun Dy y2 e1 => by
      subst e1
      exact K Dy y2 (sm_inj (α := (wg_C × Int32)) h2).symm
    clear ih K h2
    unfold f_J7_fill_53178_l5 at hb
    have h := hb
    clear hb
    refine wg_iload_n X 2 dJ7_fill_53178_5 rfl rfl ?_
    refine wg_iload_n X 3 dJ7_fill_53178_6 rfl rfl ?_
    refine wg_icmp_ge X 20 dJ7_fill_53178_7 (by decide) (fun c3 => ?_) (fun c3 => ?_)
    · have h := if_t c3 h
      exact Ke C x2 (sm_inj h).symm
    · have h := if_f c3 h
      refine wg_aload_n X 0 dJ7_fill_53178_10 rfl rfl ?_
      refine wg_iload_n X 2 dJ7_fill_53178_11 rfl rfl ?_
      refine wg_iload_n X 1 dJ7_fill_53178_12 rfl rfl ?_
      obtain ⟨z4, h⟩ := ck_some h
      obtain ⟨C5, e6, h⟩ := lt_some h
      refine wg_iaste X hp0.1 hp0.2 z4 dJ7_fill_53178_13 e6 ?_
      obtain ⟨v7, e8, h⟩ := lt_some h
      refine wg_iinc (lv' := [(2, .int v7), (0, .ref (ad p0)), (1, .int x1), (3, .int x3)]) X 2 dJ7_fill_53178_14 rfl e8 (by decide) rfl ?_
      refine wg_goto X 5 dJ7_fill_53178_17 (by decide) ?_
      refine wg_pick [1, 2, 0, 3] (lv' := [(0, .ref (ad p0)), (1, .int x1), (2, .int v7), (3, .int x3)]) rfl ?_
      exact Kc C5 v7 (sm_inj h).symm
set_option maxHeartbeats 4000000 in
set_option maxRecDepth 100000 in
theorem c_J7_fill_53178 (l : Launch) (E : wg_Ev) (ad : Nat → Nat) (S : wg_Sh) (hS : wg_SC S) (N : Nat) (C : wg_C) (M : wg_M) (p0 n0 : Nat) (p1 : Int32) (hp0 : wg_IA S p0 n0) {D0 : wg_C} (h : f_J7_fill_53178 N C p0 n0 p1 = some D0) : wg_Cv l yJ7_fill_53178 cJ7_fill_53178 4 none 0 0 E ad S C M [.ref (ad p0), .int p1] D0 M := by
  refine wg_start (own := RJ7) (by decide +kernel) rfl (Nat.le_of_ble_eq_true rfl) ?_
  intro p e s m below meth c X hr hnm
  refine wg_lv (lv' := [(0, .ref (ad p0)), (1, .int p1)]) rfl ?_
  unfold f_J7_fill_53178 at h
  refine wg_iconst (v := 0) X dJ7_fill_53178_0 (by decide) ?_
  refine wg_istore_n (lv' := [(2, .int (0 : Int32)), (0, .ref (ad p0)), (1, .int p1)]) X dJ7_fill_53178_1 rfl rfl (by decide) rfl ?_
  refine wg_aload_n X 1 dJ7_fill_53178_2 rfl rfl ?_
  refine wg_alenC  X hp0.1 hp0.2 rfl dJ7_fill_53178_3 ?_
  obtain ⟨v1, e2, h⟩ := lt_some h
  refine wg_istore_n (lv' := [(3, .int v1), (2, .int (0 : Int32)), (0, .ref (ad p0)), (1, .int p1)]) X dJ7_fill_53178_4 rfl e2 (by decide) rfl ?_
  obtain ⟨o11, h12, h⟩ := bd2_o h
  refine wg_pick [2, 3, 1, 0] (lv' := [(0, .ref (ad p0)), (1, .int p1), (2, .int (0 : Int32)), (3, .int v1)]) rfl ?_
  refine L_J7_fill_53178_l5 X hr hS D0 M N p0 n0 hp0  p1 v1  N C (0 : Int32) o11 h12 (fun C9 v10 e14 => ?_)
  · subst e14
    replace h := bd2_in h
    exact wg_vret X ⟨(sm_inj h), rfl⟩ hr dJ7_fill_53178_20
-- WindowsGive$Walk.nearest()I (('c', 35),)
def f_X7_nearest_l7 (N : Nat) (C : wg_C)   (x1 : Int32) (x2 : Int32) (x3 : Int32) : Option ((Int32 × Int32 × Int32) ⊕ (Int32 × Int32 × Int32)) :=
  if (192 : Int32) ≤ x3 then (
    some (.inr (x1, x2, x3)))
  else (
    ck (inb x3 192) <|
    if (C 38 x3.toNatClampNeg) = 0 then (
      ck (inb x3 192) <|
      if x2 ≤ (C 37 x3.toNatClampNeg) then (
        lt_ (x3 + (1 : Int32)) fun v8 =>
        some (.inl (x1, x2, v8)))
      else (
        ck (inb x3 192) <|
        lt_ (C 37 x3.toNatClampNeg) fun v11 =>
        lt_ (x3 + (1 : Int32)) fun v13 =>
        some (.inl (x3, v11, v13))))
    else (
      lt_ (x3 + (1 : Int32)) fun v4 =>
      some (.inl (x1, x2, v4))))
def f_X7_nearest (N : Nat) (C : wg_C)  : Option Int32 :=
  bd3 (lp (fun o => f_X7_nearest_l7 N C   o.1 o.2.1 o.2.2) N ((-1 : Int32), (1000000000 : Int32), (0 : Int32))) fun v15 v16 v17 =>
  some v15
abbrev G_X7_nearest (p : Program) (l : Launch) (e : Env) (s : State) (m : MethodId) (args : Array Value) (below : List Frame) (meth : Method) (c : Code) (E : wg_Ev) (ad : Nat → Nat) (S : wg_Sh) (r0 : Int32) (C0 : wg_C) (M0 : wg_M) (pc : Nat) (C : wg_C) (M : wg_M) (lv : List (Nat × Value)) (st : List Value) : Prop := wg_G p l e (wg_Rm 0 0) s m args below meth c (MQ below (wg_Qi E ad S r0 C0 M0) args s 0 0 (wg_A E)) 4 E ad S 0 0 pc C M lv st
set_option maxHeartbeats 4000000 in
set_option maxRecDepth 100000 in
theorem L_X7_nearest_l7 {p : Program} {l : Launch} {e : Env} {s : State} {m : MethodId} {args : Array Value} {below : List Frame} {meth : Method} {c : Code} {E : wg_Ev} {ad : Nat → Nat} {S : wg_Sh} (X : wg_X p s m args meth c cX7_nearest 4 RX7 E) (hr : meth.sig.returnType = (some .int)) (hS : wg_SC S) (r0 : Int32) (M : wg_M) (N : Nat)  (C : wg_C)    : ∀ (n : Nat) (x1 : Int32) (x2 : Int32) (x3 : Int32) (o : (Int32 × Int32 × Int32)), lp (fun o => f_X7_nearest_l7 N C   o.1 o.2.1 o.2.2) n (x1, x2, x3) = some o → (∀ (y1 : Int32) (y2 : Int32) (y3 : Int32), o = (y1, y2, y3) → G_X7_nearest p l e s m args below meth c E ad S r0 C M 48 C M [(0, .ref (ad 35)), (1, .int y1), (2, .int y2), (3, .int y3)] []) → G_X7_nearest p l e s m args below meth c E ad S r0 C M 7 C M [(0, .ref (ad 35)), (1, .int x1), (2, .int x2), (3, .int x3)] [] := by
  intro n
  induction n with
  | zero => exact fun _ _ _ o h => (lp_zero h).elim
  | succ n ih =>
    intro x1 x2 x3 o h K
    obtain ⟨o1, hb, h2⟩ := lp_some h
    replace hb : f_X7_nearest_l7 N C   x1 x2 x3 = some o1 := hb
    clear h
    have Kc : ∀ (y1 : Int32) (y2 : Int32) (y3 : Int32), o1 = Sum.inl (y1, y2, y3) → G_X7_nearest p l e s m args below meth c E ad S r0 C M 7 C M [(0, .ref (ad 35)), (1, .int y1), (2, .int y2), (3, .int y3)] [] := fun y1 y2 y3 e1 => by
      subst e1
      exact ih y1 y2 y3 o h2 K
    have Ke : ∀ (y1 : Int32) (y2 : Int32) (y3 : Int32), o1 = Sum.inr ((y1, y2, y3)) → G_X7_nearest p l e s m args below meth c E ad S r0 C M 48 C M [(0, .ref (ad 35)), (1, .int y1), (2, .int y2), (3, .int y3)] [] := fun y1 y2 y3 e1 => by
      subst e1
      exact K y1 y2 y3 (sm_inj (α := (Int32 × Int32 × Int32)) h2).symm
    clear ih K h2
    unfold f_X7_nearest_l7 at hb
    have h := hb
    clear hb
    refine wg_iload_n X 3 dX7_nearest_7 rfl rfl ?_
    refine wg_sipush (v := 192) X dX7_nearest_8 (by decide) ?_
    refine wg_icmp_ge X 48 dX7_nearest_11 (by decide) (fun c1 => ?_) (fun c1 => ?_)
    · have h := if_t c1 h
      exact Ke x1 x2 x3 (sm_inj h).symm
    · have h := if_f c1 h
      refine wg_aload_n X 0 dX7_nearest_14 rfl rfl ?_
      refine wg_getR (b := 38) X cl7 (SCi hS 35 7 rfl) 2 (by decide) dX7_nearest_15 k_252 rfl (SCr hS 35 2 38 rfl) ?_
      refine wg_iload_n X 3 dX7_nearest_18 rfl rfl ?_
      obtain ⟨z2, h⟩ := ck_some h
      refine wg_iald X (SCi hS 38 10 rfl) (SCl hS 38 192 rfl) z2 dX7_nearest_19 ?_
      refine wg_if_ne X 42 dX7_nearest_20 (by decide) (fun c3 => ?_) (fun c3 => ?_)
      · have h := if_f c3 h
        obtain ⟨v4, e5, h⟩ := lt_some h
        refine wg_iinc (lv' := [(3, .int v4), (0, .ref (ad 35)), (1, .int x1), (2, .int x2)]) X 3 dX7_nearest_42 rfl e5 (by decide) rfl ?_
        refine wg_goto X 7 dX7_nearest_45 (by decide) ?_
        refine wg_pick [1, 2, 3, 0] (lv' := [(0, .ref (ad 35)), (1, .int x1), (2, .int x2), (3, .int v4)]) rfl ?_
        exact Kc x1 x2 v4 (sm_inj h).symm
      · have h := if_t c3 h
        refine wg_aload_n X 0 dX7_nearest_23 rfl rfl ?_
        refine wg_getR (b := 37) X cl7 (SCi hS 35 7 rfl) 1 (by decide) dX7_nearest_24 k_250 rfl (SCr hS 35 1 37 rfl) ?_
        refine wg_iload_n X 3 dX7_nearest_27 rfl rfl ?_
        obtain ⟨z6, h⟩ := ck_some h
        refine wg_iald X (SCi hS 37 10 rfl) (SCl hS 37 192 rfl) z6 dX7_nearest_28 ?_
        refine wg_iload_n X 2 dX7_nearest_29 rfl rfl ?_
        refine wg_icmp_ge X 42 dX7_nearest_30 (by decide) (fun c7 => ?_) (fun c7 => ?_)
        · have h := if_t c7 h
          obtain ⟨v8, e9, h⟩ := lt_some h
          refine wg_iinc (lv' := [(3, .int v8), (0, .ref (ad 35)), (1, .int x1), (2, .int x2)]) X 3 dX7_nearest_42 rfl e9 (by decide) rfl ?_
          refine wg_goto X 7 dX7_nearest_45 (by decide) ?_
          refine wg_pick [1, 2, 3, 0] (lv' := [(0, .ref (ad 35)), (1, .int x1), (2, .int x2), (3, .int v8)]) rfl ?_
          exact Kc x1 x2 v8 (sm_inj h).symm
        · have h := if_f c7 h
          refine wg_aload_n X 0 dX7_nearest_33 rfl rfl ?_
          refine wg_getR (b := 37) X cl7 (SCi hS 35 7 rfl) 1 (by decide) dX7_nearest_34 k_250 rfl (SCr hS 35 1 37 rfl) ?_
          refine wg_iload_n X 3 dX7_nearest_37 rfl rfl ?_
          obtain ⟨z10, h⟩ := ck_some h
          refine wg_iald X (SCi hS 37 10 rfl) (SCl hS 37 192 rfl) z10 dX7_nearest_38 ?_
          obtain ⟨v11, e12, h⟩ := lt_some h
          refine wg_istore_n (lv' := [(2, .int v11), (0, .ref (ad 35)), (1, .int x1), (3, .int x3)]) X dX7_nearest_39 rfl e12 (by decide) rfl ?_
          refine wg_iload_n X 3 dX7_nearest_40 rfl rfl ?_
          refine wg_istore_n (lv' := [(1, .int x3), (2, .int v11), (0, .ref (ad 35)), (3, .int x3)]) X dX7_nearest_41 rfl rfl (by decide) rfl ?_
          obtain ⟨v13, e14, h⟩ := lt_some h
          refine wg_iinc (lv' := [(3, .int v13), (1, .int x3), (2, .int v11), (0, .ref (ad 35))]) X 3 dX7_nearest_42 rfl e14 (by decide) rfl ?_
          refine wg_goto X 7 dX7_nearest_45 (by decide) ?_
          refine wg_pick [3, 1, 2, 0] (lv' := [(0, .ref (ad 35)), (1, .int x3), (2, .int v11), (3, .int v13)]) rfl ?_
          exact Kc x3 v11 v13 (sm_inj h).symm
set_option maxHeartbeats 4000000 in
set_option maxRecDepth 100000 in
theorem c_X7_nearest (l : Launch) (E : wg_Ev) (ad : Nat → Nat) (S : wg_Sh) (hS : wg_SC S) (N : Nat) (C : wg_C) (M : wg_M)   {r0 : Int32} (h : f_X7_nearest N C  = some r0) : wg_Ci l yX7_nearest cX7_nearest 4 (some .int) 0 0 E ad S C M [.ref (ad 35)] r0 C M := by
  refine wg_start (own := RX7) (by decide +kernel) rfl (Nat.le_of_ble_eq_true rfl) ?_
  intro p e s m below meth c X hr hnm
  refine wg_lv (lv' := [(0, .ref (ad 35))]) rfl ?_
  unfold f_X7_nearest at h
  refine wg_iconst (v := -1) X dX7_nearest_0 (by decide) ?_
  refine wg_istore_n (lv' := [(1, .int (-1 : Int32)), (0, .ref (ad 35))]) X dX7_nearest_1 rfl rfl (by decide) rfl ?_
  refine wg_ldc (v := 1000000000) X dX7_nearest_2 k_594 ?_
  refine wg_istore_n (lv' := [(2, .int (1000000000 : Int32)), (1, .int (-1 : Int32)), (0, .ref (ad 35))]) X dX7_nearest_4 rfl rfl (by decide) rfl ?_
  refine wg_iconst (v := 0) X dX7_nearest_5 (by decide) ?_
  refine wg_istore_n (lv' := [(3, .int (0 : Int32)), (2, .int (1000000000 : Int32)), (1, .int (-1 : Int32)), (0, .ref (ad 35))]) X dX7_nearest_6 rfl rfl (by decide) rfl ?_
  obtain ⟨o18, h19, h⟩ := bd3_o h
  refine wg_pick [3, 2, 1, 0] (lv' := [(0, .ref (ad 35)), (1, .int (-1 : Int32)), (2, .int (1000000000 : Int32)), (3, .int (0 : Int32))]) rfl ?_
  refine L_X7_nearest_l7 X hr hS r0 M N  C    N (-1 : Int32) (1000000000 : Int32) (0 : Int32) o18 h19 (fun v15 v16 v17 e21 => ?_)
  · subst e21
    replace h := bd3_in h
    refine wg_iload_n X 1 dX7_nearest_48 rfl rfl ?_
    exact wg_iret X ⟨(sm_inj h), rfl, rfl⟩ hr dX7_nearest_49
-- WindowsGive$Walk.shorten(II)V (('c', 35), 'i', 'i')
def f_X7_shorten (C : wg_C) (p1 : Int32) (p2 : Int32) : Option wg_C :=
  ck (inb p1 192) <|
  if (C 37 p1.toNatClampNeg) ≤ p2 then (
    some C)
  else (
    ck (inb p1 192) <|
    lt_ (wg_up C 37 p1.toNatClampNeg p2) fun C4 =>
    some C4)
set_option maxHeartbeats 4000000 in
set_option maxRecDepth 100000 in
theorem c_X7_shorten (l : Launch) (E : wg_Ev) (ad : Nat → Nat) (S : wg_Sh) (hS : wg_SC S) (C : wg_C) (M : wg_M) (p1 : Int32) (p2 : Int32)  {D0 : wg_C} (h : f_X7_shorten C p1 p2 = some D0) : wg_Cv l yX7_shorten cX7_shorten 3 none 0 0 E ad S C M [.ref (ad 35), .int p1, .int p2] D0 M := by
  refine wg_start (own := RX7) (by decide +kernel) rfl (Nat.le_of_ble_eq_true rfl) ?_
  intro p e s m below meth c X hr hnm
  refine wg_lv (lv' := [(0, .ref (ad 35)), (1, .int p1), (2, .int p2)]) rfl ?_
  unfold f_X7_shorten at h
  refine wg_iload_n X 2 dX7_shorten_0 rfl rfl ?_
  refine wg_aload_n X 0 dX7_shorten_1 rfl rfl ?_
  refine wg_getR (b := 37) X cl7 (SCi hS 35 7 rfl) 1 (by decide) dX7_shorten_2 k_250 rfl (SCr hS 35 1 37 rfl) ?_
  refine wg_iload_n X 1 dX7_shorten_5 rfl rfl ?_
  obtain ⟨z1, h⟩ := ck_some h
  refine wg_iald X (SCi hS 37 10 rfl) (SCl hS 37 192 rfl) z1 dX7_shorten_6 ?_
  refine wg_icmp_ge X 17 dX7_shorten_7 (by decide) (fun c2 => ?_) (fun c2 => ?_)
  · have h := if_t c2 h
    exact wg_vret X ⟨(sm_inj h), rfl⟩ hr dX7_shorten_17
  · have h := if_f c2 h
    refine wg_aload_n X 0 dX7_shorten_10 rfl rfl ?_
    refine wg_getR (b := 37) X cl7 (SCi hS 35 7 rfl) 1 (by decide) dX7_shorten_11 k_250 rfl (SCr hS 35 1 37 rfl) ?_
    refine wg_iload_n X 1 dX7_shorten_14 rfl rfl ?_
    refine wg_iload_n X 2 dX7_shorten_15 rfl rfl ?_
    obtain ⟨z3, h⟩ := ck_some h
    obtain ⟨C4, e5, h⟩ := lt_some h
    refine wg_iaste X (SCi hS 37 10 rfl) (SCl hS 37 192 rfl) z3 dX7_shorten_16 e5 ?_
    exact wg_vret X ⟨(sm_inj h), rfl⟩ hr dX7_shorten_17
-- WindowsGive$Walk.leave(LWindowsGive$House;LWindowsGive$Rules;II)V (('c', 35), ('c', 1), 'null', 'i', 'i')
def f_X7_leave_j106l39 (N : Nat) (S : wg_Sh) (C : wg_C)  (x3 : Int32) (x4 : Int32) (x5 : Int32) (x6 : Int32) (x7 : Int32) (x8 : Nat) (s0 : Int32) : Option ((wg_C × Int32) ⊕ (wg_C × Int32)) :=
  bd (f_X1_leads C x8) fun r17 =>
  bd (f_X1_on C x8 x6) fun r19 =>
  ck (inb x3 192) <|
  bd (f_X7_shorten C ((r17 * (32 : Int32)) + r19) ((C 37 x3.toNatClampNeg) + s0)) fun C22 =>
  lt_ (x7 + (1 : Int32)) fun v23 =>
  some (.inl (C22, v23))
def f_X7_leave_l39 (N : Nat) (S : wg_Sh)  (x3 : Int32) (x4 : Int32) (x5 : Int32) (x6 : Int32) (C : wg_C) (x7 : Int32) : Option ((wg_C × Int32) ⊕ (wg_C × Int32)) :=
  if (C 1 2) ≤ x7 then (
    some (.inr (C, x7)))
  else (
    ck (inb x7 8) <|
    if (C (4 + x7.toNatClampNeg) 4) = x5 then (
      bd (f_X1_passes C (4 + x7.toNatClampNeg) x6 x4) fun r12 =>
      if r12 = 0 then (
        lt_ (x7 + (1 : Int32)) fun v14 =>
        some (.inl (C, v14)))
      else (
        f_X7_leave_j106l39 N S C  x3 x4 x5 x6 x7 (4 + x7.toNatClampNeg) (1000 : Int32)))
    else (
      lt_ (x7 + (1 : Int32)) fun v9 =>
      some (.inl (C, v9))))
def f_X7_leave_j36 (N : Nat) (S : wg_Sh) (C : wg_C)  (x3 : Int32) (x4 : Int32) (x5 : Int32) (x6 : Int32) : Option wg_C :=
  bd2 (lp (fun o => f_X7_leave_l39 N S  x3 x4 x5 x6 o.1 o.2) N (C, (0 : Int32))) fun C25 v26 =>
  some C25
def f_X7_leave (N : Nat) (S : wg_Sh) (C : wg_C) (p3 : Int32) (p4 : Int32) : Option wg_C :=
  lt_ (p3 / (32 : Int32)) fun v1 =>
  lt_ (p3 - p3 / (32 : Int32) * (32 : Int32)) fun v3 =>
  if (32 : Int32) ≤ (v3 + (1 : Int32)) then (
    f_X7_leave_j36 N S C  p3 p4 v1 v3)
  else (
    ck (inb p3 192) <|
    bd (f_X7_shorten C (p3 + (1 : Int32)) ((C 37 p3.toNatClampNeg) + (1 : Int32))) fun C33 =>
    f_X7_leave_j36 N S C33  p3 p4 v1 v3)
abbrev G_X7_leave (p : Program) (l : Launch) (e : Env) (s : State) (m : MethodId) (args : Array Value) (below : List Frame) (meth : Method) (c : Code) (E : wg_Ev) (ad : Nat → Nat) (S : wg_Sh) (C0 : wg_C) (M0 : wg_M) (pc : Nat) (C : wg_C) (M : wg_M) (lv : List (Nat × Value)) (st : List Value) : Prop := wg_G p l e (wg_Rm 2 44) s m args below meth c (MQ below (wg_Qv E ad S C0 M0) args s 0 0 (wg_A E)) 10 E ad S 0 0 pc C M lv st
set_option maxHeartbeats 4000000 in
set_option maxRecDepth 100000 in
theorem J_X7_leave_j106l39 {p : Program} {l : Launch} {e : Env} {s : State} {m : MethodId} {args : Array Value} {below : List Frame} {meth : Method} {c : Code} {E : wg_Ev} {ad : Nat → Nat} {S : wg_Sh} (X : wg_X p s m args meth c cX7_leave 10 RX7 E) (hr : meth.sig.returnType = none) (hS : wg_SC S) (D0 : wg_C) (M : wg_M) (N : Nat)  (C : wg_C)  (x3 : Int32) (x4 : Int32) (x5 : Int32) (x6 : Int32) (x7 : Int32) (x8 : Nat) (s0 : Int32) (hx8 : wg_id S x8 1) (y : ((wg_C × Int32) ⊕ (wg_C × Int32))) (Kc : ∀ (Dy : wg_C) (y7 : Int32), y = Sum.inl (Dy, y7) → G_X7_leave p l e s m args below meth c E ad S D0 M 39 Dy M [(0, .ref (ad 35)), (1, .ref (ad 1)), (2, .null), (3, .int x3), (4, .int x4), (5, .int x5), (6, .int x6), (7, .int y7)] []) (Ke : ∀ (Dy : wg_C) (y7 : Int32), y = Sum.inr ((Dy, y7)) → G_X7_leave p l e s m args below meth c E ad S D0 M 143 Dy M [(0, .ref (ad 35)), (1, .ref (ad 1)), (2, .null), (3, .int x3), (4, .int x4), (5, .int x5), (6, .int x6), (7, .int y7)] []) (h : f_X7_leave_j106l39 N S C  x3 x4 x5 x6 x7 x8 s0 = some y) : G_X7_leave p l e s m args below meth c E ad S D0 M 106 C M [(0, .ref (ad 35)), (1, .ref (ad 1)), (2, .null), (3, .int x3), (4, .int x4), (5, .int x5), (6, .int x6), (7, .int x7), (8, .ref (ad x8))] [.int s0] := by
  unfold f_X7_leave_j106l39 at h
  refine wg_istore (lv' := [(9, .int s0), (0, .ref (ad 35)), (1, .ref (ad 1)), (2, .null), (3, .int x3), (4, .int x4), (5, .int x5), (6, .int x6), (7, .int x7), (8, .ref (ad x8))]) X dX7_leave_106 rfl (by decide) rfl ?_
  refine wg_aload_n X 1 dX7_leave_108 rfl rfl ?_
  refine wg_aload X 9 dX7_leave_109 rfl ?_
  obtain ⟨r17, h16, h⟩ := bd_some h
  refine wg_callVi (As := []) (rest := [.ref (ad 35)]) X (c_X1_leads l E ad S hS C M x8 hx8 h16) T_yX1_leads k_643 cl1 hx8 dX7_leave_111 rfl rfl (Nat.le_of_ble_eq_true rfl) ⟨Nat.le_of_ble_eq_true rfl, Nat.le_of_ble_eq_true rfl⟩ ⟨Nat.zero_le _, Nat.zero_le _⟩ ?_
  refine wg_bipush (v := 32) X dX7_leave_114 (by decide) ?_
  refine wg_imul X dX7_leave_116 ?_
  refine wg_aload X 9 dX7_leave_117 rfl ?_
  refine wg_iload X 7 dX7_leave_119 rfl ?_
  obtain ⟨r19, h18, h⟩ := bd_some h
  refine wg_callVi (As := [.int x6]) (rest := [.int (r17 * (32 : Int32)), .ref (ad 35)]) X (c_X1_on l E ad S hS C M x8 x6 hx8 h18) T_yX1_on k_644 cl1 hx8 dX7_leave_121 rfl rfl (Nat.le_of_ble_eq_true rfl) ⟨Nat.le_of_ble_eq_true rfl, Nat.le_of_ble_eq_true rfl⟩ ⟨Nat.zero_le _, Nat.zero_le _⟩ ?_
  refine wg_iadd X dX7_leave_124 ?_
  refine wg_aload_n X 1 dX7_leave_125 rfl rfl ?_
  refine wg_getR (b := 37) X cl7 (SCi hS 35 7 rfl) 1 (by decide) dX7_leave_126 k_250 rfl (SCr hS 35 1 37 rfl) ?_
  refine wg_iload_n X 4 dX7_leave_129 rfl rfl ?_
  obtain ⟨z20, h⟩ := ck_some h
  refine wg_iald X (SCi hS 37 10 rfl) (SCl hS 37 192 rfl) z20 dX7_leave_130 ?_
  refine wg_iload X 0 dX7_leave_131 rfl ?_
  refine wg_iadd X dX7_leave_133 ?_
  obtain ⟨C22, h21, h⟩ := bd_some h
  refine wg_callVv (As := [.int ((r17 * (32 : Int32)) + r19), .int ((C 37 x3.toNatClampNeg) + s0)]) (rest := []) X (c_X7_shorten l E ad S hS C M ((r17 * (32 : Int32)) + r19) ((C 37 x3.toNatClampNeg) + s0)  h21) T_yX7_shorten k_606 cl7 (SCi hS 35 7 rfl) dX7_leave_134 rfl rfl (Nat.le_of_ble_eq_true rfl) ⟨Nat.le_of_ble_eq_true rfl, Nat.le_of_ble_eq_true rfl⟩ ⟨Nat.zero_le _, Nat.zero_le _⟩ ?_
  obtain ⟨v23, e24, h⟩ := lt_some h
  refine wg_iinc (lv' := [(7, .int v23), (9, .int s0), (0, .ref (ad 35)), (1, .ref (ad 1)), (2, .null), (3, .int x3), (4, .int x4), (5, .int x5), (6, .int x6), (8, .ref (ad x8))]) X 8 dX7_leave_137 rfl e24 (by decide) rfl ?_
  refine wg_goto X 39 dX7_leave_140 (by decide) ?_
  refine wg_pick [2, 3, 4, 5, 6, 7, 8, 0] (lv' := [(0, .ref (ad 35)), (1, .ref (ad 1)), (2, .null), (3, .int x3), (4, .int x4), (5, .int x5), (6, .int x6), (7, .int v23)]) rfl ?_
  exact Kc C22 v23 (sm_inj h).symm
set_option maxHeartbeats 4000000 in
set_option maxRecDepth 100000 in
theorem L_X7_leave_l39 {p : Program} {l : Launch} {e : Env} {s : State} {m : MethodId} {args : Array Value} {below : List Frame} {meth : Method} {c : Code} {E : wg_Ev} {ad : Nat → Nat} {S : wg_Sh} (X : wg_X p s m args meth c cX7_leave 10 RX7 E) (hr : meth.sig.returnType = none) (hS : wg_SC S) (D0 : wg_C) (M : wg_M) (N : Nat)   (x3 : Int32) (x4 : Int32) (x5 : Int32) (x6 : Int32)  : ∀ (n : Nat) (C : wg_C) (x7 : Int32) (o : (wg_C × Int32)), lp (fun o => f_X7_leave_l39 N S  x3 x4 x5 x6 o.1 o.2) n (C, x7) = some o → (∀ (Dy : wg_C) (y7 : Int32), o = (Dy, y7) → G_X7_leave p l e s m args below meth c E ad S D0 M 143 Dy M [(0, .ref (ad 35)), (1, .ref (ad 1)), (2, .null), (3, .int x3), (4, .int x4), (5, .int x5), (6, .int x6), (7, .int y7)] []) → G_X7_leave p l e s m args below meth c E ad S D0 M 39 C M [(0, .ref (ad 35)), (1, .ref (ad 1)), (2, .null), (3, .int x3), (4, .int x4), (5, .int x5), (6, .int x6), (7, .int x7)] [] := by
  intro n
  induction n with
  | zero => exact fun _ _ o h => (lp_zero h).elim
  | succ n ih =>
    intro C x7 o h K
    obtain ⟨o1, hb, h2⟩ := lp_some h
    replace hb : f_X7_leave_l39 N S  x3 x4 x5 x6 C x7 = some o1 := hb
    clear h
    have Kc : ∀ (Dy : wg_C) (y7 : Int32), o1 = Sum.inl (Dy, y7) → G_X7_leave p l e s m args below meth c E ad S D0 M 39 Dy M [(0, .ref (ad 35)), (1, .ref (ad 1)), (2, .null), (3, .int x3), (4, .int x4), (5, .int x5), (6, .int x6), (7, .int y7)] [] := fun Dy y7 e1 => by
      subst e1
      exact ih Dy y7 o h2 K
    have Ke : ∀ (Dy : wg_C) (y7 : Int32), o1 = Sum.inr ((Dy, y7)) → G_X7_leave p l e s m args below meth c E ad S D0 M 143 Dy M [(0, .ref (ad 35)), (1, .ref (ad 1)), (2, .null), (3, .int x3), (4, .int x4), (5, .int x5), (6, .int x6), (7, .int y7)] [] := fun Dy y7 e1 => by
      subst e1
      exact K Dy y7 (sm_inj (α := (wg_C × Int32)) h2).symm
    clear ih K h2
    unfold f_X7_leave_l39 at hb
    have h := hb
    clear hb
    refine wg_iload X 7 dX7_leave_39 rfl ?_
    refine wg_aload_n X 1 dX7_leave_41 rfl rfl ?_
    refine wg_getC X cl0 (SCi hS 1 0 rfl) 2 (by decide) dX7_leave_42 k_148 rfl ?_
    refine wg_icmp_ge X 143 dX7_leave_45 (by decide) (fun c6 => ?_) (fun c6 => ?_)
    · have h := if_t c6 h
      exact Ke C x7 (sm_inj h).symm
    · have h := if_f c6 h
      refine wg_aload_n X 1 dX7_leave_48 rfl rfl ?_
      refine wg_getR (b := 3) X cl0 (SCi hS 1 0 rfl) 1 (by decide) dX7_leave_49 k_145 rfl (SCr hS 1 1 3 rfl) ?_
      refine wg_iload X 7 dX7_leave_52 rfl ?_
      obtain ⟨z7, h⟩ := ck_some h
      refine wg_aalS13 (b := 4 + x7.toNatClampNeg) X (SCi hS 3 13 rfl) (SCl hS 3 8 rfl) z7 (SCp hS (inb_lt z7)).1 dX7_leave_54 ?_
      refine wg_astore (lv' := [(8, .ref (ad (4 + x7.toNatClampNeg))), (0, .ref (ad 35)), (1, .ref (ad 1)), (2, .null), (3, .int x3), (4, .int x4), (5, .int x5), (6, .int x6), (7, .int x7)]) X dX7_leave_55 rfl (by decide) rfl ?_
      refine wg_aload X 0 dX7_leave_57 rfl ?_
      refine wg_getC X cl1 (SCp hS (inb_lt z7)).2.1 4 (by decide) dX7_leave_59 k_123 rfl ?_
      refine wg_iload X 6 dX7_leave_62 rfl ?_
      refine wg_icmp_ne X 137 dX7_leave_64 (by decide) (fun c8 => ?_) (fun c8 => ?_)
      · have h := if_f c8 h
        obtain ⟨v9, e10, h⟩ := lt_some h
        refine wg_iinc (lv' := [(7, .int v9), (8, .ref (ad (4 + x7.toNatClampNeg))), (0, .ref (ad 35)), (1, .ref (ad 1)), (2, .null), (3, .int x3), (4, .int x4), (5, .int x5), (6, .int x6)]) X 8 dX7_leave_137 rfl e10 (by decide) rfl ?_
        refine wg_goto X 39 dX7_leave_140 (by decide) ?_
        refine wg_pick [2, 3, 4, 5, 6, 7, 8, 0] (lv' := [(0, .ref (ad 35)), (1, .ref (ad 1)), (2, .null), (3, .int x3), (4, .int x4), (5, .int x5), (6, .int x6), (7, .int v9)]) rfl ?_
        exact Kc C v9 (sm_inj h).symm
      · have h := if_t c8 h
        refine wg_aload X 0 dX7_leave_67 rfl ?_
        refine wg_iload X 7 dX7_leave_69 rfl ?_
        refine wg_iload X 5 dX7_leave_71 rfl ?_
        obtain ⟨r12, h11, h⟩ := bd_some h
        refine wg_callVi (As := [.int x6, .int x4]) (rest := []) X (c_X1_passes l E ad S hS C M (4 + x7.toNatClampNeg) x6 x4 ((SCp hS (inb_lt z7)).2.1) h11) T_yX1_passes k_610 cl1 ((SCp hS (inb_lt z7)).2.1) dX7_leave_73 rfl rfl (Nat.le_of_ble_eq_true rfl) ⟨Nat.le_of_ble_eq_true rfl, Nat.le_of_ble_eq_true rfl⟩ ⟨Nat.zero_le _, Nat.zero_le _⟩ ?_
        refine wg_if_eq X 137 dX7_leave_76 (by decide) (fun c13 => ?_) (fun c13 => ?_)
        · have h := if_t c13 h
          obtain ⟨v14, e15, h⟩ := lt_some h
          refine wg_iinc (lv' := [(7, .int v14), (8, .ref (ad (4 + x7.toNatClampNeg))), (0, .ref (ad 35)), (1, .ref (ad 1)), (2, .null), (3, .int x3), (4, .int x4), (5, .int x5), (6, .int x6)]) X 8 dX7_leave_137 rfl e15 (by decide) rfl ?_
          refine wg_goto X 39 dX7_leave_140 (by decide) ?_
          refine wg_pick [2, 3, 4, 5, 6, 7, 8, 0] (lv' := [(0, .ref (ad 35)), (1, .ref (ad 1)), (2, .null), (3, .int x3), (4, .int x4), (5, .int x5), (6, .int x6), (7, .int v14)]) rfl ?_
          exact Kc C v14 (sm_inj h).symm
        · have h := if_f c13 h
          refine wg_aload_nN X 3 dX7_leave_79 rfl rfl ?_
          refine wg_nonnullN X dX7_leave_80 ?_
          refine wg_sipush (v := 1000) X dX7_leave_83 (by decide) ?_
          refine wg_goto X 106 dX7_leave_86 (by decide) ?_
          refine wg_pick [1, 2, 3, 4, 5, 6, 7, 8, 0] (lv' := [(0, .ref (ad 35)), (1, .ref (ad 1)), (2, .null), (3, .int x3), (4, .int x4), (5, .int x5), (6, .int x6), (7, .int x7), (8, .ref (ad (4 + x7.toNatClampNeg)))]) rfl ?_
          exact J_X7_leave_j106l39 X hr hS D0 M N  C  x3 x4 x5 x6 x7 (4 + x7.toNatClampNeg) (1000 : Int32) ((SCp hS (inb_lt z7)).2.1) _ Kc Ke h
set_option maxHeartbeats 4000000 in
set_option maxRecDepth 100000 in
theorem J_X7_leave_j36 {p : Program} {l : Launch} {e : Env} {s : State} {m : MethodId} {args : Array Value} {below : List Frame} {meth : Method} {c : Code} {E : wg_Ev} {ad : Nat → Nat} {S : wg_Sh} (X : wg_X p s m args meth c cX7_leave 10 RX7 E) (hr : meth.sig.returnType = none) (hS : wg_SC S) (D0 : wg_C) (M : wg_M) (N : Nat)  (C : wg_C)  (x3 : Int32) (x4 : Int32) (x5 : Int32) (x6 : Int32)   (h : f_X7_leave_j36 N S C  x3 x4 x5 x6 = some D0) : G_X7_leave p l e s m args below meth c E ad S D0 M 36 C M [(0, .ref (ad 35)), (1, .ref (ad 1)), (2, .null), (3, .int x3), (4, .int x4), (5, .int x5), (6, .int x6)] [] := by
  unfold f_X7_leave_j36 at h
  refine wg_iconst (v := 0) X dX7_leave_36 (by decide) ?_
  refine wg_istore (lv' := [(7, .int (0 : Int32)), (0, .ref (ad 35)), (1, .ref (ad 1)), (2, .null), (3, .int x3), (4, .int x4), (5, .int x5), (6, .int x6)]) X dX7_leave_37 rfl (by decide) rfl ?_
  obtain ⟨o27, h28, h⟩ := bd2_o h
  refine wg_pick [1, 2, 3, 4, 5, 6, 7, 0] (lv' := [(0, .ref (ad 35)), (1, .ref (ad 1)), (2, .null), (3, .int x3), (4, .int x4), (5, .int x5), (6, .int x6), (7, .int (0 : Int32))]) rfl ?_
  refine L_X7_leave_l39 X hr hS D0 M N   x3 x4 x5 x6  N C (0 : Int32) o27 h28 (fun C25 v26 e30 => ?_)
  · subst e30
    replace h := bd2_in h
    exact wg_vret X ⟨(sm_inj h), rfl⟩ hr dX7_leave_143
set_option maxHeartbeats 4000000 in
set_option maxRecDepth 100000 in
theorem c_X7_leave (l : Launch) (E : wg_Ev) (ad : Nat → Nat) (S : wg_Sh) (hS : wg_SC S) (N : Nat) (C : wg_C) (M : wg_M) (p3 : Int32) (p4 : Int32)  {D0 : wg_C} (h : f_X7_leave N S C p3 p4 = some D0) : wg_Cv l yX7_leave cX7_leave 10 none 2 44 E ad S C M [.ref (ad 35), .ref (ad 1), .null, .int p3, .int p4] D0 M := by
  refine wg_start (own := RX7) (by decide +kernel) rfl (Nat.le_of_ble_eq_true rfl) ?_
  intro p e s m below meth c X hr hnm
  refine wg_lv (lv' := [(0, .ref (ad 35)), (1, .ref (ad 1)), (2, .null), (3, .int p3), (4, .int p4)]) rfl ?_
  unfold f_X7_leave at h
  refine wg_iload_n X 3 dX7_leave_0 rfl rfl ?_
  refine wg_bipush (v := 32) X dX7_leave_1 (by decide) ?_
  refine wg_idiv X dX7_leave_3 (by decide) ?_
  obtain ⟨v1, e2, h⟩ := lt_some h
  refine wg_istore (lv' := [(5, .int v1), (0, .ref (ad 35)), (1, .ref (ad 1)), (2, .null), (3, .int p3), (4, .int p4)]) X dX7_leave_4 e2 (by decide) rfl ?_
  refine wg_iload_n X 4 dX7_leave_6 rfl rfl ?_
  refine wg_bipush (v := 32) X dX7_leave_7 (by decide) ?_
  refine wg_irem X dX7_leave_9 (by decide) ?_
  obtain ⟨v3, e4, h⟩ := lt_some h
  refine wg_istore (lv' := [(6, .int v3), (5, .int v1), (0, .ref (ad 35)), (1, .ref (ad 1)), (2, .null), (3, .int p3), (4, .int p4)]) X dX7_leave_10 e4 (by decide) rfl ?_
  refine wg_iload X 0 dX7_leave_12 rfl ?_
  refine wg_iconst (v := 1) X dX7_leave_14 (by decide) ?_
  refine wg_iadd X dX7_leave_15 ?_
  refine wg_bipush (v := 32) X dX7_leave_16 (by decide) ?_
  refine wg_icmp_ge X 36 dX7_leave_18 (by decide) (fun c5 => ?_) (fun c5 => ?_)
  · have h := if_t c5 h
    refine wg_pick [2, 3, 4, 5, 6, 1, 0] (lv' := [(0, .ref (ad 35)), (1, .ref (ad 1)), (2, .null), (3, .int p3), (4, .int p4), (5, .int v1), (6, .int v3)]) rfl ?_
    exact J_X7_leave_j36 X hr hS D0 M N  C  p3 p4 v1 v3   h
  · have h := if_f c5 h
    refine wg_aload_n X 2 dX7_leave_21 rfl rfl ?_
    refine wg_iload_n X 5 dX7_leave_22 rfl rfl ?_
    refine wg_iconst (v := 1) X dX7_leave_23 (by decide) ?_
    refine wg_iadd X dX7_leave_24 ?_
    refine wg_aload_n X 2 dX7_leave_25 rfl rfl ?_
    refine wg_getR (b := 37) X cl7 (SCi hS 35 7 rfl) 1 (by decide) dX7_leave_26 k_250 rfl (SCr hS 35 1 37 rfl) ?_
    refine wg_iload_n X 5 dX7_leave_29 rfl rfl ?_
    obtain ⟨z31, h⟩ := ck_some h
    refine wg_iald X (SCi hS 37 10 rfl) (SCl hS 37 192 rfl) z31 dX7_leave_30 ?_
    refine wg_iconst (v := 1) X dX7_leave_31 (by decide) ?_
    refine wg_iadd X dX7_leave_32 ?_
    obtain ⟨C33, h32, h⟩ := bd_some h
    refine wg_callVv (As := [.int (p3 + (1 : Int32)), .int ((C 37 p3.toNatClampNeg) + (1 : Int32))]) (rest := []) X (c_X7_shorten l E ad S hS C M (p3 + (1 : Int32)) ((C 37 p3.toNatClampNeg) + (1 : Int32))  h32) T_yX7_shorten k_606 cl7 (SCi hS 35 7 rfl) dX7_leave_33 rfl rfl (Nat.le_of_ble_eq_true rfl) ⟨Nat.le_of_ble_eq_true rfl, Nat.le_of_ble_eq_true rfl⟩ ⟨Nat.zero_le _, Nat.zero_le _⟩ ?_
    refine wg_pick [2, 3, 4, 5, 6, 1, 0] (lv' := [(0, .ref (ad 35)), (1, .ref (ad 1)), (2, .null), (3, .int p3), (4, .int p4), (5, .int v1), (6, .int v3)]) rfl ?_
    exact J_X7_leave_j36 X hr hS D0 M N  C33  p3 p4 v1 v3   h
-- WindowsGive$Walk.search(LWindowsGive$House;LWindowsGive$Rules;II)V (('c', 35), ('c', 1), 'null', 'i', 'i')
def f_X7_search_l27 (N : Nat) (S : wg_Sh)  (x4 : Int32) (C : wg_C) (x5 : Int32) : Option ((wg_C × Int32) ⊕ ((wg_C × Int32) ⊕ wg_C)) :=
  if (192 : Int32) ≤ x5 then (
    some (.inr (.inl (C, x5))))
  else (
    bd (f_X7_nearest N C ) fun r10 =>
    if r10 = (-1 : Int32) then (
      some (.inr (.inr C)))
    else (
      ck (inb r10 192) <|
      lt_ (wg_up C 38 r10.toNatClampNeg (1 : Int32)) fun C13 =>
      bd (f_X7_leave N S C13 r10 x4) fun C16 =>
      lt_ (x5 + (1 : Int32)) fun v17 =>
      some (.inl (C16, v17))))
def f_X7_search (N : Nat) (S : wg_Sh) (C : wg_C) (p3 : Int32) (p4 : Int32) : Option wg_C :=
  bd (f_J7_fill_53178 N C 37 192 (1000000000 : Int32)) fun C2 =>
  bd (f_J7_fill_53178 N C2 38 192 (0 : Int32)) fun C4 =>
  ck (inb p3 192) <|
  lt_ (wg_up C4 37 p3.toNatClampNeg (0 : Int32)) fun C6 =>
  bs2 (lp (fun o => f_X7_search_l27 N S  p4 o.1 o.2) N (C6, (0 : Int32))) (fun C19 v20 =>
    some C19)
    (fun q23 => some q23)
abbrev G_X7_search (p : Program) (l : Launch) (e : Env) (s : State) (m : MethodId) (args : Array Value) (below : List Frame) (meth : Method) (c : Code) (E : wg_Ev) (ad : Nat → Nat) (S : wg_Sh) (C0 : wg_C) (M0 : wg_M) (pc : Nat) (C : wg_C) (M : wg_M) (lv : List (Nat × Value)) (st : List Value) : Prop := wg_G p l e (wg_Rm 3 73) s m args below meth c (MQ below (wg_Qv E ad S C0 M0) args s 0 0 (wg_A E)) 7 E ad S 0 0 pc C M lv st
set_option maxHeartbeats 4000000 in
set_option maxRecDepth 100000 in
theorem L_X7_search_l27 {p : Program} {l : Launch} {e : Env} {s : State} {m : MethodId} {args : Array Value} {below : List Frame} {meth : Method} {c : Code} {E : wg_Ev} {ad : Nat → Nat} {S : wg_Sh} (X : wg_X p s m args meth c cX7_search 7 RX7 E) (hr : meth.sig.returnType = none) (hS : wg_SC S) (D0 : wg_C) (M : wg_M) (N : Nat)   (x4 : Int32)  : ∀ (n : Nat) (C : wg_C) (x5 : Int32) (o : ((wg_C × Int32) ⊕ wg_C)), lp (fun o => f_X7_search_l27 N S  x4 o.1 o.2) n (C, x5) = some o → (∀ (Dy : wg_C) (y5 : Int32), o = Sum.inl (Dy, y5) → G_X7_search p l e s m args below meth c E ad S D0 M 72 Dy M [(0, .ref (ad 35)), (1, .ref (ad 1)), (2, .null), (4, .int x4), (5, .int y5)] []) → (∀ q : wg_C, o = Sum.inr q → q = D0) → G_X7_search p l e s m args below meth c E ad S D0 M 27 C M [(0, .ref (ad 35)), (1, .ref (ad 1)), (2, .null), (4, .int x4), (5, .int x5)] [] := by
  intro n
  induction n with
  | zero => exact fun _ _ o h => (lp_zero h).elim
  | succ n ih =>
    intro C x5 o h K KR
    obtain ⟨o1, hb, h2⟩ := lp_some h
    replace hb : f_X7_search_l27 N S  x4 C x5 = some o1 := hb
    clear h
    have Kc : ∀ (Dy : wg_C) (y5 : Int32), o1 = Sum.inl (Dy, y5) → G_X7_search p l e s m args below meth c E ad S D0 M 27 Dy M [(0, .ref (ad 35)), (1, .ref (ad 1)), (2, .null), (4, .int x4), (5, .int y5)] [] := fun Dy y5 e1 => by
      subst e1
      exact ih Dy y5 o h2 K KR
    have Ke : ∀ (Dy : wg_C) (y5 : Int32), o1 = Sum.inr (Sum.inl (Dy, y5)) → G_X7_search p l e s m args below meth c E ad S D0 M 72 Dy M [(0, .ref (ad 35)), (1, .ref (ad 1)), (2, .null), (4, .int x4), (5, .int y5)] [] := fun Dy y5 e1 => by
      subst e1
      exact K Dy y5 (sm_inj (α := ((wg_C × Int32) ⊕ wg_C)) h2).symm
    have Kr : ∀ q : wg_C, o1 = Sum.inr (Sum.inr q) → q = D0 := fun q e1 => by
      subst e1
      exact KR q (sm_inj (α := ((wg_C × Int32) ⊕ wg_C)) h2).symm
    clear ih K h2 KR
    unfold f_X7_search_l27 at hb
    have h := hb
    clear hb
    refine wg_iload X 4 dX7_search_27 rfl ?_
    refine wg_sipush (v := 192) X dX7_search_29 (by decide) ?_
    refine wg_icmp_ge X 72 dX7_search_32 (by decide) (fun c8 => ?_) (fun c8 => ?_)
    · have h := if_t c8 h
      exact Ke C x5 (sm_inj h).symm
    · have h := if_f c8 h
      refine wg_aload_n X 0 dX7_search_35 rfl rfl ?_
      obtain ⟨r10, h9, h⟩ := bd_some h
      refine wg_callVi (As := []) (rest := []) X (c_X7_nearest l E ad S hS N C M   h9) T_yX7_nearest k_598 cl7 (SCi hS 35 7 rfl) dX7_search_36 rfl rfl (Nat.le_of_ble_eq_true rfl) ⟨Nat.le_of_ble_eq_true rfl, Nat.le_of_ble_eq_true rfl⟩ ⟨Nat.zero_le _, Nat.zero_le _⟩ ?_
      refine wg_istore (lv' := [(6, .int r10), (0, .ref (ad 35)), (1, .ref (ad 1)), (2, .null), (4, .int x4), (5, .int x5)]) X dX7_search_39 rfl (by decide) rfl ?_
      refine wg_iload X 0 dX7_search_41 rfl ?_
      refine wg_iconst (v := -1) X dX7_search_43 (by decide) ?_
      refine wg_icmp_ne X 48 dX7_search_44 (by decide) (fun c11 => ?_) (fun c11 => ?_)
      · have h := if_f c11 h
        refine wg_aload_n X 1 dX7_search_48 rfl rfl ?_
        refine wg_getR (b := 38) X cl7 (SCi hS 35 7 rfl) 2 (by decide) dX7_search_49 k_252 rfl (SCr hS 35 2 38 rfl) ?_
        refine wg_iload X 0 dX7_search_52 rfl ?_
        refine wg_iconst (v := 1) X dX7_search_54 (by decide) ?_
        obtain ⟨z12, h⟩ := ck_some h
        obtain ⟨C13, e14, h⟩ := lt_some h
        refine wg_iaste X (SCi hS 38 10 rfl) (SCl hS 38 192 rfl) z12 dX7_search_55 e14 ?_
        refine wg_aload_n X 1 dX7_search_56 rfl rfl ?_
        refine wg_aload_n X 2 dX7_search_57 rfl rfl ?_
        refine wg_aload_nN X 3 dX7_search_58 rfl rfl ?_
        refine wg_iload X 0 dX7_search_59 rfl ?_
        refine wg_iload X 4 dX7_search_61 rfl ?_
        obtain ⟨C16, h15, h⟩ := bd_some h
        refine wg_callVv (As := [.ref (ad 1), .null, .int r10, .int x4]) (rest := []) X (c_X7_leave l E ad S hS N C13 M r10 x4  h15) T_yX7_leave k_602 cl7 (SCi hS 35 7 rfl) dX7_search_63 rfl rfl (Nat.le_of_ble_eq_true rfl) ⟨Nat.le_of_ble_eq_true rfl, Nat.le_of_ble_eq_true rfl⟩ ⟨Nat.zero_le _, Nat.zero_le _⟩ ?_
        obtain ⟨v17, e18, h⟩ := lt_some h
        refine wg_iinc (lv' := [(5, .int v17), (6, .int r10), (0, .ref (ad 35)), (1, .ref (ad 1)), (2, .null), (4, .int x4)]) X 5 dX7_search_66 rfl e18 (by decide) rfl ?_
        refine wg_goto X 27 dX7_search_69 (by decide) ?_
        refine wg_pick [2, 3, 4, 5, 0] (lv' := [(0, .ref (ad 35)), (1, .ref (ad 1)), (2, .null), (4, .int x4), (5, .int v17)]) rfl ?_
        exact Kc C16 v17 (sm_inj h).symm
      · have h := if_t c11 h
        have hq := Kr _ (sm_inj h).symm
        exact wg_vret X ⟨hq, rfl⟩ hr dX7_search_47
set_option maxHeartbeats 4000000 in
set_option maxRecDepth 100000 in
theorem c_X7_search (l : Launch) (E : wg_Ev) (ad : Nat → Nat) (S : wg_Sh) (hS : wg_SC S) (N : Nat) (C : wg_C) (M : wg_M) (p3 : Int32) (p4 : Int32)  {D0 : wg_C} (h : f_X7_search N S C p3 p4 = some D0) : wg_Cv l yX7_search cX7_search 7 none 3 73 E ad S C M [.ref (ad 35), .ref (ad 1), .null, .int p3, .int p4] D0 M := by
  refine wg_start (own := RX7) (by decide +kernel) rfl (Nat.le_of_ble_eq_true rfl) ?_
  intro p e s m below meth c X hr hnm
  refine wg_lv (lv' := [(0, .ref (ad 35)), (1, .ref (ad 1)), (2, .null), (3, .int p3), (4, .int p4)]) rfl ?_
  unfold f_X7_search at h
  refine wg_aload_n X 0 dX7_search_0 rfl rfl ?_
  refine wg_getR (b := 37) X cl7 (SCi hS 35 7 rfl) 1 (by decide) dX7_search_1 k_250 rfl (SCr hS 35 1 37 rfl) ?_
  refine wg_ldc (v := 1000000000) X dX7_search_4 k_594 ?_
  obtain ⟨C2, h1, h⟩ := bd_some h
  refine wg_callSv (As := [.ref (ad 37), .int (1000000000 : Int32)]) (rest := []) X (c_J7_fill_53178 l E ad S hS N C M 37 192 (1000000000 : Int32) ⟨(SCi hS 37 10 rfl), (SCl hS 37 192 rfl)⟩ h1) T_yJ7_fill_53178 k_595 dX7_search_6 rfl rfl (Nat.le_of_ble_eq_true rfl) ⟨Nat.le_of_ble_eq_true rfl, Nat.le_of_ble_eq_true rfl⟩ ⟨Nat.zero_le _, Nat.zero_le _⟩ ?_
  refine wg_aload_n X 0 dX7_search_9 rfl rfl ?_
  refine wg_getR (b := 38) X cl7 (SCi hS 35 7 rfl) 2 (by decide) dX7_search_10 k_252 rfl (SCr hS 35 2 38 rfl) ?_
  refine wg_iconst (v := 0) X dX7_search_13 (by decide) ?_
  obtain ⟨C4, h3, h⟩ := bd_some h
  refine wg_callSv (As := [.ref (ad 38), .int (0 : Int32)]) (rest := []) X (c_J7_fill_53178 l E ad S hS N C2 M 38 192 (0 : Int32) ⟨(SCi hS 38 10 rfl), (SCl hS 38 192 rfl)⟩ h3) T_yJ7_fill_53178 k_595 dX7_search_14 rfl rfl (Nat.le_of_ble_eq_true rfl) ⟨Nat.le_of_ble_eq_true rfl, Nat.le_of_ble_eq_true rfl⟩ ⟨Nat.zero_le _, Nat.zero_le _⟩ ?_
  refine wg_aload_n X 0 dX7_search_17 rfl rfl ?_
  refine wg_getR (b := 37) X cl7 (SCi hS 35 7 rfl) 1 (by decide) dX7_search_18 k_250 rfl (SCr hS 35 1 37 rfl) ?_
  refine wg_iload_n X 3 dX7_search_21 rfl rfl ?_
  refine wg_iconst (v := 0) X dX7_search_22 (by decide) ?_
  obtain ⟨z5, h⟩ := ck_some h
  obtain ⟨C6, e7, h⟩ := lt_some h
  refine wg_iaste X (SCi hS 37 10 rfl) (SCl hS 37 192 rfl) z5 dX7_search_23 e7 ?_
  refine wg_iconst (v := 0) X dX7_search_24 (by decide) ?_
  refine wg_istore (lv' := [(5, .int (0 : Int32)), (0, .ref (ad 35)), (1, .ref (ad 1)), (2, .null), (3, .int p3), (4, .int p4)]) X dX7_search_25 rfl (by decide) rfl ?_
  obtain ⟨o21, h22, h⟩ := bs2_o h
  refine wg_pick [1, 2, 3, 5, 0] (lv' := [(0, .ref (ad 35)), (1, .ref (ad 1)), (2, .null), (4, .int p4), (5, .int (0 : Int32))]) rfl ?_
  refine L_X7_search_l27 X hr hS D0 M N   p4  N C6 (0 : Int32) o21 h22 (fun C19 v20 e24 => ?_) (fun q23 e24 => ?_)
  · subst e24
    replace h := bs2_in h
    exact wg_vret X ⟨(sm_inj h), rfl⟩ hr dX7_search_72
  · subst e24
    replace h := bs2_r h
    exact sm_inj h
-- WindowsGive.panes(IIII)I (('c', 0), 'i', 'i', 'i', 'i')
def f_X8_panes (N : Nat) (S : wg_Sh) (C : wg_C) (p1 : Int32) (p2 : Int32) (p3 : Int32) (p4 : Int32) : Option (Int32 × wg_C) :=
  bd (f_X8_isSpot p1) fun r2 =>
  if r2 = 0 then (
    some ((-2 : Int32), C))
  else (
    bd (f_X8_isSpot p2) fun r5 =>
    if r5 = 0 then (
      some ((-2 : Int32), C))
    else (
      bd (f_X8_isSort p3) fun r8 =>
      if r8 = 0 then (
        some ((-2 : Int32), C))
      else (
        if p4 < 0 then (
          some ((-2 : Int32), C))
        else (
          if p4 ≤ (1 : Int32) then (
            bd (f_X7_search N S C p1 p3) fun C13 =>
            ck (inb p2 192) <|
            lt_ (C13 37 p2.toNatClampNeg) fun v15 =>
            if v15 < (1000000000 : Int32) then (
              if p4 = 0 then (
                some ((v15 / (1000 : Int32)), C13))
              else (
                some ((v15 - v15 / (1000 : Int32) * (1000 : Int32)), C13)))
            else (
              some ((-1 : Int32), C13)))
          else (
            some ((-2 : Int32), C))))))
set_option maxHeartbeats 4000000 in
set_option maxRecDepth 100000 in
theorem c_X8_panes (l : Launch) (E : wg_Ev) (ad : Nat → Nat) (S : wg_Sh) (hS : wg_SC S) (N : Nat) (C : wg_C) (M : wg_M) (p1 : Int32) (p2 : Int32) (p3 : Int32) (p4 : Int32)  {r0 : Int32} {D0 : wg_C} (h : f_X8_panes N S C p1 p2 p3 p4 = some (r0, D0)) : wg_Ci l yX8_panes cX8_panes 6 (some .int) 4 99 E ad S C M [.ref (ad 0), .int p1, .int p2, .int p3, .int p4] r0 D0 M := by
  refine wg_start (own := RX8) (by decide +kernel) rfl (Nat.le_of_ble_eq_true rfl) ?_
  intro p e s m below meth c X hr hnm
  refine wg_lv (lv' := [(0, .ref (ad 0)), (1, .int p1), (2, .int p2), (3, .int p3), (4, .int p4)]) rfl ?_
  unfold f_X8_panes at h
  refine wg_iload_n X 1 dX8_panes_0 rfl rfl ?_
  obtain ⟨r2, h1, h⟩ := bd_some h
  refine wg_callSi (As := [.int p1]) (rest := []) X (c_X8_isSpot l E ad S C M p1  h1) T_yX8_isSpot k_587 dX8_panes_1 rfl rfl (Nat.le_of_ble_eq_true rfl) ⟨Nat.le_of_ble_eq_true rfl, Nat.le_of_ble_eq_true rfl⟩ ⟨Nat.zero_le _, Nat.zero_le _⟩ ?_
  refine wg_if_eq X 32 dX8_panes_4 (by decide) (fun c3 => ?_) (fun c3 => ?_)
  · have h := if_t c3 h
    refine wg_bipush (v := -2) X dX8_panes_32 (by decide) ?_
    exact wg_iret X ⟨(Prod.mk.inj (sm_inj h)).1, (Prod.mk.inj (sm_inj h)).2, rfl⟩ hr dX8_panes_34
  · have h := if_f c3 h
    refine wg_iload_n X 2 dX8_panes_7 rfl rfl ?_
    obtain ⟨r5, h4, h⟩ := bd_some h
    refine wg_callSi (As := [.int p2]) (rest := []) X (c_X8_isSpot l E ad S C M p2  h4) T_yX8_isSpot k_587 dX8_panes_8 rfl rfl (Nat.le_of_ble_eq_true rfl) ⟨Nat.le_of_ble_eq_true rfl, Nat.le_of_ble_eq_true rfl⟩ ⟨Nat.zero_le _, Nat.zero_le _⟩ ?_
    refine wg_if_eq X 32 dX8_panes_11 (by decide) (fun c6 => ?_) (fun c6 => ?_)
    · have h := if_t c6 h
      refine wg_bipush (v := -2) X dX8_panes_32 (by decide) ?_
      exact wg_iret X ⟨(Prod.mk.inj (sm_inj h)).1, (Prod.mk.inj (sm_inj h)).2, rfl⟩ hr dX8_panes_34
    · have h := if_f c6 h
      refine wg_iload_n X 3 dX8_panes_14 rfl rfl ?_
      obtain ⟨r8, h7, h⟩ := bd_some h
      refine wg_callSi (As := [.int p3]) (rest := []) X (c_X8_isSort l E ad S C M p3  h7) T_yX8_isSort k_554 dX8_panes_15 rfl rfl (Nat.le_of_ble_eq_true rfl) ⟨Nat.le_of_ble_eq_true rfl, Nat.le_of_ble_eq_true rfl⟩ ⟨Nat.zero_le _, Nat.zero_le _⟩ ?_
      refine wg_if_eq X 32 dX8_panes_18 (by decide) (fun c9 => ?_) (fun c9 => ?_)
      · have h := if_t c9 h
        refine wg_bipush (v := -2) X dX8_panes_32 (by decide) ?_
        exact wg_iret X ⟨(Prod.mk.inj (sm_inj h)).1, (Prod.mk.inj (sm_inj h)).2, rfl⟩ hr dX8_panes_34
      · have h := if_f c9 h
        refine wg_iload X 4 dX8_panes_21 rfl ?_
        refine wg_if_lt X 32 dX8_panes_23 (by decide) (fun c10 => ?_) (fun c10 => ?_)
        · have h := if_t c10 h
          refine wg_bipush (v := -2) X dX8_panes_32 (by decide) ?_
          exact wg_iret X ⟨(Prod.mk.inj (sm_inj h)).1, (Prod.mk.inj (sm_inj h)).2, rfl⟩ hr dX8_panes_34
        · have h := if_f c10 h
          refine wg_iload X 4 dX8_panes_26 rfl ?_
          refine wg_iconst (v := 1) X dX8_panes_28 (by decide) ?_
          refine wg_icmp_le X 35 dX8_panes_29 (by decide) (fun c11 => ?_) (fun c11 => ?_)
          · have h := if_t c11 h
            refine wg_aload_n X 0 dX8_panes_35 rfl rfl ?_
            refine wg_getR (b := 35) X cl8 (SCi hS 0 8 rfl) 6 (by decide) dX8_panes_36 k_478 rfl (SCr hS 0 6 35 rfl) ?_
            refine wg_aload_n X 0 dX8_panes_39 rfl rfl ?_
            refine wg_getR (b := 1) X cl8 (SCi hS 0 8 rfl) 0 (by decide) dX8_panes_40 k_472 rfl (SCr hS 0 0 1 rfl) ?_
            refine wg_null X dX8_panes_43 ?_
            refine wg_iload_n X 1 dX8_panes_44 rfl rfl ?_
            refine wg_iload_n X 3 dX8_panes_45 rfl rfl ?_
            obtain ⟨C13, h12, h⟩ := bd_some h
            refine wg_callVv (As := [.ref (ad 1), .null, .int p1, .int p3]) (rest := []) X (c_X7_search l E ad S hS N C M p1 p3  h12) T_yX7_search k_590 cl7 (SCi hS 35 7 rfl) dX8_panes_46 rfl rfl (Nat.le_of_ble_eq_true rfl) ⟨Nat.le_of_ble_eq_true rfl, Nat.le_of_ble_eq_true rfl⟩ ⟨Nat.zero_le _, Nat.zero_le _⟩ ?_
            refine wg_aload_n X 0 dX8_panes_49 rfl rfl ?_
            refine wg_getR (b := 35) X cl8 (SCi hS 0 8 rfl) 6 (by decide) dX8_panes_50 k_478 rfl (SCr hS 0 6 35 rfl) ?_
            refine wg_getR (b := 37) X cl7 (SCi hS 35 7 rfl) 1 (by decide) dX8_panes_53 k_251 rfl (SCr hS 35 1 37 rfl) ?_
            refine wg_iload_n X 2 dX8_panes_56 rfl rfl ?_
            obtain ⟨z14, h⟩ := ck_some h
            refine wg_iald X (SCi hS 37 10 rfl) (SCl hS 37 192 rfl) z14 dX8_panes_57 ?_
            obtain ⟨v15, e16, h⟩ := lt_some h
            refine wg_istore (lv' := [(5, .int v15), (0, .ref (ad 0)), (1, .int p1), (2, .int p2), (3, .int p3), (4, .int p4)]) X dX8_panes_58 e16 (by decide) rfl ?_
            refine wg_iload X 0 dX8_panes_60 rfl ?_
            refine wg_ldc (v := 1000000000) X dX8_panes_62 k_645 ?_
            refine wg_icmp_lt X 69 dX8_panes_64 (by decide) (fun c17 => ?_) (fun c17 => ?_)
            · have h := if_t c17 h
              refine wg_iload X 5 dX8_panes_69 rfl ?_
              refine wg_if_ne X 83 dX8_panes_71 (by decide) (fun c18 => ?_) (fun c18 => ?_)
              · have h := if_f c18 h
                refine wg_iload X 0 dX8_panes_83 rfl ?_
                refine wg_sipush (v := 1000) X dX8_panes_85 (by decide) ?_
                refine wg_irem X dX8_panes_88 (by decide) ?_
                exact wg_iret X ⟨(Prod.mk.inj (sm_inj h)).1, (Prod.mk.inj (sm_inj h)).2, rfl⟩ hr dX8_panes_89
              · have h := if_t c18 h
                refine wg_iload X 0 dX8_panes_74 rfl ?_
                refine wg_sipush (v := 1000) X dX8_panes_76 (by decide) ?_
                refine wg_idiv X dX8_panes_79 (by decide) ?_
                refine wg_goto X 89 dX8_panes_80 (by decide) ?_
                exact wg_iret X ⟨(Prod.mk.inj (sm_inj h)).1, (Prod.mk.inj (sm_inj h)).2, rfl⟩ hr dX8_panes_89
            · have h := if_f c17 h
              refine wg_iconst (v := -1) X dX8_panes_67 (by decide) ?_
              exact wg_iret X ⟨(Prod.mk.inj (sm_inj h)).1, (Prod.mk.inj (sm_inj h)).2, rfl⟩ hr dX8_panes_68
          · have h := if_f c11 h
            refine wg_bipush (v := -2) X dX8_panes_32 (by decide) ?_
            exact wg_iret X ⟨(Prod.mk.inj (sm_inj h)).1, (Prod.mk.inj (sm_inj h)).2, rfl⟩ hr dX8_panes_34
-- WindowsGive$Text.start(I)I ('TX', 'i')
def f_X6_start (S : wg_Sh) (C : wg_C) (p0 : Nat) (p1 : Int32) : Option Int32 :=
  if p1 ≤ 0 then (
    some (0 : Int32))
  else (
    if (3 : Int32) ≤ p1 then (
      some (0 : Int32))
    else (
      ck (inb (p1 - (1 : Int32)) 3) <|
      some (C (p0 + 2) (p1 - (1 : Int32)).toNatClampNeg)))
set_option maxHeartbeats 4000000 in
set_option maxRecDepth 100000 in
theorem c_X6_start (l : Launch) (E : wg_Ev) (ad : Nat → Nat) (S : wg_Sh) (hS : wg_SC S) (C : wg_C) (M : wg_M) (p0 : Nat) (p1 : Int32) (hp0 : wg_Txt S p0) {r0 : Int32} (h : f_X6_start S C p0 p1 = some r0) : wg_Ci l yX6_start cX6_start 2 (some .int) 0 0 E ad S C M [.ref (ad p0), .int p1] r0 C M := by
  refine wg_start (own := RX6) (by decide +kernel) rfl (Nat.le_of_ble_eq_true rfl) ?_
  intro p e s m below meth c X hr hnm
  refine wg_lv (lv' := [(0, .ref (ad p0)), (1, .int p1)]) rfl ?_
  unfold f_X6_start at h
  refine wg_iload_n X 1 dX6_start_0 rfl rfl ?_
  refine wg_if_le X 24 dX6_start_1 (by decide) (fun c1 => ?_) (fun c1 => ?_)
  · have h := if_t c1 h
    refine wg_iconst (v := 0) X dX6_start_24 (by decide) ?_
    exact wg_iret X ⟨(sm_inj h), rfl, rfl⟩ hr dX6_start_25
  · have h := if_f c1 h
    refine wg_iload_n X 1 dX6_start_4 rfl rfl ?_
    refine wg_aload_n X 0 dX6_start_5 rfl rfl ?_
    refine wg_getR (b := (p0 + 2)) X cl6 hp0.1 1 (by decide) dX6_start_6 k_457 rfl hp0.2.2.2.1 ?_
    refine wg_alenC (v := 3) X hp0.2.2.2.2.1 hp0.2.2.2.2.2 (by decide) dX6_start_9 ?_
    refine wg_icmp_ge X 24 dX6_start_10 (by decide) (fun c2 => ?_) (fun c2 => ?_)
    · have h := if_t c2 h
      refine wg_iconst (v := 0) X dX6_start_24 (by decide) ?_
      exact wg_iret X ⟨(sm_inj h), rfl, rfl⟩ hr dX6_start_25
    · have h := if_f c2 h
      refine wg_aload_n X 0 dX6_start_13 rfl rfl ?_
      refine wg_getR (b := (p0 + 2)) X cl6 hp0.1 1 (by decide) dX6_start_14 k_457 rfl hp0.2.2.2.1 ?_
      refine wg_iload_n X 1 dX6_start_17 rfl rfl ?_
      refine wg_iconst (v := 1) X dX6_start_18 (by decide) ?_
      refine wg_isub X dX6_start_19 ?_
      obtain ⟨z3, h⟩ := ck_some h
      refine wg_iald X hp0.2.2.2.2.1 hp0.2.2.2.2.2 z3 dX6_start_20 ?_
      refine wg_goto X 25 dX6_start_21 (by decide) ?_
      exact wg_iret X ⟨(sm_inj h), rfl, rfl⟩ hr dX6_start_25
-- WindowsGive$Text.end(I)I ('TX', 'i')
def f_X6_end (S : wg_Sh) (C : wg_C) (p0 : Nat) (p1 : Int32) : Option Int32 :=
  if p1 < 0 then (
    some (0 : Int32))
  else (
    if (3 : Int32) ≤ p1 then (
      some (0 : Int32))
    else (
      ck (inb p1 3) <|
      some (C (p0 + 2) p1.toNatClampNeg)))
set_option maxHeartbeats 4000000 in
set_option maxRecDepth 100000 in
theorem c_X6_end (l : Launch) (E : wg_Ev) (ad : Nat → Nat) (S : wg_Sh) (hS : wg_SC S) (C : wg_C) (M : wg_M) (p0 : Nat) (p1 : Int32) (hp0 : wg_Txt S p0) {r0 : Int32} (h : f_X6_end S C p0 p1 = some r0) : wg_Ci l yX6_end cX6_end 2 (some .int) 0 0 E ad S C M [.ref (ad p0), .int p1] r0 C M := by
  refine wg_start (own := RX6) (by decide +kernel) rfl (Nat.le_of_ble_eq_true rfl) ?_
  intro p e s m below meth c X hr hnm
  refine wg_lv (lv' := [(0, .ref (ad p0)), (1, .int p1)]) rfl ?_
  unfold f_X6_end at h
  refine wg_iload_n X 1 dX6_end_0 rfl rfl ?_
  refine wg_if_lt X 22 dX6_end_1 (by decide) (fun c1 => ?_) (fun c1 => ?_)
  · have h := if_t c1 h
    refine wg_iconst (v := 0) X dX6_end_22 (by decide) ?_
    exact wg_iret X ⟨(sm_inj h), rfl, rfl⟩ hr dX6_end_23
  · have h := if_f c1 h
    refine wg_iload_n X 1 dX6_end_4 rfl rfl ?_
    refine wg_aload_n X 0 dX6_end_5 rfl rfl ?_
    refine wg_getR (b := (p0 + 2)) X cl6 hp0.1 1 (by decide) dX6_end_6 k_457 rfl hp0.2.2.2.1 ?_
    refine wg_alenC (v := 3) X hp0.2.2.2.2.1 hp0.2.2.2.2.2 (by decide) dX6_end_9 ?_
    refine wg_icmp_ge X 22 dX6_end_10 (by decide) (fun c2 => ?_) (fun c2 => ?_)
    · have h := if_t c2 h
      refine wg_iconst (v := 0) X dX6_end_22 (by decide) ?_
      exact wg_iret X ⟨(sm_inj h), rfl, rfl⟩ hr dX6_end_23
    · have h := if_f c2 h
      refine wg_aload_n X 0 dX6_end_13 rfl rfl ?_
      refine wg_getR (b := (p0 + 2)) X cl6 hp0.1 1 (by decide) dX6_end_14 k_457 rfl hp0.2.2.2.1 ?_
      refine wg_iload_n X 1 dX6_end_17 rfl rfl ?_
      obtain ⟨z3, h⟩ := ck_some h
      refine wg_iald X hp0.2.2.2.2.1 hp0.2.2.2.2.2 z3 dX6_end_18 ?_
      refine wg_goto X 23 dX6_end_19 (by decide) ?_
      exact wg_iret X ⟨(sm_inj h), rfl, rfl⟩ hr dX6_end_23
-- WindowsGive$Rules.nameOf(I)I (('c', 31), 'i')
def f_X3_nameOf (C : wg_C) (p1 : Int32) : Option Int32 :=
  if p1 < 0 then (
    some (0 : Int32))
  else (
    if (6 : Int32) ≤ p1 then (
      some (0 : Int32))
    else (
      ck (inb p1 6) <|
      some (C 33 p1.toNatClampNeg)))
set_option maxHeartbeats 4000000 in
set_option maxRecDepth 100000 in
theorem c_X3_nameOf (l : Launch) (E : wg_Ev) (ad : Nat → Nat) (S : wg_Sh) (hS : wg_SC S) (C : wg_C) (M : wg_M) (p1 : Int32)  {r0 : Int32} (h : f_X3_nameOf C p1 = some r0) : wg_Ci l yX3_nameOf cX3_nameOf 2 (some .int) 0 0 E ad S C M [.ref (ad 31), .int p1] r0 C M := by
  refine wg_start (own := RX3) (by decide +kernel) rfl (Nat.le_of_ble_eq_true rfl) ?_
  intro p e s m below meth c X hr hnm
  refine wg_lv (lv' := [(0, .ref (ad 31)), (1, .int p1)]) rfl ?_
  unfold f_X3_nameOf at h
  refine wg_iload_n X 1 dX3_nameOf_0 rfl rfl ?_
  refine wg_if_lt X 22 dX3_nameOf_1 (by decide) (fun c1 => ?_) (fun c1 => ?_)
  · have h := if_t c1 h
    refine wg_iconst (v := 0) X dX3_nameOf_22 (by decide) ?_
    exact wg_iret X ⟨(sm_inj h), rfl, rfl⟩ hr dX3_nameOf_23
  · have h := if_f c1 h
    refine wg_iload_n X 1 dX3_nameOf_4 rfl rfl ?_
    refine wg_aload_n X 0 dX3_nameOf_5 rfl rfl ?_
    refine wg_getR (b := 33) X cl3 (SCi hS 31 3 rfl) 2 (by decide) dX3_nameOf_6 k_231 rfl (SCr hS 31 2 33 rfl) ?_
    refine wg_alenC (v := 6) X (SCi hS 33 10 rfl) (SCl hS 33 6 rfl) (by decide) dX3_nameOf_9 ?_
    refine wg_icmp_ge X 22 dX3_nameOf_10 (by decide) (fun c2 => ?_) (fun c2 => ?_)
    · have h := if_t c2 h
      refine wg_iconst (v := 0) X dX3_nameOf_22 (by decide) ?_
      exact wg_iret X ⟨(sm_inj h), rfl, rfl⟩ hr dX3_nameOf_23
    · have h := if_f c2 h
      refine wg_aload_n X 0 dX3_nameOf_13 rfl rfl ?_
      refine wg_getR (b := 33) X cl3 (SCi hS 31 3 rfl) 2 (by decide) dX3_nameOf_14 k_231 rfl (SCr hS 31 2 33 rfl) ?_
      refine wg_iload_n X 1 dX3_nameOf_17 rfl rfl ?_
      obtain ⟨z3, h⟩ := ck_some h
      refine wg_iald X (SCi hS 33 10 rfl) (SCl hS 33 6 rfl) z3 dX3_nameOf_18 ?_
      refine wg_goto X 23 dX3_nameOf_19 (by decide) ?_
      exact wg_iret X ⟨(sm_inj h), rfl, rfl⟩ hr dX3_nameOf_23
-- WindowsGive$Rules.truth(Z)I ('i',)
def f_X3_truth (p0 : Int32) : Option Int32 :=
  if p0 = 0 then (
    some (0 : Int32))
  else (
    some (1 : Int32))
set_option maxHeartbeats 4000000 in
set_option maxRecDepth 100000 in
theorem c_X3_truth (l : Launch) (E : wg_Ev) (ad : Nat → Nat) (S : wg_Sh) (C : wg_C) (M : wg_M) (p0 : Int32)  {r0 : Int32} (h : f_X3_truth p0 = some r0) : wg_Ci l yX3_truth cX3_truth 1 (some .int) 0 0 E ad S C M [.int p0] r0 C M := by
  refine wg_start (own := RX3) (by decide +kernel) rfl (Nat.le_of_ble_eq_true rfl) ?_
  intro p e s m below meth c X hr hnm
  refine wg_lv (lv' := [(0, .int p0)]) rfl ?_
  unfold f_X3_truth at h
  refine wg_iload_n X 0 dX3_truth_0 rfl rfl ?_
  refine wg_if_eq X 8 dX3_truth_1 (by decide) (fun c1 => ?_) (fun c1 => ?_)
  · have h := if_t c1 h
    refine wg_iconst (v := 0) X dX3_truth_8 (by decide) ?_
    exact wg_iret X ⟨(sm_inj h), rfl, rfl⟩ hr dX3_truth_9
  · have h := if_f c1 h
    refine wg_iconst (v := 1) X dX3_truth_4 (by decide) ?_
    refine wg_goto X 9 dX3_truth_5 (by decide) ?_
    exact wg_iret X ⟨(sm_inj h), rfl, rfl⟩ hr dX3_truth_9
-- WindowsGive$Rules.joined(III)I ('i', 'i', 'i')
def f_X3_joined (p0 : Int32) (p1 : Int32) (p2 : Int32) : Option Int32 :=
  if p0 = (4 : Int32) then (
    some (p1 + p2))
  else
  if p0 = (5 : Int32) then (
    some (p1 - p2))
  else
  if p0 = (6 : Int32) then (
    some (p1 * p2))
  else
  if p0 = (7 : Int32) then (
    if p2 ≤ p1 then (
      bd (f_X3_truth (0 : Int32)) fun r7 =>
      some r7)
    else (
      bd (f_X3_truth (1 : Int32)) fun r9 =>
      some r9))
  else
  if p0 = (8 : Int32) then (
    if p1 = p2 then (
      bd (f_X3_truth (1 : Int32)) fun r15 =>
      some r15)
    else (
      bd (f_X3_truth (0 : Int32)) fun r13 =>
      some r13))
  else
  if p0 = (9 : Int32) then (
    if p1 = 0 then (
      bd (f_X3_truth (0 : Int32)) fun r19 =>
      some r19)
    else (
      if p2 = 0 then (
        bd (f_X3_truth (0 : Int32)) fun r22 =>
        some r22)
      else (
        bd (f_X3_truth (1 : Int32)) fun r24 =>
        some r24)))
  else
  if p1 = 0 then (
    if p2 = 0 then (
      bd (f_X3_truth (0 : Int32)) fun r30 =>
      some r30)
    else (
      bd (f_X3_truth (1 : Int32)) fun r32 =>
      some r32))
  else (
    bd (f_X3_truth (1 : Int32)) fun r27 =>
    some r27)
set_option maxHeartbeats 4000000 in
set_option maxRecDepth 100000 in
theorem c_X3_joined (l : Launch) (E : wg_Ev) (ad : Nat → Nat) (S : wg_Sh) (C : wg_C) (M : wg_M) (p0 : Int32) (p1 : Int32) (p2 : Int32)  {r0 : Int32} (h : f_X3_joined p0 p1 p2 = some r0) : wg_Ci l yX3_joined cX3_joined 3 (some .int) 1 20 E ad S C M [.int p0, .int p1, .int p2] r0 C M := by
  refine wg_start (own := RX3) (by decide +kernel) rfl (Nat.le_of_ble_eq_true rfl) ?_
  intro p e s m below meth c X hr hnm
  refine wg_lv (lv' := [(0, .int p0), (1, .int p1), (2, .int p2)]) rfl ?_
  unfold f_X3_joined at h
  refine wg_iload_n X 0 dX3_joined_0 rfl rfl ?_
  by_cases c1 : p0 = (4 : Int32)
  · have h := if_t c1 h
    refine wg_tblIn (off := 39) X 40 dX3_joined_1 c1 (by decide) (by decide) (by decide) (by decide) ?_
    refine wg_iload_n X 1 dX3_joined_40 rfl rfl ?_
    refine wg_iload_n X 2 dX3_joined_41 rfl rfl ?_
    refine wg_iadd X dX3_joined_42 ?_
    exact wg_iret X ⟨(sm_inj h), rfl, rfl⟩ hr dX3_joined_43
  have h := if_f c1 h
  by_cases c2 : p0 = (5 : Int32)
  · have h := if_t c2 h
    refine wg_tblIn (off := 43) X 44 dX3_joined_1 c2 (by decide) (by decide) (by decide) (by decide) ?_
    refine wg_iload_n X 1 dX3_joined_44 rfl rfl ?_
    refine wg_iload_n X 2 dX3_joined_45 rfl rfl ?_
    refine wg_isub X dX3_joined_46 ?_
    exact wg_iret X ⟨(sm_inj h), rfl, rfl⟩ hr dX3_joined_47
  have h := if_f c2 h
  by_cases c3 : p0 = (6 : Int32)
  · have h := if_t c3 h
    refine wg_tblIn (off := 47) X 48 dX3_joined_1 c3 (by decide) (by decide) (by decide) (by decide) ?_
    refine wg_iload_n X 1 dX3_joined_48 rfl rfl ?_
    refine wg_iload_n X 2 dX3_joined_49 rfl rfl ?_
    refine wg_imul X dX3_joined_50 ?_
    exact wg_iret X ⟨(sm_inj h), rfl, rfl⟩ hr dX3_joined_51
  have h := if_f c3 h
  by_cases c4 : p0 = (7 : Int32)
  · have h := if_t c4 h
    refine wg_tblIn (off := 51) X 52 dX3_joined_1 c4 (by decide) (by decide) (by decide) (by decide) ?_
    refine wg_iload_n X 1 dX3_joined_52 rfl rfl ?_
    refine wg_iload_n X 2 dX3_joined_53 rfl rfl ?_
    refine wg_icmp_ge X 61 dX3_joined_54 (by decide) (fun c5 => ?_) (fun c5 => ?_)
    · have h := if_t c5 h
      refine wg_iconst (v := 0) X dX3_joined_61 (by decide) ?_
      obtain ⟨r7, h6, h⟩ := bd_some h
      refine wg_callSi (As := [.int (0 : Int32)]) (rest := []) X (c_X3_truth l E ad S C M (0 : Int32)  h6) T_yX3_truth k_633 dX3_joined_62 rfl rfl (Nat.le_of_ble_eq_true rfl) ⟨Nat.le_of_ble_eq_true rfl, Nat.le_of_ble_eq_true rfl⟩ ⟨Nat.zero_le _, Nat.zero_le _⟩ ?_
      exact wg_iret X ⟨(sm_inj h), rfl, rfl⟩ hr dX3_joined_65
    · have h := if_f c5 h
      refine wg_iconst (v := 1) X dX3_joined_57 (by decide) ?_
      refine wg_goto X 62 dX3_joined_58 (by decide) ?_
      obtain ⟨r9, h8, h⟩ := bd_some h
      refine wg_callSi (As := [.int (1 : Int32)]) (rest := []) X (c_X3_truth l E ad S C M (1 : Int32)  h8) T_yX3_truth k_633 dX3_joined_62 rfl rfl (Nat.le_of_ble_eq_true rfl) ⟨Nat.le_of_ble_eq_true rfl, Nat.le_of_ble_eq_true rfl⟩ ⟨Nat.zero_le _, Nat.zero_le _⟩ ?_
      exact wg_iret X ⟨(sm_inj h), rfl, rfl⟩ hr dX3_joined_65
  have h := if_f c4 h
  by_cases c10 : p0 = (8 : Int32)
  · have h := if_t c10 h
    refine wg_tblIn (off := 65) X 66 dX3_joined_1 c10 (by decide) (by decide) (by decide) (by decide) ?_
    refine wg_iload_n X 1 dX3_joined_66 rfl rfl ?_
    refine wg_iload_n X 2 dX3_joined_67 rfl rfl ?_
    refine wg_icmp_ne X 75 dX3_joined_68 (by decide) (fun c11 => ?_) (fun c11 => ?_)
    · have h := if_f c11 h
      refine wg_iconst (v := 0) X dX3_joined_75 (by decide) ?_
      obtain ⟨r13, h12, h⟩ := bd_some h
      refine wg_callSi (As := [.int (0 : Int32)]) (rest := []) X (c_X3_truth l E ad S C M (0 : Int32)  h12) T_yX3_truth k_633 dX3_joined_76 rfl rfl (Nat.le_of_ble_eq_true rfl) ⟨Nat.le_of_ble_eq_true rfl, Nat.le_of_ble_eq_true rfl⟩ ⟨Nat.zero_le _, Nat.zero_le _⟩ ?_
      exact wg_iret X ⟨(sm_inj h), rfl, rfl⟩ hr dX3_joined_79
    · have h := if_t c11 h
      refine wg_iconst (v := 1) X dX3_joined_71 (by decide) ?_
      refine wg_goto X 76 dX3_joined_72 (by decide) ?_
      obtain ⟨r15, h14, h⟩ := bd_some h
      refine wg_callSi (As := [.int (1 : Int32)]) (rest := []) X (c_X3_truth l E ad S C M (1 : Int32)  h14) T_yX3_truth k_633 dX3_joined_76 rfl rfl (Nat.le_of_ble_eq_true rfl) ⟨Nat.le_of_ble_eq_true rfl, Nat.le_of_ble_eq_true rfl⟩ ⟨Nat.zero_le _, Nat.zero_le _⟩ ?_
      exact wg_iret X ⟨(sm_inj h), rfl, rfl⟩ hr dX3_joined_79
  have h := if_f c10 h
  by_cases c16 : p0 = (9 : Int32)
  · have h := if_t c16 h
    refine wg_tblIn (off := 79) X 80 dX3_joined_1 c16 (by decide) (by decide) (by decide) (by decide) ?_
    refine wg_iload_n X 1 dX3_joined_80 rfl rfl ?_
    refine wg_if_eq X 92 dX3_joined_81 (by decide) (fun c17 => ?_) (fun c17 => ?_)
    · have h := if_t c17 h
      refine wg_iconst (v := 0) X dX3_joined_92 (by decide) ?_
      obtain ⟨r19, h18, h⟩ := bd_some h
      refine wg_callSi (As := [.int (0 : Int32)]) (rest := []) X (c_X3_truth l E ad S C M (0 : Int32)  h18) T_yX3_truth k_633 dX3_joined_93 rfl rfl (Nat.le_of_ble_eq_true rfl) ⟨Nat.le_of_ble_eq_true rfl, Nat.le_of_ble_eq_true rfl⟩ ⟨Nat.zero_le _, Nat.zero_le _⟩ ?_
      exact wg_iret X ⟨(sm_inj h), rfl, rfl⟩ hr dX3_joined_96
    · have h := if_f c17 h
      refine wg_iload_n X 2 dX3_joined_84 rfl rfl ?_
      refine wg_if_eq X 92 dX3_joined_85 (by decide) (fun c20 => ?_) (fun c20 => ?_)
      · have h := if_t c20 h
        refine wg_iconst (v := 0) X dX3_joined_92 (by decide) ?_
        obtain ⟨r22, h21, h⟩ := bd_some h
        refine wg_callSi (As := [.int (0 : Int32)]) (rest := []) X (c_X3_truth l E ad S C M (0 : Int32)  h21) T_yX3_truth k_633 dX3_joined_93 rfl rfl (Nat.le_of_ble_eq_true rfl) ⟨Nat.le_of_ble_eq_true rfl, Nat.le_of_ble_eq_true rfl⟩ ⟨Nat.zero_le _, Nat.zero_le _⟩ ?_
        exact wg_iret X ⟨(sm_inj h), rfl, rfl⟩ hr dX3_joined_96
      · have h := if_f c20 h
        refine wg_iconst (v := 1) X dX3_joined_88 (by decide) ?_
        refine wg_goto X 93 dX3_joined_89 (by decide) ?_
        obtain ⟨r24, h23, h⟩ := bd_some h
        refine wg_callSi (As := [.int (1 : Int32)]) (rest := []) X (c_X3_truth l E ad S C M (1 : Int32)  h23) T_yX3_truth k_633 dX3_joined_93 rfl rfl (Nat.le_of_ble_eq_true rfl) ⟨Nat.le_of_ble_eq_true rfl, Nat.le_of_ble_eq_true rfl⟩ ⟨Nat.zero_le _, Nat.zero_le _⟩ ?_
        exact wg_iret X ⟨(sm_inj h), rfl, rfl⟩ hr dX3_joined_96
  have h := if_f c16 h
  refine wg_tblOut X 97 dX3_joined_1 (wg_tout (4) (9) (fun k hk => by
      rcases (show k = 0 ∨ k = 1 ∨ k = 2 ∨ k = 3 ∨ k = 4 ∨ k = 5 by omega) with rfl | rfl | rfl | rfl | rfl | rfl
      · exact fun q => c1 (q.trans (by decide))
      · exact fun q => c2 (q.trans (by decide))
      · exact fun q => c3 (q.trans (by decide))
      · exact fun q => c4 (q.trans (by decide))
      · exact fun q => c10 (q.trans (by decide))
      · exact fun q => c16 (q.trans (by decide))) (by decide) (by decide)) (by decide) ?_
  refine wg_iload_n X 1 dX3_joined_97 rfl rfl ?_
  refine wg_if_ne X 105 dX3_joined_98 (by decide) (fun c25 => ?_) (fun c25 => ?_)
  · have h := if_f c25 h
    refine wg_iconst (v := 1) X dX3_joined_105 (by decide) ?_
    refine wg_goto X 110 dX3_joined_106 (by decide) ?_
    obtain ⟨r27, h26, h⟩ := bd_some h
    refine wg_callSi (As := [.int (1 : Int32)]) (rest := []) X (c_X3_truth l E ad S C M (1 : Int32)  h26) T_yX3_truth k_633 dX3_joined_110 rfl rfl (Nat.le_of_ble_eq_true rfl) ⟨Nat.le_of_ble_eq_true rfl, Nat.le_of_ble_eq_true rfl⟩ ⟨Nat.zero_le _, Nat.zero_le _⟩ ?_
    exact wg_iret X ⟨(sm_inj h), rfl, rfl⟩ hr dX3_joined_113
  · have h := if_t c25 h
    refine wg_iload_n X 2 dX3_joined_101 rfl rfl ?_
    refine wg_if_eq X 109 dX3_joined_102 (by decide) (fun c28 => ?_) (fun c28 => ?_)
    · have h := if_t c28 h
      refine wg_iconst (v := 0) X dX3_joined_109 (by decide) ?_
      obtain ⟨r30, h29, h⟩ := bd_some h
      refine wg_callSi (As := [.int (0 : Int32)]) (rest := []) X (c_X3_truth l E ad S C M (0 : Int32)  h29) T_yX3_truth k_633 dX3_joined_110 rfl rfl (Nat.le_of_ble_eq_true rfl) ⟨Nat.le_of_ble_eq_true rfl, Nat.le_of_ble_eq_true rfl⟩ ⟨Nat.zero_le _, Nat.zero_le _⟩ ?_
      exact wg_iret X ⟨(sm_inj h), rfl, rfl⟩ hr dX3_joined_113
    · have h := if_f c28 h
      refine wg_iconst (v := 1) X dX3_joined_105 (by decide) ?_
      refine wg_goto X 110 dX3_joined_106 (by decide) ?_
      obtain ⟨r32, h31, h⟩ := bd_some h
      refine wg_callSi (As := [.int (1 : Int32)]) (rest := []) X (c_X3_truth l E ad S C M (1 : Int32)  h31) T_yX3_truth k_633 dX3_joined_110 rfl rfl (Nat.le_of_ble_eq_true rfl) ⟨Nat.le_of_ble_eq_true rfl, Nat.le_of_ble_eq_true rfl⟩ ⟨Nat.zero_le _, Nat.zero_le _⟩ ?_
      exact wg_iret X ⟨(sm_inj h), rfl, rfl⟩ hr dX3_joined_113
-- WindowsGive$Rules.reckon(LWindowsGive$Text;I)I (('c', 31), 'TX', 'i')
def f_X3_reckon_j54l9 (N : Nat) (S : wg_Sh) (p1 : Nat) (C : wg_C)  (x2 : Int32) (x3 : Int32) (x4 : Int32) (x5 : Int32) (x6 : Int32) : Option ((wg_C × Int32 × Int32) ⊕ ((wg_C × Int32 × Int32) ⊕ (Int32 × wg_C))) :=
  if x3 < (160 : Int32) then (
    if x5 = 0 then (
      ck (inb x3 160) <|
      lt_ (wg_up C 34 x3.toNatClampNeg x6) fun C25 =>
      lt_ (x3 + (1 : Int32)) fun v27 =>
      lt_ (x4 + (1 : Int32)) fun v29 =>
      some (.inl (C25, v27, v29)))
    else (
      bd (f_X3_nameOf C x6) fun r16 =>
      ck (inb x3 160) <|
      lt_ (wg_up C 34 x3.toNatClampNeg r16) fun C18 =>
      lt_ (x3 + (1 : Int32)) fun v20 =>
      lt_ (x4 + (1 : Int32)) fun v22 =>
      some (.inl (C18, v20, v22))))
  else (
    some (.inr (.inr ((0 : Int32), C))))
def f_X3_reckon_j105l9 (N : Nat) (S : wg_Sh) (p1 : Nat) (C : wg_C)  (x2 : Int32) (x3 : Int32) (x4 : Int32) (x5 : Int32) : Option ((wg_C × Int32 × Int32) ⊕ ((wg_C × Int32 × Int32) ⊕ (Int32 × wg_C))) :=
  if (1 : Int32) ≤ x3 then (
    ck (inb (x3 - (1 : Int32)) 160) <|
    lt_ (C 34 (x3 - (1 : Int32)).toNatClampNeg) fun v35 =>
    if x5 = (2 : Int32) then (
      ck (inb (x3 - (1 : Int32)) 160) <|
      lt_ (wg_up C 34 (x3 - (1 : Int32)).toNatClampNeg (-v35)) fun C54 =>
      lt_ (x4 + (1 : Int32)) fun v56 =>
      some (.inl (C54, x3, v56)))
    else (
      if v35 = 0 then (
        bd (f_X3_truth (1 : Int32)) fun r47 =>
        ck (inb (x3 - (1 : Int32)) 160) <|
        lt_ (wg_up C 34 (x3 - (1 : Int32)).toNatClampNeg r47) fun C49 =>
        lt_ (x4 + (1 : Int32)) fun v51 =>
        some (.inl (C49, x3, v51)))
      else (
        bd (f_X3_truth (0 : Int32)) fun r40 =>
        ck (inb (x3 - (1 : Int32)) 160) <|
        lt_ (wg_up C 34 (x3 - (1 : Int32)).toNatClampNeg r40) fun C42 =>
        lt_ (x4 + (1 : Int32)) fun v44 =>
        some (.inl (C42, x3, v44)))))
  else (
    some (.inr (.inr ((0 : Int32), C))))
def f_X3_reckon_l9 (N : Nat) (S : wg_Sh) (p1 : Nat)  (x2 : Int32) (C : wg_C) (x3 : Int32) (x4 : Int32) : Option ((wg_C × Int32 × Int32) ⊕ ((wg_C × Int32 × Int32) ⊕ (Int32 × wg_C))) :=
  bd (f_X6_end S C p1 x2) fun r4 =>
  if r4 ≤ x4 then (
    some (.inr (.inl (C, x3, x4))))
  else (
    ck (inb x4 (S.2.1 (p1 + 1))) <|
    lt_ ((C (p1 + 1) x4.toNatClampNeg) - (C (p1 + 1) x4.toNatClampNeg) / (16 : Int32) * (16 : Int32)) fun v7 =>
    ck (inb x4 (S.2.1 (p1 + 1))) <|
    lt_ ((C (p1 + 1) x4.toNatClampNeg) / (16 : Int32)) fun v10 =>
    if v7 = 0 then (
      f_X3_reckon_j54l9 N S p1 C  x2 x3 x4 v7 v10)
    else (
      if v7 = (1 : Int32) then (
        f_X3_reckon_j54l9 N S p1 C  x2 x3 x4 v7 v10)
      else (
        if v7 = (2 : Int32) then (
          f_X3_reckon_j105l9 N S p1 C  x2 x3 x4 v7)
        else (
          if v7 = (3 : Int32) then (
            f_X3_reckon_j105l9 N S p1 C  x2 x3 x4 v7)
          else (
            if (2 : Int32) ≤ x3 then (
              lt_ (x3 + (-1 : Int32)) fun v60 =>
              ck (inb (v60 - (1 : Int32)) 160) <|
              ck (inb v60 160) <|
              bd (f_X3_joined v7 (C 34 (v60 - (1 : Int32)).toNatClampNeg) (C 34 v60.toNatClampNeg)) fun r65 =>
              ck (inb (v60 - (1 : Int32)) 160) <|
              lt_ (wg_up C 34 (v60 - (1 : Int32)).toNatClampNeg r65) fun C67 =>
              lt_ (x4 + (1 : Int32)) fun v69 =>
              some (.inl (C67, v60, v69)))
            else (
              some (.inr (.inr ((0 : Int32), C)))))))))
def f_X3_reckon (N : Nat) (S : wg_Sh) (C : wg_C) (p1 : Nat) (p2 : Int32) : Option (Int32 × wg_C) :=
  bd (f_X6_start S C p1 p2) fun r2 =>
  bs3 (lp (fun o => f_X3_reckon_l9 N S p1  p2 o.1 o.2.1 o.2.2) N (C, (0 : Int32), r2)) (fun C71 v72 v73 =>
    if v72 ≤ 0 then (
      some ((0 : Int32), C71))
    else (
      ck (inb (v72 - (1 : Int32)) 160) <|
      some ((C71 34 (v72 - (1 : Int32)).toNatClampNeg), C71)))
    (fun q76 => some q76)
abbrev G_X3_reckon (p : Program) (l : Launch) (e : Env) (s : State) (m : MethodId) (args : Array Value) (below : List Frame) (meth : Method) (c : Code) (E : wg_Ev) (ad : Nat → Nat) (S : wg_Sh) (r0 : Int32) (C0 : wg_C) (M0 : wg_M) (pc : Nat) (C : wg_C) (M : wg_M) (lv : List (Nat × Value)) (st : List Value) : Prop := wg_G p l e (wg_Rm 2 42) s m args below meth c (MQ below (wg_Qi E ad S r0 C0 M0) args s 0 0 (wg_A E)) 8 E ad S 0 0 pc C M lv st
set_option maxHeartbeats 4000000 in
set_option maxRecDepth 100000 in
theorem J_X3_reckon_j54l9 {p : Program} {l : Launch} {e : Env} {s : State} {m : MethodId} {args : Array Value} {below : List Frame} {meth : Method} {c : Code} {E : wg_Ev} {ad : Nat → Nat} {S : wg_Sh} (X : wg_X p s m args meth c cX3_reckon 8 RX3 E) (hr : meth.sig.returnType = (some .int)) (hS : wg_SC S) (r0 : Int32) (D0 : wg_C) (M : wg_M) (N : Nat) (p1 : Nat) (hp1 : wg_Txt S p1) (C : wg_C)  (x2 : Int32) (x3 : Int32) (x4 : Int32) (x5 : Int32) (x6 : Int32)  (y : ((wg_C × Int32 × Int32) ⊕ ((wg_C × Int32 × Int32) ⊕ (Int32 × wg_C)))) (Kc : ∀ (Dy : wg_C) (y3 : Int32) (y4 : Int32), y = Sum.inl (Dy, y3, y4) → G_X3_reckon p l e s m args below meth c E ad S r0 D0 M 9 Dy M [(0, .ref (ad 31)), (1, .ref (ad p1)), (2, .int x2), (3, .int y3), (4, .int y4)] []) (Ke : ∀ (Dy : wg_C) (y3 : Int32) (y4 : Int32), y = Sum.inr (Sum.inl (Dy, y3, y4)) → G_X3_reckon p l e s m args below meth c E ad S r0 D0 M 201 Dy M [(0, .ref (ad 31)), (1, .ref (ad p1)), (2, .int x2), (3, .int y3), (4, .int y4)] []) (Kr : ∀ q : (Int32 × wg_C), y = Sum.inr (Sum.inr q) → q = (r0, D0)) (h : f_X3_reckon_j54l9 N S p1 C  x2 x3 x4 x5 x6 = some y) : G_X3_reckon p l e s m args below meth c E ad S r0 D0 M 54 C M [(0, .ref (ad 31)), (1, .ref (ad p1)), (2, .int x2), (3, .int x3), (4, .int x4), (5, .int x5), (6, .int x6)] [] := by
  unfold f_X3_reckon_j54l9 at h
  refine wg_iload_n X 3 dX3_reckon_54 rfl rfl ?_
  refine wg_aload_n X 0 dX3_reckon_55 rfl rfl ?_
  refine wg_getR (b := 34) X cl3 (SCi hS 31 3 rfl) 3 (by decide) dX3_reckon_56 k_232 rfl (SCr hS 31 3 34 rfl) ?_
  refine wg_alenC (v := 160) X (SCi hS 34 10 rfl) (SCl hS 34 160 rfl) (by decide) dX3_reckon_59 ?_
  refine wg_icmp_lt X 65 dX3_reckon_60 (by decide) (fun c13 => ?_) (fun c13 => ?_)
  · have h := if_t c13 h
    refine wg_aload_n X 0 dX3_reckon_65 rfl rfl ?_
    refine wg_getR (b := 34) X cl3 (SCi hS 31 3 rfl) 3 (by decide) dX3_reckon_66 k_232 rfl (SCr hS 31 3 34 rfl) ?_
    refine wg_iload_n X 3 dX3_reckon_69 rfl rfl ?_
    refine wg_iload X 5 dX3_reckon_70 rfl ?_
    refine wg_if_ne X 80 dX3_reckon_72 (by decide) (fun c14 => ?_) (fun c14 => ?_)
    · have h := if_f c14 h
      refine wg_aload_n X 0 dX3_reckon_80 rfl rfl ?_
      refine wg_iload X 6 dX3_reckon_81 rfl ?_
      obtain ⟨r16, h15, h⟩ := bd_some h
      refine wg_callVi (As := [.int x6]) (rest := [.int x3, .ref (ad 34)]) X (c_X3_nameOf l E ad S hS C M x6  h15) T_yX3_nameOf k_629 cl3 (SCi hS 31 3 rfl) dX3_reckon_83 rfl rfl (Nat.le_of_ble_eq_true rfl) ⟨Nat.le_of_ble_eq_true rfl, Nat.le_of_ble_eq_true rfl⟩ ⟨Nat.zero_le _, Nat.zero_le _⟩ ?_
      obtain ⟨z17, h⟩ := ck_some h
      obtain ⟨C18, e19, h⟩ := lt_some h
      refine wg_iaste X (SCi hS 34 10 rfl) (SCl hS 34 160 rfl) z17 dX3_reckon_86 e19 ?_
      obtain ⟨v20, e21, h⟩ := lt_some h
      refine wg_iinc (lv' := [(3, .int v20), (0, .ref (ad 31)), (1, .ref (ad p1)), (2, .int x2), (4, .int x4), (5, .int x5), (6, .int x6)]) X 3 dX3_reckon_87 rfl e21 (by decide) rfl ?_
      refine wg_goto X 195 dX3_reckon_90 (by decide) ?_
      obtain ⟨v22, e23, h⟩ := lt_some h
      refine wg_iinc (lv' := [(4, .int v22), (3, .int v20), (0, .ref (ad 31)), (1, .ref (ad p1)), (2, .int x2), (5, .int x5), (6, .int x6)]) X 4 dX3_reckon_195 rfl e23 (by decide) rfl ?_
      refine wg_goto X 9 dX3_reckon_198 (by decide) ?_
      refine wg_pick [2, 3, 4, 1, 0] (lv' := [(0, .ref (ad 31)), (1, .ref (ad p1)), (2, .int x2), (3, .int v20), (4, .int v22)]) rfl ?_
      exact Kc C18 v20 v22 (sm_inj h).symm
    · have h := if_t c14 h
      refine wg_iload X 6 dX3_reckon_75 rfl ?_
      refine wg_goto X 86 dX3_reckon_77 (by decide) ?_
      obtain ⟨z24, h⟩ := ck_some h
      obtain ⟨C25, e26, h⟩ := lt_some h
      refine wg_iaste X (SCi hS 34 10 rfl) (SCl hS 34 160 rfl) z24 dX3_reckon_86 e26 ?_
      obtain ⟨v27, e28, h⟩ := lt_some h
      refine wg_iinc (lv' := [(3, .int v27), (0, .ref (ad 31)), (1, .ref (ad p1)), (2, .int x2), (4, .int x4), (5, .int x5), (6, .int x6)]) X 3 dX3_reckon_87 rfl e28 (by decide) rfl ?_
      refine wg_goto X 195 dX3_reckon_90 (by decide) ?_
      obtain ⟨v29, e30, h⟩ := lt_some h
      refine wg_iinc (lv' := [(4, .int v29), (3, .int v27), (0, .ref (ad 31)), (1, .ref (ad p1)), (2, .int x2), (5, .int x5), (6, .int x6)]) X 4 dX3_reckon_195 rfl e30 (by decide) rfl ?_
      refine wg_goto X 9 dX3_reckon_198 (by decide) ?_
      refine wg_pick [2, 3, 4, 1, 0] (lv' := [(0, .ref (ad 31)), (1, .ref (ad p1)), (2, .int x2), (3, .int v27), (4, .int v29)]) rfl ?_
      exact Kc C25 v27 v29 (sm_inj h).symm
  · have h := if_f c13 h
    refine wg_iconst (v := 0) X dX3_reckon_63 (by decide) ?_
    have hq := Kr _ (sm_inj h).symm
    exact wg_iret X ⟨(Prod.mk.inj hq).1, (Prod.mk.inj hq).2, rfl⟩ hr dX3_reckon_64
set_option maxHeartbeats 4000000 in
set_option maxRecDepth 100000 in
theorem J_X3_reckon_j105l9 {p : Program} {l : Launch} {e : Env} {s : State} {m : MethodId} {args : Array Value} {below : List Frame} {meth : Method} {c : Code} {E : wg_Ev} {ad : Nat → Nat} {S : wg_Sh} (X : wg_X p s m args meth c cX3_reckon 8 RX3 E) (hr : meth.sig.returnType = (some .int)) (hS : wg_SC S) (r0 : Int32) (D0 : wg_C) (M : wg_M) (N : Nat) (p1 : Nat) (hp1 : wg_Txt S p1) (C : wg_C)  (x2 : Int32) (x3 : Int32) (x4 : Int32) (x5 : Int32)  (y : ((wg_C × Int32 × Int32) ⊕ ((wg_C × Int32 × Int32) ⊕ (Int32 × wg_C)))) (Kc : ∀ (Dy : wg_C) (y3 : Int32) (y4 : Int32), y = Sum.inl (Dy, y3, y4) → G_X3_reckon p l e s m args below meth c E ad S r0 D0 M 9 Dy M [(0, .ref (ad 31)), (1, .ref (ad p1)), (2, .int x2), (3, .int y3), (4, .int y4)] []) (Ke : ∀ (Dy : wg_C) (y3 : Int32) (y4 : Int32), y = Sum.inr (Sum.inl (Dy, y3, y4)) → G_X3_reckon p l e s m args below meth c E ad S r0 D0 M 201 Dy M [(0, .ref (ad 31)), (1, .ref (ad p1)), (2, .int x2), (3, .int y3), (4, .int y4)] []) (Kr : ∀ q : (Int32 × wg_C), y = Sum.inr (Sum.inr q) → q = (r0, D0)) (h : f_X3_reckon_j105l9 N S p1 C  x2 x3 x4 x5 = some y) : G_X3_reckon p l e s m args below meth c E ad S r0 D0 M 105 C M [(0, .ref (ad 31)), (1, .ref (ad p1)), (2, .int x2), (3, .int x3), (4, .int x4), (5, .int x5)] [] := by
  unfold f_X3_reckon_j105l9 at h
  refine wg_iload_n X 3 dX3_reckon_105 rfl rfl ?_
  refine wg_iconst (v := 1) X dX3_reckon_106 (by decide) ?_
  refine wg_icmp_ge X 112 dX3_reckon_107 (by decide) (fun c33 => ?_) (fun c33 => ?_)
  · have h := if_t c33 h
    refine wg_aload_n X 0 dX3_reckon_112 rfl rfl ?_
    refine wg_getR (b := 34) X cl3 (SCi hS 31 3 rfl) 3 (by decide) dX3_reckon_113 k_232 rfl (SCr hS 31 3 34 rfl) ?_
    refine wg_iload_n X 3 dX3_reckon_116 rfl rfl ?_
    refine wg_iconst (v := 1) X dX3_reckon_117 (by decide) ?_
    refine wg_isub X dX3_reckon_118 ?_
    obtain ⟨z34, h⟩ := ck_some h
    refine wg_iald X (SCi hS 34 10 rfl) (SCl hS 34 160 rfl) z34 dX3_reckon_119 ?_
    obtain ⟨v35, e36, h⟩ := lt_some h
    refine wg_istore (lv' := [(7, .int v35), (0, .ref (ad 31)), (1, .ref (ad p1)), (2, .int x2), (3, .int x3), (4, .int x4), (5, .int x5)]) X dX3_reckon_120 e36 (by decide) rfl ?_
    refine wg_aload_n X 1 dX3_reckon_122 rfl rfl ?_
    refine wg_getR (b := 34) X cl3 (SCi hS 31 3 rfl) 3 (by decide) dX3_reckon_123 k_232 rfl (SCr hS 31 3 34 rfl) ?_
    refine wg_iload_n X 4 dX3_reckon_126 rfl rfl ?_
    refine wg_iconst (v := 1) X dX3_reckon_127 (by decide) ?_
    refine wg_isub X dX3_reckon_128 ?_
    refine wg_iload X 6 dX3_reckon_129 rfl ?_
    refine wg_iconst (v := 2) X dX3_reckon_131 (by decide) ?_
    refine wg_icmp_ne X 141 dX3_reckon_132 (by decide) (fun c37 => ?_) (fun c37 => ?_)
    · have h := if_f c37 h
      refine wg_iload X 0 dX3_reckon_141 rfl ?_
      refine wg_if_ne X 150 dX3_reckon_143 (by decide) (fun c38 => ?_) (fun c38 => ?_)
      · have h := if_f c38 h
        refine wg_iconst (v := 0) X dX3_reckon_150 (by decide) ?_
        obtain ⟨r40, h39, h⟩ := bd_some h
        refine wg_callSi (As := [.int (0 : Int32)]) (rest := [.int (x3 - (1 : Int32)), .ref (ad 34)]) X (c_X3_truth l E ad S C M (0 : Int32)  h39) T_yX3_truth k_633 dX3_reckon_151 rfl rfl (Nat.le_of_ble_eq_true rfl) ⟨Nat.le_of_ble_eq_true rfl, Nat.le_of_ble_eq_true rfl⟩ ⟨Nat.zero_le _, Nat.zero_le _⟩ ?_
        obtain ⟨z41, h⟩ := ck_some h
        obtain ⟨C42, e43, h⟩ := lt_some h
        refine wg_iaste X (SCi hS 34 10 rfl) (SCl hS 34 160 rfl) z41 dX3_reckon_154 e43 ?_
        refine wg_goto X 195 dX3_reckon_155 (by decide) ?_
        obtain ⟨v44, e45, h⟩ := lt_some h
        refine wg_iinc (lv' := [(4, .int v44), (7, .int v35), (0, .ref (ad 31)), (1, .ref (ad p1)), (2, .int x2), (3, .int x3), (5, .int x5)]) X 5 dX3_reckon_195 rfl e45 (by decide) rfl ?_
        refine wg_goto X 9 dX3_reckon_198 (by decide) ?_
        refine wg_pick [2, 3, 4, 5, 0] (lv' := [(0, .ref (ad 31)), (1, .ref (ad p1)), (2, .int x2), (3, .int x3), (4, .int v44)]) rfl ?_
        exact Kc C42 x3 v44 (sm_inj h).symm
      · have h := if_t c38 h
        refine wg_iconst (v := 1) X dX3_reckon_146 (by decide) ?_
        refine wg_goto X 151 dX3_reckon_147 (by decide) ?_
        obtain ⟨r47, h46, h⟩ := bd_some h
        refine wg_callSi (As := [.int (1 : Int32)]) (rest := [.int (x3 - (1 : Int32)), .ref (ad 34)]) X (c_X3_truth l E ad S C M (1 : Int32)  h46) T_yX3_truth k_633 dX3_reckon_151 rfl rfl (Nat.le_of_ble_eq_true rfl) ⟨Nat.le_of_ble_eq_true rfl, Nat.le_of_ble_eq_true rfl⟩ ⟨Nat.zero_le _, Nat.zero_le _⟩ ?_
        obtain ⟨z48, h⟩ := ck_some h
        obtain ⟨C49, e50, h⟩ := lt_some h
        refine wg_iaste X (SCi hS 34 10 rfl) (SCl hS 34 160 rfl) z48 dX3_reckon_154 e50 ?_
        refine wg_goto X 195 dX3_reckon_155 (by decide) ?_
        obtain ⟨v51, e52, h⟩ := lt_some h
        refine wg_iinc (lv' := [(4, .int v51), (7, .int v35), (0, .ref (ad 31)), (1, .ref (ad p1)), (2, .int x2), (3, .int x3), (5, .int x5)]) X 5 dX3_reckon_195 rfl e52 (by decide) rfl ?_
        refine wg_goto X 9 dX3_reckon_198 (by decide) ?_
        refine wg_pick [2, 3, 4, 5, 0] (lv' := [(0, .ref (ad 31)), (1, .ref (ad p1)), (2, .int x2), (3, .int x3), (4, .int v51)]) rfl ?_
        exact Kc C49 x3 v51 (sm_inj h).symm
    · have h := if_t c37 h
      refine wg_iload X 0 dX3_reckon_135 rfl ?_
      refine wg_ineg X dX3_reckon_137 ?_
      refine wg_goto X 154 dX3_reckon_138 (by decide) ?_
      obtain ⟨z53, h⟩ := ck_some h
      obtain ⟨C54, e55, h⟩ := lt_some h
      refine wg_iaste X (SCi hS 34 10 rfl) (SCl hS 34 160 rfl) z53 dX3_reckon_154 e55 ?_
      refine wg_goto X 195 dX3_reckon_155 (by decide) ?_
      obtain ⟨v56, e57, h⟩ := lt_some h
      refine wg_iinc (lv' := [(4, .int v56), (7, .int v35), (0, .ref (ad 31)), (1, .ref (ad p1)), (2, .int x2), (3, .int x3), (5, .int x5)]) X 5 dX3_reckon_195 rfl e57 (by decide) rfl ?_
      refine wg_goto X 9 dX3_reckon_198 (by decide) ?_
      refine wg_pick [2, 3, 4, 5, 0] (lv' := [(0, .ref (ad 31)), (1, .ref (ad p1)), (2, .int x2), (3, .int x3), (4, .int v56)]) rfl ?_
      exact Kc C54 x3 v56 (sm_inj h).symm
  · have h := if_f c33 h
    refine wg_iconst (v := 0) X dX3_reckon_110 (by decide) ?_
    have hq := Kr _ (sm_inj h).symm
    exact wg_iret X ⟨(Prod.mk.inj hq).1, (Prod.mk.inj hq).2, rfl⟩ hr dX3_reckon_111
set_option maxHeartbeats 4000000 in
set_option maxRecDepth 100000 in
theorem L_X3_reckon_l9 {p : Program} {l : Launch} {e : Env} {s : State} {m : MethodId} {args : Array Value} {below : List Frame} {meth : Method} {c : Code} {E : wg_Ev} {ad : Nat → Nat} {S : wg_Sh} (X : wg_X p s m args meth c cX3_reckon 8 RX3 E) (hr : meth.sig.returnType = (some .int)) (hS : wg_SC S) (r0 : Int32) (D0 : wg_C) (M : wg_M) (N : Nat) (p1 : Nat) (hp1 : wg_Txt S p1)  (x2 : Int32)  : ∀ (n : Nat) (C : wg_C) (x3 : Int32) (x4 : Int32) (o : ((wg_C × Int32 × Int32) ⊕ (Int32 × wg_C))), lp (fun o => f_X3_reckon_l9 N S p1  x2 o.1 o.2.1 o.2.2) n (C, x3, x4) = some o → (∀ (Dy : wg_C) (y3 : Int32) (y4 : Int32), o = Sum.inl (Dy, y3, y4) → G_X3_reckon p l e s m args below meth c E ad S r0 D0 M 201 Dy M [(0, .ref (ad 31)), (1, .ref (ad p1)), (2, .int x2), (3, .int y3), (4, .int y4)] []) → (∀ q : (Int32 × wg_C), o = Sum.inr q → q = (r0, D0)) → G_X3_reckon p l e s m args below meth c E ad S r0 D0 M 9 C M [(0, .ref (ad 31)), (1, .ref (ad p1)), (2, .int x2), (3, .int x3), (4, .int x4)] [] := by
  intro n
  induction n with
  | zero => exact fun _ _ _ o h => (lp_zero h).elim
  | succ n ih =>
    intro C x3 x4 o h K KR
    obtain ⟨o1, hb, h2⟩ := lp_some h
    replace hb : f_X3_reckon_l9 N S p1  x2 C x3 x4 = some o1 := hb
    clear h
    have Kc : ∀ (Dy : wg_C) (y3 : Int32) (y4 : Int32), o1 = Sum.inl (Dy, y3, y4) → G_X3_reckon p l e s m args below meth c E ad S r0 D0 M 9 Dy M [(0, .ref (ad 31)), (1, .ref (ad p1)), (2, .int x2), (3, .int y3), (4, .int y4)] [] := fun Dy y3 y4 e1 => by
      subst e1
      exact ih Dy y3 y4 o h2 K KR
    have Ke : ∀ (Dy : wg_C) (y3 : Int32) (y4 : Int32), o1 = Sum.inr (Sum.inl (Dy, y3, y4)) → G_X3_reckon p l e s m args below meth c E ad S r0 D0 M 201 Dy M [(0, .ref (ad 31)), (1, .ref (ad p1)), (2, .int x2), (3, .int y3), (4, .int y4)] [] := fun Dy y3 y4 e1 => by
      subst e1
      exact K Dy y3 y4 (sm_inj (α := ((wg_C × Int32 × Int32) ⊕ (Int32 × wg_C))) h2).symm
    have Kr : ∀ q : (Int32 × wg_C), o1 = Sum.inr (Sum.inr q) → q = (r0, D0) := fun q e1 => by
      subst e1
      exact KR q (sm_inj (α := ((wg_C × Int32 × Int32) ⊕ (Int32 × wg_C))) h2).symm
    clear ih K h2 KR
    unfold f_X3_reckon_l9 at hb
    have h := hb
    clear hb
    refine wg_iload X 4 dX3_reckon_9 rfl ?_
    refine wg_aload_n X 1 dX3_reckon_11 rfl rfl ?_
    refine wg_iload_n X 2 dX3_reckon_12 rfl rfl ?_
    obtain ⟨r4, h3, h⟩ := bd_some h
    refine wg_callVi (As := [.int x2]) (rest := [.int x4]) X (c_X6_end l E ad S hS C M p1 x2 hp1 h3) T_yX6_end k_625 cl6 hp1.1 dX3_reckon_13 rfl rfl (Nat.le_of_ble_eq_true rfl) ⟨Nat.le_of_ble_eq_true rfl, Nat.le_of_ble_eq_true rfl⟩ ⟨Nat.zero_le _, Nat.zero_le _⟩ ?_
    refine wg_icmp_ge X 201 dX3_reckon_16 (by decide) (fun c5 => ?_) (fun c5 => ?_)
    · have h := if_t c5 h
      exact Ke C x3 x4 (sm_inj h).symm
    · have h := if_f c5 h
      refine wg_aload_n X 1 dX3_reckon_19 rfl rfl ?_
      refine wg_getR (b := (p1 + 1)) X cl6 hp1.1 0 (by decide) dX3_reckon_20 k_456 rfl hp1.2.1 ?_
      refine wg_iload X 4 dX3_reckon_23 rfl ?_
      obtain ⟨z6, h⟩ := ck_some h
      refine wg_iald X hp1.2.2.1 rfl z6 dX3_reckon_25 ?_
      refine wg_bipush (v := 16) X dX3_reckon_26 (by decide) ?_
      refine wg_irem X dX3_reckon_28 (by decide) ?_
      obtain ⟨v7, e8, h⟩ := lt_some h
      refine wg_istore (lv' := [(5, .int v7), (0, .ref (ad 31)), (1, .ref (ad p1)), (2, .int x2), (3, .int x3), (4, .int x4)]) X dX3_reckon_29 e8 (by decide) rfl ?_
      refine wg_aload_n X 2 dX3_reckon_31 rfl rfl ?_
      refine wg_getR (b := (p1 + 1)) X cl6 hp1.1 0 (by decide) dX3_reckon_32 k_456 rfl hp1.2.1 ?_
      refine wg_iload X 5 dX3_reckon_35 rfl ?_
      obtain ⟨z9, h⟩ := ck_some h
      refine wg_iald X hp1.2.2.1 rfl z9 dX3_reckon_37 ?_
      refine wg_bipush (v := 16) X dX3_reckon_38 (by decide) ?_
      refine wg_idiv X dX3_reckon_40 (by decide) ?_
      obtain ⟨v10, e11, h⟩ := lt_some h
      refine wg_istore (lv' := [(6, .int v10), (5, .int v7), (0, .ref (ad 31)), (1, .ref (ad p1)), (2, .int x2), (3, .int x3), (4, .int x4)]) X dX3_reckon_41 e11 (by decide) rfl ?_
      refine wg_iload X 1 dX3_reckon_43 rfl ?_
      refine wg_if_eq X 54 dX3_reckon_45 (by decide) (fun c12 => ?_) (fun c12 => ?_)
      · have h := if_t c12 h
        refine wg_pick [2, 3, 4, 5, 6, 1, 0] (lv' := [(0, .ref (ad 31)), (1, .ref (ad p1)), (2, .int x2), (3, .int x3), (4, .int x4), (5, .int v7), (6, .int v10)]) rfl ?_
        exact J_X3_reckon_j54l9 X hr hS r0 D0 M N p1 hp1 C  x2 x3 x4 v7 v10  _ Kc Ke Kr h
      · have h := if_f c12 h
        refine wg_iload X 1 dX3_reckon_48 rfl ?_
        refine wg_iconst (v := 1) X dX3_reckon_50 (by decide) ?_
        refine wg_icmp_ne X 93 dX3_reckon_51 (by decide) (fun c31 => ?_) (fun c31 => ?_)
        · have h := if_f c31 h
          refine wg_iload X 1 dX3_reckon_93 rfl ?_
          refine wg_iconst (v := 2) X dX3_reckon_95 (by decide) ?_
          refine wg_icmp_eq X 105 dX3_reckon_96 (by decide) (fun c32 => ?_) (fun c32 => ?_)
          · have h := if_t c32 h
            refine wg_pick [2, 3, 4, 5, 6, 1] (lv' := [(0, .ref (ad 31)), (1, .ref (ad p1)), (2, .int x2), (3, .int x3), (4, .int x4), (5, .int v7)]) rfl ?_
            exact J_X3_reckon_j105l9 X hr hS r0 D0 M N p1 hp1 C  x2 x3 x4 v7  _ Kc Ke Kr h
          · have h := if_f c32 h
            refine wg_iload X 1 dX3_reckon_99 rfl ?_
            refine wg_iconst (v := 3) X dX3_reckon_101 (by decide) ?_
            refine wg_icmp_ne X 158 dX3_reckon_102 (by decide) (fun c58 => ?_) (fun c58 => ?_)
            · have h := if_f c58 h
              refine wg_iload_n X 5 dX3_reckon_158 rfl rfl ?_
              refine wg_iconst (v := 2) X dX3_reckon_159 (by decide) ?_
              refine wg_icmp_ge X 165 dX3_reckon_160 (by decide) (fun c59 => ?_) (fun c59 => ?_)
              · have h := if_t c59 h
                obtain ⟨v60, e61, h⟩ := lt_some h
                refine wg_iinc (lv' := [(3, .int v60), (6, .int v10), (5, .int v7), (0, .ref (ad 31)), (1, .ref (ad p1)), (2, .int x2), (4, .int x4)]) X 5 dX3_reckon_165 rfl e61 (by decide) rfl ?_
                refine wg_aload_n X 3 dX3_reckon_168 rfl rfl ?_
                refine wg_getR (b := 34) X cl3 (SCi hS 31 3 rfl) 3 (by decide) dX3_reckon_169 k_232 rfl (SCr hS 31 3 34 rfl) ?_
                refine wg_iload_n X 0 dX3_reckon_172 rfl rfl ?_
                refine wg_iconst (v := 1) X dX3_reckon_173 (by decide) ?_
                refine wg_isub X dX3_reckon_174 ?_
                refine wg_iload X 2 dX3_reckon_175 rfl ?_
                refine wg_aload_n X 3 dX3_reckon_177 rfl rfl ?_
                refine wg_getR (b := 34) X cl3 (SCi hS 31 3 rfl) 3 (by decide) dX3_reckon_178 k_232 rfl (SCr hS 31 3 34 rfl) ?_
                refine wg_iload_n X 0 dX3_reckon_181 rfl rfl ?_
                refine wg_iconst (v := 1) X dX3_reckon_182 (by decide) ?_
                refine wg_isub X dX3_reckon_183 ?_
                obtain ⟨z62, h⟩ := ck_some h
                refine wg_iald X (SCi hS 34 10 rfl) (SCl hS 34 160 rfl) z62 dX3_reckon_184 ?_
                refine wg_aload_n X 3 dX3_reckon_185 rfl rfl ?_
                refine wg_getR (b := 34) X cl3 (SCi hS 31 3 rfl) 3 (by decide) dX3_reckon_186 k_232 rfl (SCr hS 31 3 34 rfl) ?_
                refine wg_iload_n X 0 dX3_reckon_189 rfl rfl ?_
                obtain ⟨z63, h⟩ := ck_some h
                refine wg_iald X (SCi hS 34 10 rfl) (SCl hS 34 160 rfl) z63 dX3_reckon_190 ?_
                obtain ⟨r65, h64, h⟩ := bd_some h
                refine wg_callSi (As := [.int v7, .int (C 34 (v60 - (1 : Int32)).toNatClampNeg), .int (C 34 v60.toNatClampNeg)]) (rest := [.int (v60 - (1 : Int32)), .ref (ad 34)]) X (c_X3_joined l E ad S C M v7 (C 34 (v60 - (1 : Int32)).toNatClampNeg) (C 34 v60.toNatClampNeg)  h64) T_yX3_joined k_636 dX3_reckon_191 rfl rfl (Nat.le_of_ble_eq_true rfl) ⟨Nat.le_of_ble_eq_true rfl, Nat.le_of_ble_eq_true rfl⟩ ⟨Nat.zero_le _, Nat.zero_le _⟩ ?_
                obtain ⟨z66, h⟩ := ck_some h
                obtain ⟨C67, e68, h⟩ := lt_some h
                refine wg_iaste X (SCi hS 34 10 rfl) (SCl hS 34 160 rfl) z66 dX3_reckon_194 e68 ?_
                obtain ⟨v69, e70, h⟩ := lt_some h
                refine wg_iinc (lv' := [(4, .int v69), (3, .int v60), (6, .int v10), (5, .int v7), (0, .ref (ad 31)), (1, .ref (ad p1)), (2, .int x2)]) X 6 dX3_reckon_195 rfl e70 (by decide) rfl ?_
                refine wg_goto X 9 dX3_reckon_198 (by decide) ?_
                refine wg_pick [4, 5, 6, 1, 0] (lv' := [(0, .ref (ad 31)), (1, .ref (ad p1)), (2, .int x2), (3, .int v60), (4, .int v69)]) rfl ?_
                exact Kc C67 v60 v69 (sm_inj h).symm
              · have h := if_f c59 h
                refine wg_iconst (v := 0) X dX3_reckon_163 (by decide) ?_
                have hq := Kr _ (sm_inj h).symm
                exact wg_iret X ⟨(Prod.mk.inj hq).1, (Prod.mk.inj hq).2, rfl⟩ hr dX3_reckon_164
            · have h := if_t c58 h
              refine wg_pick [2, 3, 4, 5, 6, 1] (lv' := [(0, .ref (ad 31)), (1, .ref (ad p1)), (2, .int x2), (3, .int x3), (4, .int x4), (5, .int v7)]) rfl ?_
              exact J_X3_reckon_j105l9 X hr hS r0 D0 M N p1 hp1 C  x2 x3 x4 v7  _ Kc Ke Kr h
        · have h := if_t c31 h
          refine wg_pick [2, 3, 4, 5, 6, 1, 0] (lv' := [(0, .ref (ad 31)), (1, .ref (ad p1)), (2, .int x2), (3, .int x3), (4, .int x4), (5, .int v7), (6, .int v10)]) rfl ?_
          exact J_X3_reckon_j54l9 X hr hS r0 D0 M N p1 hp1 C  x2 x3 x4 v7 v10  _ Kc Ke Kr h
set_option maxHeartbeats 4000000 in
set_option maxRecDepth 100000 in
theorem c_X3_reckon (l : Launch) (E : wg_Ev) (ad : Nat → Nat) (S : wg_Sh) (hS : wg_SC S) (N : Nat) (C : wg_C) (M : wg_M) (p1 : Nat) (p2 : Int32) (hp1 : wg_Txt S p1) {r0 : Int32} {D0 : wg_C} (h : f_X3_reckon N S C p1 p2 = some (r0, D0)) : wg_Ci l yX3_reckon cX3_reckon 8 (some .int) 2 42 E ad S C M [.ref (ad 31), .ref (ad p1), .int p2] r0 D0 M := by
  refine wg_start (own := RX3) (by decide +kernel) rfl (Nat.le_of_ble_eq_true rfl) ?_
  intro p e s m below meth c X hr hnm
  refine wg_lv (lv' := [(0, .ref (ad 31)), (1, .ref (ad p1)), (2, .int p2)]) rfl ?_
  unfold f_X3_reckon at h
  refine wg_iconst (v := 0) X dX3_reckon_0 (by decide) ?_
  refine wg_istore_n (lv' := [(3, .int (0 : Int32)), (0, .ref (ad 31)), (1, .ref (ad p1)), (2, .int p2)]) X dX3_reckon_1 rfl rfl (by decide) rfl ?_
  refine wg_aload_n X 2 dX3_reckon_2 rfl rfl ?_
  refine wg_iload_n X 3 dX3_reckon_3 rfl rfl ?_
  obtain ⟨r2, h1, h⟩ := bd_some h
  refine wg_callVi (As := [.int p2]) (rest := []) X (c_X6_start l E ad S hS C M p1 p2 hp1 h1) T_yX6_start k_621 cl6 hp1.1 dX3_reckon_4 rfl rfl (Nat.le_of_ble_eq_true rfl) ⟨Nat.le_of_ble_eq_true rfl, Nat.le_of_ble_eq_true rfl⟩ ⟨Nat.zero_le _, Nat.zero_le _⟩ ?_
  refine wg_istore (lv' := [(4, .int r2), (3, .int (0 : Int32)), (0, .ref (ad 31)), (1, .ref (ad p1)), (2, .int p2)]) X dX3_reckon_7 rfl (by decide) rfl ?_
  obtain ⟨o74, h75, h⟩ := bs3_o h
  refine wg_pick [2, 3, 4, 1, 0] (lv' := [(0, .ref (ad 31)), (1, .ref (ad p1)), (2, .int p2), (3, .int (0 : Int32)), (4, .int r2)]) rfl ?_
  refine L_X3_reckon_l9 X hr hS r0 D0 M N p1 hp1  p2  N C (0 : Int32) r2 o74 h75 (fun C71 v72 v73 e77 => ?_) (fun q76 e77 => ?_)
  · subst e77
    replace h := bs3_in h
    refine wg_iload_n X 3 dX3_reckon_201 rfl rfl ?_
    refine wg_if_le X 216 dX3_reckon_202 (by decide) (fun c78 => ?_) (fun c78 => ?_)
    · have h := if_t c78 h
      refine wg_iconst (v := 0) X dX3_reckon_216 (by decide) ?_
      exact wg_iret X ⟨(Prod.mk.inj (sm_inj h)).1, (Prod.mk.inj (sm_inj h)).2, rfl⟩ hr dX3_reckon_217
    · have h := if_f c78 h
      refine wg_aload_n X 0 dX3_reckon_205 rfl rfl ?_
      refine wg_getR (b := 34) X cl3 (SCi hS 31 3 rfl) 3 (by decide) dX3_reckon_206 k_232 rfl (SCr hS 31 3 34 rfl) ?_
      refine wg_iload_n X 3 dX3_reckon_209 rfl rfl ?_
      refine wg_iconst (v := 1) X dX3_reckon_210 (by decide) ?_
      refine wg_isub X dX3_reckon_211 ?_
      obtain ⟨z79, h⟩ := ck_some h
      refine wg_iald X (SCi hS 34 10 rfl) (SCl hS 34 160 rfl) z79 dX3_reckon_212 ?_
      refine wg_goto X 217 dX3_reckon_213 (by decide) ?_
      exact wg_iret X ⟨(Prod.mk.inj (sm_inj h)).1, (Prod.mk.inj (sm_inj h)).2, rfl⟩ hr dX3_reckon_217
  · subst e77
    replace h := bs3_r h
    exact sm_inj h
-- java/lang/Math.min(II)I ('i', 'i')
def f_J9_min_7cf53 (p0 : Int32) (p1 : Int32) : Option Int32 :=
  if p1 < p0 then (
    some p1)
  else (
    some p0)
set_option maxHeartbeats 4000000 in
set_option maxRecDepth 100000 in
theorem c_J9_min_7cf53 (l : Launch) (E : wg_Ev) (ad : Nat → Nat) (S : wg_Sh) (C : wg_C) (M : wg_M) (p0 : Int32) (p1 : Int32)  {r0 : Int32} (h : f_J9_min_7cf53 p0 p1 = some r0) : wg_Ci l yJ9_min_7cf53 cJ9_min_7cf53 2 (some .int) 0 0 E ad S C M [.int p0, .int p1] r0 C M := by
  refine wg_start (own := RJ9) (by decide +kernel) rfl (Nat.le_of_ble_eq_true rfl) ?_
  intro p e s m below meth c X hr hnm
  refine wg_lv (lv' := [(0, .int p0), (1, .int p1)]) rfl ?_
  unfold f_J9_min_7cf53 at h
  refine wg_iload_n X 0 dJ9_min_7cf53_0 rfl rfl ?_
  refine wg_iload_n X 1 dJ9_min_7cf53_1 rfl rfl ?_
  refine wg_icmp_gt X 9 dJ9_min_7cf53_2 (by decide) (fun c1 => ?_) (fun c1 => ?_)
  · have h := if_t c1 h
    refine wg_iload_n X 1 dJ9_min_7cf53_9 rfl rfl ?_
    exact wg_iret X ⟨(sm_inj h), rfl, rfl⟩ hr dJ9_min_7cf53_10
  · have h := if_f c1 h
    refine wg_iload_n X 0 dJ9_min_7cf53_5 rfl rfl ?_
    refine wg_goto X 10 dJ9_min_7cf53_6 (by decide) ?_
    exact wg_iret X ⟨(sm_inj h), rfl, rfl⟩ hr dJ9_min_7cf53_10
-- java/lang/Math.max(II)I ('i', 'i')
def f_J9_max_7cf53 (p0 : Int32) (p1 : Int32) : Option Int32 :=
  if p0 < p1 then (
    some p1)
  else (
    some p0)
set_option maxHeartbeats 4000000 in
set_option maxRecDepth 100000 in
theorem c_J9_max_7cf53 (l : Launch) (E : wg_Ev) (ad : Nat → Nat) (S : wg_Sh) (C : wg_C) (M : wg_M) (p0 : Int32) (p1 : Int32)  {r0 : Int32} (h : f_J9_max_7cf53 p0 p1 = some r0) : wg_Ci l yJ9_max_7cf53 cJ9_max_7cf53 2 (some .int) 0 0 E ad S C M [.int p0, .int p1] r0 C M := by
  refine wg_start (own := RJ9) (by decide +kernel) rfl (Nat.le_of_ble_eq_true rfl) ?_
  intro p e s m below meth c X hr hnm
  refine wg_lv (lv' := [(0, .int p0), (1, .int p1)]) rfl ?_
  unfold f_J9_max_7cf53 at h
  refine wg_iload_n X 0 dJ9_max_7cf53_0 rfl rfl ?_
  refine wg_iload_n X 1 dJ9_max_7cf53_1 rfl rfl ?_
  refine wg_icmp_lt X 9 dJ9_max_7cf53_2 (by decide) (fun c1 => ?_) (fun c1 => ?_)
  · have h := if_t c1 h
    refine wg_iload_n X 1 dJ9_max_7cf53_9 rfl rfl ?_
    exact wg_iret X ⟨(sm_inj h), rfl, rfl⟩ hr dJ9_max_7cf53_10
  · have h := if_f c1 h
    refine wg_iload_n X 0 dJ9_max_7cf53_5 rfl rfl ?_
    refine wg_goto X 10 dJ9_max_7cf53_6 (by decide) ?_
    exact wg_iret X ⟨(sm_inj h), rfl, rfl⟩ hr dJ9_max_7cf53_10
-- WindowsGive$Rules.worth(IILWindowsGive$Pane;I[I)I (('c', 31), 'i', 'i', 'P', 'i', 'IA')
def f_X3_worth_j111 (N : Nat) (S : wg_Sh) (p3 : Nat) (p5 n5 : Nat) (C : wg_C)  (x1 : Int32) (x2 : Int32) (s0 : Int32) : Option (Int32 × wg_C) :=
  ck (inb x1 6) <|
  bd (S.1 32 x1.toNatClampNeg) fun t31 =>
  bd2 (f_X3_reckon N S C t31 x2) fun r34 C35 =>
  bd (f_J9_min_7cf53 (99 : Int32) r34) fun r37 =>
  bd (f_J9_max_7cf53 s0 r37) fun r39 =>
  some (r39, C35)
def f_X3_worth_j81 (N : Nat) (S : wg_Sh) (p3 : Nat) (p5 n5 : Nat) (C : wg_C)  (x1 : Int32) (x2 : Int32) (s0 : Int32) (s1 : Int32) : Option (Int32 × wg_C) :=
  ck (inb s1 6) <|
  lt_ (wg_up C 33 s1.toNatClampNeg s0) fun C21 =>
  ck (inb (4 : Int32) 6) <|
  lt_ (wg_up C21 33 (4 : Int32).toNatClampNeg (C21 p3 0)) fun C24 =>
  ck (inb (5 : Int32) 6) <|
  lt_ (wg_up C24 33 (5 : Int32).toNatClampNeg (C24 p3 4)) fun C27 =>
  if x2 = 0 then (
    f_X3_worth_j111 N S p3 p5 n5 C27  x1 x2 (1 : Int32))
  else (
    f_X3_worth_j111 N S p3 p5 n5 C27  x1 x2 (0 : Int32))
def f_X3_worth (N : Nat) (S : wg_Sh) (C : wg_C) (p1 : Int32) (p2 : Int32) (p3 : Nat) (p4 : Int32) (p5 n5 : Nat) : Option (Int32 × wg_C) :=
  if p1 < 0 then (
    some ((0 : Int32), C))
  else (
    if (C 31 1) ≤ p1 then (
      some ((0 : Int32), C))
    else (
      ck (inb p1 6) <|
      oq (S.1 32 p1.toNatClampNeg) (
        some ((0 : Int32), C))
        (fun t4 =>
        bd (f_X1_on C p3 p4) fun r7 =>
        ck (inb (0 : Int32) 6) <|
        lt_ (wg_up C 33 (0 : Int32).toNatClampNeg p4) fun C9 =>
        ck (inb (1 : Int32) 6) <|
        lt_ (wg_up C9 33 (1 : Int32).toNatClampNeg (C9 p3 3)) fun C12 =>
        ck (inb (2 : Int32) 6) <|
        lt_ (wg_up C12 33 (2 : Int32).toNatClampNeg (C12 p3 2)) fun C15 =>
        bd (f_X8_isDay r7) fun r18 =>
        if r18 = 0 then (
          f_X3_worth_j81 N S p3 p5 n5 C15  p1 p2 (0 : Int32) (3 : Int32))
        else (
          ck (inb r7 n5) <|
          f_X3_worth_j81 N S p3 p5 n5 C15  p1 p2 (C15 p5 r7.toNatClampNeg) (3 : Int32)))))
abbrev G_X3_worth (p : Program) (l : Launch) (e : Env) (s : State) (m : MethodId) (args : Array Value) (below : List Frame) (meth : Method) (c : Code) (E : wg_Ev) (ad : Nat → Nat) (S : wg_Sh) (r0 : Int32) (C0 : wg_C) (M0 : wg_M) (pc : Nat) (C : wg_C) (M : wg_M) (lv : List (Nat × Value)) (st : List Value) : Prop := wg_G p l e (wg_Rm 3 69) s m args below meth c (MQ below (wg_Qi E ad S r0 C0 M0) args s 0 0 (wg_A E)) 8 E ad S 0 0 pc C M lv st
set_option maxHeartbeats 4000000 in
set_option maxRecDepth 100000 in
theorem J_X3_worth_j111 {p : Program} {l : Launch} {e : Env} {s : State} {m : MethodId} {args : Array Value} {below : List Frame} {meth : Method} {c : Code} {E : wg_Ev} {ad : Nat → Nat} {S : wg_Sh} (X : wg_X p s m args meth c cX3_worth 8 RX3 E) (hr : meth.sig.returnType = (some .int)) (hS : wg_SC S) (r0 : Int32) (D0 : wg_C) (M : wg_M) (N : Nat) (p3 : Nat) (hp3 : wg_id S p3 1) (p5 n5 : Nat) (hp5 : wg_IA S p5 n5) (C : wg_C)  (x1 : Int32) (x2 : Int32) (s0 : Int32)   (h : f_X3_worth_j111 N S p3 p5 n5 C  x1 x2 s0 = some (r0, D0)) : G_X3_worth p l e s m args below meth c E ad S r0 D0 M 111 C M [(0, .ref (ad 31)), (1, .int x1), (2, .int x2)] [.int s0] := by
  unfold f_X3_worth_j111 at h
  refine wg_istore (lv' := [(7, .int s0), (0, .ref (ad 31)), (1, .int x1), (2, .int x2)]) X dX3_worth_111 rfl (by decide) rfl ?_
  refine wg_iload X 0 dX3_worth_113 rfl ?_
  refine wg_bipush (v := 99) X dX3_worth_115 (by decide) ?_
  refine wg_aload_n X 1 dX3_worth_117 rfl rfl ?_
  refine wg_aload_n X 1 dX3_worth_118 rfl rfl ?_
  refine wg_getR (b := 32) X cl3 (SCi hS 31 3 rfl) 0 (by decide) dX3_worth_119 k_228 rfl (SCr hS 31 0 32 rfl) ?_
  refine wg_iload_n X 2 dX3_worth_122 rfl rfl ?_
  obtain ⟨z30, h⟩ := ck_some h
  refine wg_aald15 X (SCi hS 32 15 rfl) (SCl hS 32 6 rfl) z30 dX3_worth_123 ?_
  obtain ⟨t31, h32, h⟩ := bd_some h
  refine wg_some h32 ?_
  refine wg_iload_n X 3 dX3_worth_124 rfl rfl ?_
  obtain ⟨r34, C35, h33, h⟩ := bd2_some h
  refine wg_callVi (As := [.ref (ad t31), .int x2]) (rest := [.int (99 : Int32), .int s0]) X (c_X3_reckon l E ad S hS N C M t31 x2 (hS.2.2 _ t31 (inb_lt z30) h32) h33) T_yX3_reckon k_617 cl3 (SCi hS 31 3 rfl) dX3_worth_125 rfl rfl (Nat.le_of_ble_eq_true rfl) ⟨Nat.le_of_ble_eq_true rfl, Nat.le_of_ble_eq_true rfl⟩ ⟨Nat.zero_le _, Nat.zero_le _⟩ ?_
  obtain ⟨r37, h36, h⟩ := bd_some h
  refine wg_callSi (As := [.int (99 : Int32), .int r34]) (rest := [.int s0]) X (c_J9_min_7cf53 l E ad S C35 M (99 : Int32) r34  h36) T_yJ9_min_7cf53 k_639 dX3_worth_128 rfl rfl (Nat.le_of_ble_eq_true rfl) ⟨Nat.le_of_ble_eq_true rfl, Nat.le_of_ble_eq_true rfl⟩ ⟨Nat.zero_le _, Nat.zero_le _⟩ ?_
  obtain ⟨r39, h38, h⟩ := bd_some h
  refine wg_callSi (As := [.int s0, .int r37]) (rest := []) X (c_J9_max_7cf53 l E ad S C35 M s0 r37  h38) T_yJ9_max_7cf53 k_640 dX3_worth_131 rfl rfl (Nat.le_of_ble_eq_true rfl) ⟨Nat.le_of_ble_eq_true rfl, Nat.le_of_ble_eq_true rfl⟩ ⟨Nat.zero_le _, Nat.zero_le _⟩ ?_
  exact wg_iret X ⟨(Prod.mk.inj (sm_inj h)).1, (Prod.mk.inj (sm_inj h)).2, rfl⟩ hr dX3_worth_134
set_option maxHeartbeats 4000000 in
set_option maxRecDepth 100000 in
theorem J_X3_worth_j81 {p : Program} {l : Launch} {e : Env} {s : State} {m : MethodId} {args : Array Value} {below : List Frame} {meth : Method} {c : Code} {E : wg_Ev} {ad : Nat → Nat} {S : wg_Sh} (X : wg_X p s m args meth c cX3_worth 8 RX3 E) (hr : meth.sig.returnType = (some .int)) (hS : wg_SC S) (r0 : Int32) (D0 : wg_C) (M : wg_M) (N : Nat) (p3 : Nat) (hp3 : wg_id S p3 1) (p5 n5 : Nat) (hp5 : wg_IA S p5 n5) (C : wg_C)  (x1 : Int32) (x2 : Int32) (s0 : Int32) (s1 : Int32)   (h : f_X3_worth_j81 N S p3 p5 n5 C  x1 x2 s0 s1 = some (r0, D0)) : G_X3_worth p l e s m args below meth c E ad S r0 D0 M 81 C M [(0, .ref (ad 31)), (1, .int x1), (2, .int x2), (3, .ref (ad p3))] [.int s0, .int s1, .ref (ad 33)] := by
  unfold f_X3_worth_j81 at h
  obtain ⟨z20, h⟩ := ck_some h
  obtain ⟨C21, e22, h⟩ := lt_some h
  refine wg_iaste X (SCi hS 33 10 rfl) (SCl hS 33 6 rfl) z20 dX3_worth_81 e22 ?_
  refine wg_aload_n X 0 dX3_worth_82 rfl rfl ?_
  refine wg_getR (b := 33) X cl3 (SCi hS 31 3 rfl) 2 (by decide) dX3_worth_83 k_231 rfl (SCr hS 31 2 33 rfl) ?_
  refine wg_iconst (v := 4) X dX3_worth_86 (by decide) ?_
  refine wg_aload_n X 3 dX3_worth_87 rfl rfl ?_
  refine wg_getC X cl1 hp3 0 (by decide) dX3_worth_88 k_110 rfl ?_
  obtain ⟨z23, h⟩ := ck_some h
  obtain ⟨C24, e25, h⟩ := lt_some h
  refine wg_iaste X (SCi hS 33 10 rfl) (SCl hS 33 6 rfl) z23 dX3_worth_91 e25 ?_
  refine wg_aload_n X 0 dX3_worth_92 rfl rfl ?_
  refine wg_getR (b := 33) X cl3 (SCi hS 31 3 rfl) 2 (by decide) dX3_worth_93 k_231 rfl (SCr hS 31 2 33 rfl) ?_
  refine wg_iconst (v := 5) X dX3_worth_96 (by decide) ?_
  refine wg_aload_n X 3 dX3_worth_97 rfl rfl ?_
  refine wg_getC X cl1 hp3 4 (by decide) dX3_worth_98 k_121 rfl ?_
  obtain ⟨z26, h⟩ := ck_some h
  obtain ⟨C27, e28, h⟩ := lt_some h
  refine wg_iaste X (SCi hS 33 10 rfl) (SCl hS 33 6 rfl) z26 dX3_worth_101 e28 ?_
  refine wg_iload_n X 2 dX3_worth_102 rfl rfl ?_
  refine wg_if_ne X 110 dX3_worth_103 (by decide) (fun c29 => ?_) (fun c29 => ?_)
  · have h := if_f c29 h
    refine wg_iconst (v := 0) X dX3_worth_110 (by decide) ?_
    refine wg_pick [0, 1, 2] (lv' := [(0, .ref (ad 31)), (1, .int x1), (2, .int x2)]) rfl ?_
    exact J_X3_worth_j111 X hr hS r0 D0 M N p3 hp3 p5 n5 hp5 C27  x1 x2 (0 : Int32)   h
  · have h := if_t c29 h
    refine wg_iconst (v := 1) X dX3_worth_106 (by decide) ?_
    refine wg_goto X 111 dX3_worth_107 (by decide) ?_
    refine wg_pick [0, 1, 2] (lv' := [(0, .ref (ad 31)), (1, .int x1), (2, .int x2)]) rfl ?_
    exact J_X3_worth_j111 X hr hS r0 D0 M N p3 hp3 p5 n5 hp5 C27  x1 x2 (1 : Int32)   h
set_option maxHeartbeats 4000000 in
set_option maxRecDepth 100000 in
theorem c_X3_worth (l : Launch) (E : wg_Ev) (ad : Nat → Nat) (S : wg_Sh) (hS : wg_SC S) (N : Nat) (C : wg_C) (M : wg_M) (p1 : Int32) (p2 : Int32) (p3 : Nat) (p4 : Int32) (p5 n5 : Nat) (hp3 : wg_id S p3 1) (hp5 : wg_IA S p5 n5) {r0 : Int32} {D0 : wg_C} (h : f_X3_worth N S C p1 p2 p3 p4 p5 n5 = some (r0, D0)) : wg_Ci l yX3_worth cX3_worth 8 (some .int) 3 69 E ad S C M [.ref (ad 31), .int p1, .int p2, .ref (ad p3), .int p4, .ref (ad p5)] r0 D0 M := by
  refine wg_start (own := RX3) (by decide +kernel) rfl (Nat.le_of_ble_eq_true rfl) ?_
  intro p e s m below meth c X hr hnm
  refine wg_lv (lv' := [(0, .ref (ad 31)), (1, .int p1), (2, .int p2), (3, .ref (ad p3)), (4, .int p4), (5, .ref (ad p5))]) rfl ?_
  unfold f_X3_worth at h
  refine wg_iload_n X 1 dX3_worth_0 rfl rfl ?_
  refine wg_if_lt X 21 dX3_worth_1 (by decide) (fun c1 => ?_) (fun c1 => ?_)
  · have h := if_t c1 h
    refine wg_iconst (v := 0) X dX3_worth_21 (by decide) ?_
    exact wg_iret X ⟨(Prod.mk.inj (sm_inj h)).1, (Prod.mk.inj (sm_inj h)).2, rfl⟩ hr dX3_worth_22
  · have h := if_f c1 h
    refine wg_iload_n X 1 dX3_worth_4 rfl rfl ?_
    refine wg_aload_n X 0 dX3_worth_5 rfl rfl ?_
    refine wg_getC X cl3 (SCi hS 31 3 rfl) 1 (by decide) dX3_worth_6 k_229 rfl ?_
    refine wg_icmp_ge X 21 dX3_worth_9 (by decide) (fun c2 => ?_) (fun c2 => ?_)
    · have h := if_t c2 h
      refine wg_iconst (v := 0) X dX3_worth_21 (by decide) ?_
      exact wg_iret X ⟨(Prod.mk.inj (sm_inj h)).1, (Prod.mk.inj (sm_inj h)).2, rfl⟩ hr dX3_worth_22
    · have h := if_f c2 h
      refine wg_aload_n X 0 dX3_worth_12 rfl rfl ?_
      refine wg_getR (b := 32) X cl3 (SCi hS 31 3 rfl) 0 (by decide) dX3_worth_13 k_228 rfl (SCr hS 31 0 32 rfl) ?_
      refine wg_iload_n X 1 dX3_worth_16 rfl rfl ?_
      obtain ⟨z3, h⟩ := ck_some h
      refine wg_aald15 X (SCi hS 32 15 rfl) (SCl hS 32 6 rfl) z3 dX3_worth_17 ?_
      refine wg_nonnullQ X 23 dX3_worth_18 (by decide) (fun c5 => ?_) (fun t4 c5 => ?_)
      · have h := oq_n c5 h
        refine wg_iconst (v := 0) X dX3_worth_21 (by decide) ?_
        exact wg_iret X ⟨(Prod.mk.inj (sm_inj h)).1, (Prod.mk.inj (sm_inj h)).2, rfl⟩ hr dX3_worth_22
      · have h := oq_s c5 h
        refine wg_aload_n X 3 dX3_worth_23 rfl rfl ?_
        refine wg_iload X 4 dX3_worth_24 rfl ?_
        obtain ⟨r7, h6, h⟩ := bd_some h
        refine wg_callVi (As := [.int p4]) (rest := []) X (c_X1_on l E ad S hS C M p3 p4 hp3 h6) T_yX1_on k_615 cl1 hp3 dX3_worth_26 rfl rfl (Nat.le_of_ble_eq_true rfl) ⟨Nat.le_of_ble_eq_true rfl, Nat.le_of_ble_eq_true rfl⟩ ⟨Nat.zero_le _, Nat.zero_le _⟩ ?_
        refine wg_istore (lv' := [(6, .int r7), (0, .ref (ad 31)), (1, .int p1), (2, .int p2), (3, .ref (ad p3)), (4, .int p4), (5, .ref (ad p5))]) X dX3_worth_29 rfl (by decide) rfl ?_
        refine wg_aload_n X 1 dX3_worth_31 rfl rfl ?_
        refine wg_getR (b := 33) X cl3 (SCi hS 31 3 rfl) 2 (by decide) dX3_worth_32 k_231 rfl (SCr hS 31 2 33 rfl) ?_
        refine wg_iconst (v := 0) X dX3_worth_35 (by decide) ?_
        refine wg_iload X 5 dX3_worth_36 rfl ?_
        obtain ⟨z8, h⟩ := ck_some h
        obtain ⟨C9, e10, h⟩ := lt_some h
        refine wg_iaste X (SCi hS 33 10 rfl) (SCl hS 33 6 rfl) z8 dX3_worth_38 e10 ?_
        refine wg_aload_n X 1 dX3_worth_39 rfl rfl ?_
        refine wg_getR (b := 33) X cl3 (SCi hS 31 3 rfl) 2 (by decide) dX3_worth_40 k_231 rfl (SCr hS 31 2 33 rfl) ?_
        refine wg_iconst (v := 1) X dX3_worth_43 (by decide) ?_
        refine wg_aload_n X 4 dX3_worth_44 rfl rfl ?_
        refine wg_getC X cl1 hp3 3 (by decide) dX3_worth_45 k_118 rfl ?_
        obtain ⟨z11, h⟩ := ck_some h
        obtain ⟨C12, e13, h⟩ := lt_some h
        refine wg_iaste X (SCi hS 33 10 rfl) (SCl hS 33 6 rfl) z11 dX3_worth_48 e13 ?_
        refine wg_aload_n X 1 dX3_worth_49 rfl rfl ?_
        refine wg_getR (b := 33) X cl3 (SCi hS 31 3 rfl) 2 (by decide) dX3_worth_50 k_231 rfl (SCr hS 31 2 33 rfl) ?_
        refine wg_iconst (v := 2) X dX3_worth_53 (by decide) ?_
        refine wg_aload_n X 4 dX3_worth_54 rfl rfl ?_
        refine wg_getC X cl1 hp3 2 (by decide) dX3_worth_55 k_115 rfl ?_
        obtain ⟨z14, h⟩ := ck_some h
        obtain ⟨C15, e16, h⟩ := lt_some h
        refine wg_iaste X (SCi hS 33 10 rfl) (SCl hS 33 6 rfl) z14 dX3_worth_58 e16 ?_
        refine wg_aload_n X 1 dX3_worth_59 rfl rfl ?_
        refine wg_getR (b := 33) X cl3 (SCi hS 31 3 rfl) 2 (by decide) dX3_worth_60 k_231 rfl (SCr hS 31 2 33 rfl) ?_
        refine wg_iconst (v := 3) X dX3_worth_63 (by decide) ?_
        refine wg_iload X 0 dX3_worth_64 rfl ?_
        obtain ⟨r18, h17, h⟩ := bd_some h
        refine wg_callNi (host := "WindowsGive") (As := [.int r7]) (rest := [.int (3 : Int32), .ref (ad 33)]) X (c_X8_isDay l E ad S C15 M r7  h17) T_yX8_isDay (by simp [wg_nest]) dX3_worth_66 rfl rfl (Nat.le_of_ble_eq_true rfl) ⟨Nat.le_of_ble_eq_true rfl, Nat.le_of_ble_eq_true rfl⟩ ⟨Nat.zero_le _, Nat.zero_le _⟩ ?_
        refine wg_if_eq X 80 dX3_worth_69 (by decide) (fun c19 => ?_) (fun c19 => ?_)
        · have h := if_t c19 h
          refine wg_iconst (v := 0) X dX3_worth_80 (by decide) ?_
          refine wg_pick [1, 2, 3, 4] (lv' := [(0, .ref (ad 31)), (1, .int p1), (2, .int p2), (3, .ref (ad p3))]) rfl ?_
          exact J_X3_worth_j81 X hr hS r0 D0 M N p3 hp3 p5 n5 hp5 C15  p1 p2 (0 : Int32) (3 : Int32)   h
        · have h := if_f c19 h
          refine wg_aload X 6 dX3_worth_72 rfl ?_
          refine wg_iload X 0 dX3_worth_74 rfl ?_
          obtain ⟨z40, h⟩ := ck_some h
          refine wg_iald X hp5.1 hp5.2 z40 dX3_worth_76 ?_
          refine wg_goto X 81 dX3_worth_77 (by decide) ?_
          refine wg_pick [1, 2, 3, 4] (lv' := [(0, .ref (ad 31)), (1, .int p1), (2, .int p2), (3, .ref (ad p3))]) rfl ?_
          exact J_X3_worth_j81 X hr hS r0 D0 M N p3 hp3 p5 n5 hp5 C15  p1 p2 (C15 p5 r7.toNatClampNeg) (3 : Int32)   h
-- WindowsGive$Walk.leave(LWindowsGive$House;LWindowsGive$Rules;II)V (('c', 35), ('c', 1), ('c', 31), 'i', 'i')
def f_X7_leave_i1_j106l39 (N : Nat) (S : wg_Sh) (C : wg_C)  (x3 : Int32) (x4 : Int32) (x5 : Int32) (x6 : Int32) (x7 : Int32) (x8 : Nat) (s0 : Int32) : Option ((wg_C × Int32) ⊕ (wg_C × Int32)) :=
  bd (f_X1_leads C x8) fun r20 =>
  bd (f_X1_on C x8 x6) fun r22 =>
  ck (inb x3 192) <|
  bd (f_X7_shorten C ((r20 * (32 : Int32)) + r22) ((C 37 x3.toNatClampNeg) + s0)) fun C25 =>
  lt_ (x7 + (1 : Int32)) fun v26 =>
  some (.inl (C25, v26))
def f_X7_leave_i1_l39 (N : Nat) (S : wg_Sh)  (x3 : Int32) (x4 : Int32) (x5 : Int32) (x6 : Int32) (C : wg_C) (x7 : Int32) : Option ((wg_C × Int32) ⊕ (wg_C × Int32)) :=
  if (C 1 2) ≤ x7 then (
    some (.inr (C, x7)))
  else (
    ck (inb x7 8) <|
    if (C (4 + x7.toNatClampNeg) 4) = x5 then (
      bd (f_X1_passes C (4 + x7.toNatClampNeg) x6 x4) fun r12 =>
      if r12 = 0 then (
        lt_ (x7 + (1 : Int32)) fun v14 =>
        some (.inl (C, v14)))
      else (
        bd2 (f_X3_worth N S C (C 1 3) (0 : Int32) (4 + x7.toNatClampNeg) x6 2 32) fun r17 C18 =>
        f_X7_leave_i1_j106l39 N S C18  x3 x4 x5 x6 x7 (4 + x7.toNatClampNeg) r17))
    else (
      lt_ (x7 + (1 : Int32)) fun v9 =>
      some (.inl (C, v9))))
def f_X7_leave_i1_j36 (N : Nat) (S : wg_Sh) (C : wg_C)  (x3 : Int32) (x4 : Int32) (x5 : Int32) (x6 : Int32) : Option wg_C :=
  bd2 (lp (fun o => f_X7_leave_i1_l39 N S  x3 x4 x5 x6 o.1 o.2) N (C, (0 : Int32))) fun C28 v29 =>
  some C28
def f_X7_leave_i1 (N : Nat) (S : wg_Sh) (C : wg_C) (p3 : Int32) (p4 : Int32) : Option wg_C :=
  lt_ (p3 / (32 : Int32)) fun v1 =>
  lt_ (p3 - p3 / (32 : Int32) * (32 : Int32)) fun v3 =>
  if (32 : Int32) ≤ (v3 + (1 : Int32)) then (
    f_X7_leave_i1_j36 N S C  p3 p4 v1 v3)
  else (
    ck (inb p3 192) <|
    bd (f_X7_shorten C (p3 + (1 : Int32)) ((C 37 p3.toNatClampNeg) + (1 : Int32))) fun C36 =>
    f_X7_leave_i1_j36 N S C36  p3 p4 v1 v3)
abbrev G_X7_leave_i1 (p : Program) (l : Launch) (e : Env) (s : State) (m : MethodId) (args : Array Value) (below : List Frame) (meth : Method) (c : Code) (E : wg_Ev) (ad : Nat → Nat) (S : wg_Sh) (C0 : wg_C) (M0 : wg_M) (pc : Nat) (C : wg_C) (M : wg_M) (lv : List (Nat × Value)) (st : List Value) : Prop := wg_G p l e (wg_Rm 4 96) s m args below meth c (MQ below (wg_Qv E ad S C0 M0) args s 0 0 (wg_A E)) 10 E ad S 0 0 pc C M lv st
set_option maxHeartbeats 4000000 in
set_option maxRecDepth 100000 in
theorem J_X7_leave_i1_j106l39 {p : Program} {l : Launch} {e : Env} {s : State} {m : MethodId} {args : Array Value} {below : List Frame} {meth : Method} {c : Code} {E : wg_Ev} {ad : Nat → Nat} {S : wg_Sh} (X : wg_X p s m args meth c cX7_leave 10 RX7 E) (hr : meth.sig.returnType = none) (hS : wg_SC S) (D0 : wg_C) (M : wg_M) (N : Nat)  (C : wg_C)  (x3 : Int32) (x4 : Int32) (x5 : Int32) (x6 : Int32) (x7 : Int32) (x8 : Nat) (s0 : Int32) (hx8 : wg_id S x8 1) (y : ((wg_C × Int32) ⊕ (wg_C × Int32))) (Kc : ∀ (Dy : wg_C) (y7 : Int32), y = Sum.inl (Dy, y7) → G_X7_leave_i1 p l e s m args below meth c E ad S D0 M 39 Dy M [(0, .ref (ad 35)), (1, .ref (ad 1)), (2, .ref (ad 31)), (3, .int x3), (4, .int x4), (5, .int x5), (6, .int x6), (7, .int y7)] []) (Ke : ∀ (Dy : wg_C) (y7 : Int32), y = Sum.inr ((Dy, y7)) → G_X7_leave_i1 p l e s m args below meth c E ad S D0 M 143 Dy M [(0, .ref (ad 35)), (1, .ref (ad 1)), (2, .ref (ad 31)), (3, .int x3), (4, .int x4), (5, .int x5), (6, .int x6), (7, .int y7)] []) (h : f_X7_leave_i1_j106l39 N S C  x3 x4 x5 x6 x7 x8 s0 = some y) : G_X7_leave_i1 p l e s m args below meth c E ad S D0 M 106 C M [(0, .ref (ad 35)), (1, .ref (ad 1)), (2, .ref (ad 31)), (3, .int x3), (4, .int x4), (5, .int x5), (6, .int x6), (7, .int x7), (8, .ref (ad x8))] [.int s0] := by
  unfold f_X7_leave_i1_j106l39 at h
  refine wg_istore (lv' := [(9, .int s0), (0, .ref (ad 35)), (1, .ref (ad 1)), (2, .ref (ad 31)), (3, .int x3), (4, .int x4), (5, .int x5), (6, .int x6), (7, .int x7), (8, .ref (ad x8))]) X dX7_leave_106 rfl (by decide) rfl ?_
  refine wg_aload_n X 1 dX7_leave_108 rfl rfl ?_
  refine wg_aload X 9 dX7_leave_109 rfl ?_
  obtain ⟨r20, h19, h⟩ := bd_some h
  refine wg_callVi (As := []) (rest := [.ref (ad 35)]) X (c_X1_leads l E ad S hS C M x8 hx8 h19) T_yX1_leads k_643 cl1 hx8 dX7_leave_111 rfl rfl (Nat.le_of_ble_eq_true rfl) ⟨Nat.le_of_ble_eq_true rfl, Nat.le_of_ble_eq_true rfl⟩ ⟨Nat.zero_le _, Nat.zero_le _⟩ ?_
  refine wg_bipush (v := 32) X dX7_leave_114 (by decide) ?_
  refine wg_imul X dX7_leave_116 ?_
  refine wg_aload X 9 dX7_leave_117 rfl ?_
  refine wg_iload X 7 dX7_leave_119 rfl ?_
  obtain ⟨r22, h21, h⟩ := bd_some h
  refine wg_callVi (As := [.int x6]) (rest := [.int (r20 * (32 : Int32)), .ref (ad 35)]) X (c_X1_on l E ad S hS C M x8 x6 hx8 h21) T_yX1_on k_644 cl1 hx8 dX7_leave_121 rfl rfl (Nat.le_of_ble_eq_true rfl) ⟨Nat.le_of_ble_eq_true rfl, Nat.le_of_ble_eq_true rfl⟩ ⟨Nat.zero_le _, Nat.zero_le _⟩ ?_
  refine wg_iadd X dX7_leave_124 ?_
  refine wg_aload_n X 1 dX7_leave_125 rfl rfl ?_
  refine wg_getR (b := 37) X cl7 (SCi hS 35 7 rfl) 1 (by decide) dX7_leave_126 k_250 rfl (SCr hS 35 1 37 rfl) ?_
  refine wg_iload_n X 4 dX7_leave_129 rfl rfl ?_
  obtain ⟨z23, h⟩ := ck_some h
  refine wg_iald X (SCi hS 37 10 rfl) (SCl hS 37 192 rfl) z23 dX7_leave_130 ?_
  refine wg_iload X 0 dX7_leave_131 rfl ?_
  refine wg_iadd X dX7_leave_133 ?_
  obtain ⟨C25, h24, h⟩ := bd_some h
  refine wg_callVv (As := [.int ((r20 * (32 : Int32)) + r22), .int ((C 37 x3.toNatClampNeg) + s0)]) (rest := []) X (c_X7_shorten l E ad S hS C M ((r20 * (32 : Int32)) + r22) ((C 37 x3.toNatClampNeg) + s0)  h24) T_yX7_shorten k_606 cl7 (SCi hS 35 7 rfl) dX7_leave_134 rfl rfl (Nat.le_of_ble_eq_true rfl) ⟨Nat.le_of_ble_eq_true rfl, Nat.le_of_ble_eq_true rfl⟩ ⟨Nat.zero_le _, Nat.zero_le _⟩ ?_
  obtain ⟨v26, e27, h⟩ := lt_some h
  refine wg_iinc (lv' := [(7, .int v26), (9, .int s0), (0, .ref (ad 35)), (1, .ref (ad 1)), (2, .ref (ad 31)), (3, .int x3), (4, .int x4), (5, .int x5), (6, .int x6), (8, .ref (ad x8))]) X 8 dX7_leave_137 rfl e27 (by decide) rfl ?_
  refine wg_goto X 39 dX7_leave_140 (by decide) ?_
  refine wg_pick [2, 3, 4, 5, 6, 7, 8, 0] (lv' := [(0, .ref (ad 35)), (1, .ref (ad 1)), (2, .ref (ad 31)), (3, .int x3), (4, .int x4), (5, .int x5), (6, .int x6), (7, .int v26)]) rfl ?_
  exact Kc C25 v26 (sm_inj h).symm
set_option maxHeartbeats 4000000 in
set_option maxRecDepth 100000 in
theorem L_X7_leave_i1_l39 {p : Program} {l : Launch} {e : Env} {s : State} {m : MethodId} {args : Array Value} {below : List Frame} {meth : Method} {c : Code} {E : wg_Ev} {ad : Nat → Nat} {S : wg_Sh} (X : wg_X p s m args meth c cX7_leave 10 RX7 E) (hr : meth.sig.returnType = none) (hS : wg_SC S) (D0 : wg_C) (M : wg_M) (N : Nat)   (x3 : Int32) (x4 : Int32) (x5 : Int32) (x6 : Int32)  : ∀ (n : Nat) (C : wg_C) (x7 : Int32) (o : (wg_C × Int32)), lp (fun o => f_X7_leave_i1_l39 N S  x3 x4 x5 x6 o.1 o.2) n (C, x7) = some o → (∀ (Dy : wg_C) (y7 : Int32), o = (Dy, y7) → G_X7_leave_i1 p l e s m args below meth c E ad S D0 M 143 Dy M [(0, .ref (ad 35)), (1, .ref (ad 1)), (2, .ref (ad 31)), (3, .int x3), (4, .int x4), (5, .int x5), (6, .int x6), (7, .int y7)] []) → G_X7_leave_i1 p l e s m args below meth c E ad S D0 M 39 C M [(0, .ref (ad 35)), (1, .ref (ad 1)), (2, .ref (ad 31)), (3, .int x3), (4, .int x4), (5, .int x5), (6, .int x6), (7, .int x7)] [] := by
  intro n
  induction n with
  | zero => exact fun _ _ o h => (lp_zero h).elim
  | succ n ih =>
    intro C x7 o h K
    obtain ⟨o1, hb, h2⟩ := lp_some h
    replace hb : f_X7_leave_i1_l39 N S  x3 x4 x5 x6 C x7 = some o1 := hb
    clear h
    have Kc : ∀ (Dy : wg_C) (y7 : Int32), o1 = Sum.inl (Dy, y7) → G_X7_leave_i1 p l e s m args below meth c E ad S D0 M 39 Dy M [(0, .ref (ad 35)), (1, .ref (ad 1)), (2, .ref (ad 31)), (3, .int x3), (4, .int x4), (5, .int x5), (6, .int x6), (7, .int y7)] [] := fun Dy y7 e1 => by
      subst e1
      exact ih Dy y7 o h2 K
    have Ke : ∀ (Dy : wg_C) (y7 : Int32), o1 = Sum.inr ((Dy, y7)) → G_X7_leave_i1 p l e s m args below meth c E ad S D0 M 143 Dy M [(0, .ref (ad 35)), (1, .ref (ad 1)), (2, .ref (ad 31)), (3, .int x3), (4, .int x4), (5, .int x5), (6, .int x6), (7, .int y7)] [] := fun Dy y7 e1 => by
      subst e1
      exact K Dy y7 (sm_inj (α := (wg_C × Int32)) h2).symm
    clear ih K h2
    unfold f_X7_leave_i1_l39 at hb
    have h := hb
    clear hb
    refine wg_iload X 7 dX7_leave_39 rfl ?_
    refine wg_aload_n X 1 dX7_leave_41 rfl rfl ?_
    refine wg_getC X cl0 (SCi hS 1 0 rfl) 2 (by decide) dX7_leave_42 k_148 rfl ?_
    refine wg_icmp_ge X 143 dX7_leave_45 (by decide) (fun c6 => ?_) (fun c6 => ?_)
    · have h := if_t c6 h
      exact Ke C x7 (sm_inj h).symm
    · have h := if_f c6 h
      refine wg_aload_n X 1 dX7_leave_48 rfl rfl ?_
      refine wg_getR (b := 3) X cl0 (SCi hS 1 0 rfl) 1 (by decide) dX7_leave_49 k_145 rfl (SCr hS 1 1 3 rfl) ?_
      refine wg_iload X 7 dX7_leave_52 rfl ?_
      obtain ⟨z7, h⟩ := ck_some h
      refine wg_aalS13 (b := 4 + x7.toNatClampNeg) X (SCi hS 3 13 rfl) (SCl hS 3 8 rfl) z7 (SCp hS (inb_lt z7)).1 dX7_leave_54 ?_
      refine wg_astore (lv' := [(8, .ref (ad (4 + x7.toNatClampNeg))), (0, .ref (ad 35)), (1, .ref (ad 1)), (2, .ref (ad 31)), (3, .int x3), (4, .int x4), (5, .int x5), (6, .int x6), (7, .int x7)]) X dX7_leave_55 rfl (by decide) rfl ?_
      refine wg_aload X 0 dX7_leave_57 rfl ?_
      refine wg_getC X cl1 (SCp hS (inb_lt z7)).2.1 4 (by decide) dX7_leave_59 k_123 rfl ?_
      refine wg_iload X 6 dX7_leave_62 rfl ?_
      refine wg_icmp_ne X 137 dX7_leave_64 (by decide) (fun c8 => ?_) (fun c8 => ?_)
      · have h := if_f c8 h
        obtain ⟨v9, e10, h⟩ := lt_some h
        refine wg_iinc (lv' := [(7, .int v9), (8, .ref (ad (4 + x7.toNatClampNeg))), (0, .ref (ad 35)), (1, .ref (ad 1)), (2, .ref (ad 31)), (3, .int x3), (4, .int x4), (5, .int x5), (6, .int x6)]) X 8 dX7_leave_137 rfl e10 (by decide) rfl ?_
        refine wg_goto X 39 dX7_leave_140 (by decide) ?_
        refine wg_pick [2, 3, 4, 5, 6, 7, 8, 0] (lv' := [(0, .ref (ad 35)), (1, .ref (ad 1)), (2, .ref (ad 31)), (3, .int x3), (4, .int x4), (5, .int x5), (6, .int x6), (7, .int v9)]) rfl ?_
        exact Kc C v9 (sm_inj h).symm
      · have h := if_t c8 h
        refine wg_aload X 0 dX7_leave_67 rfl ?_
        refine wg_iload X 7 dX7_leave_69 rfl ?_
        refine wg_iload X 5 dX7_leave_71 rfl ?_
        obtain ⟨r12, h11, h⟩ := bd_some h
        refine wg_callVi (As := [.int x6, .int x4]) (rest := []) X (c_X1_passes l E ad S hS C M (4 + x7.toNatClampNeg) x6 x4 ((SCp hS (inb_lt z7)).2.1) h11) T_yX1_passes k_610 cl1 ((SCp hS (inb_lt z7)).2.1) dX7_leave_73 rfl rfl (Nat.le_of_ble_eq_true rfl) ⟨Nat.le_of_ble_eq_true rfl, Nat.le_of_ble_eq_true rfl⟩ ⟨Nat.zero_le _, Nat.zero_le _⟩ ?_
        refine wg_if_eq X 137 dX7_leave_76 (by decide) (fun c13 => ?_) (fun c13 => ?_)
        · have h := if_t c13 h
          obtain ⟨v14, e15, h⟩ := lt_some h
          refine wg_iinc (lv' := [(7, .int v14), (8, .ref (ad (4 + x7.toNatClampNeg))), (0, .ref (ad 35)), (1, .ref (ad 1)), (2, .ref (ad 31)), (3, .int x3), (4, .int x4), (5, .int x5), (6, .int x6)]) X 8 dX7_leave_137 rfl e15 (by decide) rfl ?_
          refine wg_goto X 39 dX7_leave_140 (by decide) ?_
          refine wg_pick [2, 3, 4, 5, 6, 7, 8, 0] (lv' := [(0, .ref (ad 35)), (1, .ref (ad 1)), (2, .ref (ad 31)), (3, .int x3), (4, .int x4), (5, .int x5), (6, .int x6), (7, .int v14)]) rfl ?_
          exact Kc C v14 (sm_inj h).symm
        · have h := if_f c13 h
          refine wg_aload_n X 3 dX7_leave_79 rfl rfl ?_
          refine wg_nonnull X 89 dX7_leave_80 (by decide) ?_
          refine wg_aload_n X 3 dX7_leave_89 rfl rfl ?_
          refine wg_aload_n X 2 dX7_leave_90 rfl rfl ?_
          refine wg_getC X cl0 (SCi hS 1 0 rfl) 3 (by decide) dX7_leave_91 k_150 rfl ?_
          refine wg_iconst (v := 0) X dX7_leave_94 (by decide) ?_
          refine wg_aload X 0 dX7_leave_95 rfl ?_
          refine wg_iload X 7 dX7_leave_97 rfl ?_
          refine wg_aload_n X 2 dX7_leave_99 rfl rfl ?_
          refine wg_getR (b := 2) X cl0 (SCi hS 1 0 rfl) 0 (by decide) dX7_leave_100 k_142 rfl (SCr hS 1 0 2 rfl) ?_
          obtain ⟨r17, C18, h16, h⟩ := bd2_some h
          refine wg_callVi (As := [.int (C 1 3), .int (0 : Int32), .ref (ad (4 + x7.toNatClampNeg)), .int x6, .ref (ad 2)]) (rest := []) X (c_X3_worth l E ad S hS N C M (C 1 3) (0 : Int32) (4 + x7.toNatClampNeg) x6 2 32 ((SCp hS (inb_lt z7)).2.1) ⟨(SCi hS 2 10 rfl), (SCl hS 2 32 rfl)⟩ h16) T_yX3_worth k_611 cl3 (SCi hS 31 3 rfl) dX7_leave_103 rfl rfl (Nat.le_of_ble_eq_true rfl) ⟨Nat.le_of_ble_eq_true rfl, Nat.le_of_ble_eq_true rfl⟩ ⟨Nat.zero_le _, Nat.zero_le _⟩ ?_
          refine wg_pick [1, 2, 3, 4, 5, 6, 7, 8, 0] (lv' := [(0, .ref (ad 35)), (1, .ref (ad 1)), (2, .ref (ad 31)), (3, .int x3), (4, .int x4), (5, .int x5), (6, .int x6), (7, .int x7), (8, .ref (ad (4 + x7.toNatClampNeg)))]) rfl ?_
          exact J_X7_leave_i1_j106l39 X hr hS D0 M N  C18  x3 x4 x5 x6 x7 (4 + x7.toNatClampNeg) r17 ((SCp hS (inb_lt z7)).2.1) _ Kc Ke h
set_option maxHeartbeats 4000000 in
set_option maxRecDepth 100000 in
theorem J_X7_leave_i1_j36 {p : Program} {l : Launch} {e : Env} {s : State} {m : MethodId} {args : Array Value} {below : List Frame} {meth : Method} {c : Code} {E : wg_Ev} {ad : Nat → Nat} {S : wg_Sh} (X : wg_X p s m args meth c cX7_leave 10 RX7 E) (hr : meth.sig.returnType = none) (hS : wg_SC S) (D0 : wg_C) (M : wg_M) (N : Nat)  (C : wg_C)  (x3 : Int32) (x4 : Int32) (x5 : Int32) (x6 : Int32)   (h : f_X7_leave_i1_j36 N S C  x3 x4 x5 x6 = some D0) : G_X7_leave_i1 p l e s m args below meth c E ad S D0 M 36 C M [(0, .ref (ad 35)), (1, .ref (ad 1)), (2, .ref (ad 31)), (3, .int x3), (4, .int x4), (5, .int x5), (6, .int x6)] [] := by
  unfold f_X7_leave_i1_j36 at h
  refine wg_iconst (v := 0) X dX7_leave_36 (by decide) ?_
  refine wg_istore (lv' := [(7, .int (0 : Int32)), (0, .ref (ad 35)), (1, .ref (ad 1)), (2, .ref (ad 31)), (3, .int x3), (4, .int x4), (5, .int x5), (6, .int x6)]) X dX7_leave_37 rfl (by decide) rfl ?_
  obtain ⟨o30, h31, h⟩ := bd2_o h
  refine wg_pick [1, 2, 3, 4, 5, 6, 7, 0] (lv' := [(0, .ref (ad 35)), (1, .ref (ad 1)), (2, .ref (ad 31)), (3, .int x3), (4, .int x4), (5, .int x5), (6, .int x6), (7, .int (0 : Int32))]) rfl ?_
  refine L_X7_leave_i1_l39 X hr hS D0 M N   x3 x4 x5 x6  N C (0 : Int32) o30 h31 (fun C28 v29 e33 => ?_)
  · subst e33
    replace h := bd2_in h
    exact wg_vret X ⟨(sm_inj h), rfl⟩ hr dX7_leave_143
set_option maxHeartbeats 4000000 in
set_option maxRecDepth 100000 in
theorem c_X7_leave_i1 (l : Launch) (E : wg_Ev) (ad : Nat → Nat) (S : wg_Sh) (hS : wg_SC S) (N : Nat) (C : wg_C) (M : wg_M) (p3 : Int32) (p4 : Int32)  {D0 : wg_C} (h : f_X7_leave_i1 N S C p3 p4 = some D0) : wg_Cv l yX7_leave cX7_leave 10 none 4 96 E ad S C M [.ref (ad 35), .ref (ad 1), .ref (ad 31), .int p3, .int p4] D0 M := by
  refine wg_start (own := RX7) (by decide +kernel) rfl (Nat.le_of_ble_eq_true rfl) ?_
  intro p e s m below meth c X hr hnm
  refine wg_lv (lv' := [(0, .ref (ad 35)), (1, .ref (ad 1)), (2, .ref (ad 31)), (3, .int p3), (4, .int p4)]) rfl ?_
  unfold f_X7_leave_i1 at h
  refine wg_iload_n X 3 dX7_leave_0 rfl rfl ?_
  refine wg_bipush (v := 32) X dX7_leave_1 (by decide) ?_
  refine wg_idiv X dX7_leave_3 (by decide) ?_
  obtain ⟨v1, e2, h⟩ := lt_some h
  refine wg_istore (lv' := [(5, .int v1), (0, .ref (ad 35)), (1, .ref (ad 1)), (2, .ref (ad 31)), (3, .int p3), (4, .int p4)]) X dX7_leave_4 e2 (by decide) rfl ?_
  refine wg_iload_n X 4 dX7_leave_6 rfl rfl ?_
  refine wg_bipush (v := 32) X dX7_leave_7 (by decide) ?_
  refine wg_irem X dX7_leave_9 (by decide) ?_
  obtain ⟨v3, e4, h⟩ := lt_some h
  refine wg_istore (lv' := [(6, .int v3), (5, .int v1), (0, .ref (ad 35)), (1, .ref (ad 1)), (2, .ref (ad 31)), (3, .int p3), (4, .int p4)]) X dX7_leave_10 e4 (by decide) rfl ?_
  refine wg_iload X 0 dX7_leave_12 rfl ?_
  refine wg_iconst (v := 1) X dX7_leave_14 (by decide) ?_
  refine wg_iadd X dX7_leave_15 ?_
  refine wg_bipush (v := 32) X dX7_leave_16 (by decide) ?_
  refine wg_icmp_ge X 36 dX7_leave_18 (by decide) (fun c5 => ?_) (fun c5 => ?_)
  · have h := if_t c5 h
    refine wg_pick [2, 3, 4, 5, 6, 1, 0] (lv' := [(0, .ref (ad 35)), (1, .ref (ad 1)), (2, .ref (ad 31)), (3, .int p3), (4, .int p4), (5, .int v1), (6, .int v3)]) rfl ?_
    exact J_X7_leave_i1_j36 X hr hS D0 M N  C  p3 p4 v1 v3   h
  · have h := if_f c5 h
    refine wg_aload_n X 2 dX7_leave_21 rfl rfl ?_
    refine wg_iload_n X 5 dX7_leave_22 rfl rfl ?_
    refine wg_iconst (v := 1) X dX7_leave_23 (by decide) ?_
    refine wg_iadd X dX7_leave_24 ?_
    refine wg_aload_n X 2 dX7_leave_25 rfl rfl ?_
    refine wg_getR (b := 37) X cl7 (SCi hS 35 7 rfl) 1 (by decide) dX7_leave_26 k_250 rfl (SCr hS 35 1 37 rfl) ?_
    refine wg_iload_n X 5 dX7_leave_29 rfl rfl ?_
    obtain ⟨z34, h⟩ := ck_some h
    refine wg_iald X (SCi hS 37 10 rfl) (SCl hS 37 192 rfl) z34 dX7_leave_30 ?_
    refine wg_iconst (v := 1) X dX7_leave_31 (by decide) ?_
    refine wg_iadd X dX7_leave_32 ?_
    obtain ⟨C36, h35, h⟩ := bd_some h
    refine wg_callVv (As := [.int (p3 + (1 : Int32)), .int ((C 37 p3.toNatClampNeg) + (1 : Int32))]) (rest := []) X (c_X7_shorten l E ad S hS C M (p3 + (1 : Int32)) ((C 37 p3.toNatClampNeg) + (1 : Int32))  h35) T_yX7_shorten k_606 cl7 (SCi hS 35 7 rfl) dX7_leave_33 rfl rfl (Nat.le_of_ble_eq_true rfl) ⟨Nat.le_of_ble_eq_true rfl, Nat.le_of_ble_eq_true rfl⟩ ⟨Nat.zero_le _, Nat.zero_le _⟩ ?_
    refine wg_pick [2, 3, 4, 5, 6, 1, 0] (lv' := [(0, .ref (ad 35)), (1, .ref (ad 1)), (2, .ref (ad 31)), (3, .int p3), (4, .int p4), (5, .int v1), (6, .int v3)]) rfl ?_
    exact J_X7_leave_i1_j36 X hr hS D0 M N  C36  p3 p4 v1 v3   h
-- WindowsGive$Walk.search(LWindowsGive$House;LWindowsGive$Rules;II)V (('c', 35), ('c', 1), ('c', 31), 'i', 'i')
def f_X7_search_i1_l27 (N : Nat) (S : wg_Sh)  (x4 : Int32) (C : wg_C) (x5 : Int32) : Option ((wg_C × Int32) ⊕ ((wg_C × Int32) ⊕ wg_C)) :=
  if (192 : Int32) ≤ x5 then (
    some (.inr (.inl (C, x5))))
  else (
    bd (f_X7_nearest N C ) fun r10 =>
    if r10 = (-1 : Int32) then (
      some (.inr (.inr C)))
    else (
      ck (inb r10 192) <|
      lt_ (wg_up C 38 r10.toNatClampNeg (1 : Int32)) fun C13 =>
      bd (f_X7_leave_i1 N S C13 r10 x4) fun C16 =>
      lt_ (x5 + (1 : Int32)) fun v17 =>
      some (.inl (C16, v17))))
def f_X7_search_i1 (N : Nat) (S : wg_Sh) (C : wg_C) (p3 : Int32) (p4 : Int32) : Option wg_C :=
  bd (f_J7_fill_53178 N C 37 192 (1000000000 : Int32)) fun C2 =>
  bd (f_J7_fill_53178 N C2 38 192 (0 : Int32)) fun C4 =>
  ck (inb p3 192) <|
  lt_ (wg_up C4 37 p3.toNatClampNeg (0 : Int32)) fun C6 =>
  bs2 (lp (fun o => f_X7_search_i1_l27 N S  p4 o.1 o.2) N (C6, (0 : Int32))) (fun C19 v20 =>
    some C19)
    (fun q23 => some q23)
abbrev G_X7_search_i1 (p : Program) (l : Launch) (e : Env) (s : State) (m : MethodId) (args : Array Value) (below : List Frame) (meth : Method) (c : Code) (E : wg_Ev) (ad : Nat → Nat) (S : wg_Sh) (C0 : wg_C) (M0 : wg_M) (pc : Nat) (C : wg_C) (M : wg_M) (lv : List (Nat × Value)) (st : List Value) : Prop := wg_G p l e (wg_Rm 5 125) s m args below meth c (MQ below (wg_Qv E ad S C0 M0) args s 0 0 (wg_A E)) 7 E ad S 0 0 pc C M lv st
set_option maxHeartbeats 4000000 in
set_option maxRecDepth 100000 in
theorem L_X7_search_i1_l27 {p : Program} {l : Launch} {e : Env} {s : State} {m : MethodId} {args : Array Value} {below : List Frame} {meth : Method} {c : Code} {E : wg_Ev} {ad : Nat → Nat} {S : wg_Sh} (X : wg_X p s m args meth c cX7_search 7 RX7 E) (hr : meth.sig.returnType = none) (hS : wg_SC S) (D0 : wg_C) (M : wg_M) (N : Nat)   (x4 : Int32)  : ∀ (n : Nat) (C : wg_C) (x5 : Int32) (o : ((wg_C × Int32) ⊕ wg_C)), lp (fun o => f_X7_search_i1_l27 N S  x4 o.1 o.2) n (C, x5) = some o → (∀ (Dy : wg_C) (y5 : Int32), o = Sum.inl (Dy, y5) → G_X7_search_i1 p l e s m args below meth c E ad S D0 M 72 Dy M [(0, .ref (ad 35)), (1, .ref (ad 1)), (2, .ref (ad 31)), (4, .int x4), (5, .int y5)] []) → (∀ q : wg_C, o = Sum.inr q → q = D0) → G_X7_search_i1 p l e s m args below meth c E ad S D0 M 27 C M [(0, .ref (ad 35)), (1, .ref (ad 1)), (2, .ref (ad 31)), (4, .int x4), (5, .int x5)] [] := by
  intro n
  induction n with
  | zero => exact fun _ _ o h => (lp_zero h).elim
  | succ n ih =>
    intro C x5 o h K KR
    obtain ⟨o1, hb, h2⟩ := lp_some h
    replace hb : f_X7_search_i1_l27 N S  x4 C x5 = some o1 := hb
    clear h
    have Kc : ∀ (Dy : wg_C) (y5 : Int32), o1 = Sum.inl (Dy, y5) → G_X7_search_i1 p l e s m args below meth c E ad S D0 M 27 Dy M [(0, .ref (ad 35)), (1, .ref (ad 1)), (2, .ref (ad 31)), (4, .int x4), (5, .int y5)] [] := fun Dy y5 e1 => by
      subst e1
      exact ih Dy y5 o h2 K KR
    have Ke : ∀ (Dy : wg_C) (y5 : Int32), o1 = Sum.inr (Sum.inl (Dy, y5)) → G_X7_search_i1 p l e s m args below meth c E ad S D0 M 72 Dy M [(0, .ref (ad 35)), (1, .ref (ad 1)), (2, .ref (ad 31)), (4, .int x4), (5, .int y5)] [] := fun Dy y5 e1 => by
      subst e1
      exact K Dy y5 (sm_inj (α := ((wg_C × Int32) ⊕ wg_C)) h2).symm
    have Kr : ∀ q : wg_C, o1 = Sum.inr (Sum.inr q) → q = D0 := fun q e1 => by
      subst e1
      exact KR q (sm_inj (α := ((wg_C × Int32) ⊕ wg_C)) h2).symm
    clear ih K h2 KR
    unfold f_X7_search_i1_l27 at hb
    have h := hb
    clear hb
    refine wg_iload X 4 dX7_search_27 rfl ?_
    refine wg_sipush (v := 192) X dX7_search_29 (by decide) ?_
    refine wg_icmp_ge X 72 dX7_search_32 (by decide) (fun c8 => ?_) (fun c8 => ?_)
    · have h := if_t c8 h
      exact Ke C x5 (sm_inj h).symm
    · have h := if_f c8 h
      refine wg_aload_n X 0 dX7_search_35 rfl rfl ?_
      obtain ⟨r10, h9, h⟩ := bd_some h
      refine wg_callVi (As := []) (rest := []) X (c_X7_nearest l E ad S hS N C M   h9) T_yX7_nearest k_598 cl7 (SCi hS 35 7 rfl) dX7_search_36 rfl rfl (Nat.le_of_ble_eq_true rfl) ⟨Nat.le_of_ble_eq_true rfl, Nat.le_of_ble_eq_true rfl⟩ ⟨Nat.zero_le _, Nat.zero_le _⟩ ?_
      refine wg_istore (lv' := [(6, .int r10), (0, .ref (ad 35)), (1, .ref (ad 1)), (2, .ref (ad 31)), (4, .int x4), (5, .int x5)]) X dX7_search_39 rfl (by decide) rfl ?_
      refine wg_iload X 0 dX7_search_41 rfl ?_
      refine wg_iconst (v := -1) X dX7_search_43 (by decide) ?_
      refine wg_icmp_ne X 48 dX7_search_44 (by decide) (fun c11 => ?_) (fun c11 => ?_)
      · have h := if_f c11 h
        refine wg_aload_n X 1 dX7_search_48 rfl rfl ?_
        refine wg_getR (b := 38) X cl7 (SCi hS 35 7 rfl) 2 (by decide) dX7_search_49 k_252 rfl (SCr hS 35 2 38 rfl) ?_
        refine wg_iload X 0 dX7_search_52 rfl ?_
        refine wg_iconst (v := 1) X dX7_search_54 (by decide) ?_
        obtain ⟨z12, h⟩ := ck_some h
        obtain ⟨C13, e14, h⟩ := lt_some h
        refine wg_iaste X (SCi hS 38 10 rfl) (SCl hS 38 192 rfl) z12 dX7_search_55 e14 ?_
        refine wg_aload_n X 1 dX7_search_56 rfl rfl ?_
        refine wg_aload_n X 2 dX7_search_57 rfl rfl ?_
        refine wg_aload_n X 3 dX7_search_58 rfl rfl ?_
        refine wg_iload X 0 dX7_search_59 rfl ?_
        refine wg_iload X 4 dX7_search_61 rfl ?_
        obtain ⟨C16, h15, h⟩ := bd_some h
        refine wg_callVv (As := [.ref (ad 1), .ref (ad 31), .int r10, .int x4]) (rest := []) X (c_X7_leave_i1 l E ad S hS N C13 M r10 x4  h15) T_yX7_leave k_602 cl7 (SCi hS 35 7 rfl) dX7_search_63 rfl rfl (Nat.le_of_ble_eq_true rfl) ⟨Nat.le_of_ble_eq_true rfl, Nat.le_of_ble_eq_true rfl⟩ ⟨Nat.zero_le _, Nat.zero_le _⟩ ?_
        obtain ⟨v17, e18, h⟩ := lt_some h
        refine wg_iinc (lv' := [(5, .int v17), (6, .int r10), (0, .ref (ad 35)), (1, .ref (ad 1)), (2, .ref (ad 31)), (4, .int x4)]) X 5 dX7_search_66 rfl e18 (by decide) rfl ?_
        refine wg_goto X 27 dX7_search_69 (by decide) ?_
        refine wg_pick [2, 3, 4, 5, 0] (lv' := [(0, .ref (ad 35)), (1, .ref (ad 1)), (2, .ref (ad 31)), (4, .int x4), (5, .int v17)]) rfl ?_
        exact Kc C16 v17 (sm_inj h).symm
      · have h := if_t c11 h
        have hq := Kr _ (sm_inj h).symm
        exact wg_vret X ⟨hq, rfl⟩ hr dX7_search_47
set_option maxHeartbeats 4000000 in
set_option maxRecDepth 100000 in
theorem c_X7_search_i1 (l : Launch) (E : wg_Ev) (ad : Nat → Nat) (S : wg_Sh) (hS : wg_SC S) (N : Nat) (C : wg_C) (M : wg_M) (p3 : Int32) (p4 : Int32)  {D0 : wg_C} (h : f_X7_search_i1 N S C p3 p4 = some D0) : wg_Cv l yX7_search cX7_search 7 none 5 125 E ad S C M [.ref (ad 35), .ref (ad 1), .ref (ad 31), .int p3, .int p4] D0 M := by
  refine wg_start (own := RX7) (by decide +kernel) rfl (Nat.le_of_ble_eq_true rfl) ?_
  intro p e s m below meth c X hr hnm
  refine wg_lv (lv' := [(0, .ref (ad 35)), (1, .ref (ad 1)), (2, .ref (ad 31)), (3, .int p3), (4, .int p4)]) rfl ?_
  unfold f_X7_search_i1 at h
  refine wg_aload_n X 0 dX7_search_0 rfl rfl ?_
  refine wg_getR (b := 37) X cl7 (SCi hS 35 7 rfl) 1 (by decide) dX7_search_1 k_250 rfl (SCr hS 35 1 37 rfl) ?_
  refine wg_ldc (v := 1000000000) X dX7_search_4 k_594 ?_
  obtain ⟨C2, h1, h⟩ := bd_some h
  refine wg_callSv (As := [.ref (ad 37), .int (1000000000 : Int32)]) (rest := []) X (c_J7_fill_53178 l E ad S hS N C M 37 192 (1000000000 : Int32) ⟨(SCi hS 37 10 rfl), (SCl hS 37 192 rfl)⟩ h1) T_yJ7_fill_53178 k_595 dX7_search_6 rfl rfl (Nat.le_of_ble_eq_true rfl) ⟨Nat.le_of_ble_eq_true rfl, Nat.le_of_ble_eq_true rfl⟩ ⟨Nat.zero_le _, Nat.zero_le _⟩ ?_
  refine wg_aload_n X 0 dX7_search_9 rfl rfl ?_
  refine wg_getR (b := 38) X cl7 (SCi hS 35 7 rfl) 2 (by decide) dX7_search_10 k_252 rfl (SCr hS 35 2 38 rfl) ?_
  refine wg_iconst (v := 0) X dX7_search_13 (by decide) ?_
  obtain ⟨C4, h3, h⟩ := bd_some h
  refine wg_callSv (As := [.ref (ad 38), .int (0 : Int32)]) (rest := []) X (c_J7_fill_53178 l E ad S hS N C2 M 38 192 (0 : Int32) ⟨(SCi hS 38 10 rfl), (SCl hS 38 192 rfl)⟩ h3) T_yJ7_fill_53178 k_595 dX7_search_14 rfl rfl (Nat.le_of_ble_eq_true rfl) ⟨Nat.le_of_ble_eq_true rfl, Nat.le_of_ble_eq_true rfl⟩ ⟨Nat.zero_le _, Nat.zero_le _⟩ ?_
  refine wg_aload_n X 0 dX7_search_17 rfl rfl ?_
  refine wg_getR (b := 37) X cl7 (SCi hS 35 7 rfl) 1 (by decide) dX7_search_18 k_250 rfl (SCr hS 35 1 37 rfl) ?_
  refine wg_iload_n X 3 dX7_search_21 rfl rfl ?_
  refine wg_iconst (v := 0) X dX7_search_22 (by decide) ?_
  obtain ⟨z5, h⟩ := ck_some h
  obtain ⟨C6, e7, h⟩ := lt_some h
  refine wg_iaste X (SCi hS 37 10 rfl) (SCl hS 37 192 rfl) z5 dX7_search_23 e7 ?_
  refine wg_iconst (v := 0) X dX7_search_24 (by decide) ?_
  refine wg_istore (lv' := [(5, .int (0 : Int32)), (0, .ref (ad 35)), (1, .ref (ad 1)), (2, .ref (ad 31)), (3, .int p3), (4, .int p4)]) X dX7_search_25 rfl (by decide) rfl ?_
  obtain ⟨o21, h22, h⟩ := bs2_o h
  refine wg_pick [1, 2, 3, 5, 0] (lv' := [(0, .ref (ad 35)), (1, .ref (ad 1)), (2, .ref (ad 31)), (4, .int p4), (5, .int (0 : Int32))]) rfl ?_
  refine L_X7_search_i1_l27 X hr hS D0 M N   p4  N C6 (0 : Int32) o21 h22 (fun C19 v20 e24 => ?_) (fun q23 e24 => ?_)
  · subst e24
    replace h := bs2_in h
    exact wg_vret X ⟨(sm_inj h), rfl⟩ hr dX7_search_72
  · subst e24
    replace h := bs2_r h
    exact sm_inj h
-- WindowsGive.cost(III)I (('c', 0), 'i', 'i', 'i')
def f_X8_cost (N : Nat) (S : wg_Sh) (C : wg_C) (p1 : Int32) (p2 : Int32) (p3 : Int32) : Option (Int32 × wg_C) :=
  bd (f_X8_isSpot p1) fun r2 =>
  if r2 = 0 then (
    some ((-2 : Int32), C))
  else (
    bd (f_X8_isSpot p2) fun r5 =>
    if r5 = 0 then (
      some ((-2 : Int32), C))
    else (
      bd (f_X8_isSort p3) fun r8 =>
      if r8 = 0 then (
        some ((-2 : Int32), C))
      else (
        bd (f_X7_search_i1 N S C p1 p3) fun C11 =>
        ck (inb p2 192) <|
        if (C11 37 p2.toNatClampNeg) < (1000000000 : Int32) then (
          ck (inb p2 192) <|
          some ((C11 37 p2.toNatClampNeg), C11))
        else (
          some ((-1 : Int32), C11)))))
set_option maxHeartbeats 4000000 in
set_option maxRecDepth 100000 in
theorem c_X8_cost (l : Launch) (E : wg_Ev) (ad : Nat → Nat) (S : wg_Sh) (hS : wg_SC S) (N : Nat) (C : wg_C) (M : wg_M) (p1 : Int32) (p2 : Int32) (p3 : Int32)  {r0 : Int32} {D0 : wg_C} (h : f_X8_cost N S C p1 p2 p3 = some (r0, D0)) : wg_Ci l yX8_cost cX8_cost 4 (some .int) 6 151 E ad S C M [.ref (ad 0), .int p1, .int p2, .int p3] r0 D0 M := by
  refine wg_start (own := RX8) (by decide +kernel) rfl (Nat.le_of_ble_eq_true rfl) ?_
  intro p e s m below meth c X hr hnm
  refine wg_lv (lv' := [(0, .ref (ad 0)), (1, .int p1), (2, .int p2), (3, .int p3)]) rfl ?_
  unfold f_X8_cost at h
  refine wg_iload_n X 1 dX8_cost_0 rfl rfl ?_
  obtain ⟨r2, h1, h⟩ := bd_some h
  refine wg_callSi (As := [.int p1]) (rest := []) X (c_X8_isSpot l E ad S C M p1  h1) T_yX8_isSpot k_587 dX8_cost_1 rfl rfl (Nat.le_of_ble_eq_true rfl) ⟨Nat.le_of_ble_eq_true rfl, Nat.le_of_ble_eq_true rfl⟩ ⟨Nat.zero_le _, Nat.zero_le _⟩ ?_
  refine wg_if_eq X 21 dX8_cost_4 (by decide) (fun c3 => ?_) (fun c3 => ?_)
  · have h := if_t c3 h
    refine wg_bipush (v := -2) X dX8_cost_21 (by decide) ?_
    exact wg_iret X ⟨(Prod.mk.inj (sm_inj h)).1, (Prod.mk.inj (sm_inj h)).2, rfl⟩ hr dX8_cost_23
  · have h := if_f c3 h
    refine wg_iload_n X 2 dX8_cost_7 rfl rfl ?_
    obtain ⟨r5, h4, h⟩ := bd_some h
    refine wg_callSi (As := [.int p2]) (rest := []) X (c_X8_isSpot l E ad S C M p2  h4) T_yX8_isSpot k_587 dX8_cost_8 rfl rfl (Nat.le_of_ble_eq_true rfl) ⟨Nat.le_of_ble_eq_true rfl, Nat.le_of_ble_eq_true rfl⟩ ⟨Nat.zero_le _, Nat.zero_le _⟩ ?_
    refine wg_if_eq X 21 dX8_cost_11 (by decide) (fun c6 => ?_) (fun c6 => ?_)
    · have h := if_t c6 h
      refine wg_bipush (v := -2) X dX8_cost_21 (by decide) ?_
      exact wg_iret X ⟨(Prod.mk.inj (sm_inj h)).1, (Prod.mk.inj (sm_inj h)).2, rfl⟩ hr dX8_cost_23
    · have h := if_f c6 h
      refine wg_iload_n X 3 dX8_cost_14 rfl rfl ?_
      obtain ⟨r8, h7, h⟩ := bd_some h
      refine wg_callSi (As := [.int p3]) (rest := []) X (c_X8_isSort l E ad S C M p3  h7) T_yX8_isSort k_554 dX8_cost_15 rfl rfl (Nat.le_of_ble_eq_true rfl) ⟨Nat.le_of_ble_eq_true rfl, Nat.le_of_ble_eq_true rfl⟩ ⟨Nat.zero_le _, Nat.zero_le _⟩ ?_
      refine wg_if_ne X 24 dX8_cost_18 (by decide) (fun c9 => ?_) (fun c9 => ?_)
      · have h := if_f c9 h
        refine wg_aload_n X 0 dX8_cost_24 rfl rfl ?_
        refine wg_getR (b := 35) X cl8 (SCi hS 0 8 rfl) 6 (by decide) dX8_cost_25 k_478 rfl (SCr hS 0 6 35 rfl) ?_
        refine wg_aload_n X 0 dX8_cost_28 rfl rfl ?_
        refine wg_getR (b := 1) X cl8 (SCi hS 0 8 rfl) 0 (by decide) dX8_cost_29 k_472 rfl (SCr hS 0 0 1 rfl) ?_
        refine wg_aload_n X 0 dX8_cost_32 rfl rfl ?_
        refine wg_getR (b := 31) X cl8 (SCi hS 0 8 rfl) 5 (by decide) dX8_cost_33 k_477 rfl (SCr hS 0 5 31 rfl) ?_
        refine wg_iload_n X 1 dX8_cost_36 rfl rfl ?_
        refine wg_iload_n X 3 dX8_cost_37 rfl rfl ?_
        obtain ⟨C11, h10, h⟩ := bd_some h
        refine wg_callVv (As := [.ref (ad 1), .ref (ad 31), .int p1, .int p3]) (rest := []) X (c_X7_search_i1 l E ad S hS N C M p1 p3  h10) T_yX7_search k_590 cl7 (SCi hS 35 7 rfl) dX8_cost_38 rfl rfl (Nat.le_of_ble_eq_true rfl) ⟨Nat.le_of_ble_eq_true rfl, Nat.le_of_ble_eq_true rfl⟩ ⟨Nat.zero_le _, Nat.zero_le _⟩ ?_
        refine wg_aload_n X 0 dX8_cost_41 rfl rfl ?_
        refine wg_getR (b := 35) X cl8 (SCi hS 0 8 rfl) 6 (by decide) dX8_cost_42 k_478 rfl (SCr hS 0 6 35 rfl) ?_
        refine wg_getR (b := 37) X cl7 (SCi hS 35 7 rfl) 1 (by decide) dX8_cost_45 k_251 rfl (SCr hS 35 1 37 rfl) ?_
        refine wg_iload_n X 2 dX8_cost_48 rfl rfl ?_
        obtain ⟨z12, h⟩ := ck_some h
        refine wg_iald X (SCi hS 37 10 rfl) (SCl hS 37 192 rfl) z12 dX8_cost_49 ?_
        refine wg_ldc (v := 1000000000) X dX8_cost_50 k_645 ?_
        refine wg_icmp_lt X 59 dX8_cost_52 (by decide) (fun c13 => ?_) (fun c13 => ?_)
        · have h := if_t c13 h
          refine wg_aload_n X 0 dX8_cost_59 rfl rfl ?_
          refine wg_getR (b := 35) X cl8 (SCi hS 0 8 rfl) 6 (by decide) dX8_cost_60 k_478 rfl (SCr hS 0 6 35 rfl) ?_
          refine wg_getR (b := 37) X cl7 (SCi hS 35 7 rfl) 1 (by decide) dX8_cost_63 k_251 rfl (SCr hS 35 1 37 rfl) ?_
          refine wg_iload_n X 2 dX8_cost_66 rfl rfl ?_
          obtain ⟨z14, h⟩ := ck_some h
          refine wg_iald X (SCi hS 37 10 rfl) (SCl hS 37 192 rfl) z14 dX8_cost_67 ?_
          exact wg_iret X ⟨(Prod.mk.inj (sm_inj h)).1, (Prod.mk.inj (sm_inj h)).2, rfl⟩ hr dX8_cost_68
        · have h := if_f c13 h
          refine wg_iconst (v := -1) X dX8_cost_55 (by decide) ?_
          refine wg_goto X 68 dX8_cost_56 (by decide) ?_
          exact wg_iret X ⟨(Prod.mk.inj (sm_inj h)).1, (Prod.mk.inj (sm_inj h)).2, rfl⟩ hr dX8_cost_68
      · have h := if_t c9 h
        refine wg_bipush (v := -2) X dX8_cost_21 (by decide) ?_
        exact wg_iret X ⟨(Prod.mk.inj (sm_inj h)).1, (Prod.mk.inj (sm_inj h)).2, rfl⟩ hr dX8_cost_23
-- WindowsGive$Pane.firstOut(II)I ('P', 'i', 'i')
def f_X1_firstOut_l2 (N : Nat) (p0 : Nat) (C : wg_C)  (x2 : Int32) (x3 : Int32) : Option ((Int32) ⊕ ((Int32) ⊕ Int32)) :=
  if (32 : Int32) ≤ x3 then (
    some (.inr (.inl x3)))
  else (
    bd (f_X1_passes C p0 x3 x2) fun r3 =>
    if r3 = 0 then (
      lt_ (x3 + (1 : Int32)) fun v5 =>
      some (.inl v5))
    else (
      bd (f_X1_on C p0 x3) fun r8 =>
      some (.inr (.inr r8))))
def f_X1_firstOut (N : Nat) (C : wg_C) (p0 : Nat) (p1 : Int32) (p2 : Int32) : Option Int32 :=
  bs1 (lp (fun o => f_X1_firstOut_l2 N p0 C  p2 o) N p1) (fun v9 =>
    some (32 : Int32))
    (fun q12 => some q12)
abbrev G_X1_firstOut (p : Program) (l : Launch) (e : Env) (s : State) (m : MethodId) (args : Array Value) (below : List Frame) (meth : Method) (c : Code) (E : wg_Ev) (ad : Nat → Nat) (S : wg_Sh) (r0 : Int32) (C0 : wg_C) (M0 : wg_M) (pc : Nat) (C : wg_C) (M : wg_M) (lv : List (Nat × Value)) (st : List Value) : Prop := wg_G p l e (wg_Rm 2 44) s m args below meth c (MQ below (wg_Qi E ad S r0 C0 M0) args s 0 0 (wg_A E)) 4 E ad S 0 0 pc C M lv st
set_option maxHeartbeats 4000000 in
set_option maxRecDepth 100000 in
theorem L_X1_firstOut_l2 {p : Program} {l : Launch} {e : Env} {s : State} {m : MethodId} {args : Array Value} {below : List Frame} {meth : Method} {c : Code} {E : wg_Ev} {ad : Nat → Nat} {S : wg_Sh} (X : wg_X p s m args meth c cX1_firstOut 4 RX1 E) (hr : meth.sig.returnType = (some .int)) (hS : wg_SC S) (r0 : Int32) (M : wg_M) (N : Nat) (p0 : Nat) (hp0 : wg_id S p0 1) (C : wg_C)  (x2 : Int32)  : ∀ (n : Nat) (x3 : Int32) (o : ((Int32) ⊕ Int32)), lp (fun o => f_X1_firstOut_l2 N p0 C  x2 o) n x3 = some o → (∀ (y3 : Int32), o = Sum.inl y3 → G_X1_firstOut p l e s m args below meth c E ad S r0 C M 29 C M [(0, .ref (ad p0)), (2, .int x2), (3, .int y3)] []) → (∀ q : Int32, o = Sum.inr q → q = r0) → G_X1_firstOut p l e s m args below meth c E ad S r0 C M 2 C M [(0, .ref (ad p0)), (2, .int x2), (3, .int x3)] [] := by
  intro n
  induction n with
  | zero => exact fun _ o h => (lp_zero h).elim
  | succ n ih =>
    intro x3 o h K KR
    obtain ⟨o1, hb, h2⟩ := lp_some h
    replace hb : f_X1_firstOut_l2 N p0 C  x2 x3 = some o1 := hb
    clear h
    have Kc : ∀ (y3 : Int32), o1 = Sum.inl y3 → G_X1_firstOut p l e s m args below meth c E ad S r0 C M 2 C M [(0, .ref (ad p0)), (2, .int x2), (3, .int y3)] [] := fun y3 e1 => by
      subst e1
      exact ih y3 o h2 K KR
    have Ke : ∀ (y3 : Int32), o1 = Sum.inr (Sum.inl y3) → G_X1_firstOut p l e s m args below meth c E ad S r0 C M 29 C M [(0, .ref (ad p0)), (2, .int x2), (3, .int y3)] [] := fun y3 e1 => by
      subst e1
      exact K y3 (sm_inj (α := ((Int32) ⊕ Int32)) h2).symm
    have Kr : ∀ q : Int32, o1 = Sum.inr (Sum.inr q) → q = r0 := fun q e1 => by
      subst e1
      exact KR q (sm_inj (α := ((Int32) ⊕ Int32)) h2).symm
    clear ih K h2 KR
    unfold f_X1_firstOut_l2 at hb
    have h := hb
    clear hb
    refine wg_iload_n X 2 dX1_firstOut_2 rfl rfl ?_
    refine wg_bipush (v := 32) X dX1_firstOut_3 (by decide) ?_
    refine wg_icmp_ge X 29 dX1_firstOut_5 (by decide) (fun c1 => ?_) (fun c1 => ?_)
    · have h := if_t c1 h
      exact Ke x3 (sm_inj h).symm
    · have h := if_f c1 h
      refine wg_aload_n X 0 dX1_firstOut_8 rfl rfl ?_
      refine wg_iload_n X 2 dX1_firstOut_9 rfl rfl ?_
      refine wg_iload_n X 1 dX1_firstOut_10 rfl rfl ?_
      obtain ⟨r3, h2, h⟩ := bd_some h
      refine wg_callVi (As := [.int x3, .int x2]) (rest := []) X (c_X1_passes l E ad S hS C M p0 x3 x2 hp0 h2) T_yX1_passes k_666 cl1 hp0 dX1_firstOut_11 rfl rfl (Nat.le_of_ble_eq_true rfl) ⟨Nat.le_of_ble_eq_true rfl, Nat.le_of_ble_eq_true rfl⟩ ⟨Nat.zero_le _, Nat.zero_le _⟩ ?_
      refine wg_if_eq X 23 dX1_firstOut_14 (by decide) (fun c4 => ?_) (fun c4 => ?_)
      · have h := if_t c4 h
        obtain ⟨v5, e6, h⟩ := lt_some h
        refine wg_iinc (lv' := [(3, .int v5), (0, .ref (ad p0)), (2, .int x2)]) X 2 dX1_firstOut_23 rfl e6 (by decide) rfl ?_
        refine wg_goto X 2 dX1_firstOut_26 (by decide) ?_
        refine wg_pick [1, 2, 0] (lv' := [(0, .ref (ad p0)), (2, .int x2), (3, .int v5)]) rfl ?_
        exact Kc v5 (sm_inj h).symm
      · have h := if_f c4 h
        refine wg_aload_n X 0 dX1_firstOut_17 rfl rfl ?_
        refine wg_iload_n X 2 dX1_firstOut_18 rfl rfl ?_
        obtain ⟨r8, h7, h⟩ := bd_some h
        refine wg_callVi (As := [.int x3]) (rest := []) X (c_X1_on l E ad S hS C M p0 x3 hp0 h7) T_yX1_on k_565 cl1 hp0 dX1_firstOut_19 rfl rfl (Nat.le_of_ble_eq_true rfl) ⟨Nat.le_of_ble_eq_true rfl, Nat.le_of_ble_eq_true rfl⟩ ⟨Nat.zero_le _, Nat.zero_le _⟩ ?_
        have hq := Kr _ (sm_inj h).symm
        exact wg_iret X ⟨hq, rfl, rfl⟩ hr dX1_firstOut_22
set_option maxHeartbeats 4000000 in
set_option maxRecDepth 100000 in
theorem c_X1_firstOut (l : Launch) (E : wg_Ev) (ad : Nat → Nat) (S : wg_Sh) (hS : wg_SC S) (N : Nat) (C : wg_C) (M : wg_M) (p0 : Nat) (p1 : Int32) (p2 : Int32) (hp0 : wg_id S p0 1) {r0 : Int32} (h : f_X1_firstOut N C p0 p1 p2 = some r0) : wg_Ci l yX1_firstOut cX1_firstOut 4 (some .int) 2 44 E ad S C M [.ref (ad p0), .int p1, .int p2] r0 C M := by
  refine wg_start (own := RX1) (by decide +kernel) rfl (Nat.le_of_ble_eq_true rfl) ?_
  intro p e s m below meth c X hr hnm
  refine wg_lv (lv' := [(0, .ref (ad p0)), (1, .int p1), (2, .int p2)]) rfl ?_
  unfold f_X1_firstOut at h
  refine wg_iload_n X 1 dX1_firstOut_0 rfl rfl ?_
  refine wg_istore_n (lv' := [(3, .int p1), (0, .ref (ad p0)), (1, .int p1), (2, .int p2)]) X dX1_firstOut_1 rfl rfl (by decide) rfl ?_
  obtain ⟨o10, h11, h⟩ := bs1_o h
  refine wg_pick [1, 3, 0] (lv' := [(0, .ref (ad p0)), (2, .int p2), (3, .int p1)]) rfl ?_
  refine L_X1_firstOut_l2 X hr hS r0 M N p0 hp0 C  p2  N p1 o10 h11 (fun v9 e13 => ?_) (fun q12 e13 => ?_)
  · subst e13
    replace h := bs1_in h
    refine wg_bipush (v := 32) X dX1_firstOut_29 (by decide) ?_
    exact wg_iret X ⟨(sm_inj h), rfl, rfl⟩ hr dX1_firstOut_31
  · subst e13
    replace h := bs1_r h
    exact sm_inj h
-- WindowsGive$Walk.passAll(LWindowsGive$House;II)Z (('c', 35), ('c', 1), 'i', 'i')
def f_X7_passAll_l6 (N : Nat)  (x2 : Int32) (x3 : Int32) (C : wg_C) (x4 : Int32) (x5 : Int32) : Option ((wg_C × Int32 × Int32) ⊕ (wg_C × Int32 × Int32)) :=
  if (C 1 2) ≤ x5 then (
    some (.inr (C, x4, x5)))
  else (
    ck (inb x5 8) <|
    if ((x3 >>> (x5 &&& 31)) &&& (1 : Int32)) = 0 then (
      ck (inb (C (4 + x5.toNatClampNeg) 4) 6) <|
      bd (f_X1_firstOut N C (4 + x5.toNatClampNeg) (C 36 (C (4 + x5.toNatClampNeg) 4).toNatClampNeg) x2) fun r8 =>
      bd (f_X1_leads C (4 + x5.toNatClampNeg)) fun r10 =>
      ck (inb r10 6) <|
      if (C 36 r10.toNatClampNeg) ≤ r8 then (
        lt_ (x5 + (1 : Int32)) fun v13 =>
        some (.inl (C, x4, v13)))
      else (
        bd (f_X1_leads C (4 + x5.toNatClampNeg)) fun r16 =>
        ck (inb r16 6) <|
        lt_ (wg_up C 36 r16.toNatClampNeg r8) fun C18 =>
        lt_ (x5 + (1 : Int32)) fun v20 =>
        some (.inl (C18, (1 : Int32), v20))))
    else (
      lt_ (x5 + (1 : Int32)) fun v4 =>
      some (.inl (C, x4, v4))))
def f_X7_passAll (N : Nat) (C : wg_C) (p2 : Int32) (p3 : Int32) : Option (Int32 × wg_C) :=
  bd3 (lp (fun o => f_X7_passAll_l6 N  p2 p3 o.1 o.2.1 o.2.2) N (C, (0 : Int32), (0 : Int32))) fun C22 v23 v24 =>
  ck (v23 = 0 ∨ v23 = 1) <|
  some (v23, C22)
abbrev G_X7_passAll (p : Program) (l : Launch) (e : Env) (s : State) (m : MethodId) (args : Array Value) (below : List Frame) (meth : Method) (c : Code) (E : wg_Ev) (ad : Nat → Nat) (S : wg_Sh) (r0 : Int32) (C0 : wg_C) (M0 : wg_M) (pc : Nat) (C : wg_C) (M : wg_M) (lv : List (Nat × Value)) (st : List Value) : Prop := wg_G p l e (wg_Rm 3 67) s m args below meth c (MQ below (wg_Qi E ad S r0 C0 M0) args s 0 0 (wg_A E)) 8 E ad S 0 0 pc C M lv st
set_option maxHeartbeats 4000000 in
set_option maxRecDepth 100000 in
theorem L_X7_passAll_l6 {p : Program} {l : Launch} {e : Env} {s : State} {m : MethodId} {args : Array Value} {below : List Frame} {meth : Method} {c : Code} {E : wg_Ev} {ad : Nat → Nat} {S : wg_Sh} (X : wg_X p s m args meth c cX7_passAll 8 RX7 E) (hr : meth.sig.returnType = (some .boolean)) (hS : wg_SC S) (r0 : Int32) (D0 : wg_C) (M : wg_M) (N : Nat)   (x2 : Int32) (x3 : Int32)  : ∀ (n : Nat) (C : wg_C) (x4 : Int32) (x5 : Int32) (o : (wg_C × Int32 × Int32)), lp (fun o => f_X7_passAll_l6 N  x2 x3 o.1 o.2.1 o.2.2) n (C, x4, x5) = some o → (∀ (Dy : wg_C) (y4 : Int32) (y5 : Int32), o = (Dy, y4, y5) → G_X7_passAll p l e s m args below meth c E ad S r0 D0 M 87 Dy M [(0, .ref (ad 35)), (1, .ref (ad 1)), (2, .int x2), (3, .int x3), (4, .int y4), (5, .int y5)] []) → G_X7_passAll p l e s m args below meth c E ad S r0 D0 M 6 C M [(0, .ref (ad 35)), (1, .ref (ad 1)), (2, .int x2), (3, .int x3), (4, .int x4), (5, .int x5)] [] := by
  intro n
  induction n with
  | zero => exact fun _ _ _ o h => (lp_zero h).elim
  | succ n ih =>
    intro C x4 x5 o h K
    obtain ⟨o1, hb, h2⟩ := lp_some h
    replace hb : f_X7_passAll_l6 N  x2 x3 C x4 x5 = some o1 := hb
    clear h
    have Kc : ∀ (Dy : wg_C) (y4 : Int32) (y5 : Int32), o1 = Sum.inl (Dy, y4, y5) → G_X7_passAll p l e s m args below meth c E ad S r0 D0 M 6 Dy M [(0, .ref (ad 35)), (1, .ref (ad 1)), (2, .int x2), (3, .int x3), (4, .int y4), (5, .int y5)] [] := fun Dy y4 y5 e1 => by
      subst e1
      exact ih Dy y4 y5 o h2 K
    have Ke : ∀ (Dy : wg_C) (y4 : Int32) (y5 : Int32), o1 = Sum.inr ((Dy, y4, y5)) → G_X7_passAll p l e s m args below meth c E ad S r0 D0 M 87 Dy M [(0, .ref (ad 35)), (1, .ref (ad 1)), (2, .int x2), (3, .int x3), (4, .int y4), (5, .int y5)] [] := fun Dy y4 y5 e1 => by
      subst e1
      exact K Dy y4 y5 (sm_inj (α := (wg_C × Int32 × Int32)) h2).symm
    clear ih K h2
    unfold f_X7_passAll_l6 at hb
    have h := hb
    clear hb
    refine wg_iload X 5 dX7_passAll_6 rfl ?_
    refine wg_aload_n X 1 dX7_passAll_8 rfl rfl ?_
    refine wg_getC X cl0 (SCi hS 1 0 rfl) 2 (by decide) dX7_passAll_9 k_148 rfl ?_
    refine wg_icmp_ge X 87 dX7_passAll_12 (by decide) (fun c1 => ?_) (fun c1 => ?_)
    · have h := if_t c1 h
      exact Ke C x4 x5 (sm_inj h).symm
    · have h := if_f c1 h
      refine wg_aload_n X 1 dX7_passAll_15 rfl rfl ?_
      refine wg_getR (b := 3) X cl0 (SCi hS 1 0 rfl) 1 (by decide) dX7_passAll_16 k_145 rfl (SCr hS 1 1 3 rfl) ?_
      refine wg_iload X 5 dX7_passAll_19 rfl ?_
      obtain ⟨z2, h⟩ := ck_some h
      refine wg_aalS13 (b := 4 + x5.toNatClampNeg) X (SCi hS 3 13 rfl) (SCl hS 3 8 rfl) z2 (SCp hS (inb_lt z2)).1 dX7_passAll_21 ?_
      refine wg_astore (lv' := [(6, .ref (ad (4 + x5.toNatClampNeg))), (0, .ref (ad 35)), (1, .ref (ad 1)), (2, .int x2), (3, .int x3), (4, .int x4), (5, .int x5)]) X dX7_passAll_22 rfl (by decide) rfl ?_
      refine wg_iload_n X 4 dX7_passAll_24 rfl rfl ?_
      refine wg_iload X 6 dX7_passAll_25 rfl ?_
      refine wg_ishr X dX7_passAll_27 ?_
      refine wg_iconst (v := 1) X dX7_passAll_28 (by decide) ?_
      refine wg_iand X dX7_passAll_29 ?_
      refine wg_if_ne X 81 dX7_passAll_30 (by decide) (fun c3 => ?_) (fun c3 => ?_)
      · have h := if_f c3 h
        obtain ⟨v4, e5, h⟩ := lt_some h
        refine wg_iinc (lv' := [(5, .int v4), (6, .ref (ad (4 + x5.toNatClampNeg))), (0, .ref (ad 35)), (1, .ref (ad 1)), (2, .int x2), (3, .int x3), (4, .int x4)]) X 6 dX7_passAll_81 rfl e5 (by decide) rfl ?_
        refine wg_goto X 6 dX7_passAll_84 (by decide) ?_
        refine wg_pick [2, 3, 4, 5, 6, 0] (lv' := [(0, .ref (ad 35)), (1, .ref (ad 1)), (2, .int x2), (3, .int x3), (4, .int x4), (5, .int v4)]) rfl ?_
        exact Kc C x4 v4 (sm_inj h).symm
      · have h := if_t c3 h
        refine wg_aload X 0 dX7_passAll_33 rfl ?_
        refine wg_aload_n X 1 dX7_passAll_35 rfl rfl ?_
        refine wg_getR (b := 36) X cl7 (SCi hS 35 7 rfl) 0 (by decide) dX7_passAll_36 k_248 rfl (SCr hS 35 0 36 rfl) ?_
        refine wg_aload X 0 dX7_passAll_39 rfl ?_
        refine wg_getC X cl1 (SCp hS (inb_lt z2)).2.1 4 (by decide) dX7_passAll_41 k_123 rfl ?_
        obtain ⟨z6, h⟩ := ck_some h
        refine wg_iald X (SCi hS 36 10 rfl) (SCl hS 36 6 rfl) z6 dX7_passAll_44 ?_
        refine wg_iload_n X 3 dX7_passAll_45 rfl rfl ?_
        obtain ⟨r8, h7, h⟩ := bd_some h
        refine wg_callVi (As := [.int (C 36 (C (4 + x5.toNatClampNeg) 4).toNatClampNeg), .int x2]) (rest := []) X (c_X1_firstOut l E ad S hS N C M (4 + x5.toNatClampNeg) (C 36 (C (4 + x5.toNatClampNeg) 4).toNatClampNeg) x2 ((SCp hS (inb_lt z2)).2.1) h7) T_yX1_firstOut k_662 cl1 ((SCp hS (inb_lt z2)).2.1) dX7_passAll_46 rfl rfl (Nat.le_of_ble_eq_true rfl) ⟨Nat.le_of_ble_eq_true rfl, Nat.le_of_ble_eq_true rfl⟩ ⟨Nat.zero_le _, Nat.zero_le _⟩ ?_
        refine wg_istore (lv' := [(7, .int r8), (6, .ref (ad (4 + x5.toNatClampNeg))), (0, .ref (ad 35)), (1, .ref (ad 1)), (2, .int x2), (3, .int x3), (4, .int x4), (5, .int x5)]) X dX7_passAll_49 rfl (by decide) rfl ?_
        refine wg_iload X 0 dX7_passAll_51 rfl ?_
        refine wg_aload_n X 2 dX7_passAll_53 rfl rfl ?_
        refine wg_getR (b := 36) X cl7 (SCi hS 35 7 rfl) 0 (by decide) dX7_passAll_54 k_248 rfl (SCr hS 35 0 36 rfl) ?_
        refine wg_aload X 1 dX7_passAll_57 rfl ?_
        obtain ⟨r10, h9, h⟩ := bd_some h
        refine wg_callVi (As := []) (rest := [.ref (ad 36), .int r8]) X (c_X1_leads l E ad S hS C M (4 + x5.toNatClampNeg) ((SCp hS (inb_lt z2)).2.1) h9) T_yX1_leads k_643 cl1 ((SCp hS (inb_lt z2)).2.1) dX7_passAll_59 rfl rfl (Nat.le_of_ble_eq_true rfl) ⟨Nat.le_of_ble_eq_true rfl, Nat.le_of_ble_eq_true rfl⟩ ⟨Nat.zero_le _, Nat.zero_le _⟩ ?_
        obtain ⟨z11, h⟩ := ck_some h
        refine wg_iald X (SCi hS 36 10 rfl) (SCl hS 36 6 rfl) z11 dX7_passAll_62 ?_
        refine wg_icmp_ge X 81 dX7_passAll_63 (by decide) (fun c12 => ?_) (fun c12 => ?_)
        · have h := if_t c12 h
          obtain ⟨v13, e14, h⟩ := lt_some h
          refine wg_iinc (lv' := [(5, .int v13), (7, .int r8), (6, .ref (ad (4 + x5.toNatClampNeg))), (0, .ref (ad 35)), (1, .ref (ad 1)), (2, .int x2), (3, .int x3), (4, .int x4)]) X 7 dX7_passAll_81 rfl e14 (by decide) rfl ?_
          refine wg_goto X 6 dX7_passAll_84 (by decide) ?_
          refine wg_pick [3, 4, 5, 6, 7, 0] (lv' := [(0, .ref (ad 35)), (1, .ref (ad 1)), (2, .int x2), (3, .int x3), (4, .int x4), (5, .int v13)]) rfl ?_
          exact Kc C x4 v13 (sm_inj h).symm
        · have h := if_f c12 h
          refine wg_aload_n X 2 dX7_passAll_66 rfl rfl ?_
          refine wg_getR (b := 36) X cl7 (SCi hS 35 7 rfl) 0 (by decide) dX7_passAll_67 k_248 rfl (SCr hS 35 0 36 rfl) ?_
          refine wg_aload X 1 dX7_passAll_70 rfl ?_
          obtain ⟨r16, h15, h⟩ := bd_some h
          refine wg_callVi (As := []) (rest := [.ref (ad 36)]) X (c_X1_leads l E ad S hS C M (4 + x5.toNatClampNeg) ((SCp hS (inb_lt z2)).2.1) h15) T_yX1_leads k_643 cl1 ((SCp hS (inb_lt z2)).2.1) dX7_passAll_72 rfl rfl (Nat.le_of_ble_eq_true rfl) ⟨Nat.le_of_ble_eq_true rfl, Nat.le_of_ble_eq_true rfl⟩ ⟨Nat.zero_le _, Nat.zero_le _⟩ ?_
          refine wg_iload X 0 dX7_passAll_75 rfl ?_
          obtain ⟨z17, h⟩ := ck_some h
          obtain ⟨C18, e19, h⟩ := lt_some h
          refine wg_iaste X (SCi hS 36 10 rfl) (SCl hS 36 6 rfl) z17 dX7_passAll_77 e19 ?_
          refine wg_iconst (v := 1) X dX7_passAll_78 (by decide) ?_
          refine wg_istore (lv' := [(4, .int (1 : Int32)), (7, .int r8), (6, .ref (ad (4 + x5.toNatClampNeg))), (0, .ref (ad 35)), (1, .ref (ad 1)), (2, .int x2), (3, .int x3), (5, .int x5)]) X dX7_passAll_79 rfl (by decide) rfl ?_
          obtain ⟨v20, e21, h⟩ := lt_some h
          refine wg_iinc (lv' := [(5, .int v20), (4, .int (1 : Int32)), (7, .int r8), (6, .ref (ad (4 + x5.toNatClampNeg))), (0, .ref (ad 35)), (1, .ref (ad 1)), (2, .int x2), (3, .int x3)]) X 7 dX7_passAll_81 rfl e21 (by decide) rfl ?_
          refine wg_goto X 6 dX7_passAll_84 (by decide) ?_
          refine wg_pick [4, 5, 6, 7, 1, 0] (lv' := [(0, .ref (ad 35)), (1, .ref (ad 1)), (2, .int x2), (3, .int x3), (4, .int (1 : Int32)), (5, .int v20)]) rfl ?_
          exact Kc C18 (1 : Int32) v20 (sm_inj h).symm
set_option maxHeartbeats 4000000 in
set_option maxRecDepth 100000 in
theorem c_X7_passAll (l : Launch) (E : wg_Ev) (ad : Nat → Nat) (S : wg_Sh) (hS : wg_SC S) (N : Nat) (C : wg_C) (M : wg_M) (p2 : Int32) (p3 : Int32)  {r0 : Int32} {D0 : wg_C} (h : f_X7_passAll N C p2 p3 = some (r0, D0)) : wg_Ci l yX7_passAll cX7_passAll 8 (some .boolean) 3 67 E ad S C M [.ref (ad 35), .ref (ad 1), .int p2, .int p3] r0 D0 M := by
  refine wg_start (own := RX7) (by decide +kernel) rfl (Nat.le_of_ble_eq_true rfl) ?_
  intro p e s m below meth c X hr hnm
  refine wg_lv (lv' := [(0, .ref (ad 35)), (1, .ref (ad 1)), (2, .int p2), (3, .int p3)]) rfl ?_
  unfold f_X7_passAll at h
  refine wg_iconst (v := 0) X dX7_passAll_0 (by decide) ?_
  refine wg_istore (lv' := [(4, .int (0 : Int32)), (0, .ref (ad 35)), (1, .ref (ad 1)), (2, .int p2), (3, .int p3)]) X dX7_passAll_1 rfl (by decide) rfl ?_
  refine wg_iconst (v := 0) X dX7_passAll_3 (by decide) ?_
  refine wg_istore (lv' := [(5, .int (0 : Int32)), (4, .int (0 : Int32)), (0, .ref (ad 35)), (1, .ref (ad 1)), (2, .int p2), (3, .int p3)]) X dX7_passAll_4 rfl (by decide) rfl ?_
  obtain ⟨o25, h26, h⟩ := bd3_o h
  refine wg_pick [2, 3, 4, 5, 1, 0] (lv' := [(0, .ref (ad 35)), (1, .ref (ad 1)), (2, .int p2), (3, .int p3), (4, .int (0 : Int32)), (5, .int (0 : Int32))]) rfl ?_
  refine L_X7_passAll_l6 X hr hS r0 D0 M N   p2 p3  N C (0 : Int32) (0 : Int32) o25 h26 (fun C22 v23 v24 e28 => ?_)
  · subst e28
    replace h := bd3_in h
    refine wg_iload X 4 dX7_passAll_87 rfl ?_
    obtain ⟨z29, h⟩ := ck_some h
    exact wg_zret X ⟨(Prod.mk.inj (sm_inj h)).1, (Prod.mk.inj (sm_inj h)).2, rfl⟩ hr z29 dX7_passAll_89
-- WindowsGive$Walk.reach(LWindowsGive$House;III)V (('c', 35), ('c', 1), 'i', 'i', 'i')
def f_X7_reach_l28 (N : Nat)  (x3 : Int32) (x4 : Int32) (C : wg_C) (x5 : Int32) (x6 : Int32) : Option ((wg_C × Int32 × Int32) ⊕ (wg_C × Int32 × Int32)) :=
  if (192 : Int32) < x6 then (
    some (.inr (C, x5, x6)))
  else (
    if x5 = 0 then (
      some (.inr (C, x5, x6)))
    else (
      bd2 (f_X7_passAll N C x3 x4) fun r9 C10 =>
      lt_ (x6 + (1 : Int32)) fun v11 =>
      some (.inl (C10, r9, v11))))
def f_X7_reach (N : Nat) (C : wg_C) (p2 : Int32) (p3 : Int32) (p4 : Int32) : Option wg_C :=
  bd (f_J7_fill_53178 N C 36 6 (32 : Int32)) fun C2 =>
  ck (inb (p2 / (32 : Int32)) 6) <|
  lt_ (wg_up C2 36 (p2 / (32 : Int32)).toNatClampNeg (p2 - p2 / (32 : Int32) * (32 : Int32))) fun C4 =>
  bd3 (lp (fun o => f_X7_reach_l28 N  p3 p4 o.1 o.2.1 o.2.2) N (C4, (1 : Int32), (0 : Int32))) fun C13 v14 v15 =>
  some C13
abbrev G_X7_reach (p : Program) (l : Launch) (e : Env) (s : State) (m : MethodId) (args : Array Value) (below : List Frame) (meth : Method) (c : Code) (E : wg_Ev) (ad : Nat → Nat) (S : wg_Sh) (C0 : wg_C) (M0 : wg_M) (pc : Nat) (C : wg_C) (M : wg_M) (lv : List (Nat × Value)) (st : List Value) : Prop := wg_G p l e (wg_Rm 4 94) s m args below meth c (MQ below (wg_Qv E ad S C0 M0) args s 0 0 (wg_A E)) 7 E ad S 0 0 pc C M lv st
set_option maxHeartbeats 4000000 in
set_option maxRecDepth 100000 in
theorem L_X7_reach_l28 {p : Program} {l : Launch} {e : Env} {s : State} {m : MethodId} {args : Array Value} {below : List Frame} {meth : Method} {c : Code} {E : wg_Ev} {ad : Nat → Nat} {S : wg_Sh} (X : wg_X p s m args meth c cX7_reach 7 RX7 E) (hr : meth.sig.returnType = none) (hS : wg_SC S) (D0 : wg_C) (M : wg_M) (N : Nat)   (x3 : Int32) (x4 : Int32)  : ∀ (n : Nat) (C : wg_C) (x5 : Int32) (x6 : Int32) (o : (wg_C × Int32 × Int32)), lp (fun o => f_X7_reach_l28 N  x3 x4 o.1 o.2.1 o.2.2) n (C, x5, x6) = some o → (∀ (Dy : wg_C) (y5 : Int32) (y6 : Int32), o = (Dy, y5, y6) → G_X7_reach p l e s m args below meth c E ad S D0 M 57 Dy M [(0, .ref (ad 35)), (1, .ref (ad 1)), (3, .int x3), (4, .int x4), (5, .int y5), (6, .int y6)] []) → G_X7_reach p l e s m args below meth c E ad S D0 M 28 C M [(0, .ref (ad 35)), (1, .ref (ad 1)), (3, .int x3), (4, .int x4), (5, .int x5), (6, .int x6)] [] := by
  intro n
  induction n with
  | zero => exact fun _ _ _ o h => (lp_zero h).elim
  | succ n ih =>
    intro C x5 x6 o h K
    obtain ⟨o1, hb, h2⟩ := lp_some h
    replace hb : f_X7_reach_l28 N  x3 x4 C x5 x6 = some o1 := hb
    clear h
    have Kc : ∀ (Dy : wg_C) (y5 : Int32) (y6 : Int32), o1 = Sum.inl (Dy, y5, y6) → G_X7_reach p l e s m args below meth c E ad S D0 M 28 Dy M [(0, .ref (ad 35)), (1, .ref (ad 1)), (3, .int x3), (4, .int x4), (5, .int y5), (6, .int y6)] [] := fun Dy y5 y6 e1 => by
      subst e1
      exact ih Dy y5 y6 o h2 K
    have Ke : ∀ (Dy : wg_C) (y5 : Int32) (y6 : Int32), o1 = Sum.inr ((Dy, y5, y6)) → G_X7_reach p l e s m args below meth c E ad S D0 M 57 Dy M [(0, .ref (ad 35)), (1, .ref (ad 1)), (3, .int x3), (4, .int x4), (5, .int y5), (6, .int y6)] [] := fun Dy y5 y6 e1 => by
      subst e1
      exact K Dy y5 y6 (sm_inj (α := (wg_C × Int32 × Int32)) h2).symm
    clear ih K h2
    unfold f_X7_reach_l28 at hb
    have h := hb
    clear hb
    refine wg_iload X 5 dX7_reach_28 rfl ?_
    refine wg_sipush (v := 192) X dX7_reach_30 (by decide) ?_
    refine wg_icmp_gt X 57 dX7_reach_33 (by decide) (fun c6 => ?_) (fun c6 => ?_)
    · have h := if_t c6 h
      exact Ke C x5 x6 (sm_inj h).symm
    · have h := if_f c6 h
      refine wg_iload X 4 dX7_reach_36 rfl ?_
      refine wg_if_eq X 57 dX7_reach_38 (by decide) (fun c7 => ?_) (fun c7 => ?_)
      · have h := if_t c7 h
        exact Ke C x5 x6 (sm_inj h).symm
      · have h := if_f c7 h
        refine wg_aload_n X 0 dX7_reach_41 rfl rfl ?_
        refine wg_aload_n X 1 dX7_reach_42 rfl rfl ?_
        refine wg_iload_n X 2 dX7_reach_43 rfl rfl ?_
        refine wg_iload X 3 dX7_reach_44 rfl ?_
        obtain ⟨r9, C10, h8, h⟩ := bd2_some h
        refine wg_callVi (As := [.ref (ad 1), .int x3, .int x4]) (rest := []) X (c_X7_passAll l E ad S hS N C M x3 x4  h8) T_yX7_passAll k_658 cl7 (SCi hS 35 7 rfl) dX7_reach_46 rfl rfl (Nat.le_of_ble_eq_true rfl) ⟨Nat.le_of_ble_eq_true rfl, Nat.le_of_ble_eq_true rfl⟩ ⟨Nat.zero_le _, Nat.zero_le _⟩ ?_
        refine wg_istore (lv' := [(5, .int r9), (0, .ref (ad 35)), (1, .ref (ad 1)), (3, .int x3), (4, .int x4), (6, .int x6)]) X dX7_reach_49 rfl (by decide) rfl ?_
        obtain ⟨v11, e12, h⟩ := lt_some h
        refine wg_iinc (lv' := [(6, .int v11), (5, .int r9), (0, .ref (ad 35)), (1, .ref (ad 1)), (3, .int x3), (4, .int x4)]) X 5 dX7_reach_51 rfl e12 (by decide) rfl ?_
        refine wg_goto X 28 dX7_reach_54 (by decide) ?_
        refine wg_pick [2, 3, 4, 5, 1, 0] (lv' := [(0, .ref (ad 35)), (1, .ref (ad 1)), (3, .int x3), (4, .int x4), (5, .int r9), (6, .int v11)]) rfl ?_
        exact Kc C10 r9 v11 (sm_inj h).symm
set_option maxHeartbeats 4000000 in
set_option maxRecDepth 100000 in
theorem c_X7_reach (l : Launch) (E : wg_Ev) (ad : Nat → Nat) (S : wg_Sh) (hS : wg_SC S) (N : Nat) (C : wg_C) (M : wg_M) (p2 : Int32) (p3 : Int32) (p4 : Int32)  {D0 : wg_C} (h : f_X7_reach N C p2 p3 p4 = some D0) : wg_Cv l yX7_reach cX7_reach 7 none 4 94 E ad S C M [.ref (ad 35), .ref (ad 1), .int p2, .int p3, .int p4] D0 M := by
  refine wg_start (own := RX7) (by decide +kernel) rfl (Nat.le_of_ble_eq_true rfl) ?_
  intro p e s m below meth c X hr hnm
  refine wg_lv (lv' := [(0, .ref (ad 35)), (1, .ref (ad 1)), (2, .int p2), (3, .int p3), (4, .int p4)]) rfl ?_
  unfold f_X7_reach at h
  refine wg_aload_n X 0 dX7_reach_0 rfl rfl ?_
  refine wg_getR (b := 36) X cl7 (SCi hS 35 7 rfl) 0 (by decide) dX7_reach_1 k_248 rfl (SCr hS 35 0 36 rfl) ?_
  refine wg_bipush (v := 32) X dX7_reach_4 (by decide) ?_
  obtain ⟨C2, h1, h⟩ := bd_some h
  refine wg_callSv (As := [.ref (ad 36), .int (32 : Int32)]) (rest := []) X (c_J7_fill_53178 l E ad S hS N C M 36 6 (32 : Int32) ⟨(SCi hS 36 10 rfl), (SCl hS 36 6 rfl)⟩ h1) T_yJ7_fill_53178 k_595 dX7_reach_6 rfl rfl (Nat.le_of_ble_eq_true rfl) ⟨Nat.le_of_ble_eq_true rfl, Nat.le_of_ble_eq_true rfl⟩ ⟨Nat.zero_le _, Nat.zero_le _⟩ ?_
  refine wg_aload_n X 0 dX7_reach_9 rfl rfl ?_
  refine wg_getR (b := 36) X cl7 (SCi hS 35 7 rfl) 0 (by decide) dX7_reach_10 k_248 rfl (SCr hS 35 0 36 rfl) ?_
  refine wg_iload_n X 2 dX7_reach_13 rfl rfl ?_
  refine wg_bipush (v := 32) X dX7_reach_14 (by decide) ?_
  refine wg_idiv X dX7_reach_16 (by decide) ?_
  refine wg_iload_n X 2 dX7_reach_17 rfl rfl ?_
  refine wg_bipush (v := 32) X dX7_reach_18 (by decide) ?_
  refine wg_irem X dX7_reach_20 (by decide) ?_
  obtain ⟨z3, h⟩ := ck_some h
  obtain ⟨C4, e5, h⟩ := lt_some h
  refine wg_iaste X (SCi hS 36 10 rfl) (SCl hS 36 6 rfl) z3 dX7_reach_21 e5 ?_
  refine wg_iconst (v := 1) X dX7_reach_22 (by decide) ?_
  refine wg_istore (lv' := [(5, .int (1 : Int32)), (0, .ref (ad 35)), (1, .ref (ad 1)), (2, .int p2), (3, .int p3), (4, .int p4)]) X dX7_reach_23 rfl (by decide) rfl ?_
  refine wg_iconst (v := 0) X dX7_reach_25 (by decide) ?_
  refine wg_istore (lv' := [(6, .int (0 : Int32)), (5, .int (1 : Int32)), (0, .ref (ad 35)), (1, .ref (ad 1)), (2, .int p2), (3, .int p3), (4, .int p4)]) X dX7_reach_26 rfl (by decide) rfl ?_
  obtain ⟨o16, h17, h⟩ := bd3_o h
  refine wg_pick [2, 3, 5, 6, 1, 0] (lv' := [(0, .ref (ad 35)), (1, .ref (ad 1)), (3, .int p3), (4, .int p4), (5, .int (1 : Int32)), (6, .int (0 : Int32))]) rfl ?_
  refine L_X7_reach_l28 X hr hS D0 M N   p3 p4  N C4 (1 : Int32) (0 : Int32) o16 h17 (fun C13 v14 v15 e19 => ?_)
  · subst e19
    replace h := bd3_in h
    exact wg_vret X ⟨(sm_inj h), rfl⟩ hr dX7_reach_57
-- WindowsGive.earliest(III)I (('c', 0), 'i', 'i', 'i')
def f_X8_earliest (N : Nat) (C : wg_C) (p1 : Int32) (p2 : Int32) (p3 : Int32) : Option (Int32 × wg_C) :=
  bd (f_X8_isSpot p1) fun r2 =>
  if r2 = 0 then (
    some ((-2 : Int32), C))
  else (
    bd (f_X8_isRoom p2) fun r5 =>
    if r5 = 0 then (
      some ((-2 : Int32), C))
    else (
      bd (f_X8_isSort p3) fun r8 =>
      if r8 = 0 then (
        some ((-2 : Int32), C))
      else (
        bd (f_X7_reach N C p1 p3 (0 : Int32)) fun C11 =>
        ck (inb p2 6) <|
        if (32 : Int32) ≤ (C11 36 p2.toNatClampNeg) then (
          some ((-1 : Int32), C11))
        else (
          ck (inb p2 6) <|
          some ((C11 36 p2.toNatClampNeg), C11)))))
set_option maxHeartbeats 4000000 in
set_option maxRecDepth 100000 in
theorem c_X8_earliest (l : Launch) (E : wg_Ev) (ad : Nat → Nat) (S : wg_Sh) (hS : wg_SC S) (N : Nat) (C : wg_C) (M : wg_M) (p1 : Int32) (p2 : Int32) (p3 : Int32)  {r0 : Int32} {D0 : wg_C} (h : f_X8_earliest N C p1 p2 p3 = some (r0, D0)) : wg_Ci l yX8_earliest cX8_earliest 4 (some .int) 5 120 E ad S C M [.ref (ad 0), .int p1, .int p2, .int p3] r0 D0 M := by
  refine wg_start (own := RX8) (by decide +kernel) rfl (Nat.le_of_ble_eq_true rfl) ?_
  intro p e s m below meth c X hr hnm
  refine wg_lv (lv' := [(0, .ref (ad 0)), (1, .int p1), (2, .int p2), (3, .int p3)]) rfl ?_
  unfold f_X8_earliest at h
  refine wg_iload_n X 1 dX8_earliest_0 rfl rfl ?_
  obtain ⟨r2, h1, h⟩ := bd_some h
  refine wg_callSi (As := [.int p1]) (rest := []) X (c_X8_isSpot l E ad S C M p1  h1) T_yX8_isSpot k_587 dX8_earliest_1 rfl rfl (Nat.le_of_ble_eq_true rfl) ⟨Nat.le_of_ble_eq_true rfl, Nat.le_of_ble_eq_true rfl⟩ ⟨Nat.zero_le _, Nat.zero_le _⟩ ?_
  refine wg_if_eq X 21 dX8_earliest_4 (by decide) (fun c3 => ?_) (fun c3 => ?_)
  · have h := if_t c3 h
    refine wg_bipush (v := -2) X dX8_earliest_21 (by decide) ?_
    exact wg_iret X ⟨(Prod.mk.inj (sm_inj h)).1, (Prod.mk.inj (sm_inj h)).2, rfl⟩ hr dX8_earliest_23
  · have h := if_f c3 h
    refine wg_iload_n X 2 dX8_earliest_7 rfl rfl ?_
    obtain ⟨r5, h4, h⟩ := bd_some h
    refine wg_callSi (As := [.int p2]) (rest := []) X (c_X8_isRoom l E ad S C M p2  h4) T_yX8_isRoom k_535 dX8_earliest_8 rfl rfl (Nat.le_of_ble_eq_true rfl) ⟨Nat.le_of_ble_eq_true rfl, Nat.le_of_ble_eq_true rfl⟩ ⟨Nat.zero_le _, Nat.zero_le _⟩ ?_
    refine wg_if_eq X 21 dX8_earliest_11 (by decide) (fun c6 => ?_) (fun c6 => ?_)
    · have h := if_t c6 h
      refine wg_bipush (v := -2) X dX8_earliest_21 (by decide) ?_
      exact wg_iret X ⟨(Prod.mk.inj (sm_inj h)).1, (Prod.mk.inj (sm_inj h)).2, rfl⟩ hr dX8_earliest_23
    · have h := if_f c6 h
      refine wg_iload_n X 3 dX8_earliest_14 rfl rfl ?_
      obtain ⟨r8, h7, h⟩ := bd_some h
      refine wg_callSi (As := [.int p3]) (rest := []) X (c_X8_isSort l E ad S C M p3  h7) T_yX8_isSort k_554 dX8_earliest_15 rfl rfl (Nat.le_of_ble_eq_true rfl) ⟨Nat.le_of_ble_eq_true rfl, Nat.le_of_ble_eq_true rfl⟩ ⟨Nat.zero_le _, Nat.zero_le _⟩ ?_
      refine wg_if_ne X 24 dX8_earliest_18 (by decide) (fun c9 => ?_) (fun c9 => ?_)
      · have h := if_f c9 h
        refine wg_aload_n X 0 dX8_earliest_24 rfl rfl ?_
        refine wg_getR (b := 35) X cl8 (SCi hS 0 8 rfl) 6 (by decide) dX8_earliest_25 k_478 rfl (SCr hS 0 6 35 rfl) ?_
        refine wg_aload_n X 0 dX8_earliest_28 rfl rfl ?_
        refine wg_getR (b := 1) X cl8 (SCi hS 0 8 rfl) 0 (by decide) dX8_earliest_29 k_472 rfl (SCr hS 0 0 1 rfl) ?_
        refine wg_iload_n X 1 dX8_earliest_32 rfl rfl ?_
        refine wg_iload_n X 3 dX8_earliest_33 rfl rfl ?_
        refine wg_iconst (v := 0) X dX8_earliest_34 (by decide) ?_
        obtain ⟨C11, h10, h⟩ := bd_some h
        refine wg_callVv (As := [.ref (ad 1), .int p1, .int p3, .int (0 : Int32)]) (rest := []) X (c_X7_reach l E ad S hS N C M p1 p3 (0 : Int32)  h10) T_yX7_reach k_654 cl7 (SCi hS 35 7 rfl) dX8_earliest_35 rfl rfl (Nat.le_of_ble_eq_true rfl) ⟨Nat.le_of_ble_eq_true rfl, Nat.le_of_ble_eq_true rfl⟩ ⟨Nat.zero_le _, Nat.zero_le _⟩ ?_
        refine wg_aload_n X 0 dX8_earliest_38 rfl rfl ?_
        refine wg_getR (b := 35) X cl8 (SCi hS 0 8 rfl) 6 (by decide) dX8_earliest_39 k_478 rfl (SCr hS 0 6 35 rfl) ?_
        refine wg_getR (b := 36) X cl7 (SCi hS 35 7 rfl) 0 (by decide) dX8_earliest_42 k_249 rfl (SCr hS 35 0 36 rfl) ?_
        refine wg_iload_n X 2 dX8_earliest_45 rfl rfl ?_
        obtain ⟨z12, h⟩ := ck_some h
        refine wg_iald X (SCi hS 36 10 rfl) (SCl hS 36 6 rfl) z12 dX8_earliest_46 ?_
        refine wg_bipush (v := 32) X dX8_earliest_47 (by decide) ?_
        refine wg_icmp_ge X 64 dX8_earliest_49 (by decide) (fun c13 => ?_) (fun c13 => ?_)
        · have h := if_t c13 h
          refine wg_iconst (v := -1) X dX8_earliest_64 (by decide) ?_
          exact wg_iret X ⟨(Prod.mk.inj (sm_inj h)).1, (Prod.mk.inj (sm_inj h)).2, rfl⟩ hr dX8_earliest_65
        · have h := if_f c13 h
          refine wg_aload_n X 0 dX8_earliest_52 rfl rfl ?_
          refine wg_getR (b := 35) X cl8 (SCi hS 0 8 rfl) 6 (by decide) dX8_earliest_53 k_478 rfl (SCr hS 0 6 35 rfl) ?_
          refine wg_getR (b := 36) X cl7 (SCi hS 35 7 rfl) 0 (by decide) dX8_earliest_56 k_249 rfl (SCr hS 35 0 36 rfl) ?_
          refine wg_iload_n X 2 dX8_earliest_59 rfl rfl ?_
          obtain ⟨z14, h⟩ := ck_some h
          refine wg_iald X (SCi hS 36 10 rfl) (SCl hS 36 6 rfl) z14 dX8_earliest_60 ?_
          refine wg_goto X 65 dX8_earliest_61 (by decide) ?_
          exact wg_iret X ⟨(Prod.mk.inj (sm_inj h)).1, (Prod.mk.inj (sm_inj h)).2, rfl⟩ hr dX8_earliest_65
      · have h := if_t c9 h
        refine wg_bipush (v := -2) X dX8_earliest_21 (by decide) ?_
        exact wg_iret X ⟨(Prod.mk.inj (sm_inj h)).1, (Prod.mk.inj (sm_inj h)).2, rfl⟩ hr dX8_earliest_23
-- WindowsGive$Walk.fewestBackTo(LWindowsGive$House;II)I (('c', 35), ('c', 1), 'i', 'i')
def f_X7_fewestBackTo_l62 (N : Nat) (C : wg_C)  (x2 : Int32) (x3 : Int32) (x5 : Int32) (x6 : Nat) (x4 : Int32) (x7 : Int32) : Option ((Int32 × Int32) ⊕ (Int32 × Int32)) :=
  if (32 : Int32) ≤ x7 then (
    some (.inr (x4, x7)))
  else (
    ck (inb (((C x6 4) * (32 : Int32)) + x7) 192) <|
    lt_ (C 37 (((C x6 4) * (32 : Int32)) + x7).toNatClampNeg) fun v6 =>
    if (1000000000 : Int32) ≤ v6 then (
      lt_ (x7 + (1 : Int32)) fun v9 =>
      some (.inl (x4, v9)))
    else (
      bd (f_X1_passes C x6 x7 x3) fun r12 =>
      if r12 = 0 then (
        lt_ (x7 + (1 : Int32)) fun v14 =>
        some (.inl (x4, v14)))
      else (
        bd (f_X1_leads C x6) fun r17 =>
        bd (f_X1_on C x6 x7) fun r19 =>
        if ((r17 * (32 : Int32)) + r19) = x2 then (
          bd (f_J9_min_7cf53 x4 ((v6 / (1000 : Int32)) + (1 : Int32))) fun r24 =>
          lt_ (x7 + (1 : Int32)) fun v25 =>
          some (.inl (r24, v25)))
        else (
          lt_ (x7 + (1 : Int32)) fun v21 =>
          some (.inl (x4, v21))))))
def f_X7_fewestBackTo_l41 (N : Nat) (C : wg_C)  (x2 : Int32) (x3 : Int32) (x4 : Int32) (x5 : Int32) : Option ((Int32 × Int32) ⊕ (Int32 × Int32)) :=
  if (C 1 2) ≤ x5 then (
    some (.inr (x4, x5)))
  else (
    ck (inb x5 8) <|
    bd2 (lp (fun o => f_X7_fewestBackTo_l62 N C  x2 x3 x5 (4 + x5.toNatClampNeg) o.1 o.2) N (x4, (0 : Int32))) fun v27 v28 =>
    lt_ (x5 + (1 : Int32)) fun v33 =>
    some (.inl (v27, v33)))
def f_X7_fewestBackTo_j38 (N : Nat) (C : wg_C)  (x2 : Int32) (x3 : Int32) (x4 : Int32) : Option Int32 :=
  bd2 (lp (fun o => f_X7_fewestBackTo_l41 N C  x2 x3 o.1 o.2) N (x4, (0 : Int32))) fun v35 v36 =>
  some v35
def f_X7_fewestBackTo (N : Nat) (C : wg_C) (p2 : Int32) (p3 : Int32) : Option Int32 :=
  if (p2 - p2 / (32 : Int32) * (32 : Int32)) ≤ 0 then (
    f_X7_fewestBackTo_j38 N C  p2 p3 (1000000000 : Int32))
  else (
    ck (inb (p2 - (1 : Int32)) 192) <|
    if (1000000000 : Int32) ≤ (C 37 (p2 - (1 : Int32)).toNatClampNeg) then (
      f_X7_fewestBackTo_j38 N C  p2 p3 (1000000000 : Int32))
    else (
      ck (inb (p2 - (1 : Int32)) 192) <|
      lt_ ((C 37 (p2 - (1 : Int32)).toNatClampNeg) / (1000 : Int32)) fun v44 =>
      f_X7_fewestBackTo_j38 N C  p2 p3 v44))
abbrev G_X7_fewestBackTo (p : Program) (l : Launch) (e : Env) (s : State) (m : MethodId) (args : Array Value) (below : List Frame) (meth : Method) (c : Code) (E : wg_Ev) (ad : Nat → Nat) (S : wg_Sh) (r0 : Int32) (C0 : wg_C) (M0 : wg_M) (pc : Nat) (C : wg_C) (M : wg_M) (lv : List (Nat × Value)) (st : List Value) : Prop := wg_G p l e (wg_Rm 2 44) s m args below meth c (MQ below (wg_Qi E ad S r0 C0 M0) args s 0 0 (wg_A E)) 9 E ad S 0 0 pc C M lv st
set_option maxHeartbeats 4000000 in
set_option maxRecDepth 100000 in
theorem L_X7_fewestBackTo_l62 {p : Program} {l : Launch} {e : Env} {s : State} {m : MethodId} {args : Array Value} {below : List Frame} {meth : Method} {c : Code} {E : wg_Ev} {ad : Nat → Nat} {S : wg_Sh} (X : wg_X p s m args meth c cX7_fewestBackTo 9 RX7 E) (hr : meth.sig.returnType = (some .int)) (hS : wg_SC S) (r0 : Int32) (M : wg_M) (N : Nat)  (C : wg_C)  (x2 : Int32) (x3 : Int32) (x5 : Int32) (x6 : Nat) (hx6 : wg_id S x6 1) : ∀ (n : Nat) (x4 : Int32) (x7 : Int32) (o : (Int32 × Int32)), lp (fun o => f_X7_fewestBackTo_l62 N C  x2 x3 x5 x6 o.1 o.2) n (x4, x7) = some o → (∀ (y4 : Int32) (y7 : Int32), o = (y4, y7) → G_X7_fewestBackTo p l e s m args below meth c E ad S r0 C M 146 C M [(0, .ref (ad 35)), (1, .ref (ad 1)), (2, .int x2), (3, .int x3), (4, .int y4), (5, .int x5), (6, .ref (ad x6)), (7, .int y7)] []) → G_X7_fewestBackTo p l e s m args below meth c E ad S r0 C M 62 C M [(0, .ref (ad 35)), (1, .ref (ad 1)), (2, .int x2), (3, .int x3), (4, .int x4), (5, .int x5), (6, .ref (ad x6)), (7, .int x7)] [] := by
  intro n
  induction n with
  | zero => exact fun _ _ o h => (lp_zero h).elim
  | succ n ih =>
    intro x4 x7 o h K
    obtain ⟨o1, hb, h2⟩ := lp_some h
    replace hb : f_X7_fewestBackTo_l62 N C  x2 x3 x5 x6 x4 x7 = some o1 := hb
    clear h
    have Kc : ∀ (y4 : Int32) (y7 : Int32), o1 = Sum.inl (y4, y7) → G_X7_fewestBackTo p l e s m args below meth c E ad S r0 C M 62 C M [(0, .ref (ad 35)), (1, .ref (ad 1)), (2, .int x2), (3, .int x3), (4, .int y4), (5, .int x5), (6, .ref (ad x6)), (7, .int y7)] [] := fun y4 y7 e1 => by
      subst e1
      exact ih y4 y7 o h2 K
    have Ke : ∀ (y4 : Int32) (y7 : Int32), o1 = Sum.inr ((y4, y7)) → G_X7_fewestBackTo p l e s m args below meth c E ad S r0 C M 146 C M [(0, .ref (ad 35)), (1, .ref (ad 1)), (2, .int x2), (3, .int x3), (4, .int y4), (5, .int x5), (6, .ref (ad x6)), (7, .int y7)] [] := fun y4 y7 e1 => by
      subst e1
      exact K y4 y7 (sm_inj (α := (Int32 × Int32)) h2).symm
    clear ih K h2
    unfold f_X7_fewestBackTo_l62 at hb
    have h := hb
    clear hb
    refine wg_iload X 7 dX7_fewestBackTo_62 rfl ?_
    refine wg_bipush (v := 32) X dX7_fewestBackTo_64 (by decide) ?_
    refine wg_icmp_ge X 146 dX7_fewestBackTo_66 (by decide) (fun c4 => ?_) (fun c4 => ?_)
    · have h := if_t c4 h
      exact Ke x4 x7 (sm_inj h).symm
    · have h := if_f c4 h
      refine wg_aload_n X 0 dX7_fewestBackTo_69 rfl rfl ?_
      refine wg_getR (b := 37) X cl7 (SCi hS 35 7 rfl) 1 (by decide) dX7_fewestBackTo_70 k_250 rfl (SCr hS 35 1 37 rfl) ?_
      refine wg_aload X 6 dX7_fewestBackTo_73 rfl ?_
      refine wg_getC X cl1 hx6 4 (by decide) dX7_fewestBackTo_75 k_123 rfl ?_
      refine wg_bipush (v := 32) X dX7_fewestBackTo_78 (by decide) ?_
      refine wg_imul X dX7_fewestBackTo_80 ?_
      refine wg_iload X 7 dX7_fewestBackTo_81 rfl ?_
      refine wg_iadd X dX7_fewestBackTo_83 ?_
      obtain ⟨z5, h⟩ := ck_some h
      refine wg_iald X (SCi hS 37 10 rfl) (SCl hS 37 192 rfl) z5 dX7_fewestBackTo_84 ?_
      obtain ⟨v6, e7, h⟩ := lt_some h
      refine wg_istore (lv' := [(8, .int v6), (0, .ref (ad 35)), (1, .ref (ad 1)), (2, .int x2), (3, .int x3), (4, .int x4), (5, .int x5), (6, .ref (ad x6)), (7, .int x7)]) X dX7_fewestBackTo_85 e7 (by decide) rfl ?_
      refine wg_iload X 0 dX7_fewestBackTo_87 rfl ?_
      refine wg_ldc (v := 1000000000) X dX7_fewestBackTo_89 k_594 ?_
      refine wg_icmp_ge X 140 dX7_fewestBackTo_91 (by decide) (fun c8 => ?_) (fun c8 => ?_)
      · have h := if_t c8 h
        obtain ⟨v9, e10, h⟩ := lt_some h
        refine wg_iinc (lv' := [(7, .int v9), (8, .int v6), (0, .ref (ad 35)), (1, .ref (ad 1)), (2, .int x2), (3, .int x3), (4, .int x4), (5, .int x5), (6, .ref (ad x6))]) X 8 dX7_fewestBackTo_140 rfl e10 (by decide) rfl ?_
        refine wg_goto X 62 dX7_fewestBackTo_143 (by decide) ?_
        refine wg_pick [2, 3, 4, 5, 6, 7, 8, 0] (lv' := [(0, .ref (ad 35)), (1, .ref (ad 1)), (2, .int x2), (3, .int x3), (4, .int x4), (5, .int x5), (6, .ref (ad x6)), (7, .int v9)]) rfl ?_
        exact Kc x4 v9 (sm_inj h).symm
      · have h := if_f c8 h
        refine wg_aload X 7 dX7_fewestBackTo_94 rfl ?_
        refine wg_iload X 8 dX7_fewestBackTo_96 rfl ?_
        refine wg_iload_n X 4 dX7_fewestBackTo_98 rfl rfl ?_
        obtain ⟨r12, h11, h⟩ := bd_some h
        refine wg_callVi (As := [.int x7, .int x3]) (rest := []) X (c_X1_passes l E ad S hS C M x6 x7 x3 hx6 h11) T_yX1_passes k_610 cl1 hx6 dX7_fewestBackTo_99 rfl rfl (Nat.le_of_ble_eq_true rfl) ⟨Nat.le_of_ble_eq_true rfl, Nat.le_of_ble_eq_true rfl⟩ ⟨Nat.zero_le _, Nat.zero_le _⟩ ?_
        refine wg_if_eq X 140 dX7_fewestBackTo_102 (by decide) (fun c13 => ?_) (fun c13 => ?_)
        · have h := if_t c13 h
          obtain ⟨v14, e15, h⟩ := lt_some h
          refine wg_iinc (lv' := [(7, .int v14), (8, .int v6), (0, .ref (ad 35)), (1, .ref (ad 1)), (2, .int x2), (3, .int x3), (4, .int x4), (5, .int x5), (6, .ref (ad x6))]) X 8 dX7_fewestBackTo_140 rfl e15 (by decide) rfl ?_
          refine wg_goto X 62 dX7_fewestBackTo_143 (by decide) ?_
          refine wg_pick [2, 3, 4, 5, 6, 7, 8, 0] (lv' := [(0, .ref (ad 35)), (1, .ref (ad 1)), (2, .int x2), (3, .int x3), (4, .int x4), (5, .int x5), (6, .ref (ad x6)), (7, .int v14)]) rfl ?_
          exact Kc x4 v14 (sm_inj h).symm
        · have h := if_f c13 h
          refine wg_aload X 7 dX7_fewestBackTo_105 rfl ?_
          obtain ⟨r17, h16, h⟩ := bd_some h
          refine wg_callVi (As := []) (rest := []) X (c_X1_leads l E ad S hS C M x6 hx6 h16) T_yX1_leads k_643 cl1 hx6 dX7_fewestBackTo_107 rfl rfl (Nat.le_of_ble_eq_true rfl) ⟨Nat.le_of_ble_eq_true rfl, Nat.le_of_ble_eq_true rfl⟩ ⟨Nat.zero_le _, Nat.zero_le _⟩ ?_
          refine wg_bipush (v := 32) X dX7_fewestBackTo_110 (by decide) ?_
          refine wg_imul X dX7_fewestBackTo_112 ?_
          refine wg_aload X 7 dX7_fewestBackTo_113 rfl ?_
          refine wg_iload X 8 dX7_fewestBackTo_115 rfl ?_
          obtain ⟨r19, h18, h⟩ := bd_some h
          refine wg_callVi (As := [.int x7]) (rest := [.int (r17 * (32 : Int32))]) X (c_X1_on l E ad S hS C M x6 x7 hx6 h18) T_yX1_on k_644 cl1 hx6 dX7_fewestBackTo_117 rfl rfl (Nat.le_of_ble_eq_true rfl) ⟨Nat.le_of_ble_eq_true rfl, Nat.le_of_ble_eq_true rfl⟩ ⟨Nat.zero_le _, Nat.zero_le _⟩ ?_
          refine wg_iadd X dX7_fewestBackTo_120 ?_
          refine wg_iload_n X 3 dX7_fewestBackTo_121 rfl rfl ?_
          refine wg_icmp_ne X 140 dX7_fewestBackTo_122 (by decide) (fun c20 => ?_) (fun c20 => ?_)
          · have h := if_f c20 h
            obtain ⟨v21, e22, h⟩ := lt_some h
            refine wg_iinc (lv' := [(7, .int v21), (8, .int v6), (0, .ref (ad 35)), (1, .ref (ad 1)), (2, .int x2), (3, .int x3), (4, .int x4), (5, .int x5), (6, .ref (ad x6))]) X 8 dX7_fewestBackTo_140 rfl e22 (by decide) rfl ?_
            refine wg_goto X 62 dX7_fewestBackTo_143 (by decide) ?_
            refine wg_pick [2, 3, 4, 5, 6, 7, 8, 0] (lv' := [(0, .ref (ad 35)), (1, .ref (ad 1)), (2, .int x2), (3, .int x3), (4, .int x4), (5, .int x5), (6, .ref (ad x6)), (7, .int v21)]) rfl ?_
            exact Kc x4 v21 (sm_inj h).symm
          · have h := if_t c20 h
            refine wg_iload X 5 dX7_fewestBackTo_125 rfl ?_
            refine wg_iload X 0 dX7_fewestBackTo_127 rfl ?_
            refine wg_sipush (v := 1000) X dX7_fewestBackTo_129 (by decide) ?_
            refine wg_idiv X dX7_fewestBackTo_132 (by decide) ?_
            refine wg_iconst (v := 1) X dX7_fewestBackTo_133 (by decide) ?_
            refine wg_iadd X dX7_fewestBackTo_134 ?_
            obtain ⟨r24, h23, h⟩ := bd_some h
            refine wg_callSi (As := [.int x4, .int ((v6 / (1000 : Int32)) + (1 : Int32))]) (rest := []) X (c_J9_min_7cf53 l E ad S C M x4 ((v6 / (1000 : Int32)) + (1 : Int32))  h23) T_yJ9_min_7cf53 k_675 dX7_fewestBackTo_135 rfl rfl (Nat.le_of_ble_eq_true rfl) ⟨Nat.le_of_ble_eq_true rfl, Nat.le_of_ble_eq_true rfl⟩ ⟨Nat.zero_le _, Nat.zero_le _⟩ ?_
            refine wg_istore (lv' := [(4, .int r24), (8, .int v6), (0, .ref (ad 35)), (1, .ref (ad 1)), (2, .int x2), (3, .int x3), (5, .int x5), (6, .ref (ad x6)), (7, .int x7)]) X dX7_fewestBackTo_138 rfl (by decide) rfl ?_
            obtain ⟨v25, e26, h⟩ := lt_some h
            refine wg_iinc (lv' := [(7, .int v25), (4, .int r24), (8, .int v6), (0, .ref (ad 35)), (1, .ref (ad 1)), (2, .int x2), (3, .int x3), (5, .int x5), (6, .ref (ad x6))]) X 8 dX7_fewestBackTo_140 rfl e26 (by decide) rfl ?_
            refine wg_goto X 62 dX7_fewestBackTo_143 (by decide) ?_
            refine wg_pick [3, 4, 5, 6, 1, 7, 8, 0] (lv' := [(0, .ref (ad 35)), (1, .ref (ad 1)), (2, .int x2), (3, .int x3), (4, .int r24), (5, .int x5), (6, .ref (ad x6)), (7, .int v25)]) rfl ?_
            exact Kc r24 v25 (sm_inj h).symm
set_option maxHeartbeats 4000000 in
set_option maxRecDepth 100000 in
theorem L_X7_fewestBackTo_l41 {p : Program} {l : Launch} {e : Env} {s : State} {m : MethodId} {args : Array Value} {below : List Frame} {meth : Method} {c : Code} {E : wg_Ev} {ad : Nat → Nat} {S : wg_Sh} (X : wg_X p s m args meth c cX7_fewestBackTo 9 RX7 E) (hr : meth.sig.returnType = (some .int)) (hS : wg_SC S) (r0 : Int32) (M : wg_M) (N : Nat)  (C : wg_C)  (x2 : Int32) (x3 : Int32)  : ∀ (n : Nat) (x4 : Int32) (x5 : Int32) (o : (Int32 × Int32)), lp (fun o => f_X7_fewestBackTo_l41 N C  x2 x3 o.1 o.2) n (x4, x5) = some o → (∀ (y4 : Int32) (y5 : Int32), o = (y4, y5) → G_X7_fewestBackTo p l e s m args below meth c E ad S r0 C M 152 C M [(0, .ref (ad 35)), (1, .ref (ad 1)), (2, .int x2), (3, .int x3), (4, .int y4), (5, .int y5)] []) → G_X7_fewestBackTo p l e s m args below meth c E ad S r0 C M 41 C M [(0, .ref (ad 35)), (1, .ref (ad 1)), (2, .int x2), (3, .int x3), (4, .int x4), (5, .int x5)] [] := by
  intro n
  induction n with
  | zero => exact fun _ _ o h => (lp_zero h).elim
  | succ n ih =>
    intro x4 x5 o h K
    obtain ⟨o1, hb, h2⟩ := lp_some h
    replace hb : f_X7_fewestBackTo_l41 N C  x2 x3 x4 x5 = some o1 := hb
    clear h
    have Kc : ∀ (y4 : Int32) (y5 : Int32), o1 = Sum.inl (y4, y5) → G_X7_fewestBackTo p l e s m args below meth c E ad S r0 C M 41 C M [(0, .ref (ad 35)), (1, .ref (ad 1)), (2, .int x2), (3, .int x3), (4, .int y4), (5, .int y5)] [] := fun y4 y5 e1 => by
      subst e1
      exact ih y4 y5 o h2 K
    have Ke : ∀ (y4 : Int32) (y5 : Int32), o1 = Sum.inr ((y4, y5)) → G_X7_fewestBackTo p l e s m args below meth c E ad S r0 C M 152 C M [(0, .ref (ad 35)), (1, .ref (ad 1)), (2, .int x2), (3, .int x3), (4, .int y4), (5, .int y5)] [] := fun y4 y5 e1 => by
      subst e1
      exact K y4 y5 (sm_inj (α := (Int32 × Int32)) h2).symm
    clear ih K h2
    unfold f_X7_fewestBackTo_l41 at hb
    have h := hb
    clear hb
    refine wg_iload X 5 dX7_fewestBackTo_41 rfl ?_
    refine wg_aload_n X 1 dX7_fewestBackTo_43 rfl rfl ?_
    refine wg_getC X cl0 (SCi hS 1 0 rfl) 2 (by decide) dX7_fewestBackTo_44 k_148 rfl ?_
    refine wg_icmp_ge X 152 dX7_fewestBackTo_47 (by decide) (fun c2 => ?_) (fun c2 => ?_)
    · have h := if_t c2 h
      exact Ke x4 x5 (sm_inj h).symm
    · have h := if_f c2 h
      refine wg_aload_n X 1 dX7_fewestBackTo_50 rfl rfl ?_
      refine wg_getR (b := 3) X cl0 (SCi hS 1 0 rfl) 1 (by decide) dX7_fewestBackTo_51 k_145 rfl (SCr hS 1 1 3 rfl) ?_
      refine wg_iload X 5 dX7_fewestBackTo_54 rfl ?_
      obtain ⟨z3, h⟩ := ck_some h
      refine wg_aalS13 (b := 4 + x5.toNatClampNeg) X (SCi hS 3 13 rfl) (SCl hS 3 8 rfl) z3 (SCp hS (inb_lt z3)).1 dX7_fewestBackTo_56 ?_
      refine wg_astore (lv' := [(6, .ref (ad (4 + x5.toNatClampNeg))), (0, .ref (ad 35)), (1, .ref (ad 1)), (2, .int x2), (3, .int x3), (4, .int x4), (5, .int x5)]) X dX7_fewestBackTo_57 rfl (by decide) rfl ?_
      refine wg_iconst (v := 0) X dX7_fewestBackTo_59 (by decide) ?_
      refine wg_istore (lv' := [(7, .int (0 : Int32)), (6, .ref (ad (4 + x5.toNatClampNeg))), (0, .ref (ad 35)), (1, .ref (ad 1)), (2, .int x2), (3, .int x3), (4, .int x4), (5, .int x5)]) X dX7_fewestBackTo_60 rfl (by decide) rfl ?_
      obtain ⟨o29, h30, h⟩ := bd2_o h
      refine wg_pick [2, 3, 4, 5, 6, 7, 1, 0] (lv' := [(0, .ref (ad 35)), (1, .ref (ad 1)), (2, .int x2), (3, .int x3), (4, .int x4), (5, .int x5), (6, .ref (ad (4 + x5.toNatClampNeg))), (7, .int (0 : Int32))]) rfl ?_
      refine L_X7_fewestBackTo_l62 X hr hS r0 M N  C  x2 x3 x5 (4 + x5.toNatClampNeg) ((SCp hS (inb_lt z3)).2.1) N x4 (0 : Int32) o29 h30 (fun v27 v28 e32 => ?_)
      · subst e32
        replace h := bd2_in h
        obtain ⟨v33, e34, h⟩ := lt_some h
        refine wg_iinc (lv' := [(5, .int v33), (0, .ref (ad 35)), (1, .ref (ad 1)), (2, .int x2), (3, .int x3), (4, .int v27), (6, .ref (ad (4 + x5.toNatClampNeg))), (7, .int v28)]) X 5 dX7_fewestBackTo_146 rfl e34 (by decide) rfl ?_
        refine wg_goto X 41 dX7_fewestBackTo_149 (by decide) ?_
        refine wg_pick [1, 2, 3, 4, 5, 0] (lv' := [(0, .ref (ad 35)), (1, .ref (ad 1)), (2, .int x2), (3, .int x3), (4, .int v27), (5, .int v33)]) rfl ?_
        exact Kc v27 v33 (sm_inj h).symm
set_option maxHeartbeats 4000000 in
set_option maxRecDepth 100000 in
theorem J_X7_fewestBackTo_j38 {p : Program} {l : Launch} {e : Env} {s : State} {m : MethodId} {args : Array Value} {below : List Frame} {meth : Method} {c : Code} {E : wg_Ev} {ad : Nat → Nat} {S : wg_Sh} (X : wg_X p s m args meth c cX7_fewestBackTo 9 RX7 E) (hr : meth.sig.returnType = (some .int)) (hS : wg_SC S) (r0 : Int32) (M : wg_M) (N : Nat)  (C : wg_C)  (x2 : Int32) (x3 : Int32) (x4 : Int32)   (h : f_X7_fewestBackTo_j38 N C  x2 x3 x4 = some r0) : G_X7_fewestBackTo p l e s m args below meth c E ad S r0 C M 38 C M [(0, .ref (ad 35)), (1, .ref (ad 1)), (2, .int x2), (3, .int x3), (4, .int x4)] [] := by
  unfold f_X7_fewestBackTo_j38 at h
  refine wg_iconst (v := 0) X dX7_fewestBackTo_38 (by decide) ?_
  refine wg_istore (lv' := [(5, .int (0 : Int32)), (0, .ref (ad 35)), (1, .ref (ad 1)), (2, .int x2), (3, .int x3), (4, .int x4)]) X dX7_fewestBackTo_39 rfl (by decide) rfl ?_
  obtain ⟨o37, h38, h⟩ := bd2_o h
  refine wg_pick [1, 2, 3, 4, 5, 0] (lv' := [(0, .ref (ad 35)), (1, .ref (ad 1)), (2, .int x2), (3, .int x3), (4, .int x4), (5, .int (0 : Int32))]) rfl ?_
  refine L_X7_fewestBackTo_l41 X hr hS r0 M N  C  x2 x3  N x4 (0 : Int32) o37 h38 (fun v35 v36 e40 => ?_)
  · subst e40
    replace h := bd2_in h
    refine wg_iload X 4 dX7_fewestBackTo_152 rfl ?_
    exact wg_iret X ⟨(sm_inj h), rfl, rfl⟩ hr dX7_fewestBackTo_154
set_option maxHeartbeats 4000000 in
set_option maxRecDepth 100000 in
theorem c_X7_fewestBackTo (l : Launch) (E : wg_Ev) (ad : Nat → Nat) (S : wg_Sh) (hS : wg_SC S) (N : Nat) (C : wg_C) (M : wg_M) (p2 : Int32) (p3 : Int32)  {r0 : Int32} (h : f_X7_fewestBackTo N C p2 p3 = some r0) : wg_Ci l yX7_fewestBackTo cX7_fewestBackTo 9 (some .int) 2 44 E ad S C M [.ref (ad 35), .ref (ad 1), .int p2, .int p3] r0 C M := by
  refine wg_start (own := RX7) (by decide +kernel) rfl (Nat.le_of_ble_eq_true rfl) ?_
  intro p e s m below meth c X hr hnm
  refine wg_lv (lv' := [(0, .ref (ad 35)), (1, .ref (ad 1)), (2, .int p2), (3, .int p3)]) rfl ?_
  unfold f_X7_fewestBackTo at h
  refine wg_ldc (v := 1000000000) X dX7_fewestBackTo_0 k_594 ?_
  refine wg_istore (lv' := [(4, .int (1000000000 : Int32)), (0, .ref (ad 35)), (1, .ref (ad 1)), (2, .int p2), (3, .int p3)]) X dX7_fewestBackTo_2 rfl (by decide) rfl ?_
  refine wg_iload_n X 3 dX7_fewestBackTo_4 rfl rfl ?_
  refine wg_bipush (v := 32) X dX7_fewestBackTo_5 (by decide) ?_
  refine wg_irem X dX7_fewestBackTo_7 (by decide) ?_
  refine wg_if_le X 38 dX7_fewestBackTo_8 (by decide) (fun c1 => ?_) (fun c1 => ?_)
  · have h := if_t c1 h
    refine wg_pick [1, 2, 3, 4, 0] (lv' := [(0, .ref (ad 35)), (1, .ref (ad 1)), (2, .int p2), (3, .int p3), (4, .int (1000000000 : Int32))]) rfl ?_
    exact J_X7_fewestBackTo_j38 X hr hS r0 M N  C  p2 p3 (1000000000 : Int32)   h
  · have h := if_f c1 h
    refine wg_aload_n X 1 dX7_fewestBackTo_11 rfl rfl ?_
    refine wg_getR (b := 37) X cl7 (SCi hS 35 7 rfl) 1 (by decide) dX7_fewestBackTo_12 k_250 rfl (SCr hS 35 1 37 rfl) ?_
    refine wg_iload_n X 3 dX7_fewestBackTo_15 rfl rfl ?_
    refine wg_iconst (v := 1) X dX7_fewestBackTo_16 (by decide) ?_
    refine wg_isub X dX7_fewestBackTo_17 ?_
    obtain ⟨z41, h⟩ := ck_some h
    refine wg_iald X (SCi hS 37 10 rfl) (SCl hS 37 192 rfl) z41 dX7_fewestBackTo_18 ?_
    refine wg_ldc (v := 1000000000) X dX7_fewestBackTo_19 k_594 ?_
    refine wg_icmp_ge X 38 dX7_fewestBackTo_21 (by decide) (fun c42 => ?_) (fun c42 => ?_)
    · have h := if_t c42 h
      refine wg_pick [1, 2, 3, 4, 0] (lv' := [(0, .ref (ad 35)), (1, .ref (ad 1)), (2, .int p2), (3, .int p3), (4, .int (1000000000 : Int32))]) rfl ?_
      exact J_X7_fewestBackTo_j38 X hr hS r0 M N  C  p2 p3 (1000000000 : Int32)   h
    · have h := if_f c42 h
      refine wg_aload_n X 1 dX7_fewestBackTo_24 rfl rfl ?_
      refine wg_getR (b := 37) X cl7 (SCi hS 35 7 rfl) 1 (by decide) dX7_fewestBackTo_25 k_250 rfl (SCr hS 35 1 37 rfl) ?_
      refine wg_iload_n X 3 dX7_fewestBackTo_28 rfl rfl ?_
      refine wg_iconst (v := 1) X dX7_fewestBackTo_29 (by decide) ?_
      refine wg_isub X dX7_fewestBackTo_30 ?_
      obtain ⟨z43, h⟩ := ck_some h
      refine wg_iald X (SCi hS 37 10 rfl) (SCl hS 37 192 rfl) z43 dX7_fewestBackTo_31 ?_
      refine wg_sipush (v := 1000) X dX7_fewestBackTo_32 (by decide) ?_
      refine wg_idiv X dX7_fewestBackTo_35 (by decide) ?_
      obtain ⟨v44, e45, h⟩ := lt_some h
      refine wg_istore (lv' := [(4, .int v44), (0, .ref (ad 35)), (1, .ref (ad 1)), (2, .int p2), (3, .int p3)]) X dX7_fewestBackTo_36 e45 (by decide) rfl ?_
      refine wg_pick [1, 2, 3, 4, 0] (lv' := [(0, .ref (ad 35)), (1, .ref (ad 1)), (2, .int p2), (3, .int p3), (4, .int v44)]) rfl ?_
      exact J_X7_fewestBackTo_j38 X hr hS r0 M N  C  p2 p3 v44   h
-- WindowsGive.loop(II)I (('c', 0), 'i', 'i')
def f_X8_loop (N : Nat) (S : wg_Sh) (C : wg_C) (p1 : Int32) (p2 : Int32) : Option (Int32 × wg_C) :=
  bd (f_X8_isSpot p1) fun r2 =>
  if r2 = 0 then (
    some ((-2 : Int32), C))
  else (
    bd (f_X8_isSort p2) fun r5 =>
    if r5 = 0 then (
      some ((-2 : Int32), C))
    else (
      bd (f_X7_search N S C p1 p2) fun C8 =>
      bd (f_X7_fewestBackTo N C8 p1 p2) fun r10 =>
      if r10 < (1000000000 : Int32) then (
        some (r10, C8))
      else (
        some ((-1 : Int32), C8))))
set_option maxHeartbeats 4000000 in
set_option maxRecDepth 100000 in
theorem c_X8_loop (l : Launch) (E : wg_Ev) (ad : Nat → Nat) (S : wg_Sh) (hS : wg_SC S) (N : Nat) (C : wg_C) (M : wg_M) (p1 : Int32) (p2 : Int32)  {r0 : Int32} {D0 : wg_C} (h : f_X8_loop N S C p1 p2 = some (r0, D0)) : wg_Ci l yX8_loop cX8_loop 4 (some .int) 4 99 E ad S C M [.ref (ad 0), .int p1, .int p2] r0 D0 M := by
  refine wg_start (own := RX8) (by decide +kernel) rfl (Nat.le_of_ble_eq_true rfl) ?_
  intro p e s m below meth c X hr hnm
  refine wg_lv (lv' := [(0, .ref (ad 0)), (1, .int p1), (2, .int p2)]) rfl ?_
  unfold f_X8_loop at h
  refine wg_iload_n X 1 dX8_loop_0 rfl rfl ?_
  obtain ⟨r2, h1, h⟩ := bd_some h
  refine wg_callSi (As := [.int p1]) (rest := []) X (c_X8_isSpot l E ad S C M p1  h1) T_yX8_isSpot k_587 dX8_loop_1 rfl rfl (Nat.le_of_ble_eq_true rfl) ⟨Nat.le_of_ble_eq_true rfl, Nat.le_of_ble_eq_true rfl⟩ ⟨Nat.zero_le _, Nat.zero_le _⟩ ?_
  refine wg_if_eq X 14 dX8_loop_4 (by decide) (fun c3 => ?_) (fun c3 => ?_)
  · have h := if_t c3 h
    refine wg_bipush (v := -2) X dX8_loop_14 (by decide) ?_
    exact wg_iret X ⟨(Prod.mk.inj (sm_inj h)).1, (Prod.mk.inj (sm_inj h)).2, rfl⟩ hr dX8_loop_16
  · have h := if_f c3 h
    refine wg_iload_n X 2 dX8_loop_7 rfl rfl ?_
    obtain ⟨r5, h4, h⟩ := bd_some h
    refine wg_callSi (As := [.int p2]) (rest := []) X (c_X8_isSort l E ad S C M p2  h4) T_yX8_isSort k_554 dX8_loop_8 rfl rfl (Nat.le_of_ble_eq_true rfl) ⟨Nat.le_of_ble_eq_true rfl, Nat.le_of_ble_eq_true rfl⟩ ⟨Nat.zero_le _, Nat.zero_le _⟩ ?_
    refine wg_if_ne X 17 dX8_loop_11 (by decide) (fun c6 => ?_) (fun c6 => ?_)
    · have h := if_f c6 h
      refine wg_aload_n X 0 dX8_loop_17 rfl rfl ?_
      refine wg_getR (b := 35) X cl8 (SCi hS 0 8 rfl) 6 (by decide) dX8_loop_18 k_478 rfl (SCr hS 0 6 35 rfl) ?_
      refine wg_aload_n X 0 dX8_loop_21 rfl rfl ?_
      refine wg_getR (b := 1) X cl8 (SCi hS 0 8 rfl) 0 (by decide) dX8_loop_22 k_472 rfl (SCr hS 0 0 1 rfl) ?_
      refine wg_null X dX8_loop_25 ?_
      refine wg_iload_n X 1 dX8_loop_26 rfl rfl ?_
      refine wg_iload_n X 2 dX8_loop_27 rfl rfl ?_
      obtain ⟨C8, h7, h⟩ := bd_some h
      refine wg_callVv (As := [.ref (ad 1), .null, .int p1, .int p2]) (rest := []) X (c_X7_search l E ad S hS N C M p1 p2  h7) T_yX7_search k_590 cl7 (SCi hS 35 7 rfl) dX8_loop_28 rfl rfl (Nat.le_of_ble_eq_true rfl) ⟨Nat.le_of_ble_eq_true rfl, Nat.le_of_ble_eq_true rfl⟩ ⟨Nat.zero_le _, Nat.zero_le _⟩ ?_
      refine wg_aload_n X 0 dX8_loop_31 rfl rfl ?_
      refine wg_getR (b := 35) X cl8 (SCi hS 0 8 rfl) 6 (by decide) dX8_loop_32 k_478 rfl (SCr hS 0 6 35 rfl) ?_
      refine wg_aload_n X 0 dX8_loop_35 rfl rfl ?_
      refine wg_getR (b := 1) X cl8 (SCi hS 0 8 rfl) 0 (by decide) dX8_loop_36 k_472 rfl (SCr hS 0 0 1 rfl) ?_
      refine wg_iload_n X 1 dX8_loop_39 rfl rfl ?_
      refine wg_iload_n X 2 dX8_loop_40 rfl rfl ?_
      obtain ⟨r10, h9, h⟩ := bd_some h
      refine wg_callVi (As := [.ref (ad 1), .int p1, .int p2]) (rest := []) X (c_X7_fewestBackTo l E ad S hS N C8 M p1 p2  h9) T_yX7_fewestBackTo k_671 cl7 (SCi hS 35 7 rfl) dX8_loop_41 rfl rfl (Nat.le_of_ble_eq_true rfl) ⟨Nat.le_of_ble_eq_true rfl, Nat.le_of_ble_eq_true rfl⟩ ⟨Nat.zero_le _, Nat.zero_le _⟩ ?_
      refine wg_istore_n (lv' := [(3, .int r10), (0, .ref (ad 0)), (1, .int p1), (2, .int p2)]) X dX8_loop_44 rfl rfl (by decide) rfl ?_
      refine wg_iload_n X 0 dX8_loop_45 rfl rfl ?_
      refine wg_ldc (v := 1000000000) X dX8_loop_46 k_645 ?_
      refine wg_icmp_lt X 55 dX8_loop_48 (by decide) (fun c11 => ?_) (fun c11 => ?_)
      · have h := if_t c11 h
        refine wg_iload_n X 0 dX8_loop_55 rfl rfl ?_
        exact wg_iret X ⟨(Prod.mk.inj (sm_inj h)).1, (Prod.mk.inj (sm_inj h)).2, rfl⟩ hr dX8_loop_56
      · have h := if_f c11 h
        refine wg_iconst (v := -1) X dX8_loop_51 (by decide) ?_
        refine wg_goto X 56 dX8_loop_52 (by decide) ?_
        exact wg_iret X ⟨(Prod.mk.inj (sm_inj h)).1, (Prod.mk.inj (sm_inj h)).2, rfl⟩ hr dX8_loop_56
    · have h := if_t c6 h
      refine wg_bipush (v := -2) X dX8_loop_14 (by decide) ?_
      exact wg_iret X ⟨(Prod.mk.inj (sm_inj h)).1, (Prod.mk.inj (sm_inj h)).2, rfl⟩ hr dX8_loop_16
-- WindowsGive.spots(II)I (('c', 0), 'i', 'i')
def f_X8_spots_l36 (N : Nat) (C : wg_C)   (x3 : Int32) (x4 : Int32) : Option ((Int32 × Int32) ⊕ (Int32 × Int32)) :=
  if (6 : Int32) ≤ x4 then (
    some (.inr (x3, x4)))
  else (
    ck (inb x4 6) <|
    lt_ (x3 + ((32 : Int32) - (C 36 x4.toNatClampNeg))) fun v11 =>
    lt_ (x4 + (1 : Int32)) fun v13 =>
    some (.inl (v11, v13)))
def f_X8_spots (N : Nat) (C : wg_C) (p1 : Int32) (p2 : Int32) : Option (Int32 × wg_C) :=
  bd (f_X8_isSpot p1) fun r2 =>
  if r2 = 0 then (
    some ((-2 : Int32), C))
  else (
    bd (f_X8_isSort p2) fun r5 =>
    if r5 = 0 then (
      some ((-2 : Int32), C))
    else (
      bd (f_X7_reach N C p1 p2 (0 : Int32)) fun C8 =>
      bd2 (lp (fun o => f_X8_spots_l36 N C8   o.1 o.2) N ((0 : Int32), (0 : Int32))) fun v15 v16 =>
      some (v15, C8)))
abbrev G_X8_spots (p : Program) (l : Launch) (e : Env) (s : State) (m : MethodId) (args : Array Value) (below : List Frame) (meth : Method) (c : Code) (E : wg_Ev) (ad : Nat → Nat) (S : wg_Sh) (r0 : Int32) (C0 : wg_C) (M0 : wg_M) (pc : Nat) (C : wg_C) (M : wg_M) (lv : List (Nat × Value)) (st : List Value) : Prop := wg_G p l e (wg_Rm 5 120) s m args below meth c (MQ below (wg_Qi E ad S r0 C0 M0) args s 0 0 (wg_A E)) 5 E ad S 0 0 pc C M lv st
set_option maxHeartbeats 4000000 in
set_option maxRecDepth 100000 in
theorem L_X8_spots_l36 {p : Program} {l : Launch} {e : Env} {s : State} {m : MethodId} {args : Array Value} {below : List Frame} {meth : Method} {c : Code} {E : wg_Ev} {ad : Nat → Nat} {S : wg_Sh} (X : wg_X p s m args meth c cX8_spots 5 RX8 E) (hr : meth.sig.returnType = (some .int)) (hS : wg_SC S) (r0 : Int32) (D0 : wg_C) (M : wg_M) (N : Nat)  (C : wg_C)    : ∀ (n : Nat) (x3 : Int32) (x4 : Int32) (o : (Int32 × Int32)), lp (fun o => f_X8_spots_l36 N C   o.1 o.2) n (x3, x4) = some o → (∀ (y3 : Int32) (y4 : Int32), o = (y3, y4) → G_X8_spots p l e s m args below meth c E ad S r0 D0 M 65 C M [(0, .ref (ad 0)), (3, .int y3), (4, .int y4)] []) → G_X8_spots p l e s m args below meth c E ad S r0 D0 M 36 C M [(0, .ref (ad 0)), (3, .int x3), (4, .int x4)] [] := by
  intro n
  induction n with
  | zero => exact fun _ _ o h => (lp_zero h).elim
  | succ n ih =>
    intro x3 x4 o h K
    obtain ⟨o1, hb, h2⟩ := lp_some h
    replace hb : f_X8_spots_l36 N C   x3 x4 = some o1 := hb
    clear h
    have Kc : ∀ (y3 : Int32) (y4 : Int32), o1 = Sum.inl (y3, y4) → G_X8_spots p l e s m args below meth c E ad S r0 D0 M 36 C M [(0, .ref (ad 0)), (3, .int y3), (4, .int y4)] [] := fun y3 y4 e1 => by
      subst e1
      exact ih y3 y4 o h2 K
    have Ke : ∀ (y3 : Int32) (y4 : Int32), o1 = Sum.inr ((y3, y4)) → G_X8_spots p l e s m args below meth c E ad S r0 D0 M 65 C M [(0, .ref (ad 0)), (3, .int y3), (4, .int y4)] [] := fun y3 y4 e1 => by
      subst e1
      exact K y3 y4 (sm_inj (α := (Int32 × Int32)) h2).symm
    clear ih K h2
    unfold f_X8_spots_l36 at hb
    have h := hb
    clear hb
    refine wg_iload X 2 dX8_spots_36 rfl ?_
    refine wg_bipush (v := 6) X dX8_spots_38 (by decide) ?_
    refine wg_icmp_ge X 65 dX8_spots_40 (by decide) (fun c9 => ?_) (fun c9 => ?_)
    · have h := if_t c9 h
      exact Ke x3 x4 (sm_inj h).symm
    · have h := if_f c9 h
      refine wg_iload_n X 1 dX8_spots_43 rfl rfl ?_
      refine wg_bipush (v := 32) X dX8_spots_44 (by decide) ?_
      refine wg_aload_n X 0 dX8_spots_46 rfl rfl ?_
      refine wg_getR (b := 35) X cl8 (SCi hS 0 8 rfl) 6 (by decide) dX8_spots_47 k_478 rfl (SCr hS 0 6 35 rfl) ?_
      refine wg_getR (b := 36) X cl7 (SCi hS 35 7 rfl) 0 (by decide) dX8_spots_50 k_249 rfl (SCr hS 35 0 36 rfl) ?_
      refine wg_iload X 2 dX8_spots_53 rfl ?_
      obtain ⟨z10, h⟩ := ck_some h
      refine wg_iald X (SCi hS 36 10 rfl) (SCl hS 36 6 rfl) z10 dX8_spots_55 ?_
      refine wg_isub X dX8_spots_56 ?_
      refine wg_iadd X dX8_spots_57 ?_
      obtain ⟨v11, e12, h⟩ := lt_some h
      refine wg_istore_n (lv' := [(3, .int v11), (0, .ref (ad 0)), (4, .int x4)]) X dX8_spots_58 rfl e12 (by decide) rfl ?_
      obtain ⟨v13, e14, h⟩ := lt_some h
      refine wg_iinc (lv' := [(4, .int v13), (3, .int v11), (0, .ref (ad 0))]) X 2 dX8_spots_59 rfl e14 (by decide) rfl ?_
      refine wg_goto X 36 dX8_spots_62 (by decide) ?_
      refine wg_pick [2, 1, 0] (lv' := [(0, .ref (ad 0)), (3, .int v11), (4, .int v13)]) rfl ?_
      exact Kc v11 v13 (sm_inj h).symm
set_option maxHeartbeats 4000000 in
set_option maxRecDepth 100000 in
theorem c_X8_spots (l : Launch) (E : wg_Ev) (ad : Nat → Nat) (S : wg_Sh) (hS : wg_SC S) (N : Nat) (C : wg_C) (M : wg_M) (p1 : Int32) (p2 : Int32)  {r0 : Int32} {D0 : wg_C} (h : f_X8_spots N C p1 p2 = some (r0, D0)) : wg_Ci l yX8_spots cX8_spots 5 (some .int) 5 120 E ad S C M [.ref (ad 0), .int p1, .int p2] r0 D0 M := by
  refine wg_start (own := RX8) (by decide +kernel) rfl (Nat.le_of_ble_eq_true rfl) ?_
  intro p e s m below meth c X hr hnm
  refine wg_lv (lv' := [(0, .ref (ad 0)), (1, .int p1), (2, .int p2)]) rfl ?_
  unfold f_X8_spots at h
  refine wg_iload_n X 1 dX8_spots_0 rfl rfl ?_
  obtain ⟨r2, h1, h⟩ := bd_some h
  refine wg_callSi (As := [.int p1]) (rest := []) X (c_X8_isSpot l E ad S C M p1  h1) T_yX8_isSpot k_587 dX8_spots_1 rfl rfl (Nat.le_of_ble_eq_true rfl) ⟨Nat.le_of_ble_eq_true rfl, Nat.le_of_ble_eq_true rfl⟩ ⟨Nat.zero_le _, Nat.zero_le _⟩ ?_
  refine wg_if_eq X 14 dX8_spots_4 (by decide) (fun c3 => ?_) (fun c3 => ?_)
  · have h := if_t c3 h
    refine wg_bipush (v := -2) X dX8_spots_14 (by decide) ?_
    exact wg_iret X ⟨(Prod.mk.inj (sm_inj h)).1, (Prod.mk.inj (sm_inj h)).2, rfl⟩ hr dX8_spots_16
  · have h := if_f c3 h
    refine wg_iload_n X 2 dX8_spots_7 rfl rfl ?_
    obtain ⟨r5, h4, h⟩ := bd_some h
    refine wg_callSi (As := [.int p2]) (rest := []) X (c_X8_isSort l E ad S C M p2  h4) T_yX8_isSort k_554 dX8_spots_8 rfl rfl (Nat.le_of_ble_eq_true rfl) ⟨Nat.le_of_ble_eq_true rfl, Nat.le_of_ble_eq_true rfl⟩ ⟨Nat.zero_le _, Nat.zero_le _⟩ ?_
    refine wg_if_ne X 17 dX8_spots_11 (by decide) (fun c6 => ?_) (fun c6 => ?_)
    · have h := if_f c6 h
      refine wg_aload_n X 0 dX8_spots_17 rfl rfl ?_
      refine wg_getR (b := 35) X cl8 (SCi hS 0 8 rfl) 6 (by decide) dX8_spots_18 k_478 rfl (SCr hS 0 6 35 rfl) ?_
      refine wg_aload_n X 0 dX8_spots_21 rfl rfl ?_
      refine wg_getR (b := 1) X cl8 (SCi hS 0 8 rfl) 0 (by decide) dX8_spots_22 k_472 rfl (SCr hS 0 0 1 rfl) ?_
      refine wg_iload_n X 1 dX8_spots_25 rfl rfl ?_
      refine wg_iload_n X 2 dX8_spots_26 rfl rfl ?_
      refine wg_iconst (v := 0) X dX8_spots_27 (by decide) ?_
      obtain ⟨C8, h7, h⟩ := bd_some h
      refine wg_callVv (As := [.ref (ad 1), .int p1, .int p2, .int (0 : Int32)]) (rest := []) X (c_X7_reach l E ad S hS N C M p1 p2 (0 : Int32)  h7) T_yX7_reach k_654 cl7 (SCi hS 35 7 rfl) dX8_spots_28 rfl rfl (Nat.le_of_ble_eq_true rfl) ⟨Nat.le_of_ble_eq_true rfl, Nat.le_of_ble_eq_true rfl⟩ ⟨Nat.zero_le _, Nat.zero_le _⟩ ?_
      refine wg_iconst (v := 0) X dX8_spots_31 (by decide) ?_
      refine wg_istore_n (lv' := [(3, .int (0 : Int32)), (0, .ref (ad 0)), (1, .int p1), (2, .int p2)]) X dX8_spots_32 rfl rfl (by decide) rfl ?_
      refine wg_iconst (v := 0) X dX8_spots_33 (by decide) ?_
      refine wg_istore (lv' := [(4, .int (0 : Int32)), (3, .int (0 : Int32)), (0, .ref (ad 0)), (1, .int p1), (2, .int p2)]) X dX8_spots_34 rfl (by decide) rfl ?_
      obtain ⟨o17, h18, h⟩ := bd2_o h
      refine wg_pick [2, 1, 0] (lv' := [(0, .ref (ad 0)), (3, .int (0 : Int32)), (4, .int (0 : Int32))]) rfl ?_
      refine L_X8_spots_l36 X hr hS r0 D0 M N  C8    N (0 : Int32) (0 : Int32) o17 h18 (fun v15 v16 e20 => ?_)
      · subst e20
        replace h := bd2_in h
        refine wg_iload_n X 1 dX8_spots_65 rfl rfl ?_
        exact wg_iret X ⟨(Prod.mk.inj (sm_inj h)).1, (Prod.mk.inj (sm_inj h)).2, rfl⟩ hr dX8_spots_66
    · have h := if_t c6 h
      refine wg_bipush (v := -2) X dX8_spots_14 (by decide) ?_
      exact wg_iret X ⟨(Prod.mk.inj (sm_inj h)).1, (Prod.mk.inj (sm_inj h)).2, rfl⟩ hr dX8_spots_16
-- WindowsGive$Walk.comes(LWindowsGive$House;IIII)Z (('c', 35), ('c', 1), 'i', 'i', 'i', 'i')
def f_X7_comes (N : Nat) (C : wg_C) (p2 : Int32) (p3 : Int32) (p4 : Int32) (p5 : Int32) : Option (Int32 × wg_C) :=
  bd (f_X7_reach N C p2 p4 p5) fun C2 =>
  ck (inb (p3 / (32 : Int32)) 6) <|
  if (p3 - p3 / (32 : Int32) * (32 : Int32)) < (C2 36 (p3 / (32 : Int32)).toNatClampNeg) then (
    some ((0 : Int32), C2))
  else (
    some ((1 : Int32), C2))
set_option maxHeartbeats 4000000 in
set_option maxRecDepth 100000 in
theorem c_X7_comes (l : Launch) (E : wg_Ev) (ad : Nat → Nat) (S : wg_Sh) (hS : wg_SC S) (N : Nat) (C : wg_C) (M : wg_M) (p2 : Int32) (p3 : Int32) (p4 : Int32) (p5 : Int32)  {r0 : Int32} {D0 : wg_C} (h : f_X7_comes N C p2 p3 p4 p5 = some (r0, D0)) : wg_Ci l yX7_comes cX7_comes 6 (some .boolean) 5 120 E ad S C M [.ref (ad 35), .ref (ad 1), .int p2, .int p3, .int p4, .int p5] r0 D0 M := by
  refine wg_start (own := RX7) (by decide +kernel) rfl (Nat.le_of_ble_eq_true rfl) ?_
  intro p e s m below meth c X hr hnm
  refine wg_lv (lv' := [(0, .ref (ad 35)), (1, .ref (ad 1)), (2, .int p2), (3, .int p3), (4, .int p4), (5, .int p5)]) rfl ?_
  unfold f_X7_comes at h
  refine wg_aload_n X 0 dX7_comes_0 rfl rfl ?_
  refine wg_aload_n X 1 dX7_comes_1 rfl rfl ?_
  refine wg_iload_n X 2 dX7_comes_2 rfl rfl ?_
  refine wg_iload X 4 dX7_comes_3 rfl ?_
  refine wg_iload X 5 dX7_comes_5 rfl ?_
  obtain ⟨C2, h1, h⟩ := bd_some h
  refine wg_callVv (As := [.ref (ad 1), .int p2, .int p4, .int p5]) (rest := []) X (c_X7_reach l E ad S hS N C M p2 p4 p5  h1) T_yX7_reach k_692 cl7 (SCi hS 35 7 rfl) dX7_comes_7 rfl rfl (Nat.le_of_ble_eq_true rfl) ⟨Nat.le_of_ble_eq_true rfl, Nat.le_of_ble_eq_true rfl⟩ ⟨Nat.zero_le _, Nat.zero_le _⟩ ?_
  refine wg_aload_n X 0 dX7_comes_10 rfl rfl ?_
  refine wg_getR (b := 36) X cl7 (SCi hS 35 7 rfl) 0 (by decide) dX7_comes_11 k_248 rfl (SCr hS 35 0 36 rfl) ?_
  refine wg_iload_n X 3 dX7_comes_14 rfl rfl ?_
  refine wg_bipush (v := 32) X dX7_comes_15 (by decide) ?_
  refine wg_idiv X dX7_comes_17 (by decide) ?_
  obtain ⟨z3, h⟩ := ck_some h
  refine wg_iald X (SCi hS 36 10 rfl) (SCl hS 36 6 rfl) z3 dX7_comes_18 ?_
  refine wg_iload_n X 3 dX7_comes_19 rfl rfl ?_
  refine wg_bipush (v := 32) X dX7_comes_20 (by decide) ?_
  refine wg_irem X dX7_comes_22 (by decide) ?_
  refine wg_icmp_gt X 30 dX7_comes_23 (by decide) (fun c4 => ?_) (fun c4 => ?_)
  · have h := if_t c4 h
    refine wg_iconst (v := 0) X dX7_comes_30 (by decide) ?_
    exact wg_zret X ⟨(Prod.mk.inj (sm_inj h)).1, (Prod.mk.inj (sm_inj h)).2, rfl⟩ hr (by decide) dX7_comes_31
  · have h := if_f c4 h
    refine wg_iconst (v := 1) X dX7_comes_26 (by decide) ?_
    refine wg_goto X 31 dX7_comes_27 (by decide) ?_
    exact wg_zret X ⟨(Prod.mk.inj (sm_inj h)).1, (Prod.mk.inj (sm_inj h)).2, rfl⟩ hr (by decide) dX7_comes_31
-- WindowsGive.neededAlone(III)I (('c', 0), 'i', 'i', 'i')
def f_X8_neededAlone_l6 (N : Nat)  (x1 : Int32) (x2 : Int32) (x3 : Int32) (C : wg_C) (x4 : Int32) (x5 : Int32) : Option ((wg_C × Int32 × Int32) ⊕ (wg_C × Int32 × Int32)) :=
  if (C 1 2) ≤ x5 then (
    some (.inr (C, x4, x5)))
  else (
    bd2 (f_X7_comes N C x1 x2 x3 ((1 : Int32) <<< (x5 &&& 31))) fun r3 C4 =>
    if r3 = 0 then (
      lt_ (x4 ||| ((1 : Int32) <<< (x5 &&& 31))) fun v8 =>
      lt_ (x5 + (1 : Int32)) fun v10 =>
      some (.inl (C4, v8, v10)))
    else (
      lt_ (x5 + (1 : Int32)) fun v6 =>
      some (.inl (C4, x4, v6))))
def f_X8_neededAlone (N : Nat) (C : wg_C) (p1 : Int32) (p2 : Int32) (p3 : Int32) : Option (Int32 × wg_C) :=
  bd3 (lp (fun o => f_X8_neededAlone_l6 N  p1 p2 p3 o.1 o.2.1 o.2.2) N (C, (0 : Int32), (0 : Int32))) fun C12 v13 v14 =>
  some (v13, C12)
abbrev G_X8_neededAlone (p : Program) (l : Launch) (e : Env) (s : State) (m : MethodId) (args : Array Value) (below : List Frame) (meth : Method) (c : Code) (E : wg_Ev) (ad : Nat → Nat) (S : wg_Sh) (r0 : Int32) (C0 : wg_C) (M0 : wg_M) (pc : Nat) (C : wg_C) (M : wg_M) (lv : List (Nat × Value)) (st : List Value) : Prop := wg_G p l e (wg_Rm 6 145) s m args below meth c (MQ below (wg_Qi E ad S r0 C0 M0) args s 0 0 (wg_A E)) 6 E ad S 0 0 pc C M lv st
set_option maxHeartbeats 4000000 in
set_option maxRecDepth 100000 in
theorem L_X8_neededAlone_l6 {p : Program} {l : Launch} {e : Env} {s : State} {m : MethodId} {args : Array Value} {below : List Frame} {meth : Method} {c : Code} {E : wg_Ev} {ad : Nat → Nat} {S : wg_Sh} (X : wg_X p s m args meth c cX8_neededAlone 6 RX8 E) (hr : meth.sig.returnType = (some .int)) (hS : wg_SC S) (r0 : Int32) (D0 : wg_C) (M : wg_M) (N : Nat)   (x1 : Int32) (x2 : Int32) (x3 : Int32)  : ∀ (n : Nat) (C : wg_C) (x4 : Int32) (x5 : Int32) (o : (wg_C × Int32 × Int32)), lp (fun o => f_X8_neededAlone_l6 N  x1 x2 x3 o.1 o.2.1 o.2.2) n (C, x4, x5) = some o → (∀ (Dy : wg_C) (y4 : Int32) (y5 : Int32), o = (Dy, y4, y5) → G_X8_neededAlone p l e s m args below meth c E ad S r0 D0 M 54 Dy M [(0, .ref (ad 0)), (1, .int x1), (2, .int x2), (3, .int x3), (4, .int y4), (5, .int y5)] []) → G_X8_neededAlone p l e s m args below meth c E ad S r0 D0 M 6 C M [(0, .ref (ad 0)), (1, .int x1), (2, .int x2), (3, .int x3), (4, .int x4), (5, .int x5)] [] := by
  intro n
  induction n with
  | zero => exact fun _ _ _ o h => (lp_zero h).elim
  | succ n ih =>
    intro C x4 x5 o h K
    obtain ⟨o1, hb, h2⟩ := lp_some h
    replace hb : f_X8_neededAlone_l6 N  x1 x2 x3 C x4 x5 = some o1 := hb
    clear h
    have Kc : ∀ (Dy : wg_C) (y4 : Int32) (y5 : Int32), o1 = Sum.inl (Dy, y4, y5) → G_X8_neededAlone p l e s m args below meth c E ad S r0 D0 M 6 Dy M [(0, .ref (ad 0)), (1, .int x1), (2, .int x2), (3, .int x3), (4, .int y4), (5, .int y5)] [] := fun Dy y4 y5 e1 => by
      subst e1
      exact ih Dy y4 y5 o h2 K
    have Ke : ∀ (Dy : wg_C) (y4 : Int32) (y5 : Int32), o1 = Sum.inr ((Dy, y4, y5)) → G_X8_neededAlone p l e s m args below meth c E ad S r0 D0 M 54 Dy M [(0, .ref (ad 0)), (1, .int x1), (2, .int x2), (3, .int x3), (4, .int y4), (5, .int y5)] [] := fun Dy y4 y5 e1 => by
      subst e1
      exact K Dy y4 y5 (sm_inj (α := (wg_C × Int32 × Int32)) h2).symm
    clear ih K h2
    unfold f_X8_neededAlone_l6 at hb
    have h := hb
    clear hb
    refine wg_iload X 5 dX8_neededAlone_6 rfl ?_
    refine wg_aload_n X 0 dX8_neededAlone_8 rfl rfl ?_
    refine wg_getR (b := 1) X cl8 (SCi hS 0 8 rfl) 0 (by decide) dX8_neededAlone_9 k_472 rfl (SCr hS 0 0 1 rfl) ?_
    refine wg_getC X cl0 (SCi hS 1 0 rfl) 2 (by decide) dX8_neededAlone_12 k_147 rfl ?_
    refine wg_icmp_ge X 54 dX8_neededAlone_15 (by decide) (fun c1 => ?_) (fun c1 => ?_)
    · have h := if_t c1 h
      exact Ke C x4 x5 (sm_inj h).symm
    · have h := if_f c1 h
      refine wg_aload_n X 0 dX8_neededAlone_18 rfl rfl ?_
      refine wg_getR (b := 35) X cl8 (SCi hS 0 8 rfl) 6 (by decide) dX8_neededAlone_19 k_478 rfl (SCr hS 0 6 35 rfl) ?_
      refine wg_aload_n X 0 dX8_neededAlone_22 rfl rfl ?_
      refine wg_getR (b := 1) X cl8 (SCi hS 0 8 rfl) 0 (by decide) dX8_neededAlone_23 k_472 rfl (SCr hS 0 0 1 rfl) ?_
      refine wg_iload_n X 1 dX8_neededAlone_26 rfl rfl ?_
      refine wg_iload_n X 2 dX8_neededAlone_27 rfl rfl ?_
      refine wg_iload_n X 3 dX8_neededAlone_28 rfl rfl ?_
      refine wg_iconst (v := 1) X dX8_neededAlone_29 (by decide) ?_
      refine wg_iload X 5 dX8_neededAlone_30 rfl ?_
      refine wg_ishl X dX8_neededAlone_32 ?_
      obtain ⟨r3, C4, h2, h⟩ := bd2_some h
      refine wg_callVi (As := [.ref (ad 1), .int x1, .int x2, .int x3, .int ((1 : Int32) <<< (x5 &&& 31))]) (rest := []) X (c_X7_comes l E ad S hS N C M x1 x2 x3 ((1 : Int32) <<< (x5 &&& 31))  h2) T_yX7_comes k_688 cl7 (SCi hS 35 7 rfl) dX8_neededAlone_33 rfl rfl (Nat.le_of_ble_eq_true rfl) ⟨Nat.le_of_ble_eq_true rfl, Nat.le_of_ble_eq_true rfl⟩ ⟨Nat.zero_le _, Nat.zero_le _⟩ ?_
      refine wg_if_ne X 48 dX8_neededAlone_36 (by decide) (fun c5 => ?_) (fun c5 => ?_)
      · have h := if_f c5 h
        obtain ⟨v6, e7, h⟩ := lt_some h
        refine wg_iinc (lv' := [(5, .int v6), (0, .ref (ad 0)), (1, .int x1), (2, .int x2), (3, .int x3), (4, .int x4)]) X 5 dX8_neededAlone_48 rfl e7 (by decide) rfl ?_
        refine wg_goto X 6 dX8_neededAlone_51 (by decide) ?_
        refine wg_pick [1, 2, 3, 4, 5, 0] (lv' := [(0, .ref (ad 0)), (1, .int x1), (2, .int x2), (3, .int x3), (4, .int x4), (5, .int v6)]) rfl ?_
        exact Kc C4 x4 v6 (sm_inj h).symm
      · have h := if_t c5 h
        refine wg_iload X 4 dX8_neededAlone_39 rfl ?_
        refine wg_iconst (v := 1) X dX8_neededAlone_41 (by decide) ?_
        refine wg_iload X 5 dX8_neededAlone_42 rfl ?_
        refine wg_ishl X dX8_neededAlone_44 ?_
        refine wg_ior X dX8_neededAlone_45 ?_
        obtain ⟨v8, e9, h⟩ := lt_some h
        refine wg_istore (lv' := [(4, .int v8), (0, .ref (ad 0)), (1, .int x1), (2, .int x2), (3, .int x3), (5, .int x5)]) X dX8_neededAlone_46 e9 (by decide) rfl ?_
        obtain ⟨v10, e11, h⟩ := lt_some h
        refine wg_iinc (lv' := [(5, .int v10), (4, .int v8), (0, .ref (ad 0)), (1, .int x1), (2, .int x2), (3, .int x3)]) X 5 dX8_neededAlone_48 rfl e11 (by decide) rfl ?_
        refine wg_goto X 6 dX8_neededAlone_51 (by decide) ?_
        refine wg_pick [2, 3, 4, 5, 1, 0] (lv' := [(0, .ref (ad 0)), (1, .int x1), (2, .int x2), (3, .int x3), (4, .int v8), (5, .int v10)]) rfl ?_
        exact Kc C4 v8 v10 (sm_inj h).symm
set_option maxHeartbeats 4000000 in
set_option maxRecDepth 100000 in
theorem c_X8_neededAlone (l : Launch) (E : wg_Ev) (ad : Nat → Nat) (S : wg_Sh) (hS : wg_SC S) (N : Nat) (C : wg_C) (M : wg_M) (p1 : Int32) (p2 : Int32) (p3 : Int32)  {r0 : Int32} {D0 : wg_C} (h : f_X8_neededAlone N C p1 p2 p3 = some (r0, D0)) : wg_Ci l yX8_neededAlone cX8_neededAlone 6 (some .int) 6 145 E ad S C M [.ref (ad 0), .int p1, .int p2, .int p3] r0 D0 M := by
  refine wg_start (own := RX8) (by decide +kernel) rfl (Nat.le_of_ble_eq_true rfl) ?_
  intro p e s m below meth c X hr hnm
  refine wg_lv (lv' := [(0, .ref (ad 0)), (1, .int p1), (2, .int p2), (3, .int p3)]) rfl ?_
  unfold f_X8_neededAlone at h
  refine wg_iconst (v := 0) X dX8_neededAlone_0 (by decide) ?_
  refine wg_istore (lv' := [(4, .int (0 : Int32)), (0, .ref (ad 0)), (1, .int p1), (2, .int p2), (3, .int p3)]) X dX8_neededAlone_1 rfl (by decide) rfl ?_
  refine wg_iconst (v := 0) X dX8_neededAlone_3 (by decide) ?_
  refine wg_istore (lv' := [(5, .int (0 : Int32)), (4, .int (0 : Int32)), (0, .ref (ad 0)), (1, .int p1), (2, .int p2), (3, .int p3)]) X dX8_neededAlone_4 rfl (by decide) rfl ?_
  obtain ⟨o15, h16, h⟩ := bd3_o h
  refine wg_pick [2, 3, 4, 5, 1, 0] (lv' := [(0, .ref (ad 0)), (1, .int p1), (2, .int p2), (3, .int p3), (4, .int (0 : Int32)), (5, .int (0 : Int32))]) rfl ?_
  refine L_X8_neededAlone_l6 X hr hS r0 D0 M N   p1 p2 p3  N C (0 : Int32) (0 : Int32) o15 h16 (fun C12 v13 v14 e18 => ?_)
  · subst e18
    replace h := bd3_in h
    refine wg_iload X 4 dX8_neededAlone_54 rfl ?_
    exact wg_iret X ⟨(Prod.mk.inj (sm_inj h)).1, (Prod.mk.inj (sm_inj h)).2, rfl⟩ hr dX8_neededAlone_56
-- java/lang/Integer.bitCount(I)I ('i',)
def f_J6_bitCount_0f7a4 (p0 : Int32) : Option Int32 :=
  lt_ (p0 - (((p0.toUInt32 >>> ((1 : Int32).toUInt32 &&& Int32.toUInt32 31)).toInt32) &&& (1431655765 : Int32))) fun v1 =>
  lt_ ((v1 &&& (858993459 : Int32)) + (((v1.toUInt32 >>> ((2 : Int32).toUInt32 &&& Int32.toUInt32 31)).toInt32) &&& (858993459 : Int32))) fun v3 =>
  lt_ ((v3 + ((v3.toUInt32 >>> ((4 : Int32).toUInt32 &&& Int32.toUInt32 31)).toInt32)) &&& (252645135 : Int32)) fun v5 =>
  lt_ (v5 + ((v5.toUInt32 >>> ((8 : Int32).toUInt32 &&& Int32.toUInt32 31)).toInt32)) fun v7 =>
  lt_ (v7 + ((v7.toUInt32 >>> ((16 : Int32).toUInt32 &&& Int32.toUInt32 31)).toInt32)) fun v9 =>
  some (v9 &&& (63 : Int32))
set_option maxHeartbeats 4000000 in
set_option maxRecDepth 100000 in
theorem c_J6_bitCount_0f7a4 (l : Launch) (E : wg_Ev) (ad : Nat → Nat) (S : wg_Sh) (C : wg_C) (M : wg_M) (p0 : Int32)  {r0 : Int32} (h : f_J6_bitCount_0f7a4 p0 = some r0) : wg_Ci l yJ6_bitCount_0f7a4 cJ6_bitCount_0f7a4 1 (some .int) 0 0 E ad S C M [.int p0] r0 C M := by
  refine wg_start (own := RJ6) (by decide +kernel) rfl (Nat.le_of_ble_eq_true rfl) ?_
  intro p e s m below meth c X hr hnm
  refine wg_lv (lv' := [(0, .int p0)]) rfl ?_
  unfold f_J6_bitCount_0f7a4 at h
  refine wg_iload_n X 0 dJ6_bitCount_0f7a4_0 rfl rfl ?_
  refine wg_iload_n X 0 dJ6_bitCount_0f7a4_1 rfl rfl ?_
  refine wg_iconst (v := 1) X dJ6_bitCount_0f7a4_2 (by decide) ?_
  refine wg_iushr X dJ6_bitCount_0f7a4_3 ?_
  refine wg_ldcw (v := 1431655765) X dJ6_bitCount_0f7a4_4 k_696 ?_
  refine wg_iand X dJ6_bitCount_0f7a4_7 ?_
  refine wg_isub X dJ6_bitCount_0f7a4_8 ?_
  obtain ⟨v1, e2, h⟩ := lt_some h
  refine wg_istore_n (lv' := [(0, .int v1)]) X dJ6_bitCount_0f7a4_9 rfl e2 (by decide) rfl ?_
  refine wg_iload_n X 0 dJ6_bitCount_0f7a4_10 rfl rfl ?_
  refine wg_ldcw (v := 858993459) X dJ6_bitCount_0f7a4_11 k_697 ?_
  refine wg_iand X dJ6_bitCount_0f7a4_14 ?_
  refine wg_iload_n X 0 dJ6_bitCount_0f7a4_15 rfl rfl ?_
  refine wg_iconst (v := 2) X dJ6_bitCount_0f7a4_16 (by decide) ?_
  refine wg_iushr X dJ6_bitCount_0f7a4_17 ?_
  refine wg_ldcw (v := 858993459) X dJ6_bitCount_0f7a4_18 k_697 ?_
  refine wg_iand X dJ6_bitCount_0f7a4_21 ?_
  refine wg_iadd X dJ6_bitCount_0f7a4_22 ?_
  obtain ⟨v3, e4, h⟩ := lt_some h
  refine wg_istore_n (lv' := [(0, .int v3)]) X dJ6_bitCount_0f7a4_23 rfl e4 (by decide) rfl ?_
  refine wg_iload_n X 0 dJ6_bitCount_0f7a4_24 rfl rfl ?_
  refine wg_iload_n X 0 dJ6_bitCount_0f7a4_25 rfl rfl ?_
  refine wg_iconst (v := 4) X dJ6_bitCount_0f7a4_26 (by decide) ?_
  refine wg_iushr X dJ6_bitCount_0f7a4_27 ?_
  refine wg_iadd X dJ6_bitCount_0f7a4_28 ?_
  refine wg_ldcw (v := 252645135) X dJ6_bitCount_0f7a4_29 k_698 ?_
  refine wg_iand X dJ6_bitCount_0f7a4_32 ?_
  obtain ⟨v5, e6, h⟩ := lt_some h
  refine wg_istore_n (lv' := [(0, .int v5)]) X dJ6_bitCount_0f7a4_33 rfl e6 (by decide) rfl ?_
  refine wg_iload_n X 0 dJ6_bitCount_0f7a4_34 rfl rfl ?_
  refine wg_iload_n X 0 dJ6_bitCount_0f7a4_35 rfl rfl ?_
  refine wg_bipush (v := 8) X dJ6_bitCount_0f7a4_36 (by decide) ?_
  refine wg_iushr X dJ6_bitCount_0f7a4_38 ?_
  refine wg_iadd X dJ6_bitCount_0f7a4_39 ?_
  obtain ⟨v7, e8, h⟩ := lt_some h
  refine wg_istore_n (lv' := [(0, .int v7)]) X dJ6_bitCount_0f7a4_40 rfl e8 (by decide) rfl ?_
  refine wg_iload_n X 0 dJ6_bitCount_0f7a4_41 rfl rfl ?_
  refine wg_iload_n X 0 dJ6_bitCount_0f7a4_42 rfl rfl ?_
  refine wg_bipush (v := 16) X dJ6_bitCount_0f7a4_43 (by decide) ?_
  refine wg_iushr X dJ6_bitCount_0f7a4_45 ?_
  refine wg_iadd X dJ6_bitCount_0f7a4_46 ?_
  obtain ⟨v9, e10, h⟩ := lt_some h
  refine wg_istore_n (lv' := [(0, .int v9)]) X dJ6_bitCount_0f7a4_47 rfl e10 (by decide) rfl ?_
  refine wg_iload_n X 0 dJ6_bitCount_0f7a4_48 rfl rfl ?_
  refine wg_bipush (v := 63) X dJ6_bitCount_0f7a4_49 (by decide) ?_
  refine wg_iand X dJ6_bitCount_0f7a4_51 ?_
  exact wg_iret X ⟨(sm_inj h), rfl, rfl⟩ hr dJ6_bitCount_0f7a4_52
