-- WindowsGive$House.has(I)Z (('c', 1), 'i')
def f_X0_has (C : wg_C) (p1 : Int32) : Option Int32 :=
  if p1 < 0 then (
    some (0 : Int32))
  else (
    if (C 1 2) ≤ p1 then (
      some (0 : Int32))
    else (
      some (1 : Int32)))
set_option maxHeartbeats 4000000 in
set_option maxRecDepth 100000 in
theorem c_X0_has (l : Launch) (E : wg_Ev) (ad : Nat → Nat) (S : wg_Sh) (hS : wg_SC S) (C : wg_C) (M : wg_M) (p1 : Int32)  {r0 : Int32} (h : f_X0_has C p1 = some r0) : wg_Ci l yX0_has cX0_has 2 (some .boolean) 0 0 E ad S C M [.ref (ad 1), .int p1] r0 C M := by
  refine wg_start (own := RX0) (by decide +kernel) rfl (Nat.le_of_ble_eq_true rfl) ?_
  intro p e s m below meth c X hr hnm
  refine wg_lv (lv' := [(0, .ref (ad 1)), (1, .int p1)]) rfl ?_
  unfold f_X0_has at h
  refine wg_iload_n X 1 dX0_has_0 rfl rfl ?_
  refine wg_if_lt X 16 dX0_has_1 (by decide) (fun c1 => ?_) (fun c1 => ?_)
  · have h := if_t c1 h
    refine wg_iconst (v := 0) X dX0_has_16 (by decide) ?_
    exact wg_zret X ⟨(sm_inj h), rfl, rfl⟩ hr (by decide) dX0_has_17
  · have h := if_f c1 h
    refine wg_iload_n X 1 dX0_has_4 rfl rfl ?_
    refine wg_aload_n X 0 dX0_has_5 rfl rfl ?_
    refine wg_getC X cl0 (SCi hS 1 0 rfl) 2 (by decide) dX0_has_6 k_146 rfl ?_
    refine wg_icmp_ge X 16 dX0_has_9 (by decide) (fun c2 => ?_) (fun c2 => ?_)
    · have h := if_t c2 h
      refine wg_iconst (v := 0) X dX0_has_16 (by decide) ?_
      exact wg_zret X ⟨(sm_inj h), rfl, rfl⟩ hr (by decide) dX0_has_17
    · have h := if_f c2 h
      refine wg_iconst (v := 1) X dX0_has_12 (by decide) ?_
      refine wg_goto X 17 dX0_has_13 (by decide) ?_
      exact wg_zret X ⟨(sm_inj h), rfl, rfl⟩ hr (by decide) dX0_has_17
-- WindowsGive$Pane.leads()I ('P',)
def f_X1_leads (C : wg_C) (p0 : Nat) : Option Int32 :=
  if (C p0 1) = (4 : Int32) then (
    some (C p0 4))
  else (
    some (C p0 5))
set_option maxHeartbeats 4000000 in
set_option maxRecDepth 100000 in
theorem c_X1_leads (l : Launch) (E : wg_Ev) (ad : Nat → Nat) (S : wg_Sh) (hS : wg_SC S) (C : wg_C) (M : wg_M) (p0 : Nat) (hp0 : wg_id S p0 1) {r0 : Int32} (h : f_X1_leads C p0 = some r0) : wg_Ci l yX1_leads cX1_leads 1 (some .int) 0 0 E ad S C M [.ref (ad p0)] r0 C M := by
  refine wg_start (own := RX1) (by decide +kernel) rfl (Nat.le_of_ble_eq_true rfl) ?_
  intro p e s m below meth c X hr hnm
  refine wg_lv (lv' := [(0, .ref (ad p0))]) rfl ?_
  unfold f_X1_leads at h
  refine wg_aload_n X 0 dX1_leads_0 rfl rfl ?_
  refine wg_getC X cl1 hp0 1 (by decide) dX1_leads_1 k_112 rfl ?_
  refine wg_iconst (v := 4) X dX1_leads_4 (by decide) ?_
  refine wg_icmp_ne X 15 dX1_leads_5 (by decide) (fun c1 => ?_) (fun c1 => ?_)
  · have h := if_f c1 h
    refine wg_aload_n X 0 dX1_leads_15 rfl rfl ?_
    refine wg_getC X cl1 hp0 5 (by decide) dX1_leads_16 k_124 rfl ?_
    exact wg_iret X ⟨(sm_inj h), rfl, rfl⟩ hr dX1_leads_19
  · have h := if_t c1 h
    refine wg_aload_n X 0 dX1_leads_8 rfl rfl ?_
    refine wg_getC X cl1 hp0 4 (by decide) dX1_leads_9 k_120 rfl ?_
    refine wg_goto X 19 dX1_leads_12 (by decide) ?_
    exact wg_iret X ⟨(sm_inj h), rfl, rfl⟩ hr dX1_leads_19
-- WindowsGive$Pane.tell(I)I ('P', 'i')
def f_X1_tell (C : wg_C) (p0 : Nat) (p1 : Int32) : Option Int32 :=
  if p1 = (1 : Int32) then (
    some (C p0 2))
  else
  if p1 = (2 : Int32) then (
    some (C p0 3))
  else
  if p1 = (3 : Int32) then (
    some (C p0 4))
  else
  if p1 = (4 : Int32) then (
    some (C p0 5))
  else
  if p1 = (5 : Int32) then (
    some (C p0 1))
  else
  if p1 = (6 : Int32) then (
    bd (f_X1_leads C p0) fun r8 =>
    some r8)
  else
  some (-100 : Int32)
set_option maxHeartbeats 4000000 in
set_option maxRecDepth 100000 in
theorem c_X1_tell (l : Launch) (E : wg_Ev) (ad : Nat → Nat) (S : wg_Sh) (hS : wg_SC S) (C : wg_C) (M : wg_M) (p0 : Nat) (p1 : Int32) (hp0 : wg_id S p0 1) {r0 : Int32} (h : f_X1_tell C p0 p1 = some r0) : wg_Ci l yX1_tell cX1_tell 2 (some .int) 1 20 E ad S C M [.ref (ad p0), .int p1] r0 C M := by
  refine wg_start (own := RX1) (by decide +kernel) rfl (Nat.le_of_ble_eq_true rfl) ?_
  intro p e s m below meth c X hr hnm
  refine wg_lv (lv' := [(0, .ref (ad p0)), (1, .int p1)]) rfl ?_
  unfold f_X1_tell at h
  refine wg_iload_n X 1 dX1_tell_0 rfl rfl ?_
  by_cases c1 : p1 = (1 : Int32)
  · have h := if_t c1 h
    refine wg_tblIn (off := 39) X 40 dX1_tell_1 c1 (by decide) (by decide) (by decide) (by decide) ?_
    refine wg_aload_n X 0 dX1_tell_40 rfl rfl ?_
    refine wg_getC X cl1 hp0 2 (by decide) dX1_tell_41 k_114 rfl ?_
    exact wg_iret X ⟨(sm_inj h), rfl, rfl⟩ hr dX1_tell_44
  have h := if_f c1 h
  by_cases c2 : p1 = (2 : Int32)
  · have h := if_t c2 h
    refine wg_tblIn (off := 44) X 45 dX1_tell_1 c2 (by decide) (by decide) (by decide) (by decide) ?_
    refine wg_aload_n X 0 dX1_tell_45 rfl rfl ?_
    refine wg_getC X cl1 hp0 3 (by decide) dX1_tell_46 k_117 rfl ?_
    exact wg_iret X ⟨(sm_inj h), rfl, rfl⟩ hr dX1_tell_49
  have h := if_f c2 h
  by_cases c3 : p1 = (3 : Int32)
  · have h := if_t c3 h
    refine wg_tblIn (off := 49) X 50 dX1_tell_1 c3 (by decide) (by decide) (by decide) (by decide) ?_
    refine wg_aload_n X 0 dX1_tell_50 rfl rfl ?_
    refine wg_getC X cl1 hp0 4 (by decide) dX1_tell_51 k_120 rfl ?_
    exact wg_iret X ⟨(sm_inj h), rfl, rfl⟩ hr dX1_tell_54
  have h := if_f c3 h
  by_cases c4 : p1 = (4 : Int32)
  · have h := if_t c4 h
    refine wg_tblIn (off := 54) X 55 dX1_tell_1 c4 (by decide) (by decide) (by decide) (by decide) ?_
    refine wg_aload_n X 0 dX1_tell_55 rfl rfl ?_
    refine wg_getC X cl1 hp0 5 (by decide) dX1_tell_56 k_124 rfl ?_
    exact wg_iret X ⟨(sm_inj h), rfl, rfl⟩ hr dX1_tell_59
  have h := if_f c4 h
  by_cases c5 : p1 = (5 : Int32)
  · have h := if_t c5 h
    refine wg_tblIn (off := 59) X 60 dX1_tell_1 c5 (by decide) (by decide) (by decide) (by decide) ?_
    refine wg_aload_n X 0 dX1_tell_60 rfl rfl ?_
    refine wg_getC X cl1 hp0 1 (by decide) dX1_tell_61 k_112 rfl ?_
    exact wg_iret X ⟨(sm_inj h), rfl, rfl⟩ hr dX1_tell_64
  have h := if_f c5 h
  by_cases c6 : p1 = (6 : Int32)
  · have h := if_t c6 h
    refine wg_tblIn (off := 64) X 65 dX1_tell_1 c6 (by decide) (by decide) (by decide) (by decide) ?_
    refine wg_aload_n X 0 dX1_tell_65 rfl rfl ?_
    obtain ⟨r8, h7, h⟩ := bd_some h
    refine wg_callVi (As := []) (rest := []) X (c_X1_leads l E ad S hS C M p0 hp0 h7) T_yX1_leads k_528 cl1 hp0 dX1_tell_66 rfl rfl (Nat.le_of_ble_eq_true rfl) ⟨Nat.le_of_ble_eq_true rfl, Nat.le_of_ble_eq_true rfl⟩ ⟨Nat.zero_le _, Nat.zero_le _⟩ ?_
    exact wg_iret X ⟨(sm_inj h), rfl, rfl⟩ hr dX1_tell_69
  have h := if_f c6 h
  refine wg_tblOut X 70 dX1_tell_1 (wg_tout (1) (6) (fun k hk => by
      rcases (show k = 0 ∨ k = 1 ∨ k = 2 ∨ k = 3 ∨ k = 4 ∨ k = 5 by omega) with rfl | rfl | rfl | rfl | rfl | rfl
      · exact fun q => c1 (q.trans (by decide))
      · exact fun q => c2 (q.trans (by decide))
      · exact fun q => c3 (q.trans (by decide))
      · exact fun q => c4 (q.trans (by decide))
      · exact fun q => c5 (q.trans (by decide))
      · exact fun q => c6 (q.trans (by decide))) (by decide) (by decide)) (by decide) ?_
  refine wg_bipush (v := -100) X dX1_tell_70 (by decide) ?_
  exact wg_iret X ⟨(sm_inj h), rfl, rfl⟩ hr dX1_tell_72
-- WindowsGive.isDay(I)Z ('i',)
def f_X8_isDay (p0 : Int32) : Option Int32 :=
  if p0 < 0 then (
    some (0 : Int32))
  else (
    if (32 : Int32) ≤ p0 then (
      some (0 : Int32))
    else (
      some (1 : Int32)))
set_option maxHeartbeats 4000000 in
set_option maxRecDepth 100000 in
theorem c_X8_isDay (l : Launch) (E : wg_Ev) (ad : Nat → Nat) (S : wg_Sh) (C : wg_C) (M : wg_M) (p0 : Int32)  {r0 : Int32} (h : f_X8_isDay p0 = some r0) : wg_Ci l yX8_isDay cX8_isDay 1 (some .boolean) 0 0 E ad S C M [.int p0] r0 C M := by
  refine wg_start (own := RX8) (by decide +kernel) rfl (Nat.le_of_ble_eq_true rfl) ?_
  intro p e s m below meth c X hr hnm
  refine wg_lv (lv' := [(0, .int p0)]) rfl ?_
  unfold f_X8_isDay at h
  refine wg_iload_n X 0 dX8_isDay_0 rfl rfl ?_
  refine wg_if_lt X 14 dX8_isDay_1 (by decide) (fun c1 => ?_) (fun c1 => ?_)
  · have h := if_t c1 h
    refine wg_iconst (v := 0) X dX8_isDay_14 (by decide) ?_
    exact wg_zret X ⟨(sm_inj h), rfl, rfl⟩ hr (by decide) dX8_isDay_15
  · have h := if_f c1 h
    refine wg_iload_n X 0 dX8_isDay_4 rfl rfl ?_
    refine wg_bipush (v := 32) X dX8_isDay_5 (by decide) ?_
    refine wg_icmp_ge X 14 dX8_isDay_7 (by decide) (fun c2 => ?_) (fun c2 => ?_)
    · have h := if_t c2 h
      refine wg_iconst (v := 0) X dX8_isDay_14 (by decide) ?_
      exact wg_zret X ⟨(sm_inj h), rfl, rfl⟩ hr (by decide) dX8_isDay_15
    · have h := if_f c2 h
      refine wg_iconst (v := 1) X dX8_isDay_10 (by decide) ?_
      refine wg_goto X 15 dX8_isDay_11 (by decide) ?_
      exact wg_zret X ⟨(sm_inj h), rfl, rfl⟩ hr (by decide) dX8_isDay_15
-- WindowsGive.told(II)I (('c', 0), 'i', 'i')
def f_X8_told (C : wg_C) (p1 : Int32) (p2 : Int32) : Option Int32 :=
  if p2 = 0 then (
    bd (f_X8_isDay p1) fun r9 =>
    if r9 = 0 then (
      some (-100 : Int32))
    else (
      ck (inb p1 32) <|
      some (C 2 p1.toNatClampNeg)))
  else (
    bd (f_X0_has C p1) fun r3 =>
    if r3 = 0 then (
      some (-100 : Int32))
    else (
      ck (inb p1 8) <|
      bd (f_X1_tell C (4 + p1.toNatClampNeg) p2) fun r7 =>
      some r7))
set_option maxHeartbeats 4000000 in
set_option maxRecDepth 100000 in
theorem c_X8_told (l : Launch) (E : wg_Ev) (ad : Nat → Nat) (S : wg_Sh) (hS : wg_SC S) (C : wg_C) (M : wg_M) (p1 : Int32) (p2 : Int32)  {r0 : Int32} (h : f_X8_told C p1 p2 = some r0) : wg_Ci l yX8_told cX8_told 3 (some .int) 2 41 E ad S C M [.ref (ad 0), .int p1, .int p2] r0 C M := by
  refine wg_start (own := RX8) (by decide +kernel) rfl (Nat.le_of_ble_eq_true rfl) ?_
  intro p e s m below meth c X hr hnm
  refine wg_lv (lv' := [(0, .ref (ad 0)), (1, .int p1), (2, .int p2)]) rfl ?_
  unfold f_X8_told at h
  refine wg_iload_n X 2 dX8_told_0 rfl rfl ?_
  refine wg_if_ne X 26 dX8_told_1 (by decide) (fun c1 => ?_) (fun c1 => ?_)
  · have h := if_f c1 h
    refine wg_aload_n X 0 dX8_told_26 rfl rfl ?_
    refine wg_getR (b := 1) X cl8 (SCi hS 0 8 rfl) 0 (by decide) dX8_told_27 k_472 rfl (SCr hS 0 0 1 rfl) ?_
    refine wg_iload_n X 1 dX8_told_30 rfl rfl ?_
    obtain ⟨r3, h2, h⟩ := bd_some h
    refine wg_callVi (As := [.int p1]) (rest := []) X (c_X0_has l E ad S hS C M p1  h2) T_yX0_has k_520 cl0 (SCi hS 1 0 rfl) dX8_told_31 rfl rfl (Nat.le_of_ble_eq_true rfl) ⟨Nat.le_of_ble_eq_true rfl, Nat.le_of_ble_eq_true rfl⟩ ⟨Nat.zero_le _, Nat.zero_le _⟩ ?_
    refine wg_if_eq X 53 dX8_told_34 (by decide) (fun c4 => ?_) (fun c4 => ?_)
    · have h := if_t c4 h
      refine wg_bipush (v := -100) X dX8_told_53 (by decide) ?_
      exact wg_iret X ⟨(sm_inj h), rfl, rfl⟩ hr dX8_told_55
    · have h := if_f c4 h
      refine wg_aload_n X 0 dX8_told_37 rfl rfl ?_
      refine wg_getR (b := 1) X cl8 (SCi hS 0 8 rfl) 0 (by decide) dX8_told_38 k_472 rfl (SCr hS 0 0 1 rfl) ?_
      refine wg_getR (b := 3) X cl0 (SCi hS 1 0 rfl) 1 (by decide) dX8_told_41 k_144 rfl (SCr hS 1 1 3 rfl) ?_
      refine wg_iload_n X 1 dX8_told_44 rfl rfl ?_
      obtain ⟨z5, h⟩ := ck_some h
      refine wg_aalS13 (b := 4 + p1.toNatClampNeg) X (SCi hS 3 13 rfl) (SCl hS 3 8 rfl) z5 (SCp hS (inb_lt z5)).1 dX8_told_45 ?_
      refine wg_iload_n X 2 dX8_told_46 rfl rfl ?_
      obtain ⟨r7, h6, h⟩ := bd_some h
      refine wg_callVi (As := [.int p2]) (rest := []) X (c_X1_tell l E ad S hS C M (4 + p1.toNatClampNeg) p2 ((SCp hS (inb_lt z5)).2.1) h6) T_yX1_tell k_524 cl1 ((SCp hS (inb_lt z5)).2.1) dX8_told_47 rfl rfl (Nat.le_of_ble_eq_true rfl) ⟨Nat.le_of_ble_eq_true rfl, Nat.le_of_ble_eq_true rfl⟩ ⟨Nat.zero_le _, Nat.zero_le _⟩ ?_
      refine wg_goto X 55 dX8_told_50 (by decide) ?_
      exact wg_iret X ⟨(sm_inj h), rfl, rfl⟩ hr dX8_told_55
  · have h := if_t c1 h
    refine wg_iload_n X 1 dX8_told_4 rfl rfl ?_
    obtain ⟨r9, h8, h⟩ := bd_some h
    refine wg_callSi (As := [.int p1]) (rest := []) X (c_X8_isDay l E ad S C M p1  h8) T_yX8_isDay k_517 dX8_told_5 rfl rfl (Nat.le_of_ble_eq_true rfl) ⟨Nat.le_of_ble_eq_true rfl, Nat.le_of_ble_eq_true rfl⟩ ⟨Nat.zero_le _, Nat.zero_le _⟩ ?_
    refine wg_if_eq X 23 dX8_told_8 (by decide) (fun c10 => ?_) (fun c10 => ?_)
    · have h := if_t c10 h
      refine wg_bipush (v := -100) X dX8_told_23 (by decide) ?_
      exact wg_iret X ⟨(sm_inj h), rfl, rfl⟩ hr dX8_told_25
    · have h := if_f c10 h
      refine wg_aload_n X 0 dX8_told_11 rfl rfl ?_
      refine wg_getR (b := 1) X cl8 (SCi hS 0 8 rfl) 0 (by decide) dX8_told_12 k_472 rfl (SCr hS 0 0 1 rfl) ?_
      refine wg_getR (b := 2) X cl0 (SCi hS 1 0 rfl) 0 (by decide) dX8_told_15 k_141 rfl (SCr hS 1 0 2 rfl) ?_
      refine wg_iload_n X 1 dX8_told_18 rfl rfl ?_
      obtain ⟨z11, h⟩ := ck_some h
      refine wg_iald X (SCi hS 2 10 rfl) (SCl hS 2 32 rfl) z11 dX8_told_19 ?_
      refine wg_goto X 25 dX8_told_20 (by decide) ?_
      exact wg_iret X ⟨(sm_inj h), rfl, rfl⟩ hr dX8_told_25
-- WindowsGive.isRoom(I)Z ('i',)
def f_X8_isRoom (p0 : Int32) : Option Int32 :=
  if p0 < 0 then (
    some (0 : Int32))
  else (
    if (6 : Int32) ≤ p0 then (
      some (0 : Int32))
    else (
      some (1 : Int32)))
set_option maxHeartbeats 4000000 in
set_option maxRecDepth 100000 in
theorem c_X8_isRoom (l : Launch) (E : wg_Ev) (ad : Nat → Nat) (S : wg_Sh) (C : wg_C) (M : wg_M) (p0 : Int32)  {r0 : Int32} (h : f_X8_isRoom p0 = some r0) : wg_Ci l yX8_isRoom cX8_isRoom 1 (some .boolean) 0 0 E ad S C M [.int p0] r0 C M := by
  refine wg_start (own := RX8) (by decide +kernel) rfl (Nat.le_of_ble_eq_true rfl) ?_
  intro p e s m below meth c X hr hnm
  refine wg_lv (lv' := [(0, .int p0)]) rfl ?_
  unfold f_X8_isRoom at h
  refine wg_iload_n X 0 dX8_isRoom_0 rfl rfl ?_
  refine wg_if_lt X 14 dX8_isRoom_1 (by decide) (fun c1 => ?_) (fun c1 => ?_)
  · have h := if_t c1 h
    refine wg_iconst (v := 0) X dX8_isRoom_14 (by decide) ?_
    exact wg_zret X ⟨(sm_inj h), rfl, rfl⟩ hr (by decide) dX8_isRoom_15
  · have h := if_f c1 h
    refine wg_iload_n X 0 dX8_isRoom_4 rfl rfl ?_
    refine wg_bipush (v := 6) X dX8_isRoom_5 (by decide) ?_
    refine wg_icmp_ge X 14 dX8_isRoom_7 (by decide) (fun c2 => ?_) (fun c2 => ?_)
    · have h := if_t c2 h
      refine wg_iconst (v := 0) X dX8_isRoom_14 (by decide) ?_
      exact wg_zret X ⟨(sm_inj h), rfl, rfl⟩ hr (by decide) dX8_isRoom_15
    · have h := if_f c2 h
      refine wg_iconst (v := 1) X dX8_isRoom_10 (by decide) ?_
      refine wg_goto X 15 dX8_isRoom_11 (by decide) ?_
      exact wg_zret X ⟨(sm_inj h), rfl, rfl⟩ hr (by decide) dX8_isRoom_15
-- WindowsGive.fits(II)Z ('i', 'i')
def f_X8_fits (p0 : Int32) (p1 : Int32) : Option Int32 :=
  if p0 = (0 : Int32) then (
    if p1 < 0 then (
      some (0 : Int32))
    else (
      if (9 : Int32) < p1 then (
        some (0 : Int32))
      else (
        some (1 : Int32))))
  else
  if p0 = (1 : Int32) then (
    if p1 < 0 then (
      some (0 : Int32))
    else (
      if (9 : Int32) < p1 then (
        some (0 : Int32))
      else (
        some (1 : Int32))))
  else
  if p0 = (2 : Int32) then (
    if p1 < (-9 : Int32) then (
      some (0 : Int32))
    else (
      if (9 : Int32) < p1 then (
        some (0 : Int32))
      else (
        some (1 : Int32))))
  else
  if p0 = (3 : Int32) then (
    bd (f_X8_isRoom p1) fun r12 =>
    ck (r12 = 0 ∨ r12 = 1) <|
    some r12)
  else
  if p0 = (4 : Int32) then (
    bd (f_X8_isRoom p1) fun r16 =>
    ck (r16 = 0 ∨ r16 = 1) <|
    some r16)
  else
  some (0 : Int32)
set_option maxHeartbeats 4000000 in
set_option maxRecDepth 100000 in
theorem c_X8_fits (l : Launch) (E : wg_Ev) (ad : Nat → Nat) (S : wg_Sh) (C : wg_C) (M : wg_M) (p0 : Int32) (p1 : Int32)  {r0 : Int32} (h : f_X8_fits p0 p1 = some r0) : wg_Ci l yX8_fits cX8_fits 2 (some .boolean) 1 20 E ad S C M [.int p0, .int p1] r0 C M := by
  refine wg_start (own := RX8) (by decide +kernel) rfl (Nat.le_of_ble_eq_true rfl) ?_
  intro p e s m below meth c X hr hnm
  refine wg_lv (lv' := [(0, .int p0), (1, .int p1)]) rfl ?_
  unfold f_X8_fits at h
  refine wg_iload_n X 0 dX8_fits_0 rfl rfl ?_
  by_cases c1 : p0 = (0 : Int32)
  · have h := if_t c1 h
    refine wg_tblIn (off := 35) X 36 dX8_fits_1 c1 (by decide) (by decide) (by decide) (by decide) ?_
    refine wg_iload_n X 1 dX8_fits_36 rfl rfl ?_
    refine wg_if_lt X 50 dX8_fits_37 (by decide) (fun c2 => ?_) (fun c2 => ?_)
    · have h := if_t c2 h
      refine wg_iconst (v := 0) X dX8_fits_50 (by decide) ?_
      exact wg_zret X ⟨(sm_inj h), rfl, rfl⟩ hr (by decide) dX8_fits_51
    · have h := if_f c2 h
      refine wg_iload_n X 1 dX8_fits_40 rfl rfl ?_
      refine wg_bipush (v := 9) X dX8_fits_41 (by decide) ?_
      refine wg_icmp_gt X 50 dX8_fits_43 (by decide) (fun c3 => ?_) (fun c3 => ?_)
      · have h := if_t c3 h
        refine wg_iconst (v := 0) X dX8_fits_50 (by decide) ?_
        exact wg_zret X ⟨(sm_inj h), rfl, rfl⟩ hr (by decide) dX8_fits_51
      · have h := if_f c3 h
        refine wg_iconst (v := 1) X dX8_fits_46 (by decide) ?_
        refine wg_goto X 51 dX8_fits_47 (by decide) ?_
        exact wg_zret X ⟨(sm_inj h), rfl, rfl⟩ hr (by decide) dX8_fits_51
  have h := if_f c1 h
  by_cases c4 : p0 = (1 : Int32)
  · have h := if_t c4 h
    refine wg_tblIn (off := 51) X 52 dX8_fits_1 c4 (by decide) (by decide) (by decide) (by decide) ?_
    refine wg_iload_n X 1 dX8_fits_52 rfl rfl ?_
    refine wg_if_lt X 66 dX8_fits_53 (by decide) (fun c5 => ?_) (fun c5 => ?_)
    · have h := if_t c5 h
      refine wg_iconst (v := 0) X dX8_fits_66 (by decide) ?_
      exact wg_zret X ⟨(sm_inj h), rfl, rfl⟩ hr (by decide) dX8_fits_67
    · have h := if_f c5 h
      refine wg_iload_n X 1 dX8_fits_56 rfl rfl ?_
      refine wg_bipush (v := 9) X dX8_fits_57 (by decide) ?_
      refine wg_icmp_gt X 66 dX8_fits_59 (by decide) (fun c6 => ?_) (fun c6 => ?_)
      · have h := if_t c6 h
        refine wg_iconst (v := 0) X dX8_fits_66 (by decide) ?_
        exact wg_zret X ⟨(sm_inj h), rfl, rfl⟩ hr (by decide) dX8_fits_67
      · have h := if_f c6 h
        refine wg_iconst (v := 1) X dX8_fits_62 (by decide) ?_
        refine wg_goto X 67 dX8_fits_63 (by decide) ?_
        exact wg_zret X ⟨(sm_inj h), rfl, rfl⟩ hr (by decide) dX8_fits_67
  have h := if_f c4 h
  by_cases c7 : p0 = (2 : Int32)
  · have h := if_t c7 h
    refine wg_tblIn (off := 67) X 68 dX8_fits_1 c7 (by decide) (by decide) (by decide) (by decide) ?_
    refine wg_iload_n X 1 dX8_fits_68 rfl rfl ?_
    refine wg_bipush (v := -9) X dX8_fits_69 (by decide) ?_
    refine wg_icmp_lt X 84 dX8_fits_71 (by decide) (fun c8 => ?_) (fun c8 => ?_)
    · have h := if_t c8 h
      refine wg_iconst (v := 0) X dX8_fits_84 (by decide) ?_
      exact wg_zret X ⟨(sm_inj h), rfl, rfl⟩ hr (by decide) dX8_fits_85
    · have h := if_f c8 h
      refine wg_iload_n X 1 dX8_fits_74 rfl rfl ?_
      refine wg_bipush (v := 9) X dX8_fits_75 (by decide) ?_
      refine wg_icmp_gt X 84 dX8_fits_77 (by decide) (fun c9 => ?_) (fun c9 => ?_)
      · have h := if_t c9 h
        refine wg_iconst (v := 0) X dX8_fits_84 (by decide) ?_
        exact wg_zret X ⟨(sm_inj h), rfl, rfl⟩ hr (by decide) dX8_fits_85
      · have h := if_f c9 h
        refine wg_iconst (v := 1) X dX8_fits_80 (by decide) ?_
        refine wg_goto X 85 dX8_fits_81 (by decide) ?_
        exact wg_zret X ⟨(sm_inj h), rfl, rfl⟩ hr (by decide) dX8_fits_85
  have h := if_f c7 h
  by_cases c10 : p0 = (3 : Int32)
  · have h := if_t c10 h
    refine wg_tblIn (off := 85) X 86 dX8_fits_1 c10 (by decide) (by decide) (by decide) (by decide) ?_
    refine wg_iload_n X 1 dX8_fits_86 rfl rfl ?_
    obtain ⟨r12, h11, h⟩ := bd_some h
    refine wg_callSi (As := [.int p1]) (rest := []) X (c_X8_isRoom l E ad S C M p1  h11) T_yX8_isRoom k_535 dX8_fits_87 rfl rfl (Nat.le_of_ble_eq_true rfl) ⟨Nat.le_of_ble_eq_true rfl, Nat.le_of_ble_eq_true rfl⟩ ⟨Nat.zero_le _, Nat.zero_le _⟩ ?_
    obtain ⟨z13, h⟩ := ck_some h
    exact wg_zret X ⟨(sm_inj h), rfl, rfl⟩ hr z13 dX8_fits_90
  have h := if_f c10 h
  by_cases c14 : p0 = (4 : Int32)
  · have h := if_t c14 h
    refine wg_tblIn (off := 85) X 86 dX8_fits_1 c14 (by decide) (by decide) (by decide) (by decide) ?_
    refine wg_iload_n X 1 dX8_fits_86 rfl rfl ?_
    obtain ⟨r16, h15, h⟩ := bd_some h
    refine wg_callSi (As := [.int p1]) (rest := []) X (c_X8_isRoom l E ad S C M p1  h15) T_yX8_isRoom k_535 dX8_fits_87 rfl rfl (Nat.le_of_ble_eq_true rfl) ⟨Nat.le_of_ble_eq_true rfl, Nat.le_of_ble_eq_true rfl⟩ ⟨Nat.zero_le _, Nat.zero_le _⟩ ?_
    obtain ⟨z17, h⟩ := ck_some h
    exact wg_zret X ⟨(sm_inj h), rfl, rfl⟩ hr z17 dX8_fits_90
  have h := if_f c14 h
  refine wg_tblOut X 91 dX8_fits_1 (wg_tout (0) (4) (fun k hk => by
      rcases (show k = 0 ∨ k = 1 ∨ k = 2 ∨ k = 3 ∨ k = 4 by omega) with rfl | rfl | rfl | rfl | rfl
      · exact fun q => c1 (q.trans (by decide))
      · exact fun q => c4 (q.trans (by decide))
      · exact fun q => c7 (q.trans (by decide))
      · exact fun q => c10 (q.trans (by decide))
      · exact fun q => c14 (q.trans (by decide))) (by decide) (by decide)) (by decide) ?_
  refine wg_iconst (v := 0) X dX8_fits_91 (by decide) ?_
  exact wg_zret X ⟨(sm_inj h), rfl, rfl⟩ hr (by decide) dX8_fits_92
-- WindowsGive$Pane.change(II)V ('P', 'i', 'i')
def f_X1_change (C : wg_C) (p0 : Nat) (p1 : Int32) (p2 : Int32) : Option wg_C :=
  if p1 = (1 : Int32) then (
    lt_ (wg_up C p0 2 p2) fun C2 =>
    some C2)
  else
  if p1 = (2 : Int32) then (
    lt_ (wg_up C p0 3 p2) fun C5 =>
    some C5)
  else
  if p1 = (3 : Int32) then (
    lt_ (wg_up C p0 4 p2) fun C8 =>
    some C8)
  else
  if p1 = (4 : Int32) then (
    lt_ (wg_up C p0 5 p2) fun C11 =>
    some C11)
  else
  some C
set_option maxHeartbeats 4000000 in
set_option maxRecDepth 100000 in
theorem c_X1_change (l : Launch) (E : wg_Ev) (ad : Nat → Nat) (S : wg_Sh) (hS : wg_SC S) (C : wg_C) (M : wg_M) (p0 : Nat) (p1 : Int32) (p2 : Int32) (hp0 : wg_id S p0 1) {D0 : wg_C} (h : f_X1_change C p0 p1 p2 = some D0) : wg_Cv l yX1_change cX1_change 3 none 0 0 E ad S C M [.ref (ad p0), .int p1, .int p2] D0 M := by
  refine wg_start (own := RX1) (by decide +kernel) rfl (Nat.le_of_ble_eq_true rfl) ?_
  intro p e s m below meth c X hr hnm
  refine wg_lv (lv' := [(0, .ref (ad p0)), (1, .int p1), (2, .int p2)]) rfl ?_
  unfold f_X1_change at h
  refine wg_iload_n X 1 dX1_change_0 rfl rfl ?_
  by_cases c1 : p1 = (1 : Int32)
  · have h := if_t c1 h
    refine wg_tblIn (off := 31) X 32 dX1_change_1 c1 (by decide) (by decide) (by decide) (by decide) ?_
    refine wg_aload_n X 0 dX1_change_32 rfl rfl ?_
    refine wg_iload_n X 2 dX1_change_33 rfl rfl ?_
    obtain ⟨C2, e3, h⟩ := lt_some h
    refine wg_putCe X cl1 hp0 2 (by decide) dX1_change_34 k_114 rfl rfl rfl rfl e3 ?_
    refine wg_goto X 64 dX1_change_37 (by decide) ?_
    exact wg_vret X ⟨(sm_inj h), rfl⟩ hr dX1_change_64
  have h := if_f c1 h
  by_cases c4 : p1 = (2 : Int32)
  · have h := if_t c4 h
    refine wg_tblIn (off := 39) X 40 dX1_change_1 c4 (by decide) (by decide) (by decide) (by decide) ?_
    refine wg_aload_n X 0 dX1_change_40 rfl rfl ?_
    refine wg_iload_n X 2 dX1_change_41 rfl rfl ?_
    obtain ⟨C5, e6, h⟩ := lt_some h
    refine wg_putCe X cl1 hp0 3 (by decide) dX1_change_42 k_117 rfl rfl rfl rfl e6 ?_
    refine wg_goto X 64 dX1_change_45 (by decide) ?_
    exact wg_vret X ⟨(sm_inj h), rfl⟩ hr dX1_change_64
  have h := if_f c4 h
  by_cases c7 : p1 = (3 : Int32)
  · have h := if_t c7 h
    refine wg_tblIn (off := 47) X 48 dX1_change_1 c7 (by decide) (by decide) (by decide) (by decide) ?_
    refine wg_aload_n X 0 dX1_change_48 rfl rfl ?_
    refine wg_iload_n X 2 dX1_change_49 rfl rfl ?_
    obtain ⟨C8, e9, h⟩ := lt_some h
    refine wg_putCe X cl1 hp0 4 (by decide) dX1_change_50 k_120 rfl rfl rfl rfl e9 ?_
    refine wg_goto X 64 dX1_change_53 (by decide) ?_
    exact wg_vret X ⟨(sm_inj h), rfl⟩ hr dX1_change_64
  have h := if_f c7 h
  by_cases c10 : p1 = (4 : Int32)
  · have h := if_t c10 h
    refine wg_tblIn (off := 55) X 56 dX1_change_1 c10 (by decide) (by decide) (by decide) (by decide) ?_
    refine wg_aload_n X 0 dX1_change_56 rfl rfl ?_
    refine wg_iload_n X 2 dX1_change_57 rfl rfl ?_
    obtain ⟨C11, e12, h⟩ := lt_some h
    refine wg_putCe X cl1 hp0 5 (by decide) dX1_change_58 k_124 rfl rfl rfl rfl e12 ?_
    refine wg_goto X 64 dX1_change_61 (by decide) ?_
    exact wg_vret X ⟨(sm_inj h), rfl⟩ hr dX1_change_64
  have h := if_f c10 h
  refine wg_tblOut X 64 dX1_change_1 (wg_tout (1) (4) (fun k hk => by
      rcases (show k = 0 ∨ k = 1 ∨ k = 2 ∨ k = 3 by omega) with rfl | rfl | rfl | rfl
      · exact fun q => c1 (q.trans (by decide))
      · exact fun q => c4 (q.trans (by decide))
      · exact fun q => c7 (q.trans (by decide))
      · exact fun q => c10 (q.trans (by decide))) (by decide) (by decide)) (by decide) ?_
  exact wg_vret X ⟨(sm_inj h), rfl⟩ hr dX1_change_64
-- WindowsGive.set(III)I (('c', 0), 'i', 'i', 'i')
def f_X8_set (C : wg_C) (p1 : Int32) (p2 : Int32) (p3 : Int32) : Option (Int32 × wg_C) :=
  bd (f_X8_told C p2 p1) fun r2 =>
  if r2 = (-100 : Int32) then (
    some ((-100 : Int32), C))
  else (
    bd (f_X8_fits p1 p3) fun r5 =>
    if r5 = 0 then (
      some ((-100 : Int32), C))
    else (
      if p1 = 0 then (
        ck (inb p2 32) <|
        lt_ (wg_up C 2 p2.toNatClampNeg p3) fun C12 =>
        some (r2, C12))
      else (
        ck (inb p2 8) <|
        bd (f_X1_change C (4 + p2.toNatClampNeg) p1 p3) fun C10 =>
        some (r2, C10))))
set_option maxHeartbeats 4000000 in
set_option maxRecDepth 100000 in
theorem c_X8_set (l : Launch) (E : wg_Ev) (ad : Nat → Nat) (S : wg_Sh) (hS : wg_SC S) (C : wg_C) (M : wg_M) (p1 : Int32) (p2 : Int32) (p3 : Int32)  {r0 : Int32} {D0 : wg_C} (h : f_X8_set C p1 p2 p3 = some (r0, D0)) : wg_Ci l yX8_set cX8_set 5 (some .int) 3 63 E ad S C M [.ref (ad 0), .int p1, .int p2, .int p3] r0 D0 M := by
  refine wg_start (own := RX8) (by decide +kernel) rfl (Nat.le_of_ble_eq_true rfl) ?_
  intro p e s m below meth c X hr hnm
  refine wg_lv (lv' := [(0, .ref (ad 0)), (1, .int p1), (2, .int p2), (3, .int p3)]) rfl ?_
  unfold f_X8_set at h
  refine wg_aload_n X 0 dX8_set_0 rfl rfl ?_
  refine wg_iload_n X 2 dX8_set_1 rfl rfl ?_
  refine wg_iload_n X 1 dX8_set_2 rfl rfl ?_
  obtain ⟨r2, h1, h⟩ := bd_some h
  refine wg_callVi (As := [.int p2, .int p1]) (rest := []) X (c_X8_told l E ad S hS C M p2 p1  h1) T_yX8_told k_513 cl8 (SCi hS 0 8 rfl) dX8_set_3 rfl rfl (Nat.le_of_ble_eq_true rfl) ⟨Nat.le_of_ble_eq_true rfl, Nat.le_of_ble_eq_true rfl⟩ ⟨Nat.zero_le _, Nat.zero_le _⟩ ?_
  refine wg_istore (lv' := [(4, .int r2), (0, .ref (ad 0)), (1, .int p1), (2, .int p2), (3, .int p3)]) X dX8_set_6 rfl (by decide) rfl ?_
  refine wg_iload X 0 dX8_set_8 rfl ?_
  refine wg_bipush (v := -100) X dX8_set_10 (by decide) ?_
  refine wg_icmp_eq X 23 dX8_set_12 (by decide) (fun c3 => ?_) (fun c3 => ?_)
  · have h := if_t c3 h
    refine wg_bipush (v := -100) X dX8_set_23 (by decide) ?_
    exact wg_iret X ⟨congrArg Prod.fst (sm_inj h), congrArg Prod.snd (sm_inj h), rfl⟩ hr dX8_set_25
  · have h := if_f c3 h
    refine wg_iload_n X 2 dX8_set_15 rfl rfl ?_
    refine wg_iload_n X 4 dX8_set_16 rfl rfl ?_
    obtain ⟨r5, h4, h⟩ := bd_some h
    refine wg_callSi (As := [.int p1, .int p3]) (rest := []) X (c_X8_fits l E ad S C M p1 p3  h4) T_yX8_fits k_532 dX8_set_17 rfl rfl (Nat.le_of_ble_eq_true rfl) ⟨Nat.le_of_ble_eq_true rfl, Nat.le_of_ble_eq_true rfl⟩ ⟨Nat.zero_le _, Nat.zero_le _⟩ ?_
    refine wg_if_ne X 26 dX8_set_20 (by decide) (fun c6 => ?_) (fun c6 => ?_)
    · have h := if_f c6 h
      refine wg_iload_n X 2 dX8_set_26 rfl rfl ?_
      refine wg_if_ne X 43 dX8_set_27 (by decide) (fun c7 => ?_) (fun c7 => ?_)
      · have h := if_f c7 h
        refine wg_aload_n X 1 dX8_set_43 rfl rfl ?_
        refine wg_getR (b := 1) X cl8 (SCi hS 0 8 rfl) 0 (by decide) dX8_set_44 k_472 rfl (SCr hS 0 0 1 rfl) ?_
        refine wg_getR (b := 3) X cl0 (SCi hS 1 0 rfl) 1 (by decide) dX8_set_47 k_144 rfl (SCr hS 1 1 3 rfl) ?_
        refine wg_iload_n X 3 dX8_set_50 rfl rfl ?_
        obtain ⟨z8, h⟩ := ck_some h
        refine wg_aalS13 (b := 4 + p2.toNatClampNeg) X (SCi hS 3 13 rfl) (SCl hS 3 8 rfl) z8 (SCp hS (inb_lt z8)).1 dX8_set_51 ?_
        refine wg_iload_n X 2 dX8_set_52 rfl rfl ?_
        refine wg_iload_n X 4 dX8_set_53 rfl rfl ?_
        obtain ⟨C10, h9, h⟩ := bd_some h
        refine wg_callVv (As := [.int p1, .int p3]) (rest := []) X (c_X1_change l E ad S hS C M (4 + p2.toNatClampNeg) p1 p3 ((SCp hS (inb_lt z8)).2.1) h9) T_yX1_change k_538 cl1 ((SCp hS (inb_lt z8)).2.1) dX8_set_54 rfl rfl (Nat.le_of_ble_eq_true rfl) ⟨Nat.le_of_ble_eq_true rfl, Nat.le_of_ble_eq_true rfl⟩ ⟨Nat.zero_le _, Nat.zero_le _⟩ ?_
        refine wg_iload X 0 dX8_set_57 rfl ?_
        exact wg_iret X ⟨congrArg Prod.fst (sm_inj h), congrArg Prod.snd (sm_inj h), rfl⟩ hr dX8_set_59
      · have h := if_t c7 h
        refine wg_aload_n X 1 dX8_set_30 rfl rfl ?_
        refine wg_getR (b := 1) X cl8 (SCi hS 0 8 rfl) 0 (by decide) dX8_set_31 k_472 rfl (SCr hS 0 0 1 rfl) ?_
        refine wg_getR (b := 2) X cl0 (SCi hS 1 0 rfl) 0 (by decide) dX8_set_34 k_141 rfl (SCr hS 1 0 2 rfl) ?_
        refine wg_iload_n X 3 dX8_set_37 rfl rfl ?_
        refine wg_iload_n X 4 dX8_set_38 rfl rfl ?_
        obtain ⟨z11, h⟩ := ck_some h
        obtain ⟨C12, e13, h⟩ := lt_some h
        refine wg_iaste X (SCi hS 2 10 rfl) (SCl hS 2 32 rfl) z11 dX8_set_39 e13 ?_
        refine wg_goto X 57 dX8_set_40 (by decide) ?_
        refine wg_iload X 0 dX8_set_57 rfl ?_
        exact wg_iret X ⟨congrArg Prod.fst (sm_inj h), congrArg Prod.snd (sm_inj h), rfl⟩ hr dX8_set_59
    · have h := if_t c6 h
      refine wg_bipush (v := -100) X dX8_set_23 (by decide) ?_
      exact wg_iret X ⟨congrArg Prod.fst (sm_inj h), congrArg Prod.snd (sm_inj h), rfl⟩ hr dX8_set_25
-- WindowsGive.isKind(I)Z ('i',)
def f_X8_isKind (p0 : Int32) : Option Int32 :=
  if p0 < 0 then (
    some (0 : Int32))
  else (
    if (5 : Int32) < p0 then (
      some (0 : Int32))
    else (
      some (1 : Int32)))
set_option maxHeartbeats 4000000 in
set_option maxRecDepth 100000 in
theorem c_X8_isKind (l : Launch) (E : wg_Ev) (ad : Nat → Nat) (S : wg_Sh) (C : wg_C) (M : wg_M) (p0 : Int32)  {r0 : Int32} (h : f_X8_isKind p0 = some r0) : wg_Ci l yX8_isKind cX8_isKind 1 (some .boolean) 0 0 E ad S C M [.int p0] r0 C M := by
  refine wg_start (own := RX8) (by decide +kernel) rfl (Nat.le_of_ble_eq_true rfl) ?_
  intro p e s m below meth c X hr hnm
  refine wg_lv (lv' := [(0, .int p0)]) rfl ?_
  unfold f_X8_isKind at h
  refine wg_iload_n X 0 dX8_isKind_0 rfl rfl ?_
  refine wg_if_lt X 13 dX8_isKind_1 (by decide) (fun c1 => ?_) (fun c1 => ?_)
  · have h := if_t c1 h
    refine wg_iconst (v := 0) X dX8_isKind_13 (by decide) ?_
    exact wg_zret X ⟨(sm_inj h), rfl, rfl⟩ hr (by decide) dX8_isKind_14
  · have h := if_f c1 h
    refine wg_iload_n X 0 dX8_isKind_4 rfl rfl ?_
    refine wg_iconst (v := 5) X dX8_isKind_5 (by decide) ?_
    refine wg_icmp_gt X 13 dX8_isKind_6 (by decide) (fun c2 => ?_) (fun c2 => ?_)
    · have h := if_t c2 h
      refine wg_iconst (v := 0) X dX8_isKind_13 (by decide) ?_
      exact wg_zret X ⟨(sm_inj h), rfl, rfl⟩ hr (by decide) dX8_isKind_14
    · have h := if_f c2 h
      refine wg_iconst (v := 1) X dX8_isKind_9 (by decide) ?_
      refine wg_goto X 14 dX8_isKind_10 (by decide) ?_
      exact wg_zret X ⟨(sm_inj h), rfl, rfl⟩ hr (by decide) dX8_isKind_14
-- WindowsGive.pane(III)I (('c', 0), 'i', 'i', 'i')
def f_X8_pane (C : wg_C) (p1 : Int32) (p2 : Int32) (p3 : Int32) : Option (Int32 × wg_C) :=
  lt_ (p2 / (100 : Int32)) fun v1 =>
  lt_ ((p2 - p2 / (100 : Int32) * (100 : Int32)) - (9 : Int32)) fun v3 =>
  lt_ (p3 / (10 : Int32)) fun v5 =>
  lt_ (p3 - p3 / (10 : Int32) * (10 : Int32)) fun v7 =>
  bd (f_X8_isKind p1) fun r10 =>
  if r10 = 0 then (
    some ((-2 : Int32), C))
  else (
    if p2 < 0 then (
      some ((-2 : Int32), C))
    else (
      bd (f_X8_fits (1 : Int32) v1) fun r14 =>
      if r14 = 0 then (
        some ((-2 : Int32), C))
      else (
        bd (f_X8_fits (2 : Int32) v3) fun r17 =>
        if r17 = 0 then (
          some ((-2 : Int32), C))
        else (
          if p3 < 0 then (
            some ((-2 : Int32), C))
          else (
            bd (f_X8_isRoom v5) fun r21 =>
            if r21 = 0 then (
              some ((-2 : Int32), C))
            else (
              bd (f_X8_isRoom v7) fun r24 =>
              if r24 = 0 then (
                some ((-2 : Int32), C))
              else (
                if (C 1 2) < (8 : Int32) then (
                  ck (inb (C 1 2) 8) <|
                  lt_ (wg_up C (4 + (C 1 2).toNatClampNeg) 1 p1) fun C28 =>
                  lt_ (wg_up C28 (4 + (C 1 2).toNatClampNeg) 2 v1) fun C30 =>
                  lt_ (wg_up C30 (4 + (C 1 2).toNatClampNeg) 3 v3) fun C32 =>
                  lt_ (wg_up C32 (4 + (C 1 2).toNatClampNeg) 4 v5) fun C34 =>
                  lt_ (wg_up C34 (4 + (C 1 2).toNatClampNeg) 5 v7) fun C36 =>
                  lt_ (wg_up C36 1 2 ((C36 1 2) + (1 : Int32))) fun C38 =>
                  some ((C38 (4 + (C 1 2).toNatClampNeg) 0), C38))
                else (
                  some ((-4 : Int32), C)))))))))
set_option maxHeartbeats 4000000 in
set_option maxRecDepth 100000 in
theorem c_X8_pane (l : Launch) (E : wg_Ev) (ad : Nat → Nat) (S : wg_Sh) (hS : wg_SC S) (C : wg_C) (M : wg_M) (p1 : Int32) (p2 : Int32) (p3 : Int32)  {r0 : Int32} {D0 : wg_C} (h : f_X8_pane C p1 p2 p3 = some (r0, D0)) : wg_Ci l yX8_pane cX8_pane 9 (some .int) 2 41 E ad S C M [.ref (ad 0), .int p1, .int p2, .int p3] r0 D0 M := by
  refine wg_start (own := RX8) (by decide +kernel) rfl (Nat.le_of_ble_eq_true rfl) ?_
  intro p e s m below meth c X hr hnm
  refine wg_lv (lv' := [(0, .ref (ad 0)), (1, .int p1), (2, .int p2), (3, .int p3)]) rfl ?_
  unfold f_X8_pane at h
  refine wg_iload_n X 2 dX8_pane_0 rfl rfl ?_
  refine wg_bipush (v := 100) X dX8_pane_1 (by decide) ?_
  refine wg_idiv X dX8_pane_3 (by decide) ?_
  obtain ⟨v1, e2, h⟩ := lt_some h
  refine wg_istore (lv' := [(4, .int v1), (0, .ref (ad 0)), (1, .int p1), (2, .int p2), (3, .int p3)]) X dX8_pane_4 e2 (by decide) rfl ?_
  refine wg_iload_n X 3 dX8_pane_6 rfl rfl ?_
  refine wg_bipush (v := 100) X dX8_pane_7 (by decide) ?_
  refine wg_irem X dX8_pane_9 (by decide) ?_
  refine wg_bipush (v := 9) X dX8_pane_10 (by decide) ?_
  refine wg_isub X dX8_pane_12 ?_
  obtain ⟨v3, e4, h⟩ := lt_some h
  refine wg_istore (lv' := [(5, .int v3), (4, .int v1), (0, .ref (ad 0)), (1, .int p1), (2, .int p2), (3, .int p3)]) X dX8_pane_13 e4 (by decide) rfl ?_
  refine wg_iload_n X 5 dX8_pane_15 rfl rfl ?_
  refine wg_bipush (v := 10) X dX8_pane_16 (by decide) ?_
  refine wg_idiv X dX8_pane_18 (by decide) ?_
  obtain ⟨v5, e6, h⟩ := lt_some h
  refine wg_istore (lv' := [(6, .int v5), (5, .int v3), (4, .int v1), (0, .ref (ad 0)), (1, .int p1), (2, .int p2), (3, .int p3)]) X dX8_pane_19 e6 (by decide) rfl ?_
  refine wg_iload_n X 6 dX8_pane_21 rfl rfl ?_
  refine wg_bipush (v := 10) X dX8_pane_22 (by decide) ?_
  refine wg_irem X dX8_pane_24 (by decide) ?_
  obtain ⟨v7, e8, h⟩ := lt_some h
  refine wg_istore (lv' := [(7, .int v7), (6, .int v5), (5, .int v3), (4, .int v1), (0, .ref (ad 0)), (1, .int p1), (2, .int p2), (3, .int p3)]) X dX8_pane_25 e8 (by decide) rfl ?_
  refine wg_iload_n X 5 dX8_pane_27 rfl rfl ?_
  obtain ⟨r10, h9, h⟩ := bd_some h
  refine wg_callSi (As := [.int p1]) (rest := []) X (c_X8_isKind l E ad S C M p1  h9) T_yX8_isKind k_546 dX8_pane_28 rfl rfl (Nat.le_of_ble_eq_true rfl) ⟨Nat.le_of_ble_eq_true rfl, Nat.le_of_ble_eq_true rfl⟩ ⟨Nat.zero_le _, Nat.zero_le _⟩ ?_
  refine wg_if_eq X 56 dX8_pane_31 (by decide) (fun c11 => ?_) (fun c11 => ?_)
  · have h := if_t c11 h
    refine wg_bipush (v := -2) X dX8_pane_56 (by decide) ?_
    exact wg_iret X ⟨congrArg Prod.fst (sm_inj h), congrArg Prod.snd (sm_inj h), rfl⟩ hr dX8_pane_58
  · have h := if_f c11 h
    refine wg_iload_n X 6 dX8_pane_34 rfl rfl ?_
    refine wg_if_lt X 56 dX8_pane_35 (by decide) (fun c12 => ?_) (fun c12 => ?_)
    · have h := if_t c12 h
      refine wg_bipush (v := -2) X dX8_pane_56 (by decide) ?_
      exact wg_iret X ⟨congrArg Prod.fst (sm_inj h), congrArg Prod.snd (sm_inj h), rfl⟩ hr dX8_pane_58
    · have h := if_f c12 h
      refine wg_iconst (v := 1) X dX8_pane_38 (by decide) ?_
      refine wg_iload X 3 dX8_pane_39 rfl ?_
      obtain ⟨r14, h13, h⟩ := bd_some h
      refine wg_callSi (As := [.int (1 : Int32), .int v1]) (rest := []) X (c_X8_fits l E ad S C M (1 : Int32) v1  h13) T_yX8_fits k_532 dX8_pane_41 rfl rfl (Nat.le_of_ble_eq_true rfl) ⟨Nat.le_of_ble_eq_true rfl, Nat.le_of_ble_eq_true rfl⟩ ⟨Nat.zero_le _, Nat.zero_le _⟩ ?_
      refine wg_if_eq X 56 dX8_pane_44 (by decide) (fun c15 => ?_) (fun c15 => ?_)
      · have h := if_t c15 h
        refine wg_bipush (v := -2) X dX8_pane_56 (by decide) ?_
        exact wg_iret X ⟨congrArg Prod.fst (sm_inj h), congrArg Prod.snd (sm_inj h), rfl⟩ hr dX8_pane_58
      · have h := if_f c15 h
        refine wg_iconst (v := 2) X dX8_pane_47 (by decide) ?_
        refine wg_iload X 2 dX8_pane_48 rfl ?_
        obtain ⟨r17, h16, h⟩ := bd_some h
        refine wg_callSi (As := [.int (2 : Int32), .int v3]) (rest := []) X (c_X8_fits l E ad S C M (2 : Int32) v3  h16) T_yX8_fits k_532 dX8_pane_50 rfl rfl (Nat.le_of_ble_eq_true rfl) ⟨Nat.le_of_ble_eq_true rfl, Nat.le_of_ble_eq_true rfl⟩ ⟨Nat.zero_le _, Nat.zero_le _⟩ ?_
        refine wg_if_ne X 59 dX8_pane_53 (by decide) (fun c18 => ?_) (fun c18 => ?_)
        · have h := if_f c18 h
          refine wg_iload_n X 7 dX8_pane_59 rfl rfl ?_
          refine wg_if_lt X 79 dX8_pane_60 (by decide) (fun c19 => ?_) (fun c19 => ?_)
          · have h := if_t c19 h
            refine wg_bipush (v := -2) X dX8_pane_79 (by decide) ?_
            exact wg_iret X ⟨congrArg Prod.fst (sm_inj h), congrArg Prod.snd (sm_inj h), rfl⟩ hr dX8_pane_81
          · have h := if_f c19 h
            refine wg_iload X 1 dX8_pane_63 rfl ?_
            obtain ⟨r21, h20, h⟩ := bd_some h
            refine wg_callSi (As := [.int v5]) (rest := []) X (c_X8_isRoom l E ad S C M v5  h20) T_yX8_isRoom k_535 dX8_pane_65 rfl rfl (Nat.le_of_ble_eq_true rfl) ⟨Nat.le_of_ble_eq_true rfl, Nat.le_of_ble_eq_true rfl⟩ ⟨Nat.zero_le _, Nat.zero_le _⟩ ?_
            refine wg_if_eq X 79 dX8_pane_68 (by decide) (fun c22 => ?_) (fun c22 => ?_)
            · have h := if_t c22 h
              refine wg_bipush (v := -2) X dX8_pane_79 (by decide) ?_
              exact wg_iret X ⟨congrArg Prod.fst (sm_inj h), congrArg Prod.snd (sm_inj h), rfl⟩ hr dX8_pane_81
            · have h := if_f c22 h
              refine wg_iload X 0 dX8_pane_71 rfl ?_
              obtain ⟨r24, h23, h⟩ := bd_some h
              refine wg_callSi (As := [.int v7]) (rest := []) X (c_X8_isRoom l E ad S C M v7  h23) T_yX8_isRoom k_535 dX8_pane_73 rfl rfl (Nat.le_of_ble_eq_true rfl) ⟨Nat.le_of_ble_eq_true rfl, Nat.le_of_ble_eq_true rfl⟩ ⟨Nat.zero_le _, Nat.zero_le _⟩ ?_
              refine wg_if_ne X 82 dX8_pane_76 (by decide) (fun c25 => ?_) (fun c25 => ?_)
              · have h := if_f c25 h
                refine wg_aload_n X 4 dX8_pane_82 rfl rfl ?_
                refine wg_getR (b := 1) X cl8 (SCi hS 0 8 rfl) 0 (by decide) dX8_pane_83 k_472 rfl (SCr hS 0 0 1 rfl) ?_
                refine wg_getC X cl0 (SCi hS 1 0 rfl) 2 (by decide) dX8_pane_86 k_147 rfl ?_
                refine wg_bipush (v := 8) X dX8_pane_89 (by decide) ?_
                refine wg_icmp_lt X 97 dX8_pane_91 (by decide) (fun c26 => ?_) (fun c26 => ?_)
                · have h := if_t c26 h
                  refine wg_aload_n X 4 dX8_pane_97 rfl rfl ?_
                  refine wg_getR (b := 1) X cl8 (SCi hS 0 8 rfl) 0 (by decide) dX8_pane_98 k_472 rfl (SCr hS 0 0 1 rfl) ?_
                  refine wg_getR (b := 3) X cl0 (SCi hS 1 0 rfl) 1 (by decide) dX8_pane_101 k_144 rfl (SCr hS 1 1 3 rfl) ?_
                  refine wg_aload_n X 4 dX8_pane_104 rfl rfl ?_
                  refine wg_getR (b := 1) X cl8 (SCi hS 0 8 rfl) 0 (by decide) dX8_pane_105 k_472 rfl (SCr hS 0 0 1 rfl) ?_
                  refine wg_getC X cl0 (SCi hS 1 0 rfl) 2 (by decide) dX8_pane_108 k_147 rfl ?_
                  obtain ⟨z27, h⟩ := ck_some h
                  refine wg_aalS13 (b := 4 + (C 1 2).toNatClampNeg) X (SCi hS 3 13 rfl) (SCl hS 3 8 rfl) z27 (SCp hS (inb_lt z27)).1 dX8_pane_111 ?_
                  refine wg_astore (lv' := [(8, .ref (ad (4 + (C 1 2).toNatClampNeg))), (7, .int v7), (6, .int v5), (5, .int v3), (4, .int v1), (0, .ref (ad 0)), (1, .int p1), (2, .int p2), (3, .int p3)]) X dX8_pane_112 rfl (by decide) rfl ?_
                  refine wg_aload X 0 dX8_pane_114 rfl ?_
                  refine wg_iload_n X 6 dX8_pane_116 rfl rfl ?_
                  obtain ⟨C28, e29, h⟩ := lt_some h
                  refine wg_putCe X cl1 (SCp hS (inb_lt z27)).2.1 1 (by decide) dX8_pane_117 k_113 rfl rfl rfl rfl e29 ?_
                  refine wg_aload X 0 dX8_pane_120 rfl ?_
                  refine wg_iload X 4 dX8_pane_122 rfl ?_
                  obtain ⟨C30, e31, h⟩ := lt_some h
                  refine wg_putCe X cl1 (SCp hS (inb_lt z27)).2.1 2 (by decide) dX8_pane_124 k_116 rfl rfl rfl rfl e31 ?_
                  refine wg_aload X 0 dX8_pane_127 rfl ?_
                  refine wg_iload X 3 dX8_pane_129 rfl ?_
                  obtain ⟨C32, e33, h⟩ := lt_some h
                  refine wg_putCe X cl1 (SCp hS (inb_lt z27)).2.1 3 (by decide) dX8_pane_131 k_119 rfl rfl rfl rfl e33 ?_
                  refine wg_aload X 0 dX8_pane_134 rfl ?_
                  refine wg_iload X 2 dX8_pane_136 rfl ?_
                  obtain ⟨C34, e35, h⟩ := lt_some h
                  refine wg_putCe X cl1 (SCp hS (inb_lt z27)).2.1 4 (by decide) dX8_pane_138 k_122 rfl rfl rfl rfl e35 ?_
                  refine wg_aload X 0 dX8_pane_141 rfl ?_
                  refine wg_iload X 1 dX8_pane_143 rfl ?_
                  obtain ⟨C36, e37, h⟩ := lt_some h
                  refine wg_putCe X cl1 (SCp hS (inb_lt z27)).2.1 5 (by decide) dX8_pane_145 k_125 rfl rfl rfl rfl e37 ?_
                  refine wg_aload_n X 5 dX8_pane_148 rfl rfl ?_
                  refine wg_getR (b := 1) X cl8 (SCi hS 0 8 rfl) 0 (by decide) dX8_pane_149 k_472 rfl (SCr hS 0 0 1 rfl) ?_
                  refine wg_dup X dX8_pane_152 rfl ?_
                  refine wg_getC X cl0 (SCi hS 1 0 rfl) 2 (by decide) dX8_pane_153 k_147 rfl ?_
                  refine wg_iconst (v := 1) X dX8_pane_156 (by decide) ?_
                  refine wg_iadd X dX8_pane_157 ?_
                  obtain ⟨C38, e39, h⟩ := lt_some h
                  refine wg_putCe X cl0 (SCi hS 1 0 rfl) 2 (by decide) dX8_pane_158 k_147 rfl rfl rfl rfl e39 ?_
                  refine wg_aload X 0 dX8_pane_161 rfl ?_
                  refine wg_getC X cl1 (SCp hS (inb_lt z27)).2.1 0 (by decide) dX8_pane_163 k_111 rfl ?_
                  exact wg_iret X ⟨congrArg Prod.fst (sm_inj h), congrArg Prod.snd (sm_inj h), rfl⟩ hr dX8_pane_166
                · have h := if_f c26 h
                  refine wg_bipush (v := -4) X dX8_pane_94 (by decide) ?_
                  exact wg_iret X ⟨congrArg Prod.fst (sm_inj h), congrArg Prod.snd (sm_inj h), rfl⟩ hr dX8_pane_96
              · have h := if_t c25 h
                refine wg_bipush (v := -2) X dX8_pane_79 (by decide) ?_
                exact wg_iret X ⟨congrArg Prod.fst (sm_inj h), congrArg Prod.snd (sm_inj h), rfl⟩ hr dX8_pane_81
        · have h := if_t c18 h
          refine wg_bipush (v := -2) X dX8_pane_56 (by decide) ?_
          exact wg_iret X ⟨congrArg Prod.fst (sm_inj h), congrArg Prod.snd (sm_inj h), rfl⟩ hr dX8_pane_58
-- WindowsGive$Pane.on(I)I ('P', 'i')
def f_X1_on_j40 (p0 : Nat) (C : wg_C)  (x1 : Int32) : Option Int32 :=
  some ((x1 + (C p0 3)) - (C p0 2))
def f_X1_on (C : wg_C) (p0 : Nat) (p1 : Int32) : Option Int32 :=
  lt_ (C p0 1) fun v1 =>
  if v1 = (1 : Int32) then (
    f_X1_on_j40 p0 C  p1)
  else
  if v1 = (2 : Int32) then (
    some (p1 + (C p0 3)))
  else
  if v1 = (3 : Int32) then (
    f_X1_on_j40 p0 C  p1)
  else
  if v1 = (4 : Int32) then (
    some p1)
  else
  if v1 = (5 : Int32) then (
    some (p1 + ((C p0 3) * ((C p0 2) + (1 : Int32)))))
  else
  some (p1 + (C p0 3))
abbrev G_X1_on (p : Program) (l : Launch) (e : Env) (s : State) (m : MethodId) (args : Array Value) (below : List Frame) (meth : Method) (c : Code) (E : wg_Ev) (ad : Nat → Nat) (S : wg_Sh) (r0 : Int32) (C0 : wg_C) (M0 : wg_M) (pc : Nat) (C : wg_C) (M : wg_M) (lv : List (Nat × Value)) (st : List Value) : Prop := wg_G p l e (wg_Rm 0 0) s m args below meth c (MQ below (wg_Qi E ad S r0 C0 M0) args s 0 0 (wg_A E)) 2 E ad S 0 0 pc C M lv st
set_option maxHeartbeats 4000000 in
set_option maxRecDepth 100000 in
theorem J_X1_on_j40 {p : Program} {l : Launch} {e : Env} {s : State} {m : MethodId} {args : Array Value} {below : List Frame} {meth : Method} {c : Code} {E : wg_Ev} {ad : Nat → Nat} {S : wg_Sh} (X : wg_X p s m args meth c cX1_on 2 RX1 E) (hr : meth.sig.returnType = (some .int)) (hS : wg_SC S) (r0 : Int32) (M : wg_M) (p0 : Nat) (hp0 : wg_id S p0 1) (C : wg_C)  (x1 : Int32)   (h : f_X1_on_j40 p0 C  x1 = some r0) : G_X1_on p l e s m args below meth c E ad S r0 C M 40 C M [(0, .ref (ad p0)), (1, .int x1)] [] := by
  unfold f_X1_on_j40 at h
  refine wg_iload_n X 1 dX1_on_40 rfl rfl ?_
  refine wg_aload_n X 0 dX1_on_41 rfl rfl ?_
  refine wg_getC X cl1 hp0 3 (by decide) dX1_on_42 k_117 rfl ?_
  refine wg_iadd X dX1_on_45 ?_
  refine wg_aload_n X 0 dX1_on_46 rfl rfl ?_
  refine wg_getC X cl1 hp0 2 (by decide) dX1_on_47 k_114 rfl ?_
  refine wg_isub X dX1_on_50 ?_
  exact wg_iret X ⟨(sm_inj h), rfl, rfl⟩ hr dX1_on_51
set_option maxHeartbeats 4000000 in
set_option maxRecDepth 100000 in
theorem c_X1_on (l : Launch) (E : wg_Ev) (ad : Nat → Nat) (S : wg_Sh) (hS : wg_SC S) (C : wg_C) (M : wg_M) (p0 : Nat) (p1 : Int32) (hp0 : wg_id S p0 1) {r0 : Int32} (h : f_X1_on C p0 p1 = some r0) : wg_Ci l yX1_on cX1_on 2 (some .int) 0 0 E ad S C M [.ref (ad p0), .int p1] r0 C M := by
  refine wg_start (own := RX1) (by decide +kernel) rfl (Nat.le_of_ble_eq_true rfl) ?_
  intro p e s m below meth c X hr hnm
  refine wg_lv (lv' := [(0, .ref (ad p0)), (1, .int p1)]) rfl ?_
  unfold f_X1_on at h
  refine wg_aload_n X 0 dX1_on_0 rfl rfl ?_
  refine wg_getC X cl1 hp0 1 (by decide) dX1_on_1 k_112 rfl ?_
  obtain ⟨v1, e2, h⟩ := lt_some h
  refine wg_top e2 ?_
  by_cases c3 : v1 = (1 : Int32)
  · have h := if_t c3 h
    refine wg_tblIn (off := 36) X 40 dX1_on_4 c3 (by decide) (by decide) (by decide) (by decide) ?_
    exact J_X1_on_j40 X hr hS r0 M p0 hp0 C  p1   h
  have h := if_f c3 h
  by_cases c4 : v1 = (2 : Int32)
  · have h := if_t c4 h
    refine wg_tblIn (off := 64) X 68 dX1_on_4 c4 (by decide) (by decide) (by decide) (by decide) ?_
    refine wg_iload_n X 1 dX1_on_68 rfl rfl ?_
    refine wg_aload_n X 0 dX1_on_69 rfl rfl ?_
    refine wg_getC X cl1 hp0 3 (by decide) dX1_on_70 k_117 rfl ?_
    refine wg_iadd X dX1_on_73 ?_
    exact wg_iret X ⟨(sm_inj h), rfl, rfl⟩ hr dX1_on_74
  have h := if_f c4 h
  by_cases c5 : v1 = (3 : Int32)
  · have h := if_t c5 h
    refine wg_tblIn (off := 36) X 40 dX1_on_4 c5 (by decide) (by decide) (by decide) (by decide) ?_
    exact J_X1_on_j40 X hr hS r0 M p0 hp0 C  p1   h
  have h := if_f c5 h
  by_cases c6 : v1 = (4 : Int32)
  · have h := if_t c6 h
    refine wg_tblIn (off := 48) X 52 dX1_on_4 c6 (by decide) (by decide) (by decide) (by decide) ?_
    refine wg_iload_n X 1 dX1_on_52 rfl rfl ?_
    exact wg_iret X ⟨(sm_inj h), rfl, rfl⟩ hr dX1_on_53
  have h := if_f c6 h
  by_cases c7 : v1 = (5 : Int32)
  · have h := if_t c7 h
    refine wg_tblIn (off := 50) X 54 dX1_on_4 c7 (by decide) (by decide) (by decide) (by decide) ?_
    refine wg_iload_n X 1 dX1_on_54 rfl rfl ?_
    refine wg_aload_n X 0 dX1_on_55 rfl rfl ?_
    refine wg_getC X cl1 hp0 3 (by decide) dX1_on_56 k_117 rfl ?_
    refine wg_aload_n X 0 dX1_on_59 rfl rfl ?_
    refine wg_getC X cl1 hp0 2 (by decide) dX1_on_60 k_114 rfl ?_
    refine wg_iconst (v := 1) X dX1_on_63 (by decide) ?_
    refine wg_iadd X dX1_on_64 ?_
    refine wg_imul X dX1_on_65 ?_
    refine wg_iadd X dX1_on_66 ?_
    exact wg_iret X ⟨(sm_inj h), rfl, rfl⟩ hr dX1_on_67
  have h := if_f c7 h
  refine wg_tblOut X 68 dX1_on_4 (wg_tout (1) (5) (fun k hk => by
      rcases (show k = 0 ∨ k = 1 ∨ k = 2 ∨ k = 3 ∨ k = 4 by omega) with rfl | rfl | rfl | rfl | rfl
      · exact fun q => c3 (q.trans (by decide))
      · exact fun q => c4 (q.trans (by decide))
      · exact fun q => c5 (q.trans (by decide))
      · exact fun q => c6 (q.trans (by decide))
      · exact fun q => c7 (q.trans (by decide))) (by decide) (by decide)) (by decide) ?_
  refine wg_iload_n X 1 dX1_on_68 rfl rfl ?_
  refine wg_aload_n X 0 dX1_on_69 rfl rfl ?_
  refine wg_getC X cl1 hp0 3 (by decide) dX1_on_70 k_117 rfl ?_
  refine wg_iadd X dX1_on_73 ?_
  exact wg_iret X ⟨(sm_inj h), rfl, rfl⟩ hr dX1_on_74
-- WindowsGive$Pane.lets(II)Z ('P', 'i', 'i')
def f_X1_lets (C : wg_C) (p0 : Nat) (p1 : Int32) (p2 : Int32) : Option Int32 :=
  lt_ (C p0 1) fun v1 =>
  if v1 = (2 : Int32) then (
    if p2 = (1 : Int32) then (
      some (1 : Int32))
    else (
      some (0 : Int32)))
  else
  if v1 = (3 : Int32) then (
    some (1 : Int32))
  else
  if v1 = (4 : Int32) then (
    if p2 = 0 then (
      some (1 : Int32))
    else (
      some (0 : Int32)))
  else
  if v1 = (5 : Int32) then (
    if (C p0 2) < 0 then (
      some (0 : Int32))
    else (
      ck (¬ ((C p0 2) + (1 : Int32)) = 0) <|
      if (p1 - p1 / ((C p0 2) + (1 : Int32)) * ((C p0 2) + (1 : Int32))) = 0 then (
        some (1 : Int32))
      else (
        some (0 : Int32))))
  else
  if p2 = 0 then (
    some (1 : Int32))
  else (
    if p2 = (1 : Int32) then (
      some (1 : Int32))
    else (
      some (0 : Int32)))
set_option maxHeartbeats 4000000 in
set_option maxRecDepth 100000 in
theorem c_X1_lets (l : Launch) (E : wg_Ev) (ad : Nat → Nat) (S : wg_Sh) (hS : wg_SC S) (C : wg_C) (M : wg_M) (p0 : Nat) (p1 : Int32) (p2 : Int32) (hp0 : wg_id S p0 1) {r0 : Int32} (h : f_X1_lets C p0 p1 p2 = some r0) : wg_Ci l yX1_lets cX1_lets 3 (some .boolean) 0 0 E ad S C M [.ref (ad p0), .int p1, .int p2] r0 C M := by
  refine wg_start (own := RX1) (by decide +kernel) rfl (Nat.le_of_ble_eq_true rfl) ?_
  intro p e s m below meth c X hr hnm
  refine wg_lv (lv' := [(0, .ref (ad p0)), (1, .int p1), (2, .int p2)]) rfl ?_
  unfold f_X1_lets at h
  refine wg_aload_n X 0 dX1_lets_0 rfl rfl ?_
  refine wg_getC X cl1 hp0 1 (by decide) dX1_lets_1 k_112 rfl ?_
  obtain ⟨v1, e2, h⟩ := lt_some h
  refine wg_top e2 ?_
  by_cases c3 : v1 = (2 : Int32)
  · have h := if_t c3 h
    refine wg_tblIn (off := 32) X 36 dX1_lets_4 c3 (by decide) (by decide) (by decide) (by decide) ?_
    refine wg_iload_n X 2 dX1_lets_36 rfl rfl ?_
    refine wg_iconst (v := 1) X dX1_lets_37 (by decide) ?_
    refine wg_icmp_ne X 45 dX1_lets_38 (by decide) (fun c4 => ?_) (fun c4 => ?_)
    · have h := if_f c4 h
      refine wg_iconst (v := 0) X dX1_lets_45 (by decide) ?_
      exact wg_zret X ⟨(sm_inj h), rfl, rfl⟩ hr (by decide) dX1_lets_46
    · have h := if_t c4 h
      refine wg_iconst (v := 1) X dX1_lets_41 (by decide) ?_
      refine wg_goto X 46 dX1_lets_42 (by decide) ?_
      exact wg_zret X ⟨(sm_inj h), rfl, rfl⟩ hr (by decide) dX1_lets_46
  have h := if_f c3 h
  by_cases c5 : v1 = (3 : Int32)
  · have h := if_t c5 h
    refine wg_tblIn (off := 43) X 47 dX1_lets_4 c5 (by decide) (by decide) (by decide) (by decide) ?_
    refine wg_iconst (v := 1) X dX1_lets_47 (by decide) ?_
    exact wg_zret X ⟨(sm_inj h), rfl, rfl⟩ hr (by decide) dX1_lets_48
  have h := if_f c5 h
  by_cases c6 : v1 = (4 : Int32)
  · have h := if_t c6 h
    refine wg_tblIn (off := 45) X 49 dX1_lets_4 c6 (by decide) (by decide) (by decide) (by decide) ?_
    refine wg_iload_n X 2 dX1_lets_49 rfl rfl ?_
    refine wg_if_ne X 57 dX1_lets_50 (by decide) (fun c7 => ?_) (fun c7 => ?_)
    · have h := if_f c7 h
      refine wg_iconst (v := 0) X dX1_lets_57 (by decide) ?_
      exact wg_zret X ⟨(sm_inj h), rfl, rfl⟩ hr (by decide) dX1_lets_58
    · have h := if_t c7 h
      refine wg_iconst (v := 1) X dX1_lets_53 (by decide) ?_
      refine wg_goto X 58 dX1_lets_54 (by decide) ?_
      exact wg_zret X ⟨(sm_inj h), rfl, rfl⟩ hr (by decide) dX1_lets_58
  have h := if_f c6 h
  by_cases c8 : v1 = (5 : Int32)
  · have h := if_t c8 h
    refine wg_tblIn (off := 55) X 59 dX1_lets_4 c8 (by decide) (by decide) (by decide) (by decide) ?_
    refine wg_aload_n X 0 dX1_lets_59 rfl rfl ?_
    refine wg_getC X cl1 hp0 2 (by decide) dX1_lets_60 k_114 rfl ?_
    refine wg_if_lt X 81 dX1_lets_63 (by decide) (fun c9 => ?_) (fun c9 => ?_)
    · have h := if_t c9 h
      refine wg_iconst (v := 0) X dX1_lets_81 (by decide) ?_
      exact wg_zret X ⟨(sm_inj h), rfl, rfl⟩ hr (by decide) dX1_lets_82
    · have h := if_f c9 h
      refine wg_iload_n X 1 dX1_lets_66 rfl rfl ?_
      refine wg_aload_n X 0 dX1_lets_67 rfl rfl ?_
      refine wg_getC X cl1 hp0 2 (by decide) dX1_lets_68 k_114 rfl ?_
      refine wg_iconst (v := 1) X dX1_lets_71 (by decide) ?_
      refine wg_iadd X dX1_lets_72 ?_
      obtain ⟨z10, h⟩ := ck_some h
      refine wg_irem X dX1_lets_73 z10 ?_
      refine wg_if_ne X 81 dX1_lets_74 (by decide) (fun c11 => ?_) (fun c11 => ?_)
      · have h := if_f c11 h
        refine wg_iconst (v := 0) X dX1_lets_81 (by decide) ?_
        exact wg_zret X ⟨(sm_inj h), rfl, rfl⟩ hr (by decide) dX1_lets_82
      · have h := if_t c11 h
        refine wg_iconst (v := 1) X dX1_lets_77 (by decide) ?_
        refine wg_goto X 82 dX1_lets_78 (by decide) ?_
        exact wg_zret X ⟨(sm_inj h), rfl, rfl⟩ hr (by decide) dX1_lets_82
  have h := if_f c8 h
  refine wg_tblOut X 83 dX1_lets_4 (wg_tout (2) (5) (fun k hk => by
      rcases (show k = 0 ∨ k = 1 ∨ k = 2 ∨ k = 3 by omega) with rfl | rfl | rfl | rfl
      · exact fun q => c3 (q.trans (by decide))
      · exact fun q => c5 (q.trans (by decide))
      · exact fun q => c6 (q.trans (by decide))
      · exact fun q => c8 (q.trans (by decide))) (by decide) (by decide)) (by decide) ?_
  refine wg_iload_n X 2 dX1_lets_83 rfl rfl ?_
  refine wg_if_eq X 92 dX1_lets_84 (by decide) (fun c12 => ?_) (fun c12 => ?_)
  · have h := if_t c12 h
    refine wg_iconst (v := 1) X dX1_lets_92 (by decide) ?_
    refine wg_goto X 97 dX1_lets_93 (by decide) ?_
    exact wg_zret X ⟨(sm_inj h), rfl, rfl⟩ hr (by decide) dX1_lets_97
  · have h := if_f c12 h
    refine wg_iload_n X 2 dX1_lets_87 rfl rfl ?_
    refine wg_iconst (v := 1) X dX1_lets_88 (by decide) ?_
    refine wg_icmp_ne X 96 dX1_lets_89 (by decide) (fun c13 => ?_) (fun c13 => ?_)
    · have h := if_f c13 h
      refine wg_iconst (v := 0) X dX1_lets_96 (by decide) ?_
      exact wg_zret X ⟨(sm_inj h), rfl, rfl⟩ hr (by decide) dX1_lets_97
    · have h := if_t c13 h
      refine wg_iconst (v := 1) X dX1_lets_92 (by decide) ?_
      refine wg_goto X 97 dX1_lets_93 (by decide) ?_
      exact wg_zret X ⟨(sm_inj h), rfl, rfl⟩ hr (by decide) dX1_lets_97
-- WindowsGive$Pane.passes(II)Z ('P', 'i', 'i')
def f_X1_passes (C : wg_C) (p0 : Nat) (p1 : Int32) (p2 : Int32) : Option Int32 :=
  bd (f_X1_on C p0 p1) fun r2 =>
  bd (f_X8_isDay r2) fun r4 =>
  if r4 = 0 then (
    some (0 : Int32))
  else (
    bd (f_X1_lets C p0 p1 p2) fun r7 =>
    if r7 = 0 then (
      some (0 : Int32))
    else (
      some (1 : Int32)))
set_option maxHeartbeats 4000000 in
set_option maxRecDepth 100000 in
theorem c_X1_passes (l : Launch) (E : wg_Ev) (ad : Nat → Nat) (S : wg_Sh) (hS : wg_SC S) (C : wg_C) (M : wg_M) (p0 : Nat) (p1 : Int32) (p2 : Int32) (hp0 : wg_id S p0 1) {r0 : Int32} (h : f_X1_passes C p0 p1 p2 = some r0) : wg_Ci l yX1_passes cX1_passes 3 (some .boolean) 1 22 E ad S C M [.ref (ad p0), .int p1, .int p2] r0 C M := by
  refine wg_start (own := RX1) (by decide +kernel) rfl (Nat.le_of_ble_eq_true rfl) ?_
  intro p e s m below meth c X hr hnm
  refine wg_lv (lv' := [(0, .ref (ad p0)), (1, .int p1), (2, .int p2)]) rfl ?_
  unfold f_X1_passes at h
  refine wg_aload_n X 0 dX1_passes_0 rfl rfl ?_
  refine wg_iload_n X 1 dX1_passes_1 rfl rfl ?_
  obtain ⟨r2, h1, h⟩ := bd_some h
  refine wg_callVi (As := [.int p1]) (rest := []) X (c_X1_on l E ad S hS C M p0 p1 hp0 h1) T_yX1_on k_565 cl1 hp0 dX1_passes_2 rfl rfl (Nat.le_of_ble_eq_true rfl) ⟨Nat.le_of_ble_eq_true rfl, Nat.le_of_ble_eq_true rfl⟩ ⟨Nat.zero_le _, Nat.zero_le _⟩ ?_
  obtain ⟨r4, h3, h⟩ := bd_some h
  refine wg_callNi (host := "WindowsGive") (As := [.int r2]) (rest := []) X (c_X8_isDay l E ad S C M r2  h3) T_yX8_isDay (by simp [wg_nest]) dX1_passes_5 rfl rfl (Nat.le_of_ble_eq_true rfl) ⟨Nat.le_of_ble_eq_true rfl, Nat.le_of_ble_eq_true rfl⟩ ⟨Nat.zero_le _, Nat.zero_le _⟩ ?_
  refine wg_if_eq X 24 dX1_passes_8 (by decide) (fun c5 => ?_) (fun c5 => ?_)
  · have h := if_t c5 h
    refine wg_iconst (v := 0) X dX1_passes_24 (by decide) ?_
    exact wg_zret X ⟨(sm_inj h), rfl, rfl⟩ hr (by decide) dX1_passes_25
  · have h := if_f c5 h
    refine wg_aload_n X 0 dX1_passes_11 rfl rfl ?_
    refine wg_iload_n X 1 dX1_passes_12 rfl rfl ?_
    refine wg_iload_n X 2 dX1_passes_13 rfl rfl ?_
    obtain ⟨r7, h6, h⟩ := bd_some h
    refine wg_callVi (As := [.int p1, .int p2]) (rest := []) X (c_X1_lets l E ad S hS C M p0 p1 p2 hp0 h6) T_yX1_lets k_567 cl1 hp0 dX1_passes_14 rfl rfl (Nat.le_of_ble_eq_true rfl) ⟨Nat.le_of_ble_eq_true rfl, Nat.le_of_ble_eq_true rfl⟩ ⟨Nat.zero_le _, Nat.zero_le _⟩ ?_
    refine wg_if_eq X 24 dX1_passes_17 (by decide) (fun c8 => ?_) (fun c8 => ?_)
    · have h := if_t c8 h
      refine wg_iconst (v := 0) X dX1_passes_24 (by decide) ?_
      exact wg_zret X ⟨(sm_inj h), rfl, rfl⟩ hr (by decide) dX1_passes_25
    · have h := if_f c8 h
      refine wg_iconst (v := 1) X dX1_passes_20 (by decide) ?_
      refine wg_goto X 25 dX1_passes_21 (by decide) ?_
      exact wg_zret X ⟨(sm_inj h), rfl, rfl⟩ hr (by decide) dX1_passes_25
-- WindowsGive.isSort(I)Z ('i',)
def f_X8_isSort (p0 : Int32) : Option Int32 :=
  if p0 < 0 then (
    some (0 : Int32))
  else (
    if (2 : Int32) < p0 then (
      some (0 : Int32))
    else (
      some (1 : Int32)))
set_option maxHeartbeats 4000000 in
set_option maxRecDepth 100000 in
theorem c_X8_isSort (l : Launch) (E : wg_Ev) (ad : Nat → Nat) (S : wg_Sh) (C : wg_C) (M : wg_M) (p0 : Int32)  {r0 : Int32} (h : f_X8_isSort p0 = some r0) : wg_Ci l yX8_isSort cX8_isSort 1 (some .boolean) 0 0 E ad S C M [.int p0] r0 C M := by
  refine wg_start (own := RX8) (by decide +kernel) rfl (Nat.le_of_ble_eq_true rfl) ?_
  intro p e s m below meth c X hr hnm
  refine wg_lv (lv' := [(0, .int p0)]) rfl ?_
  unfold f_X8_isSort at h
  refine wg_iload_n X 0 dX8_isSort_0 rfl rfl ?_
  refine wg_if_lt X 13 dX8_isSort_1 (by decide) (fun c1 => ?_) (fun c1 => ?_)
  · have h := if_t c1 h
    refine wg_iconst (v := 0) X dX8_isSort_13 (by decide) ?_
    exact wg_zret X ⟨(sm_inj h), rfl, rfl⟩ hr (by decide) dX8_isSort_14
  · have h := if_f c1 h
    refine wg_iload_n X 0 dX8_isSort_4 rfl rfl ?_
    refine wg_iconst (v := 2) X dX8_isSort_5 (by decide) ?_
    refine wg_icmp_gt X 13 dX8_isSort_6 (by decide) (fun c2 => ?_) (fun c2 => ?_)
    · have h := if_t c2 h
      refine wg_iconst (v := 0) X dX8_isSort_13 (by decide) ?_
      exact wg_zret X ⟨(sm_inj h), rfl, rfl⟩ hr (by decide) dX8_isSort_14
    · have h := if_f c2 h
      refine wg_iconst (v := 1) X dX8_isSort_9 (by decide) ?_
      refine wg_goto X 14 dX8_isSort_10 (by decide) ?_
      exact wg_zret X ⟨(sm_inj h), rfl, rfl⟩ hr (by decide) dX8_isSort_14
-- WindowsGive.gives(III)I (('c', 0), 'i', 'i', 'i')
def f_X8_gives_j34 (C : wg_C)  (x1 : Int32) (x2 : Int32) (x3 : Int32) : Option Int32 :=
  ck (inb x1 8) <|
  if x3 = (-1 : Int32) then (
    bd (f_X1_on C (4 + x1.toNatClampNeg) x2) fun r14 =>
    some r14)
  else (
    bd (f_X1_passes C (4 + x1.toNatClampNeg) x2 x3) fun r11 =>
    if r11 = 0 then (
      some (0 : Int32))
    else (
      some (1 : Int32)))
def f_X8_gives (C : wg_C) (p1 : Int32) (p2 : Int32) (p3 : Int32) : Option Int32 :=
  bd (f_X0_has C p1) fun r2 =>
  if r2 = 0 then (
    some (-1000 : Int32))
  else (
    bd (f_X8_isDay p2) fun r5 =>
    if r5 = 0 then (
      some (-1000 : Int32))
    else (
      if p3 = (-1 : Int32) then (
        f_X8_gives_j34 C  p1 p2 p3)
      else (
        bd (f_X8_isSort p3) fun r16 =>
        if r16 = 0 then (
          some (-1000 : Int32))
        else (
          f_X8_gives_j34 C  p1 p2 p3))))
abbrev G_X8_gives (p : Program) (l : Launch) (e : Env) (s : State) (m : MethodId) (args : Array Value) (below : List Frame) (meth : Method) (c : Code) (E : wg_Ev) (ad : Nat → Nat) (S : wg_Sh) (r0 : Int32) (C0 : wg_C) (M0 : wg_M) (pc : Nat) (C : wg_C) (M : wg_M) (lv : List (Nat × Value)) (st : List Value) : Prop := wg_G p l e (wg_Rm 2 44) s m args below meth c (MQ below (wg_Qi E ad S r0 C0 M0) args s 0 0 (wg_A E)) 5 E ad S 0 0 pc C M lv st
set_option maxHeartbeats 4000000 in
set_option maxRecDepth 100000 in
theorem J_X8_gives_j34 {p : Program} {l : Launch} {e : Env} {s : State} {m : MethodId} {args : Array Value} {below : List Frame} {meth : Method} {c : Code} {E : wg_Ev} {ad : Nat → Nat} {S : wg_Sh} (X : wg_X p s m args meth c cX8_gives 5 RX8 E) (hr : meth.sig.returnType = (some .int)) (hS : wg_SC S) (r0 : Int32) (M : wg_M)  (C : wg_C)  (x1 : Int32) (x2 : Int32) (x3 : Int32)   (h : f_X8_gives_j34 C  x1 x2 x3 = some r0) : G_X8_gives p l e s m args below meth c E ad S r0 C M 34 C M [(0, .ref (ad 0)), (1, .int x1), (2, .int x2), (3, .int x3)] [] := by
  unfold f_X8_gives_j34 at h
  refine wg_aload_n X 0 dX8_gives_34 rfl rfl ?_
  refine wg_getR (b := 1) X cl8 (SCi hS 0 8 rfl) 0 (by decide) dX8_gives_35 k_472 rfl (SCr hS 0 0 1 rfl) ?_
  refine wg_getR (b := 3) X cl0 (SCi hS 1 0 rfl) 1 (by decide) dX8_gives_38 k_144 rfl (SCr hS 1 1 3 rfl) ?_
  refine wg_iload_n X 1 dX8_gives_41 rfl rfl ?_
  obtain ⟨z8, h⟩ := ck_some h
  refine wg_aalS13 (b := 4 + x1.toNatClampNeg) X (SCi hS 3 13 rfl) (SCl hS 3 8 rfl) z8 (SCp hS (inb_lt z8)).1 dX8_gives_42 ?_
  refine wg_astore (lv' := [(4, .ref (ad (4 + x1.toNatClampNeg))), (0, .ref (ad 0)), (1, .int x1), (2, .int x2), (3, .int x3)]) X dX8_gives_43 rfl (by decide) rfl ?_
  refine wg_iload_n X 4 dX8_gives_45 rfl rfl ?_
  refine wg_iconst (v := -1) X dX8_gives_46 (by decide) ?_
  refine wg_icmp_ne X 57 dX8_gives_47 (by decide) (fun c9 => ?_) (fun c9 => ?_)
  · have h := if_f c9 h
    refine wg_aload X 0 dX8_gives_57 rfl ?_
    refine wg_iload_n X 3 dX8_gives_59 rfl rfl ?_
    refine wg_iload_n X 4 dX8_gives_60 rfl rfl ?_
    obtain ⟨r11, h10, h⟩ := bd_some h
    refine wg_callVi (As := [.int x2, .int x3]) (rest := []) X (c_X1_passes l E ad S hS C M (4 + x1.toNatClampNeg) x2 x3 ((SCp hS (inb_lt z8)).2.1) h10) T_yX1_passes k_561 cl1 ((SCp hS (inb_lt z8)).2.1) dX8_gives_61 rfl rfl (Nat.le_of_ble_eq_true rfl) ⟨Nat.le_of_ble_eq_true rfl, Nat.le_of_ble_eq_true rfl⟩ ⟨Nat.zero_le _, Nat.zero_le _⟩ ?_
    refine wg_if_eq X 71 dX8_gives_64 (by decide) (fun c12 => ?_) (fun c12 => ?_)
    · have h := if_t c12 h
      refine wg_iconst (v := 0) X dX8_gives_71 (by decide) ?_
      exact wg_iret X ⟨(sm_inj h), rfl, rfl⟩ hr dX8_gives_72
    · have h := if_f c12 h
      refine wg_iconst (v := 1) X dX8_gives_67 (by decide) ?_
      refine wg_goto X 72 dX8_gives_68 (by decide) ?_
      exact wg_iret X ⟨(sm_inj h), rfl, rfl⟩ hr dX8_gives_72
  · have h := if_t c9 h
    refine wg_aload X 0 dX8_gives_50 rfl ?_
    refine wg_iload_n X 3 dX8_gives_52 rfl rfl ?_
    obtain ⟨r14, h13, h⟩ := bd_some h
    refine wg_callVi (As := [.int x2]) (rest := []) X (c_X1_on l E ad S hS C M (4 + x1.toNatClampNeg) x2 ((SCp hS (inb_lt z8)).2.1) h13) T_yX1_on k_557 cl1 ((SCp hS (inb_lt z8)).2.1) dX8_gives_53 rfl rfl (Nat.le_of_ble_eq_true rfl) ⟨Nat.le_of_ble_eq_true rfl, Nat.le_of_ble_eq_true rfl⟩ ⟨Nat.zero_le _, Nat.zero_le _⟩ ?_
    exact wg_iret X ⟨(sm_inj h), rfl, rfl⟩ hr dX8_gives_56
set_option maxHeartbeats 4000000 in
set_option maxRecDepth 100000 in
theorem c_X8_gives (l : Launch) (E : wg_Ev) (ad : Nat → Nat) (S : wg_Sh) (hS : wg_SC S) (C : wg_C) (M : wg_M) (p1 : Int32) (p2 : Int32) (p3 : Int32)  {r0 : Int32} (h : f_X8_gives C p1 p2 p3 = some r0) : wg_Ci l yX8_gives cX8_gives 5 (some .int) 2 44 E ad S C M [.ref (ad 0), .int p1, .int p2, .int p3] r0 C M := by
  refine wg_start (own := RX8) (by decide +kernel) rfl (Nat.le_of_ble_eq_true rfl) ?_
  intro p e s m below meth c X hr hnm
  refine wg_lv (lv' := [(0, .ref (ad 0)), (1, .int p1), (2, .int p2), (3, .int p3)]) rfl ?_
  unfold f_X8_gives at h
  refine wg_aload_n X 0 dX8_gives_0 rfl rfl ?_
  refine wg_getR (b := 1) X cl8 (SCi hS 0 8 rfl) 0 (by decide) dX8_gives_1 k_472 rfl (SCr hS 0 0 1 rfl) ?_
  refine wg_iload_n X 1 dX8_gives_4 rfl rfl ?_
  obtain ⟨r2, h1, h⟩ := bd_some h
  refine wg_callVi (As := [.int p1]) (rest := []) X (c_X0_has l E ad S hS C M p1  h1) T_yX0_has k_520 cl0 (SCi hS 1 0 rfl) dX8_gives_5 rfl rfl (Nat.le_of_ble_eq_true rfl) ⟨Nat.le_of_ble_eq_true rfl, Nat.le_of_ble_eq_true rfl⟩ ⟨Nat.zero_le _, Nat.zero_le _⟩ ?_
  refine wg_if_eq X 30 dX8_gives_8 (by decide) (fun c3 => ?_) (fun c3 => ?_)
  · have h := if_t c3 h
    refine wg_sipush (v := -1000) X dX8_gives_30 (by decide) ?_
    exact wg_iret X ⟨(sm_inj h), rfl, rfl⟩ hr dX8_gives_33
  · have h := if_f c3 h
    refine wg_iload_n X 2 dX8_gives_11 rfl rfl ?_
    obtain ⟨r5, h4, h⟩ := bd_some h
    refine wg_callSi (As := [.int p2]) (rest := []) X (c_X8_isDay l E ad S C M p2  h4) T_yX8_isDay k_517 dX8_gives_12 rfl rfl (Nat.le_of_ble_eq_true rfl) ⟨Nat.le_of_ble_eq_true rfl, Nat.le_of_ble_eq_true rfl⟩ ⟨Nat.zero_le _, Nat.zero_le _⟩ ?_
    refine wg_if_eq X 30 dX8_gives_15 (by decide) (fun c6 => ?_) (fun c6 => ?_)
    · have h := if_t c6 h
      refine wg_sipush (v := -1000) X dX8_gives_30 (by decide) ?_
      exact wg_iret X ⟨(sm_inj h), rfl, rfl⟩ hr dX8_gives_33
    · have h := if_f c6 h
      refine wg_iload_n X 3 dX8_gives_18 rfl rfl ?_
      refine wg_iconst (v := -1) X dX8_gives_19 (by decide) ?_
      refine wg_icmp_eq X 34 dX8_gives_20 (by decide) (fun c7 => ?_) (fun c7 => ?_)
      · have h := if_t c7 h
        exact J_X8_gives_j34 X hr hS r0 M  C  p1 p2 p3   h
      · have h := if_f c7 h
        refine wg_iload_n X 3 dX8_gives_23 rfl rfl ?_
        obtain ⟨r16, h15, h⟩ := bd_some h
        refine wg_callSi (As := [.int p3]) (rest := []) X (c_X8_isSort l E ad S C M p3  h15) T_yX8_isSort k_554 dX8_gives_24 rfl rfl (Nat.le_of_ble_eq_true rfl) ⟨Nat.le_of_ble_eq_true rfl, Nat.le_of_ble_eq_true rfl⟩ ⟨Nat.zero_le _, Nat.zero_le _⟩ ?_
        refine wg_if_ne X 34 dX8_gives_27 (by decide) (fun c17 => ?_) (fun c17 => ?_)
        · have h := if_f c17 h
          exact J_X8_gives_j34 X hr hS r0 M  C  p1 p2 p3   h
        · have h := if_t c17 h
          refine wg_sipush (v := -1000) X dX8_gives_30 (by decide) ?_
          exact wg_iret X ⟨(sm_inj h), rfl, rfl⟩ hr dX8_gives_33
-- WindowsGive$Tape.put(I)Z (('c', 23), 'i')
def f_X5_put (C : wg_C) (p1 : Int32) : Option (Int32 × wg_C) :=
  if (C 23 1) < (160 : Int32) then (
    ck (inb (C 23 1) 160) <|
    lt_ (wg_up C 24 (C 23 1).toNatClampNeg p1) fun C3 =>
    lt_ (wg_up C3 23 1 ((C3 23 1) + (1 : Int32))) fun C5 =>
    some ((1 : Int32), C5))
  else (
    some ((0 : Int32), C))
set_option maxHeartbeats 4000000 in
set_option maxRecDepth 100000 in
theorem c_X5_put (l : Launch) (E : wg_Ev) (ad : Nat → Nat) (S : wg_Sh) (hS : wg_SC S) (C : wg_C) (M : wg_M) (p1 : Int32)  {r0 : Int32} {D0 : wg_C} (h : f_X5_put C p1 = some (r0, D0)) : wg_Ci l yX5_put cX5_put 2 (some .boolean) 0 0 E ad S C M [.ref (ad 23), .int p1] r0 D0 M := by
  refine wg_start (own := RX5) (by decide +kernel) rfl (Nat.le_of_ble_eq_true rfl) ?_
  intro p e s m below meth c X hr hnm
  refine wg_lv (lv' := [(0, .ref (ad 23)), (1, .int p1)]) rfl ?_
  unfold f_X5_put at h
  refine wg_aload_n X 0 dX5_put_0 rfl rfl ?_
  refine wg_getC X cl5 (SCi hS 23 5 rfl) 1 (by decide) dX5_put_1 k_168 rfl ?_
  refine wg_sipush (v := 160) X dX5_put_4 (by decide) ?_
  refine wg_icmp_lt X 12 dX5_put_7 (by decide) (fun c1 => ?_) (fun c1 => ?_)
  · have h := if_t c1 h
    refine wg_aload_n X 0 dX5_put_12 rfl rfl ?_
    refine wg_getR (b := 24) X cl5 (SCi hS 23 5 rfl) 0 (by decide) dX5_put_13 k_167 rfl (SCr hS 23 0 24 rfl) ?_
    refine wg_aload_n X 0 dX5_put_16 rfl rfl ?_
    refine wg_getC X cl5 (SCi hS 23 5 rfl) 1 (by decide) dX5_put_17 k_168 rfl ?_
    refine wg_iload_n X 1 dX5_put_20 rfl rfl ?_
    obtain ⟨z2, h⟩ := ck_some h
    obtain ⟨C3, e4, h⟩ := lt_some h
    refine wg_iaste X (SCi hS 24 10 rfl) (SCl hS 24 160 rfl) z2 dX5_put_21 e4 ?_
    refine wg_aload_n X 0 dX5_put_22 rfl rfl ?_
    refine wg_dup X dX5_put_23 rfl ?_
    refine wg_getC X cl5 (SCi hS 23 5 rfl) 1 (by decide) dX5_put_24 k_168 rfl ?_
    refine wg_iconst (v := 1) X dX5_put_27 (by decide) ?_
    refine wg_iadd X dX5_put_28 ?_
    obtain ⟨C5, e6, h⟩ := lt_some h
    refine wg_putCe X cl5 (SCi hS 23 5 rfl) 1 (by decide) dX5_put_29 k_168 rfl rfl rfl rfl e6 ?_
    refine wg_iconst (v := 1) X dX5_put_32 (by decide) ?_
    exact wg_zret X ⟨congrArg Prod.fst (sm_inj h), congrArg Prod.snd (sm_inj h), rfl⟩ hr (by decide) dX5_put_33
  · have h := if_f c1 h
    refine wg_iconst (v := 0) X dX5_put_10 (by decide) ?_
    exact wg_zret X ⟨congrArg Prod.fst (sm_inj h), congrArg Prod.snd (sm_inj h), rfl⟩ hr (by decide) dX5_put_11
-- WindowsGive.feed(I)I (('c', 0), 'i')
def f_X8_feed (C : wg_C) (p1 : Int32) : Option (Int32 × wg_C) :=
  if p1 < 0 then (
    some ((-2 : Int32), C))
  else (
    if p1 ≤ (255 : Int32) then (
      bd2 (f_X5_put C p1) fun r4 C5 =>
      if r4 = 0 then (
        some ((-4 : Int32), C5))
      else (
        some ((C5 23 1), C5)))
    else (
      some ((-2 : Int32), C)))
set_option maxHeartbeats 4000000 in
set_option maxRecDepth 100000 in
theorem c_X8_feed (l : Launch) (E : wg_Ev) (ad : Nat → Nat) (S : wg_Sh) (hS : wg_SC S) (C : wg_C) (M : wg_M) (p1 : Int32)  {r0 : Int32} {D0 : wg_C} (h : f_X8_feed C p1 = some (r0, D0)) : wg_Ci l yX8_feed cX8_feed 2 (some .int) 1 21 E ad S C M [.ref (ad 0), .int p1] r0 D0 M := by
  refine wg_start (own := RX8) (by decide +kernel) rfl (Nat.le_of_ble_eq_true rfl) ?_
  intro p e s m below meth c X hr hnm
  refine wg_lv (lv' := [(0, .ref (ad 0)), (1, .int p1)]) rfl ?_
  unfold f_X8_feed at h
  refine wg_iload_n X 1 dX8_feed_0 rfl rfl ?_
  refine wg_if_lt X 11 dX8_feed_1 (by decide) (fun c1 => ?_) (fun c1 => ?_)
  · have h := if_t c1 h
    refine wg_bipush (v := -2) X dX8_feed_11 (by decide) ?_
    exact wg_iret X ⟨congrArg Prod.fst (sm_inj h), congrArg Prod.snd (sm_inj h), rfl⟩ hr dX8_feed_13
  · have h := if_f c1 h
    refine wg_iload_n X 1 dX8_feed_4 rfl rfl ?_
    refine wg_sipush (v := 255) X dX8_feed_5 (by decide) ?_
    refine wg_icmp_le X 14 dX8_feed_8 (by decide) (fun c2 => ?_) (fun c2 => ?_)
    · have h := if_t c2 h
      refine wg_aload_n X 0 dX8_feed_14 rfl rfl ?_
      refine wg_getR (b := 23) X cl8 (SCi hS 0 8 rfl) 3 (by decide) dX8_feed_15 k_475 rfl (SCr hS 0 3 23 rfl) ?_
      refine wg_iload_n X 1 dX8_feed_18 rfl rfl ?_
      obtain ⟨r4, C5, h3, h⟩ := bd2_some h
      refine wg_callVi (As := [.int p1]) (rest := []) X (c_X5_put l E ad S hS C M p1  h3) T_yX5_put k_331 cl5 (SCi hS 23 5 rfl) dX8_feed_19 rfl rfl (Nat.le_of_ble_eq_true rfl) ⟨Nat.le_of_ble_eq_true rfl, Nat.le_of_ble_eq_true rfl⟩ ⟨Nat.zero_le _, Nat.zero_le _⟩ ?_
      refine wg_if_eq X 35 dX8_feed_22 (by decide) (fun c6 => ?_) (fun c6 => ?_)
      · have h := if_t c6 h
        refine wg_bipush (v := -4) X dX8_feed_35 (by decide) ?_
        exact wg_iret X ⟨congrArg Prod.fst (sm_inj h), congrArg Prod.snd (sm_inj h), rfl⟩ hr dX8_feed_37
      · have h := if_f c6 h
        refine wg_aload_n X 0 dX8_feed_25 rfl rfl ?_
        refine wg_getR (b := 23) X cl8 (SCi hS 0 8 rfl) 3 (by decide) dX8_feed_26 k_475 rfl (SCr hS 0 3 23 rfl) ?_
        refine wg_getC X cl5 (SCi hS 23 5 rfl) 1 (by decide) dX8_feed_29 k_169 rfl ?_
        refine wg_goto X 37 dX8_feed_32 (by decide) ?_
        exact wg_iret X ⟨congrArg Prod.fst (sm_inj h), congrArg Prod.snd (sm_inj h), rfl⟩ hr dX8_feed_37
    · have h := if_f c2 h
      refine wg_bipush (v := -2) X dX8_feed_11 (by decide) ?_
      exact wg_iret X ⟨congrArg Prod.fst (sm_inj h), congrArg Prod.snd (sm_inj h), rfl⟩ hr dX8_feed_13
-- WindowsGive$Tape.skipBlanks()V (('c', 23),)
def f_X5_skipBlanks_j39l0 (N : Nat) (C : wg_C)   : Option ((wg_C) ⊕ (wg_C)) :=
  lt_ (wg_up C 23 2 ((C 23 2) + (1 : Int32))) fun C4 =>
  some (.inl C4)
def f_X5_skipBlanks_l0 (N : Nat)   (C : wg_C)  : Option ((wg_C) ⊕ (wg_C)) :=
  if (C 23 1) ≤ (C 23 2) then (
    some (.inr C))
  else (
    ck (inb (C 23 2) 160) <|
    if (C 24 (C 23 2).toNatClampNeg) = (32 : Int32) then (
      f_X5_skipBlanks_j39l0 N C  )
    else (
      ck (inb (C 23 2) 160) <|
      if (C 24 (C 23 2).toNatClampNeg) = (10 : Int32) then (
        f_X5_skipBlanks_j39l0 N C  )
      else (
        some (.inr C))))
def f_X5_skipBlanks (N : Nat) (C : wg_C)  : Option wg_C :=
  bd (lp (fun o => f_X5_skipBlanks_l0 N   o) N C) fun C8 =>
  some C8
abbrev G_X5_skipBlanks (p : Program) (l : Launch) (e : Env) (s : State) (m : MethodId) (args : Array Value) (below : List Frame) (meth : Method) (c : Code) (E : wg_Ev) (ad : Nat → Nat) (S : wg_Sh) (C0 : wg_C) (M0 : wg_M) (pc : Nat) (C : wg_C) (M : wg_M) (lv : List (Nat × Value)) (st : List Value) : Prop := wg_G p l e (wg_Rm 0 0) s m args below meth c (MQ below (wg_Qv E ad S C0 M0) args s 0 0 (wg_A E)) 1 E ad S 0 0 pc C M lv st
set_option maxHeartbeats 4000000 in
set_option maxRecDepth 100000 in
theorem J_X5_skipBlanks_j39l0 {p : Program} {l : Launch} {e : Env} {s : State} {m : MethodId} {args : Array Value} {below : List Frame} {meth : Method} {c : Code} {E : wg_Ev} {ad : Nat → Nat} {S : wg_Sh} (X : wg_X p s m args meth c cX5_skipBlanks 1 RX5 E) (hr : meth.sig.returnType = none) (hS : wg_SC S) (D0 : wg_C) (M : wg_M) (N : Nat)  (C : wg_C)    (y : ((wg_C) ⊕ (wg_C))) (Kc : ∀ (Dy : wg_C), y = Sum.inl Dy → G_X5_skipBlanks p l e s m args below meth c E ad S D0 M 0 Dy M [(0, .ref (ad 23))] []) (Ke : ∀ (Dy : wg_C), y = Sum.inr (Dy) → G_X5_skipBlanks p l e s m args below meth c E ad S D0 M 52 Dy M [(0, .ref (ad 23))] []) (h : f_X5_skipBlanks_j39l0 N C   = some y) : G_X5_skipBlanks p l e s m args below meth c E ad S D0 M 39 C M [(0, .ref (ad 23))] [] := by
  unfold f_X5_skipBlanks_j39l0 at h
  refine wg_aload_n X 0 dX5_skipBlanks_39 rfl rfl ?_
  refine wg_dup X dX5_skipBlanks_40 rfl ?_
  refine wg_getC X cl5 (SCi hS 23 5 rfl) 2 (by decide) dX5_skipBlanks_41 k_170 rfl ?_
  refine wg_iconst (v := 1) X dX5_skipBlanks_44 (by decide) ?_
  refine wg_iadd X dX5_skipBlanks_45 ?_
  obtain ⟨C4, e5, h⟩ := lt_some h
  refine wg_putCe X cl5 (SCi hS 23 5 rfl) 2 (by decide) dX5_skipBlanks_46 k_170 rfl rfl rfl rfl e5 ?_
  refine wg_goto X 0 dX5_skipBlanks_49 (by decide) ?_
  exact Kc C4 (sm_inj h).symm
set_option maxHeartbeats 4000000 in
set_option maxRecDepth 100000 in
theorem L_X5_skipBlanks_l0 {p : Program} {l : Launch} {e : Env} {s : State} {m : MethodId} {args : Array Value} {below : List Frame} {meth : Method} {c : Code} {E : wg_Ev} {ad : Nat → Nat} {S : wg_Sh} (X : wg_X p s m args meth c cX5_skipBlanks 1 RX5 E) (hr : meth.sig.returnType = none) (hS : wg_SC S) (D0 : wg_C) (M : wg_M) (N : Nat)     : ∀ (n : Nat) (C : wg_C) (o : (wg_C)), lp (fun o => f_X5_skipBlanks_l0 N   o) n C = some o → (∀ (Dy : wg_C), o = Dy → G_X5_skipBlanks p l e s m args below meth c E ad S D0 M 52 Dy M [(0, .ref (ad 23))] []) → G_X5_skipBlanks p l e s m args below meth c E ad S D0 M 0 C M [(0, .ref (ad 23))] [] := by
  intro n
  induction n with
  | zero => exact fun _ o h => (lp_zero h).elim
  | succ n ih =>
    intro C o h K
    obtain ⟨o1, hb, h2⟩ := lp_some h
    replace hb : f_X5_skipBlanks_l0 N   C = some o1 := hb
    clear h
    have Kc : ∀ (Dy : wg_C), o1 = Sum.inl Dy → G_X5_skipBlanks p l e s m args below meth c E ad S D0 M 0 Dy M [(0, .ref (ad 23))] [] := fun Dy e1 => by
      subst e1
      exact ih Dy o h2 K
    have Ke : ∀ (Dy : wg_C), o1 = Sum.inr (Dy) → G_X5_skipBlanks p l e s m args below meth c E ad S D0 M 52 Dy M [(0, .ref (ad 23))] [] := fun Dy e1 => by
      subst e1
      exact K Dy (sm_inj (α := (wg_C)) h2).symm
    clear ih K h2
    unfold f_X5_skipBlanks_l0 at hb
    have h := hb
    clear hb
    refine wg_aload_n X 0 dX5_skipBlanks_0 rfl rfl ?_
    refine wg_getC X cl5 (SCi hS 23 5 rfl) 2 (by decide) dX5_skipBlanks_1 k_170 rfl ?_
    refine wg_aload_n X 0 dX5_skipBlanks_4 rfl rfl ?_
    refine wg_getC X cl5 (SCi hS 23 5 rfl) 1 (by decide) dX5_skipBlanks_5 k_168 rfl ?_
    refine wg_icmp_ge X 52 dX5_skipBlanks_8 (by decide) (fun c1 => ?_) (fun c1 => ?_)
    · have h := if_t c1 h
      exact Ke C (sm_inj h).symm
    · have h := if_f c1 h
      refine wg_aload_n X 0 dX5_skipBlanks_11 rfl rfl ?_
      refine wg_getR (b := 24) X cl5 (SCi hS 23 5 rfl) 0 (by decide) dX5_skipBlanks_12 k_167 rfl (SCr hS 23 0 24 rfl) ?_
      refine wg_aload_n X 0 dX5_skipBlanks_15 rfl rfl ?_
      refine wg_getC X cl5 (SCi hS 23 5 rfl) 2 (by decide) dX5_skipBlanks_16 k_170 rfl ?_
      obtain ⟨z2, h⟩ := ck_some h
      refine wg_iald X (SCi hS 24 10 rfl) (SCl hS 24 160 rfl) z2 dX5_skipBlanks_19 ?_
      refine wg_bipush (v := 32) X dX5_skipBlanks_20 (by decide) ?_
      refine wg_icmp_eq X 39 dX5_skipBlanks_22 (by decide) (fun c3 => ?_) (fun c3 => ?_)
      · have h := if_t c3 h
        exact J_X5_skipBlanks_j39l0 X hr hS D0 M N  C    _ Kc Ke h
      · have h := if_f c3 h
        refine wg_aload_n X 0 dX5_skipBlanks_25 rfl rfl ?_
        refine wg_getR (b := 24) X cl5 (SCi hS 23 5 rfl) 0 (by decide) dX5_skipBlanks_26 k_167 rfl (SCr hS 23 0 24 rfl) ?_
        refine wg_aload_n X 0 dX5_skipBlanks_29 rfl rfl ?_
        refine wg_getC X cl5 (SCi hS 23 5 rfl) 2 (by decide) dX5_skipBlanks_30 k_170 rfl ?_
        obtain ⟨z6, h⟩ := ck_some h
        refine wg_iald X (SCi hS 24 10 rfl) (SCl hS 24 160 rfl) z6 dX5_skipBlanks_33 ?_
        refine wg_bipush (v := 10) X dX5_skipBlanks_34 (by decide) ?_
        refine wg_icmp_ne X 52 dX5_skipBlanks_36 (by decide) (fun c7 => ?_) (fun c7 => ?_)
        · have h := if_f c7 h
          exact Ke C (sm_inj h).symm
        · have h := if_t c7 h
          exact J_X5_skipBlanks_j39l0 X hr hS D0 M N  C    _ Kc Ke h
set_option maxHeartbeats 4000000 in
set_option maxRecDepth 100000 in
theorem c_X5_skipBlanks (l : Launch) (E : wg_Ev) (ad : Nat → Nat) (S : wg_Sh) (hS : wg_SC S) (N : Nat) (C : wg_C) (M : wg_M)   {D0 : wg_C} (h : f_X5_skipBlanks N C  = some D0) : wg_Cv l yX5_skipBlanks cX5_skipBlanks 1 none 0 0 E ad S C M [.ref (ad 23)] D0 M := by
  refine wg_start (own := RX5) (by decide +kernel) rfl (Nat.le_of_ble_eq_true rfl) ?_
  intro p e s m below meth c X hr hnm
  refine wg_lv (lv' := [(0, .ref (ad 23))]) rfl ?_
  unfold f_X5_skipBlanks at h
  obtain ⟨o9, h10, h⟩ := bd_o h
  refine L_X5_skipBlanks_l0 X hr hS D0 M N     N C o9 h10 (fun C8 e12 => ?_)
  · subst e12
    replace h := bd_in h
    exact wg_vret X ⟨(sm_inj h), rfl⟩ hr dX5_skipBlanks_52
-- WindowsGive$Tape.isLetter(I)Z ('i',)
def f_X5_isLetter (p0 : Int32) : Option Int32 :=
  if p0 < (97 : Int32) then (
    some (0 : Int32))
  else (
    if (122 : Int32) < p0 then (
      some (0 : Int32))
    else (
      some (1 : Int32)))
set_option maxHeartbeats 4000000 in
set_option maxRecDepth 100000 in
theorem c_X5_isLetter (l : Launch) (E : wg_Ev) (ad : Nat → Nat) (S : wg_Sh) (C : wg_C) (M : wg_M) (p0 : Int32)  {r0 : Int32} (h : f_X5_isLetter p0 = some r0) : wg_Ci l yX5_isLetter cX5_isLetter 1 (some .boolean) 0 0 E ad S C M [.int p0] r0 C M := by
  refine wg_start (own := RX5) (by decide +kernel) rfl (Nat.le_of_ble_eq_true rfl) ?_
  intro p e s m below meth c X hr hnm
  refine wg_lv (lv' := [(0, .int p0)]) rfl ?_
  unfold f_X5_isLetter at h
  refine wg_iload_n X 0 dX5_isLetter_0 rfl rfl ?_
  refine wg_bipush (v := 97) X dX5_isLetter_1 (by decide) ?_
  refine wg_icmp_lt X 16 dX5_isLetter_3 (by decide) (fun c1 => ?_) (fun c1 => ?_)
  · have h := if_t c1 h
    refine wg_iconst (v := 0) X dX5_isLetter_16 (by decide) ?_
    exact wg_zret X ⟨(sm_inj h), rfl, rfl⟩ hr (by decide) dX5_isLetter_17
  · have h := if_f c1 h
    refine wg_iload_n X 0 dX5_isLetter_6 rfl rfl ?_
    refine wg_bipush (v := 122) X dX5_isLetter_7 (by decide) ?_
    refine wg_icmp_gt X 16 dX5_isLetter_9 (by decide) (fun c2 => ?_) (fun c2 => ?_)
    · have h := if_t c2 h
      refine wg_iconst (v := 0) X dX5_isLetter_16 (by decide) ?_
      exact wg_zret X ⟨(sm_inj h), rfl, rfl⟩ hr (by decide) dX5_isLetter_17
    · have h := if_f c2 h
      refine wg_iconst (v := 1) X dX5_isLetter_12 (by decide) ?_
      refine wg_goto X 17 dX5_isLetter_13 (by decide) ?_
      exact wg_zret X ⟨(sm_inj h), rfl, rfl⟩ hr (by decide) dX5_isLetter_17
-- WindowsGive$Tape.isDigit(I)Z ('i',)
def f_X5_isDigit (p0 : Int32) : Option Int32 :=
  if p0 < (48 : Int32) then (
    some (0 : Int32))
  else (
    if (57 : Int32) < p0 then (
      some (0 : Int32))
    else (
      some (1 : Int32)))
set_option maxHeartbeats 4000000 in
set_option maxRecDepth 100000 in
theorem c_X5_isDigit (l : Launch) (E : wg_Ev) (ad : Nat → Nat) (S : wg_Sh) (C : wg_C) (M : wg_M) (p0 : Int32)  {r0 : Int32} (h : f_X5_isDigit p0 = some r0) : wg_Ci l yX5_isDigit cX5_isDigit 1 (some .boolean) 0 0 E ad S C M [.int p0] r0 C M := by
  refine wg_start (own := RX5) (by decide +kernel) rfl (Nat.le_of_ble_eq_true rfl) ?_
  intro p e s m below meth c X hr hnm
  refine wg_lv (lv' := [(0, .int p0)]) rfl ?_
  unfold f_X5_isDigit at h
  refine wg_iload_n X 0 dX5_isDigit_0 rfl rfl ?_
  refine wg_bipush (v := 48) X dX5_isDigit_1 (by decide) ?_
  refine wg_icmp_lt X 16 dX5_isDigit_3 (by decide) (fun c1 => ?_) (fun c1 => ?_)
  · have h := if_t c1 h
    refine wg_iconst (v := 0) X dX5_isDigit_16 (by decide) ?_
    exact wg_zret X ⟨(sm_inj h), rfl, rfl⟩ hr (by decide) dX5_isDigit_17
  · have h := if_f c1 h
    refine wg_iload_n X 0 dX5_isDigit_6 rfl rfl ?_
    refine wg_bipush (v := 57) X dX5_isDigit_7 (by decide) ?_
    refine wg_icmp_gt X 16 dX5_isDigit_9 (by decide) (fun c2 => ?_) (fun c2 => ?_)
    · have h := if_t c2 h
      refine wg_iconst (v := 0) X dX5_isDigit_16 (by decide) ?_
      exact wg_zret X ⟨(sm_inj h), rfl, rfl⟩ hr (by decide) dX5_isDigit_17
    · have h := if_f c2 h
      refine wg_iconst (v := 1) X dX5_isDigit_12 (by decide) ?_
      refine wg_goto X 17 dX5_isDigit_13 (by decide) ?_
      exact wg_zret X ⟨(sm_inj h), rfl, rfl⟩ hr (by decide) dX5_isDigit_17
-- WindowsGive$Tape.isSign(I)Z ('i',)
def f_X5_isSign (p0 : Int32) : Option Int32 :=
  if p0 = (40 : Int32) then (
    some (1 : Int32))
  else
  if p0 = (41 : Int32) then (
    some (1 : Int32))
  else
  if p0 = (42 : Int32) then (
    some (1 : Int32))
  else
  if p0 = (43 : Int32) then (
    some (1 : Int32))
  else
  if p0 = (44 : Int32) then (
    some (0 : Int32))
  else
  if p0 = (45 : Int32) then (
    some (1 : Int32))
  else
  if p0 = (46 : Int32) then (
    some (0 : Int32))
  else
  if p0 = (47 : Int32) then (
    some (0 : Int32))
  else
  if p0 = (48 : Int32) then (
    some (0 : Int32))
  else
  if p0 = (49 : Int32) then (
    some (0 : Int32))
  else
  if p0 = (50 : Int32) then (
    some (0 : Int32))
  else
  if p0 = (51 : Int32) then (
    some (0 : Int32))
  else
  if p0 = (52 : Int32) then (
    some (0 : Int32))
  else
  if p0 = (53 : Int32) then (
    some (0 : Int32))
  else
  if p0 = (54 : Int32) then (
    some (0 : Int32))
  else
  if p0 = (55 : Int32) then (
    some (0 : Int32))
  else
  if p0 = (56 : Int32) then (
    some (0 : Int32))
  else
  if p0 = (57 : Int32) then (
    some (0 : Int32))
  else
  if p0 = (58 : Int32) then (
    some (0 : Int32))
  else
  if p0 = (59 : Int32) then (
    some (1 : Int32))
  else
  if p0 = (60 : Int32) then (
    some (1 : Int32))
  else
  if p0 = (61 : Int32) then (
    some (1 : Int32))
  else
  some (0 : Int32)
set_option maxHeartbeats 4000000 in
set_option maxRecDepth 100000 in
theorem c_X5_isSign (l : Launch) (E : wg_Ev) (ad : Nat → Nat) (S : wg_Sh) (C : wg_C) (M : wg_M) (p0 : Int32)  {r0 : Int32} (h : f_X5_isSign p0 = some r0) : wg_Ci l yX5_isSign cX5_isSign 1 (some .boolean) 0 0 E ad S C M [.int p0] r0 C M := by
  refine wg_start (own := RX5) (by decide +kernel) rfl (Nat.le_of_ble_eq_true rfl) ?_
  intro p e s m below meth c X hr hnm
  refine wg_lv (lv' := [(0, .int p0)]) rfl ?_
  unfold f_X5_isSign at h
  refine wg_iload_n X 0 dX5_isSign_0 rfl rfl ?_
  by_cases c1 : p0 = (40 : Int32)
  · have h := if_t c1 h
    refine wg_tblIn (off := 103) X 104 dX5_isSign_1 c1 (by decide) (by decide) (by decide) (by decide) ?_
    refine wg_iconst (v := 1) X dX5_isSign_104 (by decide) ?_
    exact wg_zret X ⟨(sm_inj h), rfl, rfl⟩ hr (by decide) dX5_isSign_105
  have h := if_f c1 h
  by_cases c2 : p0 = (41 : Int32)
  · have h := if_t c2 h
    refine wg_tblIn (off := 103) X 104 dX5_isSign_1 c2 (by decide) (by decide) (by decide) (by decide) ?_
    refine wg_iconst (v := 1) X dX5_isSign_104 (by decide) ?_
    exact wg_zret X ⟨(sm_inj h), rfl, rfl⟩ hr (by decide) dX5_isSign_105
  have h := if_f c2 h
  by_cases c3 : p0 = (42 : Int32)
  · have h := if_t c3 h
    refine wg_tblIn (off := 103) X 104 dX5_isSign_1 c3 (by decide) (by decide) (by decide) (by decide) ?_
    refine wg_iconst (v := 1) X dX5_isSign_104 (by decide) ?_
    exact wg_zret X ⟨(sm_inj h), rfl, rfl⟩ hr (by decide) dX5_isSign_105
  have h := if_f c3 h
  by_cases c4 : p0 = (43 : Int32)
  · have h := if_t c4 h
    refine wg_tblIn (off := 103) X 104 dX5_isSign_1 c4 (by decide) (by decide) (by decide) (by decide) ?_
    refine wg_iconst (v := 1) X dX5_isSign_104 (by decide) ?_
    exact wg_zret X ⟨(sm_inj h), rfl, rfl⟩ hr (by decide) dX5_isSign_105
  have h := if_f c4 h
  by_cases c5 : p0 = (44 : Int32)
  · have h := if_t c5 h
    refine wg_tblIn (off := 105) X 106 dX5_isSign_1 c5 (by decide) (by decide) (by decide) (by decide) ?_
    refine wg_iconst (v := 0) X dX5_isSign_106 (by decide) ?_
    exact wg_zret X ⟨(sm_inj h), rfl, rfl⟩ hr (by decide) dX5_isSign_107
  have h := if_f c5 h
  by_cases c6 : p0 = (45 : Int32)
  · have h := if_t c6 h
    refine wg_tblIn (off := 103) X 104 dX5_isSign_1 c6 (by decide) (by decide) (by decide) (by decide) ?_
    refine wg_iconst (v := 1) X dX5_isSign_104 (by decide) ?_
    exact wg_zret X ⟨(sm_inj h), rfl, rfl⟩ hr (by decide) dX5_isSign_105
  have h := if_f c6 h
  by_cases c7 : p0 = (46 : Int32)
  · have h := if_t c7 h
    refine wg_tblIn (off := 105) X 106 dX5_isSign_1 c7 (by decide) (by decide) (by decide) (by decide) ?_
    refine wg_iconst (v := 0) X dX5_isSign_106 (by decide) ?_
    exact wg_zret X ⟨(sm_inj h), rfl, rfl⟩ hr (by decide) dX5_isSign_107
  have h := if_f c7 h
  by_cases c8 : p0 = (47 : Int32)
  · have h := if_t c8 h
    refine wg_tblIn (off := 105) X 106 dX5_isSign_1 c8 (by decide) (by decide) (by decide) (by decide) ?_
    refine wg_iconst (v := 0) X dX5_isSign_106 (by decide) ?_
    exact wg_zret X ⟨(sm_inj h), rfl, rfl⟩ hr (by decide) dX5_isSign_107
  have h := if_f c8 h
  by_cases c9 : p0 = (48 : Int32)
  · have h := if_t c9 h
    refine wg_tblIn (off := 105) X 106 dX5_isSign_1 c9 (by decide) (by decide) (by decide) (by decide) ?_
    refine wg_iconst (v := 0) X dX5_isSign_106 (by decide) ?_
    exact wg_zret X ⟨(sm_inj h), rfl, rfl⟩ hr (by decide) dX5_isSign_107
  have h := if_f c9 h
  by_cases c10 : p0 = (49 : Int32)
  · have h := if_t c10 h
    refine wg_tblIn (off := 105) X 106 dX5_isSign_1 c10 (by decide) (by decide) (by decide) (by decide) ?_
    refine wg_iconst (v := 0) X dX5_isSign_106 (by decide) ?_
    exact wg_zret X ⟨(sm_inj h), rfl, rfl⟩ hr (by decide) dX5_isSign_107
  have h := if_f c10 h
  by_cases c11 : p0 = (50 : Int32)
  · have h := if_t c11 h
    refine wg_tblIn (off := 105) X 106 dX5_isSign_1 c11 (by decide) (by decide) (by decide) (by decide) ?_
    refine wg_iconst (v := 0) X dX5_isSign_106 (by decide) ?_
    exact wg_zret X ⟨(sm_inj h), rfl, rfl⟩ hr (by decide) dX5_isSign_107
  have h := if_f c11 h
  by_cases c12 : p0 = (51 : Int32)
  · have h := if_t c12 h
    refine wg_tblIn (off := 105) X 106 dX5_isSign_1 c12 (by decide) (by decide) (by decide) (by decide) ?_
    refine wg_iconst (v := 0) X dX5_isSign_106 (by decide) ?_
    exact wg_zret X ⟨(sm_inj h), rfl, rfl⟩ hr (by decide) dX5_isSign_107
  have h := if_f c12 h
  by_cases c13 : p0 = (52 : Int32)
  · have h := if_t c13 h
    refine wg_tblIn (off := 105) X 106 dX5_isSign_1 c13 (by decide) (by decide) (by decide) (by decide) ?_
    refine wg_iconst (v := 0) X dX5_isSign_106 (by decide) ?_
    exact wg_zret X ⟨(sm_inj h), rfl, rfl⟩ hr (by decide) dX5_isSign_107
  have h := if_f c13 h
  by_cases c14 : p0 = (53 : Int32)
  · have h := if_t c14 h
    refine wg_tblIn (off := 105) X 106 dX5_isSign_1 c14 (by decide) (by decide) (by decide) (by decide) ?_
    refine wg_iconst (v := 0) X dX5_isSign_106 (by decide) ?_
    exact wg_zret X ⟨(sm_inj h), rfl, rfl⟩ hr (by decide) dX5_isSign_107
  have h := if_f c14 h
  by_cases c15 : p0 = (54 : Int32)
  · have h := if_t c15 h
    refine wg_tblIn (off := 105) X 106 dX5_isSign_1 c15 (by decide) (by decide) (by decide) (by decide) ?_
    refine wg_iconst (v := 0) X dX5_isSign_106 (by decide) ?_
    exact wg_zret X ⟨(sm_inj h), rfl, rfl⟩ hr (by decide) dX5_isSign_107
  have h := if_f c15 h
  by_cases c16 : p0 = (55 : Int32)
  · have h := if_t c16 h
    refine wg_tblIn (off := 105) X 106 dX5_isSign_1 c16 (by decide) (by decide) (by decide) (by decide) ?_
    refine wg_iconst (v := 0) X dX5_isSign_106 (by decide) ?_
    exact wg_zret X ⟨(sm_inj h), rfl, rfl⟩ hr (by decide) dX5_isSign_107
  have h := if_f c16 h
  by_cases c17 : p0 = (56 : Int32)
  · have h := if_t c17 h
    refine wg_tblIn (off := 105) X 106 dX5_isSign_1 c17 (by decide) (by decide) (by decide) (by decide) ?_
    refine wg_iconst (v := 0) X dX5_isSign_106 (by decide) ?_
    exact wg_zret X ⟨(sm_inj h), rfl, rfl⟩ hr (by decide) dX5_isSign_107
  have h := if_f c17 h
  by_cases c18 : p0 = (57 : Int32)
  · have h := if_t c18 h
    refine wg_tblIn (off := 105) X 106 dX5_isSign_1 c18 (by decide) (by decide) (by decide) (by decide) ?_
    refine wg_iconst (v := 0) X dX5_isSign_106 (by decide) ?_
    exact wg_zret X ⟨(sm_inj h), rfl, rfl⟩ hr (by decide) dX5_isSign_107
  have h := if_f c18 h
  by_cases c19 : p0 = (58 : Int32)
  · have h := if_t c19 h
    refine wg_tblIn (off := 105) X 106 dX5_isSign_1 c19 (by decide) (by decide) (by decide) (by decide) ?_
    refine wg_iconst (v := 0) X dX5_isSign_106 (by decide) ?_
    exact wg_zret X ⟨(sm_inj h), rfl, rfl⟩ hr (by decide) dX5_isSign_107
  have h := if_f c19 h
  by_cases c20 : p0 = (59 : Int32)
  · have h := if_t c20 h
    refine wg_tblIn (off := 103) X 104 dX5_isSign_1 c20 (by decide) (by decide) (by decide) (by decide) ?_
    refine wg_iconst (v := 1) X dX5_isSign_104 (by decide) ?_
    exact wg_zret X ⟨(sm_inj h), rfl, rfl⟩ hr (by decide) dX5_isSign_105
  have h := if_f c20 h
  by_cases c21 : p0 = (60 : Int32)
  · have h := if_t c21 h
    refine wg_tblIn (off := 103) X 104 dX5_isSign_1 c21 (by decide) (by decide) (by decide) (by decide) ?_
    refine wg_iconst (v := 1) X dX5_isSign_104 (by decide) ?_
    exact wg_zret X ⟨(sm_inj h), rfl, rfl⟩ hr (by decide) dX5_isSign_105
  have h := if_f c21 h
  by_cases c22 : p0 = (61 : Int32)
  · have h := if_t c22 h
    refine wg_tblIn (off := 103) X 104 dX5_isSign_1 c22 (by decide) (by decide) (by decide) (by decide) ?_
    refine wg_iconst (v := 1) X dX5_isSign_104 (by decide) ?_
    exact wg_zret X ⟨(sm_inj h), rfl, rfl⟩ hr (by decide) dX5_isSign_105
  have h := if_f c22 h
  refine wg_tblOut X 106 dX5_isSign_1 (wg_tout (40) (61) (fun k hk => by
      rcases (show k = 0 ∨ k = 1 ∨ k = 2 ∨ k = 3 ∨ k = 4 ∨ k = 5 ∨ k = 6 ∨ k = 7 ∨ k = 8 ∨ k = 9 ∨ k = 10 ∨ k = 11 ∨ k = 12 ∨ k = 13 ∨ k = 14 ∨ k = 15 ∨ k = 16 ∨ k = 17 ∨ k = 18 ∨ k = 19 ∨ k = 20 ∨ k = 21 by omega) with rfl | rfl | rfl | rfl | rfl | rfl | rfl | rfl | rfl | rfl | rfl | rfl | rfl | rfl | rfl | rfl | rfl | rfl | rfl | rfl | rfl | rfl
      · exact fun q => c1 (q.trans (by decide))
      · exact fun q => c2 (q.trans (by decide))
      · exact fun q => c3 (q.trans (by decide))
      · exact fun q => c4 (q.trans (by decide))
      · exact fun q => c5 (q.trans (by decide))
      · exact fun q => c6 (q.trans (by decide))
      · exact fun q => c7 (q.trans (by decide))
      · exact fun q => c8 (q.trans (by decide))
      · exact fun q => c9 (q.trans (by decide))
      · exact fun q => c10 (q.trans (by decide))
      · exact fun q => c11 (q.trans (by decide))
      · exact fun q => c12 (q.trans (by decide))
      · exact fun q => c13 (q.trans (by decide))
      · exact fun q => c14 (q.trans (by decide))
      · exact fun q => c15 (q.trans (by decide))
      · exact fun q => c16 (q.trans (by decide))
      · exact fun q => c17 (q.trans (by decide))
      · exact fun q => c18 (q.trans (by decide))
      · exact fun q => c19 (q.trans (by decide))
      · exact fun q => c20 (q.trans (by decide))
      · exact fun q => c21 (q.trans (by decide))
      · exact fun q => c22 (q.trans (by decide))) (by decide) (by decide)) (by decide) ?_
  refine wg_iconst (v := 0) X dX5_isSign_106 (by decide) ?_
  exact wg_zret X ⟨(sm_inj h), rfl, rfl⟩ hr (by decide) dX5_isSign_107
-- WindowsGive$Tape.cutNumber()I (('c', 23),)
def f_X5_cutNumber_l7 (N : Nat)  (x1 : Int32) (C : wg_C) (x2 : Int32) : Option ((wg_C × Int32) ⊕ (wg_C × Int32)) :=
  if (C 23 1) ≤ (C 23 2) then (
    some (.inr (C, x2)))
  else (
    ck (inb (C 23 2) 160) <|
    bd (f_X5_isDigit (C 24 (C 23 2).toNatClampNeg)) fun r6 =>
    if r6 = 0 then (
      some (.inr (C, x2)))
    else (
      ck (inb (C 23 2) 160) <|
      lt_ (((x2 * (10 : Int32)) + (C 24 (C 23 2).toNatClampNeg)) - (48 : Int32)) fun v9 =>
      lt_ (wg_up C 23 2 ((C 23 2) + (1 : Int32))) fun C11 =>
      some (.inl (C11, v9))))
def f_X5_cutNumber (N : Nat) (C : wg_C)  : Option (Int32 × wg_C) :=
  lt_ (C 23 2) fun v1 =>
  bd2 (lp (fun o => f_X5_cutNumber_l7 N  v1 o.1 o.2) N (C, (0 : Int32))) fun C13 v14 =>
  ck (inb (C13 23 6) 161) <|
  lt_ (wg_up C13 26 (C13 23 6).toNatClampNeg v14) fun C20 =>
  if (4 : Int32) < ((C20 23 2) - v1) then (
    some ((-2 : Int32), C20))
  else (
    some ((1 : Int32), C20))
abbrev G_X5_cutNumber (p : Program) (l : Launch) (e : Env) (s : State) (m : MethodId) (args : Array Value) (below : List Frame) (meth : Method) (c : Code) (E : wg_Ev) (ad : Nat → Nat) (S : wg_Sh) (r0 : Int32) (C0 : wg_C) (M0 : wg_M) (pc : Nat) (C : wg_C) (M : wg_M) (lv : List (Nat × Value)) (st : List Value) : Prop := wg_G p l e (wg_Rm 1 20) s m args below meth c (MQ below (wg_Qi E ad S r0 C0 M0) args s 0 0 (wg_A E)) 3 E ad S 0 0 pc C M lv st
set_option maxHeartbeats 4000000 in
set_option maxRecDepth 100000 in
theorem L_X5_cutNumber_l7 {p : Program} {l : Launch} {e : Env} {s : State} {m : MethodId} {args : Array Value} {below : List Frame} {meth : Method} {c : Code} {E : wg_Ev} {ad : Nat → Nat} {S : wg_Sh} (X : wg_X p s m args meth c cX5_cutNumber 3 RX5 E) (hr : meth.sig.returnType = (some .int)) (hS : wg_SC S) (r0 : Int32) (D0 : wg_C) (M : wg_M) (N : Nat)   (x1 : Int32)  : ∀ (n : Nat) (C : wg_C) (x2 : Int32) (o : (wg_C × Int32)), lp (fun o => f_X5_cutNumber_l7 N  x1 o.1 o.2) n (C, x2) = some o → (∀ (Dy : wg_C) (y2 : Int32), o = (Dy, y2) → G_X5_cutNumber p l e s m args below meth c E ad S r0 D0 M 64 Dy M [(0, .ref (ad 23)), (1, .int x1), (2, .int y2)] []) → G_X5_cutNumber p l e s m args below meth c E ad S r0 D0 M 7 C M [(0, .ref (ad 23)), (1, .int x1), (2, .int x2)] [] := by
  intro n
  induction n with
  | zero => exact fun _ _ o h => (lp_zero h).elim
  | succ n ih =>
    intro C x2 o h K
    obtain ⟨o1, hb, h2⟩ := lp_some h
    replace hb : f_X5_cutNumber_l7 N  x1 C x2 = some o1 := hb
    clear h
    have Kc : ∀ (Dy : wg_C) (y2 : Int32), o1 = Sum.inl (Dy, y2) → G_X5_cutNumber p l e s m args below meth c E ad S r0 D0 M 7 Dy M [(0, .ref (ad 23)), (1, .int x1), (2, .int y2)] [] := fun Dy y2 e1 => by
      subst e1
      exact ih Dy y2 o h2 K
    have Ke : ∀ (Dy : wg_C) (y2 : Int32), o1 = Sum.inr ((Dy, y2)) → G_X5_cutNumber p l e s m args below meth c E ad S r0 D0 M 64 Dy M [(0, .ref (ad 23)), (1, .int x1), (2, .int y2)] [] := fun Dy y2 e1 => by
      subst e1
      exact K Dy y2 (sm_inj (α := (wg_C × Int32)) h2).symm
    clear ih K h2
    unfold f_X5_cutNumber_l7 at hb
    have h := hb
    clear hb
    refine wg_aload_n X 0 dX5_cutNumber_7 rfl rfl ?_
    refine wg_getC X cl5 (SCi hS 23 5 rfl) 2 (by decide) dX5_cutNumber_8 k_170 rfl ?_
    refine wg_aload_n X 0 dX5_cutNumber_11 rfl rfl ?_
    refine wg_getC X cl5 (SCi hS 23 5 rfl) 1 (by decide) dX5_cutNumber_12 k_168 rfl ?_
    refine wg_icmp_ge X 64 dX5_cutNumber_15 (by decide) (fun c3 => ?_) (fun c3 => ?_)
    · have h := if_t c3 h
      exact Ke C x2 (sm_inj h).symm
    · have h := if_f c3 h
      refine wg_aload_n X 0 dX5_cutNumber_18 rfl rfl ?_
      refine wg_getR (b := 24) X cl5 (SCi hS 23 5 rfl) 0 (by decide) dX5_cutNumber_19 k_167 rfl (SCr hS 23 0 24 rfl) ?_
      refine wg_aload_n X 0 dX5_cutNumber_22 rfl rfl ?_
      refine wg_getC X cl5 (SCi hS 23 5 rfl) 2 (by decide) dX5_cutNumber_23 k_170 rfl ?_
      obtain ⟨z4, h⟩ := ck_some h
      refine wg_iald X (SCi hS 24 10 rfl) (SCl hS 24 160 rfl) z4 dX5_cutNumber_26 ?_
      obtain ⟨r6, h5, h⟩ := bd_some h
      refine wg_callSi (As := [.int (C 24 (C 23 2).toNatClampNeg)]) (rest := []) X (c_X5_isDigit l E ad S C M (C 24 (C 23 2).toNatClampNeg)  h5) T_yX5_isDigit k_379 dX5_cutNumber_27 rfl rfl (Nat.le_of_ble_eq_true rfl) ⟨Nat.le_of_ble_eq_true rfl, Nat.le_of_ble_eq_true rfl⟩ ⟨Nat.zero_le _, Nat.zero_le _⟩ ?_
      refine wg_if_eq X 64 dX5_cutNumber_30 (by decide) (fun c7 => ?_) (fun c7 => ?_)
      · have h := if_t c7 h
        exact Ke C x2 (sm_inj h).symm
      · have h := if_f c7 h
        refine wg_iload_n X 2 dX5_cutNumber_33 rfl rfl ?_
        refine wg_bipush (v := 10) X dX5_cutNumber_34 (by decide) ?_
        refine wg_imul X dX5_cutNumber_36 ?_
        refine wg_aload_n X 0 dX5_cutNumber_37 rfl rfl ?_
        refine wg_getR (b := 24) X cl5 (SCi hS 23 5 rfl) 0 (by decide) dX5_cutNumber_38 k_167 rfl (SCr hS 23 0 24 rfl) ?_
        refine wg_aload_n X 0 dX5_cutNumber_41 rfl rfl ?_
        refine wg_getC X cl5 (SCi hS 23 5 rfl) 2 (by decide) dX5_cutNumber_42 k_170 rfl ?_
        obtain ⟨z8, h⟩ := ck_some h
        refine wg_iald X (SCi hS 24 10 rfl) (SCl hS 24 160 rfl) z8 dX5_cutNumber_45 ?_
        refine wg_iadd X dX5_cutNumber_46 ?_
        refine wg_bipush (v := 48) X dX5_cutNumber_47 (by decide) ?_
        refine wg_isub X dX5_cutNumber_49 ?_
        obtain ⟨v9, e10, h⟩ := lt_some h
        refine wg_istore_n (lv' := [(2, .int v9), (0, .ref (ad 23)), (1, .int x1)]) X dX5_cutNumber_50 rfl e10 (by decide) rfl ?_
        refine wg_aload_n X 1 dX5_cutNumber_51 rfl rfl ?_
        refine wg_dup X dX5_cutNumber_52 rfl ?_
        refine wg_getC X cl5 (SCi hS 23 5 rfl) 2 (by decide) dX5_cutNumber_53 k_170 rfl ?_
        refine wg_iconst (v := 1) X dX5_cutNumber_56 (by decide) ?_
        refine wg_iadd X dX5_cutNumber_57 ?_
        obtain ⟨C11, e12, h⟩ := lt_some h
        refine wg_putCe X cl5 (SCi hS 23 5 rfl) 2 (by decide) dX5_cutNumber_58 k_170 rfl rfl rfl rfl e12 ?_
        refine wg_goto X 7 dX5_cutNumber_61 (by decide) ?_
        refine wg_pick [1, 2, 0] (lv' := [(0, .ref (ad 23)), (1, .int x1), (2, .int v9)]) rfl ?_
        exact Kc C11 v9 (sm_inj h).symm
set_option maxHeartbeats 4000000 in
set_option maxRecDepth 100000 in
theorem c_X5_cutNumber (l : Launch) (E : wg_Ev) (ad : Nat → Nat) (S : wg_Sh) (hS : wg_SC S) (N : Nat) (C : wg_C) (M : wg_M)   {r0 : Int32} {D0 : wg_C} (h : f_X5_cutNumber N C  = some (r0, D0)) : wg_Ci l yX5_cutNumber cX5_cutNumber 3 (some .int) 1 20 E ad S C M [.ref (ad 23)] r0 D0 M := by
  refine wg_start (own := RX5) (by decide +kernel) rfl (Nat.le_of_ble_eq_true rfl) ?_
  intro p e s m below meth c X hr hnm
  refine wg_lv (lv' := [(0, .ref (ad 23))]) rfl ?_
  unfold f_X5_cutNumber at h
  refine wg_aload_n X 0 dX5_cutNumber_0 rfl rfl ?_
  refine wg_getC X cl5 (SCi hS 23 5 rfl) 2 (by decide) dX5_cutNumber_1 k_170 rfl ?_
  obtain ⟨v1, e2, h⟩ := lt_some h
  refine wg_istore_n (lv' := [(1, .int v1), (0, .ref (ad 23))]) X dX5_cutNumber_4 rfl e2 (by decide) rfl ?_
  refine wg_iconst (v := 0) X dX5_cutNumber_5 (by decide) ?_
  refine wg_istore_n (lv' := [(2, .int (0 : Int32)), (1, .int v1), (0, .ref (ad 23))]) X dX5_cutNumber_6 rfl rfl (by decide) rfl ?_
  obtain ⟨o15, h16, h⟩ := bd2_o h
  refine wg_pick [2, 1, 0] (lv' := [(0, .ref (ad 23)), (1, .int v1), (2, .int (0 : Int32))]) rfl ?_
  refine L_X5_cutNumber_l7 X hr hS r0 D0 M N   v1  N C (0 : Int32) o15 h16 (fun C13 v14 e18 => ?_)
  · subst e18
    replace h := bd2_in h
    refine wg_aload_n X 0 dX5_cutNumber_64 rfl rfl ?_
    refine wg_getR (b := 26) X cl5 (SCi hS 23 5 rfl) 4 (by decide) dX5_cutNumber_65 k_173 rfl (SCr hS 23 4 26 rfl) ?_
    refine wg_aload_n X 0 dX5_cutNumber_68 rfl rfl ?_
    refine wg_getC X cl5 (SCi hS 23 5 rfl) 6 (by decide) dX5_cutNumber_69 k_177 rfl ?_
    refine wg_iload_n X 2 dX5_cutNumber_72 rfl rfl ?_
    obtain ⟨z19, h⟩ := ck_some h
    obtain ⟨C20, e21, h⟩ := lt_some h
    refine wg_iaste X (SCi hS 26 10 rfl) (SCl hS 26 161 rfl) z19 dX5_cutNumber_73 e21 ?_
    refine wg_aload_n X 0 dX5_cutNumber_74 rfl rfl ?_
    refine wg_getC X cl5 (SCi hS 23 5 rfl) 2 (by decide) dX5_cutNumber_75 k_170 rfl ?_
    refine wg_iload_n X 1 dX5_cutNumber_78 rfl rfl ?_
    refine wg_isub X dX5_cutNumber_79 ?_
    refine wg_iconst (v := 4) X dX5_cutNumber_80 (by decide) ?_
    refine wg_icmp_gt X 88 dX5_cutNumber_81 (by decide) (fun c22 => ?_) (fun c22 => ?_)
    · have h := if_t c22 h
      refine wg_bipush (v := -2) X dX5_cutNumber_88 (by decide) ?_
      exact wg_iret X ⟨congrArg Prod.fst (sm_inj h), congrArg Prod.snd (sm_inj h), rfl⟩ hr dX5_cutNumber_90
    · have h := if_f c22 h
      refine wg_iconst (v := 1) X dX5_cutNumber_84 (by decide) ?_
      refine wg_goto X 90 dX5_cutNumber_85 (by decide) ?_
      exact wg_iret X ⟨congrArg Prod.fst (sm_inj h), congrArg Prod.snd (sm_inj h), rfl⟩ hr dX5_cutNumber_90
-- WindowsGive.force(I)I (('c', 0), 'i')
def f_X8_force (C : wg_C) (p1 : Int32) : Option (Int32 × wg_C) :=
  if p1 < 0 then (
    some ((-2 : Int32), C))
  else (
    if p1 < (C 31 1) then (
      lt_ (C 1 3) fun v3 =>
      lt_ (wg_up C 1 3 p1) fun C5 =>
      some (v3, C5))
    else (
      some ((-2 : Int32), C)))
set_option maxHeartbeats 4000000 in
set_option maxRecDepth 100000 in
theorem c_X8_force (l : Launch) (E : wg_Ev) (ad : Nat → Nat) (S : wg_Sh) (hS : wg_SC S) (C : wg_C) (M : wg_M) (p1 : Int32)  {r0 : Int32} {D0 : wg_C} (h : f_X8_force C p1 = some (r0, D0)) : wg_Ci l yX8_force cX8_force 3 (some .int) 0 0 E ad S C M [.ref (ad 0), .int p1] r0 D0 M := by
  refine wg_start (own := RX8) (by decide +kernel) rfl (Nat.le_of_ble_eq_true rfl) ?_
  intro p e s m below meth c X hr hnm
  refine wg_lv (lv' := [(0, .ref (ad 0)), (1, .int p1)]) rfl ?_
  unfold f_X8_force at h
  refine wg_iload_n X 1 dX8_force_0 rfl rfl ?_
  refine wg_if_lt X 15 dX8_force_1 (by decide) (fun c1 => ?_) (fun c1 => ?_)
  · have h := if_t c1 h
    refine wg_bipush (v := -2) X dX8_force_15 (by decide) ?_
    exact wg_iret X ⟨congrArg Prod.fst (sm_inj h), congrArg Prod.snd (sm_inj h), rfl⟩ hr dX8_force_17
  · have h := if_f c1 h
    refine wg_iload_n X 1 dX8_force_4 rfl rfl ?_
    refine wg_aload_n X 0 dX8_force_5 rfl rfl ?_
    refine wg_getR (b := 31) X cl8 (SCi hS 0 8 rfl) 5 (by decide) dX8_force_6 k_477 rfl (SCr hS 0 5 31 rfl) ?_
    refine wg_getC X cl3 (SCi hS 31 3 rfl) 1 (by decide) dX8_force_9 k_230 rfl ?_
    refine wg_icmp_lt X 18 dX8_force_12 (by decide) (fun c2 => ?_) (fun c2 => ?_)
    · have h := if_t c2 h
      refine wg_aload_n X 0 dX8_force_18 rfl rfl ?_
      refine wg_getR (b := 1) X cl8 (SCi hS 0 8 rfl) 0 (by decide) dX8_force_19 k_472 rfl (SCr hS 0 0 1 rfl) ?_
      refine wg_getC X cl0 (SCi hS 1 0 rfl) 3 (by decide) dX8_force_22 k_151 rfl ?_
      obtain ⟨v3, e4, h⟩ := lt_some h
      refine wg_istore_n (lv' := [(2, .int v3), (0, .ref (ad 0)), (1, .int p1)]) X dX8_force_25 rfl e4 (by decide) rfl ?_
      refine wg_aload_n X 1 dX8_force_26 rfl rfl ?_
      refine wg_getR (b := 1) X cl8 (SCi hS 0 8 rfl) 0 (by decide) dX8_force_27 k_472 rfl (SCr hS 0 0 1 rfl) ?_
      refine wg_iload_n X 2 dX8_force_30 rfl rfl ?_
      obtain ⟨C5, e6, h⟩ := lt_some h
      refine wg_putCe X cl0 (SCi hS 1 0 rfl) 3 (by decide) dX8_force_31 k_151 rfl rfl rfl rfl e6 ?_
      refine wg_iload_n X 0 dX8_force_34 rfl rfl ?_
      exact wg_iret X ⟨congrArg Prod.fst (sm_inj h), congrArg Prod.snd (sm_inj h), rfl⟩ hr dX8_force_35
    · have h := if_f c2 h
      refine wg_bipush (v := -2) X dX8_force_15 (by decide) ?_
      exact wg_iret X ⟨congrArg Prod.fst (sm_inj h), congrArg Prod.snd (sm_inj h), rfl⟩ hr dX8_force_17
-- WindowsGive.isSpot(I)Z ('i',)
def f_X8_isSpot (p0 : Int32) : Option Int32 :=
  if p0 < 0 then (
    some (0 : Int32))
  else (
    if (192 : Int32) ≤ p0 then (
      some (0 : Int32))
    else (
      some (1 : Int32)))
set_option maxHeartbeats 4000000 in
set_option maxRecDepth 100000 in
theorem c_X8_isSpot (l : Launch) (E : wg_Ev) (ad : Nat → Nat) (S : wg_Sh) (C : wg_C) (M : wg_M) (p0 : Int32)  {r0 : Int32} (h : f_X8_isSpot p0 = some r0) : wg_Ci l yX8_isSpot cX8_isSpot 1 (some .boolean) 0 0 E ad S C M [.int p0] r0 C M := by
  refine wg_start (own := RX8) (by decide +kernel) rfl (Nat.le_of_ble_eq_true rfl) ?_
  intro p e s m below meth c X hr hnm
  refine wg_lv (lv' := [(0, .int p0)]) rfl ?_
  unfold f_X8_isSpot at h
  refine wg_iload_n X 0 dX8_isSpot_0 rfl rfl ?_
  refine wg_if_lt X 15 dX8_isSpot_1 (by decide) (fun c1 => ?_) (fun c1 => ?_)
  · have h := if_t c1 h
    refine wg_iconst (v := 0) X dX8_isSpot_15 (by decide) ?_
    exact wg_zret X ⟨(sm_inj h), rfl, rfl⟩ hr (by decide) dX8_isSpot_16
  · have h := if_f c1 h
    refine wg_iload_n X 0 dX8_isSpot_4 rfl rfl ?_
    refine wg_sipush (v := 192) X dX8_isSpot_5 (by decide) ?_
    refine wg_icmp_ge X 15 dX8_isSpot_8 (by decide) (fun c2 => ?_) (fun c2 => ?_)
    · have h := if_t c2 h
      refine wg_iconst (v := 0) X dX8_isSpot_15 (by decide) ?_
      exact wg_zret X ⟨(sm_inj h), rfl, rfl⟩ hr (by decide) dX8_isSpot_16
    · have h := if_f c2 h
      refine wg_iconst (v := 1) X dX8_isSpot_11 (by decide) ?_
      refine wg_goto X 16 dX8_isSpot_12 (by decide) ?_
      exact wg_zret X ⟨(sm_inj h), rfl, rfl⟩ hr (by decide) dX8_isSpot_16
-- java/util/Arrays.fill([II)V ('IA', 'i')
def f_J7_fill_53178_l5 (N : Nat) (p0 n0 : Nat)  (x1 : Int32) (x3 : Int32) (C : wg_C) (x2 : Int32) : Option ((wg_C × Int32) ⊕ (wg_C × Int32)) :=
  if x3 ≤ x2 then (
    some (.inr (C, x2)))
  else (
    ck (inb x2 n0) <|
    lt_ (wg_up C p0 x2.toNatClampNeg x1) fun C5 =>
    lt_ (x2 + (1 : Int32)) fun v7 =>
    some (.inl (C5, v7)))
def f_J7_fill_53178 (N : Nat) (C : wg_C) (p0 n0 : Nat) (p1 : Int32) : Option wg_C :=
  lt_ (Int32.ofNat n0) fun v1 =>
  bd2 (lp (fun o => f_J7_fill_53178_l5 N p0 n0  p1 v1 o.1 o.2) N (C, (0 : Int32))) fun C9 v10 =>
  some C9
abbrev G_J7_fill_53178 (p : Program) (l : Launch) (e : Env) (s : State) (m : MethodId) (args : Array Value) (below : List Frame) (meth : Method) (c : Code) (E : wg_Ev) (ad : Nat → Nat) (S : wg_Sh) (C0 : wg_C) (M0 : wg_M) (pc : Nat) (C : wg_C) (M : wg_M) (lv : List (Nat × Value)) (st : List Value) : Prop := wg_G p l e (wg_Rm 0 0) s m args below meth c (MQ below (wg_Qv E ad S C0 M0) args s 0 0 (wg_A E)) 4 E ad S 0 0 pc C M lv st
set_option maxHeartbeats 4000000 in
set_option maxRecDepth 100000 in
theorem L_J7_fill_53178_l5 {p : Program} {l : Launch} {e : Env} {s : State} {m : MethodId} {args : Array Value} {below : List Frame} {meth : Method} {c : Code} {E : wg_Ev} {ad : Nat → Nat} {S : wg_Sh} (X : wg_X p s m args meth c cJ7_fill_53178 4 RJ7 E) (hr : meth.sig.returnType = none) (hS : wg_SC S) (D0 : wg_C) (M : wg_M) (N : Nat) (p0 n0 : Nat) (hp0 : wg_IA S p0 n0)  (x1 : Int32) (x3 : Int32)  : ∀ (n : Nat) (C : wg_C) (x2 : Int32) (o : (wg_C × Int32)), lp (fun o => f_J7_fill_53178_l5 N p0 n0  x1 x3 o.1 o.2) n (C, x2) = some o → (∀ (Dy : wg_C) (y2 : Int32), o = (Dy, y2) → G_J7_fill_53178 p l e s m args below meth c E ad S D0 M 20 Dy M [(0, .ref (ad p0)), (1, .int x1), (2, .int y2), (3, .int x3)] []) → G_J7_fill_53178 p l e s m args below meth c E ad S D0 M 5 C M [(0, .ref (ad p0)), (1, .int x1), (2, .int x2), (3, .int x3)] [] := by
  intro n
  induction n with
  | zero => exact fun _ _ o h => (lp_zero h).elim
  | succ n ih =>
    intro C x2 o h K
    obtain ⟨o1, hb, h2⟩ := lp_some h
    replace hb : f_J7_fill_53178_l5 N p0 n0  x1 x3 C x2 = some o1 := hb
    clear h
    have Kc : ∀ (Dy : wg_C) (y2 : Int32), o1 = Sum.inl (Dy, y2) → G_J7_fill_53178 p l e s m args below meth c E ad S D0 M 5 Dy M [(0, .ref (ad p0)), (1, .int x1), (2, .int y2), (3, .int x3)] [] := fun Dy y2 e1 => by
      subst e1
      exact ih Dy y2 o h2 K
    have Ke : ∀ (Dy : wg_C) (y2 : Int32), o1 = Sum.inr ((Dy, y2)) → G_J7_fill_53178 p l e s m args below meth c E ad S D0 M 20 Dy M [(0, .ref (ad p0)), (1, .int x1), (2, .int y2), (3, .int x3)] [] := fun Dy y2 e1 => by
      subst e1
      exact K Dy y2 (sm_inj (α := (wg_C × Int32)) h2).symm
    clear ih K h2
    unfold f_J7_fill_53178_l5 at hb
    have h := hb
    clear hb
    refine wg_iload_n X 2 dJ7_fill_53178_5 rfl rfl ?_
    refine wg_iload_n X 3 dJ7_fill_53178_6 rfl rfl ?_
    refine wg_icmp_ge X 20 dJ7_fill_53178_7 (by decide) (fun c3 => ?_) (fun c3 => ?_)
    · have h := if_t c3 h
      exact Ke C x2 (sm_inj h).symm
    · have h := if_f c3 h
      refine wg_aload_n X 0 dJ7_fill_53178_10 rfl rfl ?_
      refine wg_iload_n X 2 dJ7_fill_53178_11 rfl rfl ?_
      refine wg_iload_n X 1 dJ7_fill_53178_12 rfl rfl ?_
      obtain ⟨z4, h⟩ := ck_some h
      obtain ⟨C5, e6, h⟩ := lt_some h
      refine wg_iaste X hp0.1 hp0.2 z4 dJ7_fill_53178_13 e6 ?_
      obtain ⟨v7, e8, h⟩ := lt_some h
      refine wg_iinc (lv' := [(2, .int v7), (0, .ref (ad p0)), (1, .int x1), (3, .int x3)]) X 2 dJ7_fill_53178_14 rfl e8 (by decide) rfl ?_
      refine wg_goto X 5 dJ7_fill_53178_17 (by decide) ?_
      refine wg_pick [1, 2, 0, 3] (lv' := [(0, .ref (ad p0)), (1, .int x1), (2, .int v7), (3, .int x3)]) rfl ?_
      exact Kc C5 v7 (sm_inj h).symm
set_option maxHeartbeats 4000000 in
set_option maxRecDepth 100000 in
theorem c_J7_fill_53178 (l : Launch) (E : wg_Ev) (ad : Nat → Nat) (S : wg_Sh) (hS : wg_SC S) (N : Nat) (C : wg_C) (M : wg_M) (p0 n0 : Nat) (p1 : Int32) (hp0 : wg_IA S p0 n0) {D0 : wg_C} (h : f_J7_fill_53178 N C p0 n0 p1 = some D0) : wg_Cv l yJ7_fill_53178 cJ7_fill_53178 4 none 0 0 E ad S C M [.ref (ad p0), .int p1] D0 M := by
  refine wg_start (own := RJ7) (by decide +kernel) rfl (Nat.le_of_ble_eq_true rfl) ?_
  intro p e s m below meth c X hr hnm
  refine wg_lv (lv' := [(0, .ref (ad p0)), (1, .int p1)]) rfl ?_
  unfold f_J7_fill_53178 at h
  refine wg_iconst (v := 0) X dJ7_fill_53178_0 (by decide) ?_
  refine wg_istore_n (lv' := [(2, .int (0 : Int32)), (0, .ref (ad p0)), (1, .int p1)]) X dJ7_fill_53178_1 rfl rfl (by decide) rfl ?_
  refine wg_aload_n X 1 dJ7_fill_53178_2 rfl rfl ?_
  refine wg_alenC  X hp0.1 hp0.2 rfl dJ7_fill_53178_3 ?_
  obtain ⟨v1, e2, h⟩ := lt_some h
  refine wg_istore_n (lv' := [(3, .int v1), (2, .int (0 : Int32)), (0, .ref (ad p0)), (1, .int p1)]) X dJ7_fill_53178_4 rfl e2 (by decide) rfl ?_
  obtain ⟨o11, h12, h⟩ := bd2_o h
  refine wg_pick [2, 3, 1, 0] (lv' := [(0, .ref (ad p0)), (1, .int p1), (2, .int (0 : Int32)), (3, .int v1)]) rfl ?_
  refine L_J7_fill_53178_l5 X hr hS D0 M N p0 n0 hp0  p1 v1  N C (0 : Int32) o11 h12 (fun C9 v10 e14 => ?_)
  · subst e14
    replace h := bd2_in h
    exact wg_vret X ⟨(sm_inj h), rfl⟩ hr dJ7_fill_53178_20
-- WindowsGive$Walk.nearest()I (('c', 35),)
def f_X7_nearest_l7 (N : Nat) (C : wg_C)   (x1 : Int32) (x2 : Int32) (x3 : Int32) : Option ((Int32 × Int32 × Int32) ⊕ (Int32 × Int32 × Int32)) :=
  if (192 : Int32) ≤ x3 then (
    some (.inr (x1, x2, x3)))
  else (
    ck (inb x3 192) <|
    if (C 38 x3.toNatClampNeg) = 0 then (
      ck (inb x3 192) <|
      if x2 ≤ (C 37 x3.toNatClampNeg) then (
        lt_ (x3 + (1 : Int32)) fun v8 =>
        some (.inl (x1, x2, v8)))
      else (
        ck (inb x3 192) <|
        lt_ (C 37 x3.toNatClampNeg) fun v11 =>
        lt_ (x3 + (1 : Int32)) fun v13 =>
        some (.inl (x3, v11, v13))))
    else (
      lt_ (x3 + (1 : Int32)) fun v4 =>
      some (.inl (x1, x2, v4))))
def f_X7_nearest (N : Nat) (C : wg_C)  : Option Int32 :=
  bd3 (lp (fun o => f_X7_nearest_l7 N C   o.1 o.2.1 o.2.2) N ((-1 : Int32), (1000000000 : Int32), (0 : Int32))) fun v15 v16 v17 =>
  some v15
abbrev G_X7_nearest (p : Program) (l : Launch) (e : Env) (s : State) (m : MethodId) (args : Array Value) (below : List Frame) (meth : Method) (c : Code) (E : wg_Ev) (ad : Nat → Nat) (S : wg_Sh) (r0 : Int32) (C0 : wg_C) (M0 : wg_M) (pc : Nat) (C : wg_C) (M : wg_M) (lv : List (Nat × Value)) (st : List Value) : Prop := wg_G p l e (wg_Rm 0 0) s m args below meth c (MQ below (wg_Qi E ad S r0 C0 M0) args s 0 0 (wg_A E)) 4 E ad S 0 0 pc C M lv st
set_option maxHeartbeats 4000000 in
set_option maxRecDepth 100000 in
theorem L_X7_nearest_l7 {p : Program} {l : Launch} {e : Env} {s : State} {m : MethodId} {args : Array Value} {below : List Frame} {meth : Method} {c : Code} {E : wg_Ev} {ad : Nat → Nat} {S : wg_Sh} (X : wg_X p s m args meth c cX7_nearest 4 RX7 E) (hr : meth.sig.returnType = (some .int)) (hS : wg_SC S) (r0 : Int32) (M : wg_M) (N : Nat)  (C : wg_C)    : ∀ (n : Nat) (x1 : Int32) (x2 : Int32) (x3 : Int32) (o : (Int32 × Int32 × Int32)), lp (fun o => f_X7_nearest_l7 N C   o.1 o.2.1 o.2.2) n (x1, x2, x3) = some o → (∀ (y1 : Int32) (y2 : Int32) (y3 : Int32), o = (y1, y2, y3) → G_X7_nearest p l e s m args below meth c E ad S r0 C M 48 C M [(0, .ref (ad 35)), (1, .int y1), (2, .int y2), (3, .int y3)] []) → G_X7_nearest p l e s m args below meth c E ad S r0 C M 7 C M [(0, .ref (ad 35)), (1, .int x1), (2, .int x2), (3, .int x3)] [] := by
  intro n
  induction n with
  | zero => exact fun _ _ _ o h => (lp_zero h).elim
  | succ n ih =>
    intro x1 x2 x3 o h K
    obtain ⟨o1, hb, h2⟩ := lp_some h
    replace hb : f_X7_nearest_l7 N C   x1 x2 x3 = some o1 := hb
    clear h
    have Kc : ∀ (y1 : Int32) (y2 : Int32) (y3 : Int32), o1 = Sum.inl (y1, y2, y3) → G_X7_nearest p l e s m args below meth c E ad S r0 C M 7 C M [(0, .ref (ad 35)), (1, .int y1), (2, .int y2), (3, .int y3)] [] := fun y1 y2 y3 e1 => by
      subst e1
      exact ih y1 y2 y3 o h2 K
    have Ke : ∀ (y1 : Int32) (y2 : Int32) (y3 : Int32), o1 = Sum.inr ((y1, y2, y3)) → G_X7_nearest p l e s m args below meth c E ad S r0 C M 48 C M [(0, .ref (ad 35)), (1, .int y1), (2, .int y2), (3, .int y3)] [] := fun y1 y2 y3 e1 => by
      subst e1
      exact K y1 y2 y3 (sm_inj (α := (Int32 × Int32 × Int32)) h2).symm
    clear ih K h2
    unfold f_X7_nearest_l7 at hb
    have h := hb
    clear hb
    refine wg_iload_n X 3 dX7_nearest_7 rfl rfl ?_
    refine wg_sipush (v := 192) X dX7_nearest_8 (by decide) ?_
    refine wg_icmp_ge X 48 dX7_nearest_11 (by decide) (fun c1 => ?_) (fun c1 => ?_)
    · have h := if_t c1 h
      exact Ke x1 x2 x3 (sm_inj h).symm
    · have h := if_f c1 h
      refine wg_aload_n X 0 dX7_nearest_14 rfl rfl ?_
      refine wg_getR (b := 38) X cl7 (SCi hS 35 7 rfl) 2 (by decide) dX7_nearest_15 k_252 rfl (SCr hS 35 2 38 rfl) ?_
      refine wg_iload_n X 3 dX7_nearest_18 rfl rfl ?_
      obtain ⟨z2, h⟩ := ck_some h
      refine wg_iald X (SCi hS 38 10 rfl) (SCl hS 38 192 rfl) z2 dX7_nearest_19 ?_
      refine wg_if_ne X 42 dX7_nearest_20 (by decide) (fun c3 => ?_) (fun c3 => ?_)
      · have h := if_f c3 h
        obtain ⟨v4, e5, h⟩ := lt_some h
        refine wg_iinc (lv' := [(3, .int v4), (0, .ref (ad 35)), (1, .int x1), (2, .int x2)]) X 3 dX7_nearest_42 rfl e5 (by decide) rfl ?_
        refine wg_goto X 7 dX7_nearest_45 (by decide) ?_
        refine wg_pick [1, 2, 3, 0] (lv' := [(0, .ref (ad 35)), (1, .int x1), (2, .int x2), (3, .int v4)]) rfl ?_
        exact Kc x1 x2 v4 (sm_inj h).symm
      · have h := if_t c3 h
        refine wg_aload_n X 0 dX7_nearest_23 rfl rfl ?_
        refine wg_getR (b := 37) X cl7 (SCi hS 35 7 rfl) 1 (by decide) dX7_nearest_24 k_250 rfl (SCr hS 35 1 37 rfl) ?_
        refine wg_iload_n X 3 dX7_nearest_27 rfl rfl ?_
        obtain ⟨z6, h⟩ := ck_some h
        refine wg_iald X (SCi hS 37 10 rfl) (SCl hS 37 192 rfl) z6 dX7_nearest_28 ?_
        refine wg_iload_n X 2 dX7_nearest_29 rfl rfl ?_
        refine wg_icmp_ge X 42 dX7_nearest_30 (by decide) (fun c7 => ?_) (fun c7 => ?_)
        · have h := if_t c7 h
          obtain ⟨v8, e9, h⟩ := lt_some h
          refine wg_iinc (lv' := [(3, .int v8), (0, .ref (ad 35)), (1, .int x1), (2, .int x2)]) X 3 dX7_nearest_42 rfl e9 (by decide) rfl ?_
          refine wg_goto X 7 dX7_nearest_45 (by decide) ?_
          refine wg_pick [1, 2, 3, 0] (lv' := [(0, .ref (ad 35)), (1, .int x1), (2, .int x2), (3, .int v8)]) rfl ?_
          exact Kc x1 x2 v8 (sm_inj h).symm
        · have h := if_f c7 h
          refine wg_aload_n X 0 dX7_nearest_33 rfl rfl ?_
          refine wg_getR (b := 37) X cl7 (SCi hS 35 7 rfl) 1 (by decide) dX7_nearest_34 k_250 rfl (SCr hS 35 1 37 rfl) ?_
          refine wg_iload_n X 3 dX7_nearest_37 rfl rfl ?_
          obtain ⟨z10, h⟩ := ck_some h
          refine wg_iald X (SCi hS 37 10 rfl) (SCl hS 37 192 rfl) z10 dX7_nearest_38 ?_
          obtain ⟨v11, e12, h⟩ := lt_some h
          refine wg_istore_n (lv' := [(2, .int v11), (0, .ref (ad 35)), (1, .int x1), (3, .int x3)]) X dX7_nearest_39 rfl e12 (by decide) rfl ?_
          refine wg_iload_n X 3 dX7_nearest_40 rfl rfl ?_
          refine wg_istore_n (lv' := [(1, .int x3), (2, .int v11), (0, .ref (ad 35)), (3, .int x3)]) X dX7_nearest_41 rfl rfl (by decide) rfl ?_
          obtain ⟨v13, e14, h⟩ := lt_some h
          refine wg_iinc (lv' := [(3, .int v13), (1, .int x3), (2, .int v11), (0, .ref (ad 35))]) X 3 dX7_nearest_42 rfl e14 (by decide) rfl ?_
          refine wg_goto X 7 dX7_nearest_45 (by decide) ?_
          refine wg_pick [3, 1, 2, 0] (lv' := [(0, .ref (ad 35)), (1, .int x3), (2, .int v11), (3, .int v13)]) rfl ?_
          exact Kc x3 v11 v13 (sm_inj h).symm
set_option maxHeartbeats 4000000 in
set_option maxRecDepth 100000 in
theorem c_X7_nearest (l : Launch) (E : wg_Ev) (ad : Nat → Nat) (S : wg_Sh) (hS : wg_SC S) (N : Nat) (C : wg_C) (M : wg_M)   {r0 : Int32} (h : f_X7_nearest N C  = some r0) : wg_Ci l yX7_nearest cX7_nearest 4 (some .int) 0 0 E ad S C M [.ref (ad 35)] r0 C M := by
  refine wg_start (own := RX7) (by decide +kernel) rfl (Nat.le_of_ble_eq_true rfl) ?_
  intro p e s m below meth c X hr hnm
  refine wg_lv (lv' := [(0, .ref (ad 35))]) rfl ?_
  unfold f_X7_nearest at h
  refine wg_iconst (v := -1) X dX7_nearest_0 (by decide) ?_
  refine wg_istore_n (lv' := [(1, .int (-1 : Int32)), (0, .ref (ad 35))]) X dX7_nearest_1 rfl rfl (by decide) rfl ?_
  refine wg_ldc (v := 1000000000) X dX7_nearest_2 k_594 ?_
  refine wg_istore_n (lv' := [(2, .int (1000000000 : Int32)), (1, .int (-1 : Int32)), (0, .ref (ad 35))]) X dX7_nearest_4 rfl rfl (by decide) rfl ?_
  refine wg_iconst (v := 0) X dX7_nearest_5 (by decide) ?_
  refine wg_istore_n (lv' := [(3, .int (0 : Int32)), (2, .int (1000000000 : Int32)), (1, .int (-1 : Int32)), (0, .ref (ad 35))]) X dX7_nearest_6 rfl rfl (by decide) rfl ?_
  obtain ⟨o18, h19, h⟩ := bd3_o h
  refine wg_pick [3, 2, 1, 0] (lv' := [(0, .ref (ad 35)), (1, .int (-1 : Int32)), (2, .int (1000000000 : Int32)), (3, .int (0 : Int32))]) rfl ?_
  refine L_X7_nearest_l7 X hr hS r0 M N  C    N (-1 : Int32) (1000000000 : Int32) (0 : Int32) o18 h19 (fun v15 v16 v17 e21 => ?_)
  · subst e21
    replace h := bd3_in h
    refine wg_iload_n X 1 dX7_nearest_48 rfl rfl ?_
    exact wg_iret X ⟨(sm_inj h), rfl, rfl⟩ hr dX7_nearest_49
-- WindowsGive$Walk.shorten(II)V (('c', 35), 'i', 'i')
def f_X7_shorten (C : wg_C) (p1 : Int32) (p2 : Int32) : Option wg_C :=
  ck (inb p1 192) <|
  if (C 37 p1.toNatClampNeg) ≤ p2 then (
    some C)
  else (
    ck (inb p1 192) <|
    lt_ (wg_up C 37 p1.toNatClampNeg p2) fun C4 =>
    some C4)
set_option maxHeartbeats 4000000 in
set_option maxRecDepth 100000 in
theorem c_X7_shorten (l : Launch) (E : wg_Ev) (ad : Nat → Nat) (S : wg_Sh) (hS : wg_SC S) (C : wg_C) (M : wg_M) (p1 : Int32) (p2 : Int32)  {D0 : wg_C} (h : f_X7_shorten C p1 p2 = some D0) : wg_Cv l yX7_shorten cX7_shorten 3 none 0 0 E ad S C M [.ref (ad 35), .int p1, .int p2] D0 M := by
  refine wg_start (own := RX7) (by decide +kernel) rfl (Nat.le_of_ble_eq_true rfl) ?_
  intro p e s m below meth c X hr hnm
  refine wg_lv (lv' := [(0, .ref (ad 35)), (1, .int p1), (2, .int p2)]) rfl ?_
  unfold f_X7_shorten at h
  refine wg_iload_n X 2 dX7_shorten_0 rfl rfl ?_
  refine wg_aload_n X 0 dX7_shorten_1 rfl rfl ?_
  refine wg_getR (b := 37) X cl7 (SCi hS 35 7 rfl) 1 (by decide) dX7_shorten_2 k_250 rfl (SCr hS 35 1 37 rfl) ?_
  refine wg_iload_n X 1 dX7_shorten_5 rfl rfl ?_
  obtain ⟨z1, h⟩ := ck_some h
  refine wg_iald X (SCi hS 37 10 rfl) (SCl hS 37 192 rfl) z1 dX7_shorten_6 ?_
  refine wg_icmp_ge X 17 dX7_shorten_7 (by decide) (fun c2 => ?_) (fun c2 => ?_)
  · have h := if_t c2 h
    exact wg_vret X ⟨(sm_inj h), rfl⟩ hr dX7_shorten_17
  · have h := if_f c2 h
    refine wg_aload_n X 0 dX7_shorten_10 rfl rfl ?_
    refine wg_getR (b := 37) X cl7 (SCi hS 35 7 rfl) 1 (by decide) dX7_shorten_11 k_250 rfl (SCr hS 35 1 37 rfl) ?_
    refine wg_iload_n X 1 dX7_shorten_14 rfl rfl ?_
    refine wg_iload_n X 2 dX7_shorten_15 rfl rfl ?_
    obtain ⟨z3, h⟩ := ck_some h
    obtain ⟨C4, e5, h⟩ := lt_some h
    refine wg_iaste X (SCi hS 37 10 rfl) (SCl hS 37 192 rfl) z3 dX7_shorten_16 e5 ?_
    exact wg_vret X ⟨(sm_inj h), rfl⟩ hr dX7_shorten_17
-- WindowsGive$Walk.leave(LWindowsGive$House;LWindowsGive$Rules;II)V (('c', 35), ('c', 1), 'null', 'i', 'i')
def f_X7_leave_j106l39 (N : Nat) (S : wg_Sh) (C : wg_C)  (x3 : Int32) (x4 : Int32) (x5 : Int32) (x6 : Int32) (x7 : Int32) (x8 : Nat) (s0 : Int32) : Option ((wg_C × Int32) ⊕ (wg_C × Int32)) :=
  bd (f_X1_leads C x8) fun r17 =>
  bd (f_X1_on C x8 x6) fun r19 =>
  ck (inb x3 192) <|
  bd (f_X7_shorten C ((r17 * (32 : Int32)) + r19) ((C 37 x3.toNatClampNeg) + s0)) fun C22 =>
  lt_ (x7 + (1 : Int32)) fun v23 =>
  some (.inl (C22, v23))
def f_X7_leave_l39 (N : Nat) (S : wg_Sh)  (x3 : Int32) (x4 : Int32) (x5 : Int32) (x6 : Int32) (C : wg_C) (x7 : Int32) : Option ((wg_C × Int32) ⊕ (wg_C × Int32)) :=
  if (C 1 2) ≤ x7 then (
    some (.inr (C, x7)))
  else (
    ck (inb x7 8) <|
    if (C (4 + x7.toNatClampNeg) 4) = x5 then (
      bd (f_X1_passes C (4 + x7.toNatClampNeg) x6 x4) fun r12 =>
      if r12 = 0 then (
        lt_ (x7 + (1 : Int32)) fun v14 =>
        some (.inl (C, v14)))
      else (
        f_X7_leave_j106l39 N S C  x3 x4 x5 x6 x7 (4 + x7.toNatClampNeg) (1000 : Int32)))
    else (
      lt_ (x7 + (1 : Int32)) fun v9 =>
      some (.inl (C, v9))))
def f_X7_leave_j36 (N : Nat) (S : wg_Sh) (C : wg_C)  (x3 : Int32) (x4 : Int32) (x5 : Int32) (x6 : Int32) : Option wg_C :=
  bd2 (lp (fun o => f_X7_leave_l39 N S  x3 x4 x5 x6 o.1 o.2) N (C, (0 : Int32))) fun C25 v26 =>
  some C25
def f_X7_leave (N : Nat) (S : wg_Sh) (C : wg_C) (p3 : Int32) (p4 : Int32) : Option wg_C :=
  lt_ (p3 / (32 : Int32)) fun v1 =>
  lt_ (p3 - p3 / (32 : Int32) * (32 : Int32)) fun v3 =>
  if (32 : Int32) ≤ (v3 + (1 : Int32)) then (
    f_X7_leave_j36 N S C  p3 p4 v1 v3)
  else (
    ck (inb p3 192) <|
    bd (f_X7_shorten C (p3 + (1 : Int32)) ((C 37 p3.toNatClampNeg) + (1 : Int32))) fun C33 =>
    f_X7_leave_j36 N S C33  p3 p4 v1 v3)
abbrev G_X7_leave (p : Program) (l : Launch) (e : Env) (s : State) (m : MethodId) (args : Array Value) (below : List Frame) (meth : Method) (c : Code) (E : wg_Ev) (ad : Nat → Nat) (S : wg_Sh) (C0 : wg_C) (M0 : wg_M) (pc : Nat) (C : wg_C) (M : wg_M) (lv : List (Nat × Value)) (st : List Value) : Prop := wg_G p l e (wg_Rm 2 44) s m args below meth c (MQ below (wg_Qv E ad S C0 M0) args s 0 0 (wg_A E)) 10 E ad S 0 0 pc C M lv st
set_option maxHeartbeats 4000000 in
set_option maxRecDepth 100000 in
theorem J_X7_leave_j106l39 {p : Program} {l : Launch} {e : Env} {s : State} {m : MethodId} {args : Array Value} {below : List Frame} {meth : Method} {c : Code} {E : wg_Ev} {ad : Nat → Nat} {S : wg_Sh} (X : wg_X p s m args meth c cX7_leave 10 RX7 E) (hr : meth.sig.returnType = none) (hS : wg_SC S) (D0 : wg_C) (M : wg_M) (N : Nat)  (C : wg_C)  (x3 : Int32) (x4 : Int32) (x5 : Int32) (x6 : Int32) (x7 : Int32) (x8 : Nat) (s0 : Int32) (hx8 : wg_id S x8 1) (y : ((wg_C × Int32) ⊕ (wg_C × Int32))) (Kc : ∀ (Dy : wg_C) (y7 : Int32), y = Sum.inl (Dy, y7) → G_X7_leave p l e s m args below meth c E ad S D0 M 39 Dy M [(0, .ref (ad 35)), (1, .ref (ad 1)), (2, .null), (3, .int x3), (4, .int x4), (5, .int x5), (6, .int x6), (7, .int y7)] []) (Ke : ∀ (Dy : wg_C) (y7 : Int32), y = Sum.inr ((Dy, y7)) → G_X7_leave p l e s m args below meth c E ad S D0 M 143 Dy M [(0, .ref (ad 35)), (1, .ref (ad 1)), (2, .null), (3, .int x3), (4, .int x4), (5, .int x5), (6, .int x6), (7, .int y7)] []) (h : f_X7_leave_j106l39 N S C  x3 x4 x5 x6 x7 x8 s0 = some y) : G_X7_leave p l e s m args below meth c E ad S D0 M 106 C M [(0, .ref (ad 35)), (1, .ref (ad 1)), (2, .null), (3, .int x3), (4, .int x4), (5, .int x5), (6, .int x6), (7, .int x7), (8, .ref (ad x8))] [.int s0] := by
  unfold f_X7_leave_j106l39 at h
  refine wg_istore (lv' := [(9, .int s0), (0, .ref (ad 35)), (1, .ref (ad 1)), (2, .null), (3, .int x3), (4, .int x4), (5, .int x5), (6, .int x6), (7, .int x7), (8, .ref (ad x8))]) X dX7_leave_106 rfl (by decide) rfl ?_
  refine wg_aload_n X 1 dX7_leave_108 rfl rfl ?_
  refine wg_aload X 9 dX7_leave_109 rfl ?_
  obtain ⟨r17, h16, h⟩ := bd_some h
  refine wg_callVi (As := []) (rest := [.ref (ad 35)]) X (c_X1_leads l E ad S hS C M x8 hx8 h16) T_yX1_leads k_643 cl1 hx8 dX7_leave_111 rfl rfl (Nat.le_of_ble_eq_true rfl) ⟨Nat.le_of_ble_eq_true rfl, Nat.le_of_ble_eq_true rfl⟩ ⟨Nat.zero_le _, Nat.zero_le _⟩ ?_
  refine wg_bipush (v := 32) X dX7_leave_114 (by decide) ?_
  refine wg_imul X dX7_leave_116 ?_
  refine wg_aload X 9 dX7_leave_117 rfl ?_
  refine wg_iload X 7 dX7_leave_119 rfl ?_
  obtain ⟨r19, h18, h⟩ := bd_some h
  refine wg_callVi (As := [.int x6]) (rest := [.int (r17 * (32 : Int32)), .ref (ad 35)]) X (c_X1_on l E ad S hS C M x8 x6 hx8 h18) T_yX1_on k_644 cl1 hx8 dX7_leave_121 rfl rfl (Nat.le_of_ble_eq_true rfl) ⟨Nat.le_of_ble_eq_true rfl, Nat.le_of_ble_eq_true rfl⟩ ⟨Nat.zero_le _, Nat.zero_le _⟩ ?_
  refine wg_iadd X dX7_leave_124 ?_
  refine wg_aload_n X 1 dX7_leave_125 rfl rfl ?_
  refine wg_getR (b := 37) X cl7 (SCi hS 35 7 rfl) 1 (by decide) dX7_leave_126 k_250 rfl (SCr hS 35 1 37 rfl) ?_
  refine wg_iload_n X 4 dX7_leave_129 rfl rfl ?_
  obtain ⟨z20, h⟩ := ck_some h
  refine wg_iald X (SCi hS 37 10 rfl) (SCl hS 37 192 rfl) z20 dX7_leave_130 ?_
  refine wg_iload X 0 dX7_leave_131 rfl ?_
  refine wg_iadd X dX7_leave_133 ?_
  obtain ⟨C22, h21, h⟩ := bd_some h
  refine wg_callVv (As := [.int ((r17 * (32 : Int32)) + r19), .int ((C 37 x3.toNatClampNeg) + s0)]) (rest := []) X (c_X7_shorten l E ad S hS C M ((r17 * (32 : Int32)) + r19) ((C 37 x3.toNatClampNeg) + s0)  h21) T_yX7_shorten k_606 cl7 (SCi hS 35 7 rfl) dX7_leave_134 rfl rfl (Nat.le_of_ble_eq_true rfl) ⟨Nat.le_of_ble_eq_true rfl, Nat.le_of_ble_eq_true rfl⟩ ⟨Nat.zero_le _, Nat.zero_le _⟩ ?_
  obtain ⟨v23, e24, h⟩ := lt_some h
  refine wg_iinc (lv' := [(7, .int v23), (9, .int s0), (0, .ref (ad 35)), (1, .ref (ad 1)), (2, .null), (3, .int x3), (4, .int x4), (5, .int x5), (6, .int x6), (8, .ref (ad x8))]) X 8 dX7_leave_137 rfl e24 (by decide) rfl ?_
  refine wg_goto X 39 dX7_leave_140 (by decide) ?_
  refine wg_pick [2, 3, 4, 5, 6, 7, 8, 0] (lv' := [(0, .ref (ad 35)), (1, .ref (ad 1)), (2, .null), (3, .int x3), (4, .int x4), (5, .int x5), (6, .int x6), (7, .int v23)]) rfl ?_
  exact Kc C22 v23 (sm_inj h).symm
set_option maxHeartbeats 4000000 in
set_option maxRecDepth 100000 in
theorem L_X7_leave_l39 {p : Program} {l : Launch} {e : Env} {s : State} {m : MethodId} {args : Array Value} {below : List Frame} {meth : Method} {c : Code} {E : wg_Ev} {ad : Nat → Nat} {S : wg_Sh} (X : wg_X p s m args meth c cX7_leave 10 RX7 E) (hr : meth.sig.returnType = none) (hS : wg_SC S) (D0 : wg_C) (M : wg_M) (N : Nat)   (x3 : Int32) (x4 : Int32) (x5 : Int32) (x6 : Int32)  : ∀ (n : Nat) (C : wg_C) (x7 : Int32) (o : (wg_C × Int32)), lp (fun o => f_X7_leave_l39 N S  x3 x4 x5 x6 o.1 o.2) n (C, x7) = some o → (∀ (Dy : wg_C) (y7 : Int32), o = (Dy, y7) → G_X7_leave p l e s m args below meth c E ad S D0 M 143 Dy M [(0, .ref (ad 35)), (1, .ref (ad 1)), (2, .null), (3, .int x3), (4, .int x4), (5, .int x5), (6, .int x6), (7, .int y7)] []) → G_X7_leave p l e s m args below meth c E ad S D0 M 39 C M [(0, .ref (ad 35)), (1, .ref (ad 1)), (2, .null), (3, .int x3), (4, .int x4), (5, .int x5), (6, .int x6), (7, .int x7)] [] := by
  intro n
  induction n with
  | zero => exact fun _ _ o h => (lp_zero h).elim
  | succ n ih =>
    intro C x7 o h K
    obtain ⟨o1, hb, h2⟩ := lp_some h
    replace hb : f_X7_leave_l39 N S  x3 x4 x5 x6 C x7 = some o1 := hb
    clear h
    have Kc : ∀ (Dy : wg_C) (y7 : Int32), o1 = Sum.inl (Dy, y7) → G_X7_leave p l e s m args below meth c E ad S D0 M 39 Dy M [(0, .ref (ad 35)), (1, .ref (ad 1)), (2, .null), (3, .int x3), (4, .int x4), (5, .int x5), (6, .int x6), (7, .int y7)] [] := fun Dy y7 e1 => by
      subst e1
      exact ih Dy y7 o h2 K
    have Ke : ∀ (Dy : wg_C) (y7 : Int32), o1 = Sum.inr ((Dy, y7)) → G_X7_leave p l e s m args below meth c E ad S D0 M 143 Dy M [(0, .ref (ad 35)), (1, .ref (ad 1)), (2, .null), (3, .int x3), (4, .int x4), (5, .int x5), (6, .int x6), (7, .int y7)] [] := fun Dy y7 e1 => by
      subst e1
      exact K Dy y7 (sm_inj (α := (wg_C × Int32)) h2).symm
    clear ih K h2
    unfold f_X7_leave_l39 at hb
    have h := hb
    clear hb
    refine wg_iload X 7 dX7_leave_39 rfl ?_
    refine wg_aload_n X 1 dX7_leave_41 rfl rfl ?_
    refine wg_getC X cl0 (SCi hS 1 0 rfl) 2 (by decide) dX7_leave_42 k_148 rfl ?_
    refine wg_icmp_ge X 143 dX7_leave_45 (by decide) (fun c6 => ?_) (fun c6 => ?_)
    · have h := if_t c6 h
      exact Ke C x7 (sm_inj h).symm
    · have h := if_f c6 h
      refine wg_aload_n X 1 dX7_leave_48 rfl rfl ?_
      refine wg_getR (b := 3) X cl0 (SCi hS 1 0 rfl) 1 (by decide) dX7_leave_49 k_145 rfl (SCr hS 1 1 3 rfl) ?_
      refine wg_iload X 7 dX7_leave_52 rfl ?_
      obtain ⟨z7, h⟩ := ck_some h
      refine wg_aalS13 (b := 4 + x7.toNatClampNeg) X (SCi hS 3 13 rfl) (SCl hS 3 8 rfl) z7 (SCp hS (inb_lt z7)).1 dX7_leave_54 ?_
      refine wg_astore (lv' := [(8, .ref (ad (4 + x7.toNatClampNeg))), (0, .ref (ad 35)), (1, .ref (ad 1)), (2, .null), (3, .int x3), (4, .int x4), (5, .int x5), (6, .int x6), (7, .int x7)]) X dX7_leave_55 rfl (by decide) rfl ?_
      refine wg_aload X 0 dX7_leave_57 rfl ?_
      refine wg_getC X cl1 (SCp hS (inb_lt z7)).2.1 4 (by decide) dX7_leave_59 k_123 rfl ?_
      refine wg_iload X 6 dX7_leave_62 rfl ?_
      refine wg_icmp_ne X 137 dX7_leave_64 (by decide) (fun c8 => ?_) (fun c8 => ?_)
      · have h := if_f c8 h
        obtain ⟨v9, e10, h⟩ := lt_some h
        refine wg_iinc (lv' := [(7, .int v9), (8, .ref (ad (4 + x7.toNatClampNeg))), (0, .ref (ad 35)), (1, .ref (ad 1)), (2, .null), (3, .int x3), (4, .int x4), (5, .int x5), (6, .int x6)]) X 8 dX7_leave_137 rfl e10 (by decide) rfl ?_
        refine wg_goto X 39 dX7_leave_140 (by decide) ?_
        refine wg_pick [2, 3, 4, 5, 6, 7, 8, 0] (lv' := [(0, .ref (ad 35)), (1, .ref (ad 1)), (2, .null), (3, .int x3), (4, .int x4), (5, .int x5), (6, .int x6), (7, .int v9)]) rfl ?_
        exact Kc C v9 (sm_inj h).symm
      · have h := if_t c8 h
        refine wg_aload X 0 dX7_leave_67 rfl ?_
        refine wg_iload X 7 dX7_leave_69 rfl ?_
        refine wg_iload X 5 dX7_leave_71 rfl ?_
        obtain ⟨r12, h11, h⟩ := bd_some h
        refine wg_callVi (As := [.int x6, .int x4]) (rest := []) X (c_X1_passes l E ad S hS C M (4 + x7.toNatClampNeg) x6 x4 ((SCp hS (inb_lt z7)).2.1) h11) T_yX1_passes k_610 cl1 ((SCp hS (inb_lt z7)).2.1) dX7_leave_73 rfl rfl (Nat.le_of_ble_eq_true rfl) ⟨Nat.le_of_ble_eq_true rfl, Nat.le_of_ble_eq_true rfl⟩ ⟨Nat.zero_le _, Nat.zero_le _⟩ ?_
        refine wg_if_eq X 137 dX7_leave_76 (by decide) (fun c13 => ?_) (fun c13 => ?_)
        · have h := if_t c13 h
          obtain ⟨v14, e15, h⟩ := lt_some h
          refine wg_iinc (lv' := [(7, .int v14), (8, .ref (ad (4 + x7.toNatClampNeg))), (0, .ref (ad 35)), (1, .ref (ad 1)), (2, .null), (3, .int x3), (4, .int x4), (5, .int x5), (6, .int x6)]) X 8 dX7_leave_137 rfl e15 (by decide) rfl ?_
          refine wg_goto X 39 dX7_leave_140 (by decide) ?_
          refine wg_pick [2, 3, 4, 5, 6, 7, 8, 0] (lv' := [(0, .ref (ad 35)), (1, .ref (ad 1)), (2, .null), (3, .int x3), (4, .int x4), (5, .int x5), (6, .int x6), (7, .int v14)]) rfl ?_
          exact Kc C v14 (sm_inj h).symm
        · have h := if_f c13 h
          refine wg_aload_nN X 3 dX7_leave_79 rfl rfl ?_
          refine wg_nonnullN X dX7_leave_80 ?_
          refine wg_sipush (v := 1000) X dX7_leave_83 (by decide) ?_
          refine wg_goto X 106 dX7_leave_86 (by decide) ?_
          refine wg_pick [1, 2, 3, 4, 5, 6, 7, 8, 0] (lv' := [(0, .ref (ad 35)), (1, .ref (ad 1)), (2, .null), (3, .int x3), (4, .int x4), (5, .int x5), (6, .int x6), (7, .int x7), (8, .ref (ad (4 + x7.toNatClampNeg)))]) rfl ?_
          exact J_X7_leave_j106l39 X hr hS D0 M N  C  x3 x4 x5 x6 x7 (4 + x7.toNatClampNeg) (1000 : Int32) ((SCp hS (inb_lt z7)).2.1) _ Kc Ke h
set_option maxHeartbeats 4000000 in
set_option maxRecDepth 100000 in
theorem J_X7_leave_j36 {p : Program} {l : Launch} {e : Env} {s : State} {m : MethodId} {args : Array Value} {below : List Frame} {meth : Method} {c : Code} {E : wg_Ev} {ad : Nat → Nat} {S : wg_Sh} (X : wg_X p s m args meth c cX7_leave 10 RX7 E) (hr : meth.sig.returnType = none) (hS : wg_SC S) (D0 : wg_C) (M : wg_M) (N : Nat)  (C : wg_C)  (x3 : Int32) (x4 : Int32) (x5 : Int32) (x6 : Int32)   (h : f_X7_leave_j36 N S C  x3 x4 x5 x6 = some D0) : G_X7_leave p l e s m args below meth c E ad S D0 M 36 C M [(0, .ref (ad 35)), (1, .ref (ad 1)), (2, .null), (3, .int x3), (4, .int x4), (5, .int x5), (6, .int x6)] [] := by
  unfold f_X7_leave_j36 at h
  refine wg_iconst (v := 0) X dX7_leave_36 (by decide) ?_
  refine wg_istore (lv' := [(7, .int (0 : Int32)), (0, .ref (ad 35)), (1, .ref (ad 1)), (2, .null), (3, .int x3), (4, .int x4), (5, .int x5), (6, .int x6)]) X dX7_leave_37 rfl (by decide) rfl ?_
  obtain ⟨o27, h28, h⟩ := bd2_o h
  refine wg_pick [1, 2, 3, 4, 5, 6, 7, 0] (lv' := [(0, .ref (ad 35)), (1, .ref (ad 1)), (2, .null), (3, .int x3), (4, .int x4), (5, .int x5), (6, .int x6), (7, .int (0 : Int32))]) rfl ?_
  refine L_X7_leave_l39 X hr hS D0 M N   x3 x4 x5 x6  N C (0 : Int32) o27 h28 (fun C25 v26 e30 => ?_)
  · subst e30
    replace h := bd2_in h
    exact wg_vret X ⟨(sm_inj h), rfl⟩ hr dX7_leave_143
set_option maxHeartbeats 4000000 in
set_option maxRecDepth 100000 in
theorem c_X7_leave (l : Launch) (E : wg_Ev) (ad : Nat → Nat) (S : wg_Sh) (hS : wg_SC S) (N : Nat) (C : wg_C) (M : wg_M) (p3 : Int32) (p4 : Int32)  {D0 : wg_C} (h : f_X7_leave N S C p3 p4 = some D0) : wg_Cv l yX7_leave cX7_leave 10 none 2 44 E ad S C M [.ref (ad 35), .ref (ad 1), .null, .int p3, .int p4] D0 M := by
  refine wg_start (own := RX7) (by decide +kernel) rfl (Nat.le_of_ble_eq_true rfl) ?_
  intro p e s m below meth c X hr hnm
  refine wg_lv (lv' := [(0, .ref (ad 35)), (1, .ref (ad 1)), (2, .null), (3, .int p3), (4, .int p4)]) rfl ?_
  unfold f_X7_leave at h
  refine wg_iload_n X 3 dX7_leave_0 rfl rfl ?_
  refine wg_bipush (v := 32) X dX7_leave_1 (by decide) ?_
  refine wg_idiv X dX7_leave_3 (by decide) ?_
  obtain ⟨v1, e2, h⟩ := lt_some h
  refine wg_istore (lv' := [(5, .int v1), (0, .ref (ad 35)), (1, .ref (ad 1)), (2, .null), (3, .int p3), (4, .int p4)]) X dX7_leave_4 e2 (by decide) rfl ?_
  refine wg_iload_n X 4 dX7_leave_6 rfl rfl ?_
  refine wg_bipush (v := 32) X dX7_leave_7 (by decide) ?_
  refine wg_irem X dX7_leave_9 (by decide) ?_
  obtain ⟨v3, e4, h⟩ := lt_some h
  refine wg_istore (lv' := [(6, .int v3), (5, .int v1), (0, .ref (ad 35)), (1, .ref (ad 1)), (2, .null), (3, .int p3), (4, .int p4)]) X dX7_leave_10 e4 (by decide) rfl ?_
  refine wg_iload X 0 dX7_leave_12 rfl ?_
  refine wg_iconst (v := 1) X dX7_leave_14 (by decide) ?_
  refine wg_iadd X dX7_leave_15 ?_
  refine wg_bipush (v := 32) X dX7_leave_16 (by decide) ?_
  refine wg_icmp_ge X 36 dX7_leave_18 (by decide) (fun c5 => ?_) (fun c5 => ?_)
  · have h := if_t c5 h
    refine wg_pick [2, 3, 4, 5, 6, 1, 0] (lv' := [(0, .ref (ad 35)), (1, .ref (ad 1)), (2, .null), (3, .int p3), (4, .int p4), (5, .int v1), (6, .int v3)]) rfl ?_
    exact J_X7_leave_j36 X hr hS D0 M N  C  p3 p4 v1 v3   h
  · have h := if_f c5 h
    refine wg_aload_n X 2 dX7_leave_21 rfl rfl ?_
    refine wg_iload_n X 5 dX7_leave_22 rfl rfl ?_
    refine wg_iconst (v := 1) X dX7_leave_23 (by decide) ?_
    refine wg_iadd X dX7_leave_24 ?_
    refine wg_aload_n X 2 dX7_leave_25 rfl rfl ?_
    refine wg_getR (b := 37) X cl7 (SCi hS 35 7 rfl) 1 (by decide) dX7_leave_26 k_250 rfl (SCr hS 35 1 37 rfl) ?_
    refine wg_iload_n X 5 dX7_leave_29 rfl rfl ?_
    obtain ⟨z31, h⟩ := ck_some h
    refine wg_iald X (SCi hS 37 10 rfl) (SCl hS 37 192 rfl) z31 dX7_leave_30 ?_
    refine wg_iconst (v := 1) X dX7_leave_31 (by decide) ?_
    refine wg_iadd X dX7_leave_32 ?_
    obtain ⟨C33, h32, h⟩ := bd_some h
    refine wg_callVv (As := [.int (p3 + (1 : Int32)), .int ((C 37 p3.toNatClampNeg) + (1 : Int32))]) (rest := []) X (c_X7_shorten l E ad S hS C M (p3 + (1 : Int32)) ((C 37 p3.toNatClampNeg) + (1 : Int32))  h32) T_yX7_shorten k_606 cl7 (SCi hS 35 7 rfl) dX7_leave_33 rfl rfl (Nat.le_of_ble_eq_true rfl) ⟨Nat.le_of_ble_eq_true rfl, Nat.le_of_ble_eq_true rfl⟩ ⟨Nat.zero_le _, Nat.zero_le _⟩ ?_
    refine wg_pick [2, 3, 4, 5, 6, 1, 0] (lv' := [(0, .ref (ad 35)), (1, .ref (ad 1)), (2, .null), (3, .int p3), (4, .int p4), (5, .int v1), (6, .int v3)]) rfl ?_
    exact J_X7_leave_j36 X hr hS D0 M N  C33  p3 p4 v1 v3   h
-- WindowsGive$Walk.search(LWindowsGive$House;LWindowsGive$Rules;II)V (('c', 35), ('c', 1), 'null', 'i', 'i')
def f_X7_search_l27 (N : Nat) (S : wg_Sh)  (x4 : Int32) (C : wg_C) (x5 : Int32) : Option ((wg_C × Int32) ⊕ ((wg_C × Int32) ⊕ wg_C)) :=
  if (192 : Int32) ≤ x5 then (
    some (.inr (.inl (C, x5))))
  else (
    bd (f_X7_nearest N C ) fun r10 =>
    if r10 = (-1 : Int32) then (
      some (.inr (.inr C)))
    else (
      ck (inb r10 192) <|
      lt_ (wg_up C 38 r10.toNatClampNeg (1 : Int32)) fun C13 =>
      bd (f_X7_leave N S C13 r10 x4) fun C16 =>
      lt_ (x5 + (1 : Int32)) fun v17 =>
      some (.inl (C16, v17))))
def f_X7_search (N : Nat) (S : wg_Sh) (C : wg_C) (p3 : Int32) (p4 : Int32) : Option wg_C :=
  bd (f_J7_fill_53178 N C 37 192 (1000000000 : Int32)) fun C2 =>
  bd (f_J7_fill_53178 N C2 38 192 (0 : Int32)) fun C4 =>
  ck (inb p3 192) <|
  lt_ (wg_up C4 37 p3.toNatClampNeg (0 : Int32)) fun C6 =>
  bs2 (lp (fun o => f_X7_search_l27 N S  p4 o.1 o.2) N (C6, (0 : Int32))) (fun C19 v20 =>
    some C19)
    (fun q23 => some q23)
abbrev G_X7_search (p : Program) (l : Launch) (e : Env) (s : State) (m : MethodId) (args : Array Value) (below : List Frame) (meth : Method) (c : Code) (E : wg_Ev) (ad : Nat → Nat) (S : wg_Sh) (C0 : wg_C) (M0 : wg_M) (pc : Nat) (C : wg_C) (M : wg_M) (lv : List (Nat × Value)) (st : List Value) : Prop := wg_G p l e (wg_Rm 3 73) s m args below meth c (MQ below (wg_Qv E ad S C0 M0) args s 0 0 (wg_A E)) 7 E ad S 0 0 pc C M lv st
set_option maxHeartbeats 4000000 in
set_option maxRecDepth 100000 in
theorem L_X7_search_l27 {p : Program} {l : Launch} {e : Env} {s : State} {m : MethodId} {args : Array Value} {below : List Frame} {meth : Method} {c : Code} {E : wg_Ev} {ad : Nat → Nat} {S : wg_Sh} (X : wg_X p s m args meth c cX7_search 7 RX7 E) (hr : meth.sig.returnType = none) (hS : wg_SC S) (D0 : wg_C) (M : wg_M) (N : Nat)   (x4 : Int32)  : ∀ (n : Nat) (C : wg_C) (x5 : Int32) (o : ((wg_C × Int32) ⊕ wg_C)), lp (fun o => f_X7_search_l27 N S  x4 o.1 o.2) n (C, x5) = some o → (∀ (Dy : wg_C) (y5 : Int32), o = Sum.inl (Dy, y5) → G_X7_search p l e s m args below meth c E ad S D0 M 72 Dy M [(0, .ref (ad 35)), (1, .ref (ad 1)), (2, .null), (4, .int x4), (5, .int y5)] []) → (∀ q : wg_C, o = Sum.inr q → q = D0) → G_X7_search p l e s m args below meth c E ad S D0 M 27 C M [(0, .ref (ad 35)), (1, .ref (ad 1)), (2, .null), (4, .int x4), (5, .int x5)] [] := by
  intro n
  induction n with
  | zero => exact fun _ _ o h => (lp_zero h).elim
  | succ n ih =>
    intro C x5 o h K KR
    obtain ⟨o1, hb, h2⟩ := lp_some h
    replace hb : f_X7_search_l27 N S  x4 C x5 = some o1 := hb
    clear h
    have Kc : ∀ (Dy : wg_C) (y5 : Int32), o1 = Sum.inl (Dy, y5) → G_X7_search p l e s m args below meth c E ad S D0 M 27 Dy M [(0, .ref (ad 35)), (1, .ref (ad 1)), (2, .null), (4, .int x4), (5, .int y5)] [] := fun Dy y5 e1 => by
      subst e1
      exact ih Dy y5 o h2 K KR
    have Ke : ∀ (Dy : wg_C) (y5 : Int32), o1 = Sum.inr (Sum.inl (Dy, y5)) → G_X7_search p l e s m args below meth c E ad S D0 M 72 Dy M [(0, .ref (ad 35)), (1, .ref (ad 1)), (2, .null), (4, .int x4), (5, .int y5)] [] := fun Dy y5 e1 => by
      subst e1
      exact K Dy y5 (sm_inj (α := ((wg_C × Int32) ⊕ wg_C)) h2).symm
    have Kr : ∀ q : wg_C, o1 = Sum.inr (Sum.inr q) → q = D0 := fun q e1 => by
      subst e1
      exact KR q (sm_inj (α := ((wg_C × Int32) ⊕ wg_C)) h2).symm
    clear ih K h2 KR
    unfold f_X7_search_l27 at hb
    have h := hb
    clear hb
    refine wg_iload X 4 dX7_search_27 rfl ?_
    refine wg_sipush (v := 192) X dX7_search_29 (by decide) ?_
    refine wg_icmp_ge X 72 dX7_search_32 (by decide) (fun c8 => ?_) (fun c8 => ?_)
    · have h := if_t c8 h
      exact Ke C x5 (sm_inj h).symm
    · have h := if_f c8 h
      refine wg_aload_n X 0 dX7_search_35 rfl rfl ?_
      obtain ⟨r10, h9, h⟩ := bd_some h
      refine wg_callVi (As := []) (rest := []) X (c_X7_nearest l E ad S hS N C M   h9) T_yX7_nearest k_598 cl7 (SCi hS 35 7 rfl) dX7_search_36 rfl rfl (Nat.le_of_ble_eq_true rfl) ⟨Nat.le_of_ble_eq_true rfl, Nat.le_of_ble_eq_true rfl⟩ ⟨Nat.zero_le _, Nat.zero_le _⟩ ?_
      refine wg_istore (lv' := [(6, .int r10), (0, .ref (ad 35)), (1, .ref (ad 1)), (2, .null), (4, .int x4), (5, .int x5)]) X dX7_search_39 rfl (by decide) rfl ?_
      refine wg_iload X 0 dX7_search_41 rfl ?_
      refine wg_iconst (v := -1) X dX7_search_43 (by decide) ?_
      refine wg_icmp_ne X 48 dX7_search_44 (by decide) (fun c11 => ?_) (fun c11 => ?_)
      · have h := if_f c11 h
        refine wg_aload_n X 1 dX7_search_48 rfl rfl ?_
        refine wg_getR (b := 38) X cl7 (SCi hS 35 7 rfl) 2 (by decide) dX7_search_49 k_252 rfl (SCr hS 35 2 38 rfl) ?_
        refine wg_iload X 0 dX7_search_52 rfl ?_
        refine wg_iconst (v := 1) X dX7_search_54 (by decide) ?_
        obtain ⟨z12, h⟩ := ck_some h
        obtain ⟨C13, e14, h⟩ := lt_some h
        refine wg_iaste X (SCi hS 38 10 rfl) (SCl hS 38 192 rfl) z12 dX7_search_55 e14 ?_
        refine wg_aload_n X 1 dX7_search_56 rfl rfl ?_
        refine wg_aload_n X 2 dX7_search_57 rfl rfl ?_
        refine wg_aload_nN X 3 dX7_search_58 rfl rfl ?_
        refine wg_iload X 0 dX7_search_59 rfl ?_
        refine wg_iload X 4 dX7_search_61 rfl ?_
        obtain ⟨C16, h15, h⟩ := bd_some h
        refine wg_callVv (As := [.ref (ad 1), .null, .int r10, .int x4]) (rest := []) X (c_X7_leave l E ad S hS N C13 M r10 x4  h15) T_yX7_leave k_602 cl7 (SCi hS 35 7 rfl) dX7_search_63 rfl rfl (Nat.le_of_ble_eq_true rfl) ⟨Nat.le_of_ble_eq_true rfl, Nat.le_of_ble_eq_true rfl⟩ ⟨Nat.zero_le _, Nat.zero_le _⟩ ?_
        obtain ⟨v17, e18, h⟩ := lt_some h
        refine wg_iinc (lv' := [(5, .int v17), (6, .int r10), (0, .ref (ad 35)), (1, .ref (ad 1)), (2, .null), (4, .int x4)]) X 5 dX7_search_66 rfl e18 (by decide) rfl ?_
        refine wg_goto X 27 dX7_search_69 (by decide) ?_
        refine wg_pick [2, 3, 4, 5, 0] (lv' := [(0, .ref (ad 35)), (1, .ref (ad 1)), (2, .null), (4, .int x4), (5, .int v17)]) rfl ?_
        exact Kc C16 v17 (sm_inj h).symm
      · have h := if_t c11 h
        have hq := Kr _ (sm_inj h).symm
        exact wg_vret X ⟨hq, rfl⟩ hr dX7_search_47
set_option maxHeartbeats 4000000 in
set_option maxRecDepth 100000 in
theorem c_X7_search (l : Launch) (E : wg_Ev) (ad : Nat → Nat) (S : wg_Sh) (hS : wg_SC S) (N : Nat) (C : wg_C) (M : wg_M) (p3 : Int32) (p4 : Int32)  {D0 : wg_C} (h : f_X7_search N S C p3 p4 = some D0) : wg_Cv l yX7_search cX7_search 7 none 3 73 E ad S C M [.ref (ad 35), .ref (ad 1), .null, .int p3, .int p4] D0 M := by
  refine wg_start (own := RX7) (by decide +kernel) rfl (Nat.le_of_ble_eq_true rfl) ?_
  intro p e s m below meth c X hr hnm
  refine wg_lv (lv' := [(0, .ref (ad 35)), (1, .ref (ad 1)), (2, .null), (3, .int p3), (4, .int p4)]) rfl ?_
  unfold f_X7_search at h
  refine wg_aload_n X 0 dX7_search_0 rfl rfl ?_
  refine wg_getR (b := 37) X cl7 (SCi hS 35 7 rfl) 1 (by decide) dX7_search_1 k_250 rfl (SCr hS 35 1 37 rfl) ?_
  refine wg_ldc (v := 1000000000) X dX7_search_4 k_594 ?_
  obtain ⟨C2, h1, h⟩ := bd_some h
  refine wg_callSv (As := [.ref (ad 37), .int (1000000000 : Int32)]) (rest := []) X (c_J7_fill_53178 l E ad S hS N C M 37 192 (1000000000 : Int32) ⟨(SCi hS 37 10 rfl), (SCl hS 37 192 rfl)⟩ h1) T_yJ7_fill_53178 k_595 dX7_search_6 rfl rfl (Nat.le_of_ble_eq_true rfl) ⟨Nat.le_of_ble_eq_true rfl, Nat.le_of_ble_eq_true rfl⟩ ⟨Nat.zero_le _, Nat.zero_le _⟩ ?_
  refine wg_aload_n X 0 dX7_search_9 rfl rfl ?_
  refine wg_getR (b := 38) X cl7 (SCi hS 35 7 rfl) 2 (by decide) dX7_search_10 k_252 rfl (SCr hS 35 2 38 rfl) ?_
  refine wg_iconst (v := 0) X dX7_search_13 (by decide) ?_
  obtain ⟨C4, h3, h⟩ := bd_some h
  refine wg_callSv (As := [.ref (ad 38), .int (0 : Int32)]) (rest := []) X (c_J7_fill_53178 l E ad S hS N C2 M 38 192 (0 : Int32) ⟨(SCi hS 38 10 rfl), (SCl hS 38 192 rfl)⟩ h3) T_yJ7_fill_53178 k_595 dX7_search_14 rfl rfl (Nat.le_of_ble_eq_true rfl) ⟨Nat.le_of_ble_eq_true rfl, Nat.le_of_ble_eq_true rfl⟩ ⟨Nat.zero_le _, Nat.zero_le _⟩ ?_
  refine wg_aload_n X 0 dX7_search_17 rfl rfl ?_
  refine wg_getR (b := 37) X cl7 (SCi hS 35 7 rfl) 1 (by decide) dX7_search_18 k_250 rfl (SCr hS 35 1 37 rfl) ?_
  refine wg_iload_n X 3 dX7_search_21 rfl rfl ?_
  refine wg_iconst (v := 0) X dX7_search_22 (by decide) ?_
  obtain ⟨z5, h⟩ := ck_some h
  obtain ⟨C6, e7, h⟩ := lt_some h
  refine wg_iaste X (SCi hS 37 10 rfl) (SCl hS 37 192 rfl) z5 dX7_search_23 e7 ?_
  refine wg_iconst (v := 0) X dX7_search_24 (by decide) ?_
  refine wg_istore (lv' := [(5, .int (0 : Int32)), (0, .ref (ad 35)), (1, .ref (ad 1)), (2, .null), (3, .int p3), (4, .int p4)]) X dX7_search_25 rfl (by decide) rfl ?_
  obtain ⟨o21, h22, h⟩ := bs2_o h
  refine wg_pick [1, 2, 3, 5, 0] (lv' := [(0, .ref (ad 35)), (1, .ref (ad 1)), (2, .null), (4, .int p4), (5, .int (0 : Int32))]) rfl ?_
  refine L_X7_search_l27 X hr hS D0 M N   p4  N C6 (0 : Int32) o21 h22 (fun C19 v20 e24 => ?_) (fun q23 e24 => ?_)
  · subst e24
    replace h := bs2_in h
    exact wg_vret X ⟨(sm_inj h), rfl⟩ hr dX7_search_72
  · subst e24
    replace h := bs2_r h
    exact sm_inj h
-- WindowsGive.panes(IIII)I (('c', 0), 'i', 'i', 'i', 'i')
def f_X8_panes (N : Nat) (S : wg_Sh) (C : wg_C) (p1 : Int32) (p2 : Int32) (p3 : Int32) (p4 : Int32) : Option (Int32 × wg_C) :=
  bd (f_X8_isSpot p1) fun r2 =>
  if r2 = 0 then (
    some ((-2 : Int32), C))
  else (
    bd (f_X8_isSpot p2) fun r5 =>
    if r5 = 0 then (
      some ((-2 : Int32), C))
    else (
      bd (f_X8_isSort p3) fun r8 =>
      if r8 = 0 then (
        some ((-2 : Int32), C))
      else (
        if p4 < 0 then (
          some ((-2 : Int32), C))
        else (
          if p4 ≤ (1 : Int32) then (
            bd (f_X7_search N S C p1 p3) fun C13 =>
            ck (inb p2 192) <|
            lt_ (C13 37 p2.toNatClampNeg) fun v15 =>
            if v15 < (1000000000 : Int32) then (
              if p4 = 0 then (
                some ((v15 / (1000 : Int32)), C13))
              else (
                some ((v15 - v15 / (1000 : Int32) * (1000 : Int32)), C13)))
            else (
              some ((-1 : Int32), C13)))
          else (
            some ((-2 : Int32), C))))))
set_option maxHeartbeats 4000000 in
set_option maxRecDepth 100000 in
theorem c_X8_panes (l : Launch) (E : wg_Ev) (ad : Nat → Nat) (S : wg_Sh) (hS : wg_SC S) (N : Nat) (C : wg_C) (M : wg_M) (p1 : Int32) (p2 : Int32) (p3 : Int32) (p4 : Int32)  {r0 : Int32} {D0 : wg_C} (h : f_X8_panes N S C p1 p2 p3 p4 = some (r0, D0)) : wg_Ci l yX8_panes cX8_panes 6 (some .int) 4 99 E ad S C M [.ref (ad 0), .int p1, .int p2, .int p3, .int p4] r0 D0 M := by
  refine wg_start (own := RX8) (by decide +kernel) rfl (Nat.le_of_ble_eq_true rfl) ?_
  intro p e s m below meth c X hr hnm
  refine wg_lv (lv' := [(0, .ref (ad 0)), (1, .int p1), (2, .int p2), (3, .int p3), (4, .int p4)]) rfl ?_
  unfold f_X8_panes at h
  refine wg_iload_n X 1 dX8_panes_0 rfl rfl ?_
  obtain ⟨r2, h1, h⟩ := bd_some h
  refine wg_callSi (As := [.int p1]) (rest := []) X (c_X8_isSpot l E ad S C M p1  h1) T_yX8_isSpot k_587 dX8_panes_1 rfl rfl (Nat.le_of_ble_eq_true rfl) ⟨Nat.le_of_ble_eq_true rfl, Nat.le_of_ble_eq_true rfl⟩ ⟨Nat.zero_le _, Nat.zero_le _⟩ ?_
  refine wg_if_eq X 32 dX8_panes_4 (by decide) (fun c3 => ?_) (fun c3 => ?_)
  · have h := if_t c3 h
    refine wg_bipush (v := -2) X dX8_panes_32 (by decide) ?_
    exact wg_iret X ⟨congrArg Prod.fst (sm_inj h), congrArg Prod.snd (sm_inj h), rfl⟩ hr dX8_panes_34
  · have h := if_f c3 h
    refine wg_iload_n X 2 dX8_panes_7 rfl rfl ?_
    obtain ⟨r5, h4, h⟩ := bd_some h
    refine wg_callSi (As := [.int p2]) (rest := []) X (c_X8_isSpot l E ad S C M p2  h4) T_yX8_isSpot k_587 dX8_panes_8 rfl rfl (Nat.le_of_ble_eq_true rfl) ⟨Nat.le_of_ble_eq_true rfl, Nat.le_of_ble_eq_true rfl⟩ ⟨Nat.zero_le _, Nat.zero_le _⟩ ?_
    refine wg_if_eq X 32 dX8_panes_11 (by decide) (fun c6 => ?_) (fun c6 => ?_)
    · have h := if_t c6 h
      refine wg_bipush (v := -2) X dX8_panes_32 (by decide) ?_
      exact wg_iret X ⟨congrArg Prod.fst (sm_inj h), congrArg Prod.snd (sm_inj h), rfl⟩ hr dX8_panes_34
    · have h := if_f c6 h
      refine wg_iload_n X 3 dX8_panes_14 rfl rfl ?_
      obtain ⟨r8, h7, h⟩ := bd_some h
      refine wg_callSi (As := [.int p3]) (rest := []) X (c_X8_isSort l E ad S C M p3  h7) T_yX8_isSort k_554 dX8_panes_15 rfl rfl (Nat.le_of_ble_eq_true rfl) ⟨Nat.le_of_ble_eq_true rfl, Nat.le_of_ble_eq_true rfl⟩ ⟨Nat.zero_le _, Nat.zero_le _⟩ ?_
      refine wg_if_eq X 32 dX8_panes_18 (by decide) (fun c9 => ?_) (fun c9 => ?_)
      · have h := if_t c9 h
        refine wg_bipush (v := -2) X dX8_panes_32 (by decide) ?_
        exact wg_iret X ⟨congrArg Prod.fst (sm_inj h), congrArg Prod.snd (sm_inj h), rfl⟩ hr dX8_panes_34
      · have h := if_f c9 h
        refine wg_iload X 4 dX8_panes_21 rfl ?_
        refine wg_if_lt X 32 dX8_panes_23 (by decide) (fun c10 => ?_) (fun c10 => ?_)
        · have h := if_t c10 h
          refine wg_bipush (v := -2) X dX8_panes_32 (by decide) ?_
          exact wg_iret X ⟨congrArg Prod.fst (sm_inj h), congrArg Prod.snd (sm_inj h), rfl⟩ hr dX8_panes_34
        · have h := if_f c10 h
          refine wg_iload X 4 dX8_panes_26 rfl ?_
          refine wg_iconst (v := 1) X dX8_panes_28 (by decide) ?_
          refine wg_icmp_le X 35 dX8_panes_29 (by decide) (fun c11 => ?_) (fun c11 => ?_)
          · have h := if_t c11 h
            refine wg_aload_n X 0 dX8_panes_35 rfl rfl ?_
            refine wg_getR (b := 35) X cl8 (SCi hS 0 8 rfl) 6 (by decide) dX8_panes_36 k_478 rfl (SCr hS 0 6 35 rfl) ?_
            refine wg_aload_n X 0 dX8_panes_39 rfl rfl ?_
            refine wg_getR (b := 1) X cl8 (SCi hS 0 8 rfl) 0 (by decide) dX8_panes_40 k_472 rfl (SCr hS 0 0 1 rfl) ?_
            refine wg_null X dX8_panes_43 ?_
            refine wg_iload_n X 1 dX8_panes_44 rfl rfl ?_
            refine wg_iload_n X 3 dX8_panes_45 rfl rfl ?_
            obtain ⟨C13, h12, h⟩ := bd_some h
            refine wg_callVv (As := [.ref (ad 1), .null, .int p1, .int p3]) (rest := []) X (c_X7_search l E ad S hS N C M p1 p3  h12) T_yX7_search k_590 cl7 (SCi hS 35 7 rfl) dX8_panes_46 rfl rfl (Nat.le_of_ble_eq_true rfl) ⟨Nat.le_of_ble_eq_true rfl, Nat.le_of_ble_eq_true rfl⟩ ⟨Nat.zero_le _, Nat.zero_le _⟩ ?_
            refine wg_aload_n X 0 dX8_panes_49 rfl rfl ?_
            refine wg_getR (b := 35) X cl8 (SCi hS 0 8 rfl) 6 (by decide) dX8_panes_50 k_478 rfl (SCr hS 0 6 35 rfl) ?_
            refine wg_getR (b := 37) X cl7 (SCi hS 35 7 rfl) 1 (by decide) dX8_panes_53 k_251 rfl (SCr hS 35 1 37 rfl) ?_
            refine wg_iload_n X 2 dX8_panes_56 rfl rfl ?_
            obtain ⟨z14, h⟩ := ck_some h
            refine wg_iald X (SCi hS 37 10 rfl) (SCl hS 37 192 rfl) z14 dX8_panes_57 ?_
            obtain ⟨v15, e16, h⟩ := lt_some h
            refine wg_istore (lv' := [(5, .int v15), (0, .ref (ad 0)), (1, .int p1), (2, .int p2), (3, .int p3), (4, .int p4)]) X dX8_panes_58 e16 (by decide) rfl ?_
            refine wg_iload X 0 dX8_panes_60 rfl ?_
            refine wg_ldc (v := 1000000000) X dX8_panes_62 k_645 ?_
            refine wg_icmp_lt X 69 dX8_panes_64 (by decide) (fun c17 => ?_) (fun c17 => ?_)
            · have h := if_t c17 h
              refine wg_iload X 5 dX8_panes_69 rfl ?_
              refine wg_if_ne X 83 dX8_panes_71 (by decide) (fun c18 => ?_) (fun c18 => ?_)
              · have h := if_f c18 h
                refine wg_iload X 0 dX8_panes_83 rfl ?_
                refine wg_sipush (v := 1000) X dX8_panes_85 (by decide) ?_
                refine wg_irem X dX8_panes_88 (by decide) ?_
                exact wg_iret X ⟨congrArg Prod.fst (sm_inj h), congrArg Prod.snd (sm_inj h), rfl⟩ hr dX8_panes_89
              · have h := if_t c18 h
                refine wg_iload X 0 dX8_panes_74 rfl ?_
                refine wg_sipush (v := 1000) X dX8_panes_76 (by decide) ?_
                refine wg_idiv X dX8_panes_79 (by decide) ?_
                refine wg_goto X 89 dX8_panes_80 (by decide) ?_
                exact wg_iret X ⟨congrArg Prod.fst (sm_inj h), congrArg Prod.snd (sm_inj h), rfl⟩ hr dX8_panes_89
            · have h := if_f c17 h
              refine wg_iconst (v := -1) X dX8_panes_67 (by decide) ?_
              exact wg_iret X ⟨congrArg Prod.fst (sm_inj h), congrArg Prod.snd (sm_inj h), rfl⟩ hr dX8_panes_68
          · have h := if_f c11 h
            refine wg_bipush (v := -2) X dX8_panes_32 (by decide) ?_
            exact wg_iret X ⟨congrArg Prod.fst (sm_inj h), congrArg Prod.snd (sm_inj h), rfl⟩ hr dX8_panes_34
-- WindowsGive$Text.start(I)I ('TX', 'i')
def f_X6_start (S : wg_Sh) (C : wg_C) (p0 : Nat) (p1 : Int32) : Option Int32 :=
  if p1 ≤ 0 then (
    some (0 : Int32))
  else (
    if (3 : Int32) ≤ p1 then (
      some (0 : Int32))
    else (
      ck (inb (p1 - (1 : Int32)) 3) <|
      some (C (p0 + 2) (p1 - (1 : Int32)).toNatClampNeg)))
set_option maxHeartbeats 4000000 in
set_option maxRecDepth 100000 in
theorem c_X6_start (l : Launch) (E : wg_Ev) (ad : Nat → Nat) (S : wg_Sh) (hS : wg_SC S) (C : wg_C) (M : wg_M) (p0 : Nat) (p1 : Int32) (hp0 : wg_Txt S p0) {r0 : Int32} (h : f_X6_start S C p0 p1 = some r0) : wg_Ci l yX6_start cX6_start 2 (some .int) 0 0 E ad S C M [.ref (ad p0), .int p1] r0 C M := by
  refine wg_start (own := RX6) (by decide +kernel) rfl (Nat.le_of_ble_eq_true rfl) ?_
  intro p e s m below meth c X hr hnm
  refine wg_lv (lv' := [(0, .ref (ad p0)), (1, .int p1)]) rfl ?_
  unfold f_X6_start at h
  refine wg_iload_n X 1 dX6_start_0 rfl rfl ?_
  refine wg_if_le X 24 dX6_start_1 (by decide) (fun c1 => ?_) (fun c1 => ?_)
  · have h := if_t c1 h
    refine wg_iconst (v := 0) X dX6_start_24 (by decide) ?_
    exact wg_iret X ⟨(sm_inj h), rfl, rfl⟩ hr dX6_start_25
  · have h := if_f c1 h
    refine wg_iload_n X 1 dX6_start_4 rfl rfl ?_
    refine wg_aload_n X 0 dX6_start_5 rfl rfl ?_
    refine wg_getR (b := (p0 + 2)) X cl6 hp0.1 1 (by decide) dX6_start_6 k_457 rfl hp0.2.2.2.1 ?_
    refine wg_alenC (v := 3) X hp0.2.2.2.2.1 hp0.2.2.2.2.2 (by decide) dX6_start_9 ?_
    refine wg_icmp_ge X 24 dX6_start_10 (by decide) (fun c2 => ?_) (fun c2 => ?_)
    · have h := if_t c2 h
      refine wg_iconst (v := 0) X dX6_start_24 (by decide) ?_
      exact wg_iret X ⟨(sm_inj h), rfl, rfl⟩ hr dX6_start_25
    · have h := if_f c2 h
      refine wg_aload_n X 0 dX6_start_13 rfl rfl ?_
      refine wg_getR (b := (p0 + 2)) X cl6 hp0.1 1 (by decide) dX6_start_14 k_457 rfl hp0.2.2.2.1 ?_
      refine wg_iload_n X 1 dX6_start_17 rfl rfl ?_
      refine wg_iconst (v := 1) X dX6_start_18 (by decide) ?_
      refine wg_isub X dX6_start_19 ?_
      obtain ⟨z3, h⟩ := ck_some h
      refine wg_iald X hp0.2.2.2.2.1 hp0.2.2.2.2.2 z3 dX6_start_20 ?_
      refine wg_goto X 25 dX6_start_21 (by decide) ?_
      exact wg_iret X ⟨(sm_inj h), rfl, rfl⟩ hr dX6_start_25
-- WindowsGive$Text.end(I)I ('TX', 'i')
def f_X6_end (S : wg_Sh) (C : wg_C) (p0 : Nat) (p1 : Int32) : Option Int32 :=
  if p1 < 0 then (
    some (0 : Int32))
  else (
    if (3 : Int32) ≤ p1 then (
      some (0 : Int32))
    else (
      ck (inb p1 3) <|
      some (C (p0 + 2) p1.toNatClampNeg)))
set_option maxHeartbeats 4000000 in
set_option maxRecDepth 100000 in
theorem c_X6_end (l : Launch) (E : wg_Ev) (ad : Nat → Nat) (S : wg_Sh) (hS : wg_SC S) (C : wg_C) (M : wg_M) (p0 : Nat) (p1 : Int32) (hp0 : wg_Txt S p0) {r0 : Int32} (h : f_X6_end S C p0 p1 = some r0) : wg_Ci l yX6_end cX6_end 2 (some .int) 0 0 E ad S C M [.ref (ad p0), .int p1] r0 C M := by
  refine wg_start (own := RX6) (by decide +kernel) rfl (Nat.le_of_ble_eq_true rfl) ?_
  intro p e s m below meth c X hr hnm
  refine wg_lv (lv' := [(0, .ref (ad p0)), (1, .int p1)]) rfl ?_
  unfold f_X6_end at h
  refine wg_iload_n X 1 dX6_end_0 rfl rfl ?_
  refine wg_if_lt X 22 dX6_end_1 (by decide) (fun c1 => ?_) (fun c1 => ?_)
  · have h := if_t c1 h
    refine wg_iconst (v := 0) X dX6_end_22 (by decide) ?_
    exact wg_iret X ⟨(sm_inj h), rfl, rfl⟩ hr dX6_end_23
  · have h := if_f c1 h
    refine wg_iload_n X 1 dX6_end_4 rfl rfl ?_
    refine wg_aload_n X 0 dX6_end_5 rfl rfl ?_
    refine wg_getR (b := (p0 + 2)) X cl6 hp0.1 1 (by decide) dX6_end_6 k_457 rfl hp0.2.2.2.1 ?_
    refine wg_alenC (v := 3) X hp0.2.2.2.2.1 hp0.2.2.2.2.2 (by decide) dX6_end_9 ?_
    refine wg_icmp_ge X 22 dX6_end_10 (by decide) (fun c2 => ?_) (fun c2 => ?_)
    · have h := if_t c2 h
      refine wg_iconst (v := 0) X dX6_end_22 (by decide) ?_
      exact wg_iret X ⟨(sm_inj h), rfl, rfl⟩ hr dX6_end_23
    · have h := if_f c2 h
      refine wg_aload_n X 0 dX6_end_13 rfl rfl ?_
      refine wg_getR (b := (p0 + 2)) X cl6 hp0.1 1 (by decide) dX6_end_14 k_457 rfl hp0.2.2.2.1 ?_
      refine wg_iload_n X 1 dX6_end_17 rfl rfl ?_
      obtain ⟨z3, h⟩ := ck_some h
      refine wg_iald X hp0.2.2.2.2.1 hp0.2.2.2.2.2 z3 dX6_end_18 ?_
      refine wg_goto X 23 dX6_end_19 (by decide) ?_
      exact wg_iret X ⟨(sm_inj h), rfl, rfl⟩ hr dX6_end_23
-- WindowsGive$Rules.nameOf(I)I (('c', 31), 'i')
def f_X3_nameOf (C : wg_C) (p1 : Int32) : Option Int32 :=
  if p1 < 0 then (
    some (0 : Int32))
  else (
    if (6 : Int32) ≤ p1 then (
      some (0 : Int32))
    else (
      ck (inb p1 6) <|
      some (C 33 p1.toNatClampNeg)))
set_option maxHeartbeats 4000000 in
set_option maxRecDepth 100000 in
theorem c_X3_nameOf (l : Launch) (E : wg_Ev) (ad : Nat → Nat) (S : wg_Sh) (hS : wg_SC S) (C : wg_C) (M : wg_M) (p1 : Int32)  {r0 : Int32} (h : f_X3_nameOf C p1 = some r0) : wg_Ci l yX3_nameOf cX3_nameOf 2 (some .int) 0 0 E ad S C M [.ref (ad 31), .int p1] r0 C M := by
  refine wg_start (own := RX3) (by decide +kernel) rfl (Nat.le_of_ble_eq_true rfl) ?_
  intro p e s m below meth c X hr hnm
  refine wg_lv (lv' := [(0, .ref (ad 31)), (1, .int p1)]) rfl ?_
  unfold f_X3_nameOf at h
  refine wg_iload_n X 1 dX3_nameOf_0 rfl rfl ?_
  refine wg_if_lt X 22 dX3_nameOf_1 (by decide) (fun c1 => ?_) (fun c1 => ?_)
  · have h := if_t c1 h
    refine wg_iconst (v := 0) X dX3_nameOf_22 (by decide) ?_
    exact wg_iret X ⟨(sm_inj h), rfl, rfl⟩ hr dX3_nameOf_23
  · have h := if_f c1 h
    refine wg_iload_n X 1 dX3_nameOf_4 rfl rfl ?_
    refine wg_aload_n X 0 dX3_nameOf_5 rfl rfl ?_
    refine wg_getR (b := 33) X cl3 (SCi hS 31 3 rfl) 2 (by decide) dX3_nameOf_6 k_231 rfl (SCr hS 31 2 33 rfl) ?_
    refine wg_alenC (v := 6) X (SCi hS 33 10 rfl) (SCl hS 33 6 rfl) (by decide) dX3_nameOf_9 ?_
    refine wg_icmp_ge X 22 dX3_nameOf_10 (by decide) (fun c2 => ?_) (fun c2 => ?_)
    · have h := if_t c2 h
      refine wg_iconst (v := 0) X dX3_nameOf_22 (by decide) ?_
      exact wg_iret X ⟨(sm_inj h), rfl, rfl⟩ hr dX3_nameOf_23
    · have h := if_f c2 h
      refine wg_aload_n X 0 dX3_nameOf_13 rfl rfl ?_
      refine wg_getR (b := 33) X cl3 (SCi hS 31 3 rfl) 2 (by decide) dX3_nameOf_14 k_231 rfl (SCr hS 31 2 33 rfl) ?_
      refine wg_iload_n X 1 dX3_nameOf_17 rfl rfl ?_
      obtain ⟨z3, h⟩ := ck_some h
      refine wg_iald X (SCi hS 33 10 rfl) (SCl hS 33 6 rfl) z3 dX3_nameOf_18 ?_
      refine wg_goto X 23 dX3_nameOf_19 (by decide) ?_
      exact wg_iret X ⟨(sm_inj h), rfl, rfl⟩ hr dX3_nameOf_23
-- WindowsGive$Rules.truth(Z)I ('i',)
def f_X3_truth (p0 : Int32) : Option Int32 :=
  if p0 = 0 then (
    some (0 : Int32))
  else (
    some (1 : Int32))
set_option maxHeartbeats 4000000 in
set_option maxRecDepth 100000 in
theorem c_X3_truth (l : Launch) (E : wg_Ev) (ad : Nat → Nat) (S : wg_Sh) (C : wg_C) (M : wg_M) (p0 : Int32)  {r0 : Int32} (h : f_X3_truth p0 = some r0) : wg_Ci l yX3_truth cX3_truth 1 (some .int) 0 0 E ad S C M [.int p0] r0 C M := by
  refine wg_start (own := RX3) (by decide +kernel) rfl (Nat.le_of_ble_eq_true rfl) ?_
  intro p e s m below meth c X hr hnm
  refine wg_lv (lv' := [(0, .int p0)]) rfl ?_
  unfold f_X3_truth at h
  refine wg_iload_n X 0 dX3_truth_0 rfl rfl ?_
  refine wg_if_eq X 8 dX3_truth_1 (by decide) (fun c1 => ?_) (fun c1 => ?_)
  · have h := if_t c1 h
    refine wg_iconst (v := 0) X dX3_truth_8 (by decide) ?_
    exact wg_iret X ⟨(sm_inj h), rfl, rfl⟩ hr dX3_truth_9
  · have h := if_f c1 h
    refine wg_iconst (v := 1) X dX3_truth_4 (by decide) ?_
    refine wg_goto X 9 dX3_truth_5 (by decide) ?_
    exact wg_iret X ⟨(sm_inj h), rfl, rfl⟩ hr dX3_truth_9
-- WindowsGive$Rules.joined(III)I ('i', 'i', 'i')
def f_X3_joined (p0 : Int32) (p1 : Int32) (p2 : Int32) : Option Int32 :=
  if p0 = (4 : Int32) then (
    some (p1 + p2))
  else
  if p0 = (5 : Int32) then (
    some (p1 - p2))
  else
  if p0 = (6 : Int32) then (
    some (p1 * p2))
  else
  if p0 = (7 : Int32) then (
    if p2 ≤ p1 then (
      bd (f_X3_truth (0 : Int32)) fun r7 =>
      some r7)
    else (
      bd (f_X3_truth (1 : Int32)) fun r9 =>
      some r9))
  else
  if p0 = (8 : Int32) then (
    if p1 = p2 then (
      bd (f_X3_truth (1 : Int32)) fun r15 =>
      some r15)
    else (
      bd (f_X3_truth (0 : Int32)) fun r13 =>
      some r13))
  else
  if p0 = (9 : Int32) then (
    if p1 = 0 then (
      bd (f_X3_truth (0 : Int32)) fun r19 =>
      some r19)
    else (
      if p2 = 0 then (
        bd (f_X3_truth (0 : Int32)) fun r22 =>
        some r22)
      else (
        bd (f_X3_truth (1 : Int32)) fun r24 =>
        some r24)))
  else
  if p1 = 0 then (
    if p2 = 0 then (
      bd (f_X3_truth (0 : Int32)) fun r30 =>
      some r30)
    else (
      bd (f_X3_truth (1 : Int32)) fun r32 =>
      some r32))
  else (
    bd (f_X3_truth (1 : Int32)) fun r27 =>
    some r27)
set_option maxHeartbeats 4000000 in
set_option maxRecDepth 100000 in
theorem c_X3_joined (l : Launch) (E : wg_Ev) (ad : Nat → Nat) (S : wg_Sh) (C : wg_C) (M : wg_M) (p0 : Int32) (p1 : Int32) (p2 : Int32)  {r0 : Int32} (h : f_X3_joined p0 p1 p2 = some r0) : wg_Ci l yX3_joined cX3_joined 3 (some .int) 1 20 E ad S C M [.int p0, .int p1, .int p2] r0 C M := by
  refine wg_start (own := RX3) (by decide +kernel) rfl (Nat.le_of_ble_eq_true rfl) ?_
  intro p e s m below meth c X hr hnm
  refine wg_lv (lv' := [(0, .int p0), (1, .int p1), (2, .int p2)]) rfl ?_
  unfold f_X3_joined at h
  refine wg_iload_n X 0 dX3_joined_0 rfl rfl ?_
  by_cases c1 : p0 = (4 : Int32)
  · have h := if_t c1 h
    refine wg_tblIn (off := 39) X 40 dX3_joined_1 c1 (by decide) (by decide) (by decide) (by decide) ?_
    refine wg_iload_n X 1 dX3_joined_40 rfl rfl ?_
    refine wg_iload_n X 2 dX3_joined_41 rfl rfl ?_
    refine wg_iadd X dX3_joined_42 ?_
    exact wg_iret X ⟨(sm_inj h), rfl, rfl⟩ hr dX3_joined_43
  have h := if_f c1 h
  by_cases c2 : p0 = (5 : Int32)
  · have h := if_t c2 h
    refine wg_tblIn (off := 43) X 44 dX3_joined_1 c2 (by decide) (by decide) (by decide) (by decide) ?_
    refine wg_iload_n X 1 dX3_joined_44 rfl rfl ?_
    refine wg_iload_n X 2 dX3_joined_45 rfl rfl ?_
    refine wg_isub X dX3_joined_46 ?_
    exact wg_iret X ⟨(sm_inj h), rfl, rfl⟩ hr dX3_joined_47
  have h := if_f c2 h
  by_cases c3 : p0 = (6 : Int32)
  · have h := if_t c3 h
    refine wg_tblIn (off := 47) X 48 dX3_joined_1 c3 (by decide) (by decide) (by decide) (by decide) ?_
    refine wg_iload_n X 1 dX3_joined_48 rfl rfl ?_
    refine wg_iload_n X 2 dX3_joined_49 rfl rfl ?_
    refine wg_imul X dX3_joined_50 ?_
    exact wg_iret X ⟨(sm_inj h), rfl, rfl⟩ hr dX3_joined_51
  have h := if_f c3 h
  by_cases c4 : p0 = (7 : Int32)
  · have h := if_t c4 h
    refine wg_tblIn (off := 51) X 52 dX3_joined_1 c4 (by decide) (by decide) (by decide) (by decide) ?_
    refine wg_iload_n X 1 dX3_joined_52 rfl rfl ?_
    refine wg_iload_n X 2 dX3_joined_53 rfl rfl ?_
    refine wg_icmp_ge X 61 dX3_joined_54 (by decide) (fun c5 => ?_) (fun c5 => ?_)
    · have h := if_t c5 h
      refine wg_iconst (v := 0) X dX3_joined_61 (by decide) ?_
      obtain ⟨r7, h6, h⟩ := bd_some h
      refine wg_callSi (As := [.int (0 : Int32)]) (rest := []) X (c_X3_truth l E ad S C M (0 : Int32)  h6) T_yX3_truth k_633 dX3_joined_62 rfl rfl (Nat.le_of_ble_eq_true rfl) ⟨Nat.le_of_ble_eq_true rfl, Nat.le_of_ble_eq_true rfl⟩ ⟨Nat.zero_le _, Nat.zero_le _⟩ ?_
      exact wg_iret X ⟨(sm_inj h), rfl, rfl⟩ hr dX3_joined_65
    · have h := if_f c5 h
      refine wg_iconst (v := 1) X dX3_joined_57 (by decide) ?_
      refine wg_goto X 62 dX3_joined_58 (by decide) ?_
      obtain ⟨r9, h8, h⟩ := bd_some h
      refine wg_callSi (As := [.int (1 : Int32)]) (rest := []) X (c_X3_truth l E ad S C M (1 : Int32)  h8) T_yX3_truth k_633 dX3_joined_62 rfl rfl (Nat.le_of_ble_eq_true rfl) ⟨Nat.le_of_ble_eq_true rfl, Nat.le_of_ble_eq_true rfl⟩ ⟨Nat.zero_le _, Nat.zero_le _⟩ ?_
      exact wg_iret X ⟨(sm_inj h), rfl, rfl⟩ hr dX3_joined_65
  have h := if_f c4 h
  by_cases c10 : p0 = (8 : Int32)
  · have h := if_t c10 h
    refine wg_tblIn (off := 65) X 66 dX3_joined_1 c10 (by decide) (by decide) (by decide) (by decide) ?_
    refine wg_iload_n X 1 dX3_joined_66 rfl rfl ?_
    refine wg_iload_n X 2 dX3_joined_67 rfl rfl ?_
    refine wg_icmp_ne X 75 dX3_joined_68 (by decide) (fun c11 => ?_) (fun c11 => ?_)
    · have h := if_f c11 h
      refine wg_iconst (v := 0) X dX3_joined_75 (by decide) ?_
      obtain ⟨r13, h12, h⟩ := bd_some h
      refine wg_callSi (As := [.int (0 : Int32)]) (rest := []) X (c_X3_truth l E ad S C M (0 : Int32)  h12) T_yX3_truth k_633 dX3_joined_76 rfl rfl (Nat.le_of_ble_eq_true rfl) ⟨Nat.le_of_ble_eq_true rfl, Nat.le_of_ble_eq_true rfl⟩ ⟨Nat.zero_le _, Nat.zero_le _⟩ ?_
      exact wg_iret X ⟨(sm_inj h), rfl, rfl⟩ hr dX3_joined_79
    · have h := if_t c11 h
      refine wg_iconst (v := 1) X dX3_joined_71 (by decide) ?_
      refine wg_goto X 76 dX3_joined_72 (by decide) ?_
      obtain ⟨r15, h14, h⟩ := bd_some h
      refine wg_callSi (As := [.int (1 : Int32)]) (rest := []) X (c_X3_truth l E ad S C M (1 : Int32)  h14) T_yX3_truth k_633 dX3_joined_76 rfl rfl (Nat.le_of_ble_eq_true rfl) ⟨Nat.le_of_ble_eq_true rfl, Nat.le_of_ble_eq_true rfl⟩ ⟨Nat.zero_le _, Nat.zero_le _⟩ ?_
      exact wg_iret X ⟨(sm_inj h), rfl, rfl⟩ hr dX3_joined_79
  have h := if_f c10 h
  by_cases c16 : p0 = (9 : Int32)
  · have h := if_t c16 h
    refine wg_tblIn (off := 79) X 80 dX3_joined_1 c16 (by decide) (by decide) (by decide) (by decide) ?_
    refine wg_iload_n X 1 dX3_joined_80 rfl rfl ?_
    refine wg_if_eq X 92 dX3_joined_81 (by decide) (fun c17 => ?_) (fun c17 => ?_)
    · have h := if_t c17 h
      refine wg_iconst (v := 0) X dX3_joined_92 (by decide) ?_
      obtain ⟨r19, h18, h⟩ := bd_some h
      refine wg_callSi (As := [.int (0 : Int32)]) (rest := []) X (c_X3_truth l E ad S C M (0 : Int32)  h18) T_yX3_truth k_633 dX3_joined_93 rfl rfl (Nat.le_of_ble_eq_true rfl) ⟨Nat.le_of_ble_eq_true rfl, Nat.le_of_ble_eq_true rfl⟩ ⟨Nat.zero_le _, Nat.zero_le _⟩ ?_
      exact wg_iret X ⟨(sm_inj h), rfl, rfl⟩ hr dX3_joined_96
    · have h := if_f c17 h
      refine wg_iload_n X 2 dX3_joined_84 rfl rfl ?_
      refine wg_if_eq X 92 dX3_joined_85 (by decide) (fun c20 => ?_) (fun c20 => ?_)
      · have h := if_t c20 h
        refine wg_iconst (v := 0) X dX3_joined_92 (by decide) ?_
        obtain ⟨r22, h21, h⟩ := bd_some h
        refine wg_callSi (As := [.int (0 : Int32)]) (rest := []) X (c_X3_truth l E ad S C M (0 : Int32)  h21) T_yX3_truth k_633 dX3_joined_93 rfl rfl (Nat.le_of_ble_eq_true rfl) ⟨Nat.le_of_ble_eq_true rfl, Nat.le_of_ble_eq_true rfl⟩ ⟨Nat.zero_le _, Nat.zero_le _⟩ ?_
        exact wg_iret X ⟨(sm_inj h), rfl, rfl⟩ hr dX3_joined_96
      · have h := if_f c20 h
        refine wg_iconst (v := 1) X dX3_joined_88 (by decide) ?_
        refine wg_goto X 93 dX3_joined_89 (by decide) ?_
        obtain ⟨r24, h23, h⟩ := bd_some h
        refine wg_callSi (As := [.int (1 : Int32)]) (rest := []) X (c_X3_truth l E ad S C M (1 : Int32)  h23) T_yX3_truth k_633 dX3_joined_93 rfl rfl (Nat.le_of_ble_eq_true rfl) ⟨Nat.le_of_ble_eq_true rfl, Nat.le_of_ble_eq_true rfl⟩ ⟨Nat.zero_le _, Nat.zero_le _⟩ ?_
        exact wg_iret X ⟨(sm_inj h), rfl, rfl⟩ hr dX3_joined_96
  have h := if_f c16 h
  refine wg_tblOut X 97 dX3_joined_1 (wg_tout (4) (9) (fun k hk => by
      rcases (show k = 0 ∨ k = 1 ∨ k = 2 ∨ k = 3 ∨ k = 4 ∨ k = 5 by omega) with rfl | rfl | rfl | rfl | rfl | rfl
      · exact fun q => c1 (q.trans (by decide))
      · exact fun q => c2 (q.trans (by decide))
      · exact fun q => c3 (q.trans (by decide))
      · exact fun q => c4 (q.trans (by decide))
      · exact fun q => c10 (q.trans (by decide))
      · exact fun q => c16 (q.trans (by decide))) (by decide) (by decide)) (by decide) ?_
  refine wg_iload_n X 1 dX3_joined_97 rfl rfl ?_
  refine wg_if_ne X 105 dX3_joined_98 (by decide) (fun c25 => ?_) (fun c25 => ?_)
  · have h := if_f c25 h
    refine wg_iconst (v := 1) X dX3_joined_105 (by decide) ?_
    refine wg_goto X 110 dX3_joined_106 (by decide) ?_
    obtain ⟨r27, h26, h⟩ := bd_some h
    refine wg_callSi (As := [.int (1 : Int32)]) (rest := []) X (c_X3_truth l E ad S C M (1 : Int32)  h26) T_yX3_truth k_633 dX3_joined_110 rfl rfl (Nat.le_of_ble_eq_true rfl) ⟨Nat.le_of_ble_eq_true rfl, Nat.le_of_ble_eq_true rfl⟩ ⟨Nat.zero_le _, Nat.zero_le _⟩ ?_
    exact wg_iret X ⟨(sm_inj h), rfl, rfl⟩ hr dX3_joined_113
  · have h := if_t c25 h
    refine wg_iload_n X 2 dX3_joined_101 rfl rfl ?_
    refine wg_if_eq X 109 dX3_joined_102 (by decide) (fun c28 => ?_) (fun c28 => ?_)
    · have h := if_t c28 h
      refine wg_iconst (v := 0) X dX3_joined_109 (by decide) ?_
      obtain ⟨r30, h29, h⟩ := bd_some h
      refine wg_callSi (As := [.int (0 : Int32)]) (rest := []) X (c_X3_truth l E ad S C M (0 : Int32)  h29) T_yX3_truth k_633 dX3_joined_110 rfl rfl (Nat.le_of_ble_eq_true rfl) ⟨Nat.le_of_ble_eq_true rfl, Nat.le_of_ble_eq_true rfl⟩ ⟨Nat.zero_le _, Nat.zero_le _⟩ ?_
      exact wg_iret X ⟨(sm_inj h), rfl, rfl⟩ hr dX3_joined_113
    · have h := if_f c28 h
      refine wg_iconst (v := 1) X dX3_joined_105 (by decide) ?_
      refine wg_goto X 110 dX3_joined_106 (by decide) ?_
      obtain ⟨r32, h31, h⟩ := bd_some h
      refine wg_callSi (As := [.int (1 : Int32)]) (rest := []) X (c_X3_truth l E ad S C M (1 : Int32)  h31) T_yX3_truth k_633 dX3_joined_110 rfl rfl (Nat.le_of_ble_eq_true rfl) ⟨Nat.le_of_ble_eq_true rfl, Nat.le_of_ble_eq_true rfl⟩ ⟨Nat.zero_le _, Nat.zero_le _⟩ ?_
      exact wg_iret X ⟨(sm_inj h), rfl, rfl⟩ hr dX3_joined_113
-- WindowsGive$Rules.reckon(LWindowsGive$Text;I)I (('c', 31), 'TX', 'i')
def f_X3_reckon_j54l9 (N : Nat) (S : wg_Sh) (p1 : Nat) (C : wg_C)  (x2 : Int32) (x3 : Int32) (x4 : Int32) (x5 : Int32) (x6 : Int32) : Option ((wg_C × Int32 × Int32) ⊕ ((wg_C × Int32 × Int32) ⊕ (Int32 × wg_C))) :=
  if x3 < (160 : Int32) then (
    if x5 = 0 then (
      ck (inb x3 160) <|
      lt_ (wg_up C 34 x3.toNatClampNeg x6) fun C25 =>
      lt_ (x3 + (1 : Int32)) fun v27 =>
      lt_ (x4 + (1 : Int32)) fun v29 =>
      some (.inl (C25, v27, v29)))
    else (
      bd (f_X3_nameOf C x6) fun r16 =>
      ck (inb x3 160) <|
      lt_ (wg_up C 34 x3.toNatClampNeg r16) fun C18 =>
      lt_ (x3 + (1 : Int32)) fun v20 =>
      lt_ (x4 + (1 : Int32)) fun v22 =>
      some (.inl (C18, v20, v22))))
  else (
    some (.inr (.inr ((0 : Int32), C))))
def f_X3_reckon_j105l9 (N : Nat) (S : wg_Sh) (p1 : Nat) (C : wg_C)  (x2 : Int32) (x3 : Int32) (x4 : Int32) (x5 : Int32) : Option ((wg_C × Int32 × Int32) ⊕ ((wg_C × Int32 × Int32) ⊕ (Int32 × wg_C))) :=
  if (1 : Int32) ≤ x3 then (
    ck (inb (x3 - (1 : Int32)) 160) <|
    lt_ (C 34 (x3 - (1 : Int32)).toNatClampNeg) fun v35 =>
    if x5 = (2 : Int32) then (
      ck (inb (x3 - (1 : Int32)) 160) <|
      lt_ (wg_up C 34 (x3 - (1 : Int32)).toNatClampNeg (-v35)) fun C54 =>
      lt_ (x4 + (1 : Int32)) fun v56 =>
      some (.inl (C54, x3, v56)))
    else (
      if v35 = 0 then (
        bd (f_X3_truth (1 : Int32)) fun r47 =>
        ck (inb (x3 - (1 : Int32)) 160) <|
        lt_ (wg_up C 34 (x3 - (1 : Int32)).toNatClampNeg r47) fun C49 =>
        lt_ (x4 + (1 : Int32)) fun v51 =>
        some (.inl (C49, x3, v51)))
      else (
        bd (f_X3_truth (0 : Int32)) fun r40 =>
        ck (inb (x3 - (1 : Int32)) 160) <|
        lt_ (wg_up C 34 (x3 - (1 : Int32)).toNatClampNeg r40) fun C42 =>
        lt_ (x4 + (1 : Int32)) fun v44 =>
        some (.inl (C42, x3, v44)))))
  else (
    some (.inr (.inr ((0 : Int32), C))))
def f_X3_reckon_l9 (N : Nat) (S : wg_Sh) (p1 : Nat)  (x2 : Int32) (C : wg_C) (x3 : Int32) (x4 : Int32) : Option ((wg_C × Int32 × Int32) ⊕ ((wg_C × Int32 × Int32) ⊕ (Int32 × wg_C))) :=
  bd (f_X6_end S C p1 x2) fun r4 =>
  if r4 ≤ x4 then (
    some (.inr (.inl (C, x3, x4))))
  else (
    ck (inb x4 (S.2.1 (p1 + 1))) <|
    lt_ ((C (p1 + 1) x4.toNatClampNeg) - (C (p1 + 1) x4.toNatClampNeg) / (16 : Int32) * (16 : Int32)) fun v7 =>
    ck (inb x4 (S.2.1 (p1 + 1))) <|
    lt_ ((C (p1 + 1) x4.toNatClampNeg) / (16 : Int32)) fun v10 =>
    if v7 = 0 then (
      f_X3_reckon_j54l9 N S p1 C  x2 x3 x4 v7 v10)
    else (
      if v7 = (1 : Int32) then (
        f_X3_reckon_j54l9 N S p1 C  x2 x3 x4 v7 v10)
      else (
        if v7 = (2 : Int32) then (
          f_X3_reckon_j105l9 N S p1 C  x2 x3 x4 v7)
        else (
          if v7 = (3 : Int32) then (
            f_X3_reckon_j105l9 N S p1 C  x2 x3 x4 v7)
          else (
            if (2 : Int32) ≤ x3 then (
              lt_ (x3 + (-1 : Int32)) fun v60 =>
              ck (inb (v60 - (1 : Int32)) 160) <|
              ck (inb v60 160) <|
              bd (f_X3_joined v7 (C 34 (v60 - (1 : Int32)).toNatClampNeg) (C 34 v60.toNatClampNeg)) fun r65 =>
              ck (inb (v60 - (1 : Int32)) 160) <|
              lt_ (wg_up C 34 (v60 - (1 : Int32)).toNatClampNeg r65) fun C67 =>
              lt_ (x4 + (1 : Int32)) fun v69 =>
              some (.inl (C67, v60, v69)))
            else (
              some (.inr (.inr ((0 : Int32), C)))))))))
def f_X3_reckon (N : Nat) (S : wg_Sh) (C : wg_C) (p1 : Nat) (p2 : Int32) : Option (Int32 × wg_C) :=
  bd (f_X6_start S C p1 p2) fun r2 =>
  bs3 (lp (fun o => f_X3_reckon_l9 N S p1  p2 o.1 o.2.1 o.2.2) N (C, (0 : Int32), r2)) (fun C71 v72 v73 =>
    if v72 ≤ 0 then (
      some ((0 : Int32), C71))
    else (
      ck (inb (v72 - (1 : Int32)) 160) <|
      some ((C71 34 (v72 - (1 : Int32)).toNatClampNeg), C71)))
    (fun q76 => some q76)
abbrev G_X3_reckon (p : Program) (l : Launch) (e : Env) (s : State) (m : MethodId) (args : Array Value) (below : List Frame) (meth : Method) (c : Code) (E : wg_Ev) (ad : Nat → Nat) (S : wg_Sh) (r0 : Int32) (C0 : wg_C) (M0 : wg_M) (pc : Nat) (C : wg_C) (M : wg_M) (lv : List (Nat × Value)) (st : List Value) : Prop := wg_G p l e (wg_Rm 2 42) s m args below meth c (MQ below (wg_Qi E ad S r0 C0 M0) args s 0 0 (wg_A E)) 8 E ad S 0 0 pc C M lv st
set_option maxHeartbeats 4000000 in
set_option maxRecDepth 100000 in
theorem J_X3_reckon_j54l9 {p : Program} {l : Launch} {e : Env} {s : State} {m : MethodId} {args : Array Value} {below : List Frame} {meth : Method} {c : Code} {E : wg_Ev} {ad : Nat → Nat} {S : wg_Sh} (X : wg_X p s m args meth c cX3_reckon 8 RX3 E) (hr : meth.sig.returnType = (some .int)) (hS : wg_SC S) (r0 : Int32) (D0 : wg_C) (M : wg_M) (N : Nat) (p1 : Nat) (hp1 : wg_Txt S p1) (C : wg_C)  (x2 : Int32) (x3 : Int32) (x4 : Int32) (x5 : Int32) (x6 : Int32)  (y : ((wg_C × Int32 × Int32) ⊕ ((wg_C × Int32 × Int32) ⊕ (Int32 × wg_C)))) (Kc : ∀ (Dy : wg_C) (y3 : Int32) (y4 : Int32), y = Sum.inl (Dy, y3, y4) → G_X3_reckon p l e s m args below meth c E ad S r0 D0 M 9 Dy M [(0, .ref (ad 31)), (1, .ref (ad p1)), (2, .int x2), (3, .int y3), (4, .int y4)] []) (Ke : ∀ (Dy : wg_C) (y3 : Int32) (y4 : Int32), y = Sum.inr (Sum.inl (Dy, y3, y4)) → G_X3_reckon p l e s m args below meth c E ad S r0 D0 M 201 Dy M [(0, .ref (ad 31)), (1, .ref (ad p1)), (2, .int x2), (3, .int y3), (4, .int y4)] []) (Kr : ∀ q : (Int32 × wg_C), y = Sum.inr (Sum.inr q) → q = (r0, D0)) (h : f_X3_reckon_j54l9 N S p1 C  x2 x3 x4 x5 x6 = some y) : G_X3_reckon p l e s m args below meth c E ad S r0 D0 M 54 C M [(0, .ref (ad 31)), (1, .ref (ad p1)), (2, .int x2), (3, .int x3), (4, .int x4), (5, .int x5), (6, .int x6)] [] := by
  unfold f_X3_reckon_j54l9 at h
  refine wg_iload_n X 3 dX3_reckon_54 rfl rfl ?_
  refine wg_aload_n X 0 dX3_reckon_55 rfl rfl ?_
  refine wg_getR (b := 34) X cl3 (SCi hS 31 3 rfl) 3 (by decide) dX3_reckon_56 k_232 rfl (SCr hS 31 3 34 rfl) ?_
  refine wg_alenC (v := 160) X (SCi hS 34 10 rfl) (SCl hS 34 160 rfl) (by decide) dX3_reckon_59 ?_
  refine wg_icmp_lt X 65 dX3_reckon_60 (by decide) (fun c13 => ?_) (fun c13 => ?_)
  · have h := if_t c13 h
    refine wg_aload_n X 0 dX3_reckon_65 rfl rfl ?_
    refine wg_getR (b := 34) X cl3 (SCi hS 31 3 rfl) 3 (by decide) dX3_reckon_66 k_232 rfl (SCr hS 31 3 34 rfl) ?_
    refine wg_iload_n X 3 dX3_reckon_69 rfl rfl ?_
    refine wg_iload X 5 dX3_reckon_70 rfl ?_
    refine wg_if_ne X 80 dX3_reckon_72 (by decide) (fun c14 => ?_) (fun c14 => ?_)
    · have h := if_f c14 h
      refine wg_aload_n X 0 dX3_reckon_80 rfl rfl ?_
      refine wg_iload X 6 dX3_reckon_81 rfl ?_
      obtain ⟨r16, h15, h⟩ := bd_some h
      refine wg_callVi (As := [.int x6]) (rest := [.int x3, .ref (ad 34)]) X (c_X3_nameOf l E ad S hS C M x6  h15) T_yX3_nameOf k_629 cl3 (SCi hS 31 3 rfl) dX3_reckon_83 rfl rfl (Nat.le_of_ble_eq_true rfl) ⟨Nat.le_of_ble_eq_true rfl, Nat.le_of_ble_eq_true rfl⟩ ⟨Nat.zero_le _, Nat.zero_le _⟩ ?_
      obtain ⟨z17, h⟩ := ck_some h
      obtain ⟨C18, e19, h⟩ := lt_some h
      refine wg_iaste X (SCi hS 34 10 rfl) (SCl hS 34 160 rfl) z17 dX3_reckon_86 e19 ?_
      obtain ⟨v20, e21, h⟩ := lt_some h
      refine wg_iinc (lv' := [(3, .int v20), (0, .ref (ad 31)), (1, .ref (ad p1)), (2, .int x2), (4, .int x4), (5, .int x5), (6, .int x6)]) X 3 dX3_reckon_87 rfl e21 (by decide) rfl ?_
      refine wg_goto X 195 dX3_reckon_90 (by decide) ?_
      obtain ⟨v22, e23, h⟩ := lt_some h
      refine wg_iinc (lv' := [(4, .int v22), (3, .int v20), (0, .ref (ad 31)), (1, .ref (ad p1)), (2, .int x2), (5, .int x5), (6, .int x6)]) X 4 dX3_reckon_195 rfl e23 (by decide) rfl ?_
      refine wg_goto X 9 dX3_reckon_198 (by decide) ?_
      refine wg_pick [2, 3, 4, 1, 0] (lv' := [(0, .ref (ad 31)), (1, .ref (ad p1)), (2, .int x2), (3, .int v20), (4, .int v22)]) rfl ?_
      exact Kc C18 v20 v22 (sm_inj h).symm
    · have h := if_t c14 h
      refine wg_iload X 6 dX3_reckon_75 rfl ?_
      refine wg_goto X 86 dX3_reckon_77 (by decide) ?_
      obtain ⟨z24, h⟩ := ck_some h
      obtain ⟨C25, e26, h⟩ := lt_some h
      refine wg_iaste X (SCi hS 34 10 rfl) (SCl hS 34 160 rfl) z24 dX3_reckon_86 e26 ?_
      obtain ⟨v27, e28, h⟩ := lt_some h
      refine wg_iinc (lv' := [(3, .int v27), (0, .ref (ad 31)), (1, .ref (ad p1)), (2, .int x2), (4, .int x4), (5, .int x5), (6, .int x6)]) X 3 dX3_reckon_87 rfl e28 (by decide) rfl ?_
      refine wg_goto X 195 dX3_reckon_90 (by decide) ?_
      obtain ⟨v29, e30, h⟩ := lt_some h
      refine wg_iinc (lv' := [(4, .int v29), (3, .int v27), (0, .ref (ad 31)), (1, .ref (ad p1)), (2, .int x2), (5, .int x5), (6, .int x6)]) X 4 dX3_reckon_195 rfl e30 (by decide) rfl ?_
      refine wg_goto X 9 dX3_reckon_198 (by decide) ?_
      refine wg_pick [2, 3, 4, 1, 0] (lv' := [(0, .ref (ad 31)), (1, .ref (ad p1)), (2, .int x2), (3, .int v27), (4, .int v29)]) rfl ?_
      exact Kc C25 v27 v29 (sm_inj h).symm
  · have h := if_f c13 h
    refine wg_iconst (v := 0) X dX3_reckon_63 (by decide) ?_
    have hq := Kr _ (sm_inj h).symm
    exact wg_iret X ⟨congrArg Prod.fst hq, congrArg Prod.snd hq, rfl⟩ hr dX3_reckon_64
set_option maxHeartbeats 4000000 in
set_option maxRecDepth 100000 in
theorem J_X3_reckon_j105l9 {p : Program} {l : Launch} {e : Env} {s : State} {m : MethodId} {args : Array Value} {below : List Frame} {meth : Method} {c : Code} {E : wg_Ev} {ad : Nat → Nat} {S : wg_Sh} (X : wg_X p s m args meth c cX3_reckon 8 RX3 E) (hr : meth.sig.returnType = (some .int)) (hS : wg_SC S) (r0 : Int32) (D0 : wg_C) (M : wg_M) (N : Nat) (p1 : Nat) (hp1 : wg_Txt S p1) (C : wg_C)  (x2 : Int32) (x3 : Int32) (x4 : Int32) (x5 : Int32)  (y : ((wg_C × Int32 × Int32) ⊕ ((wg_C × Int32 × Int32) ⊕ (Int32 × wg_C)))) (Kc : ∀ (Dy : wg_C) (y3 : Int32) (y4 : Int32), y = Sum.inl (Dy, y3, y4) → G_X3_reckon p l e s m args below meth c E ad S r0 D0 M 9 Dy M [(0, .ref (ad 31)), (1, .ref (ad p1)), (2, .int x2), (3, .int y3), (4, .int y4)] []) (Ke : ∀ (Dy : wg_C) (y3 : Int32) (y4 : Int32), y = Sum.inr (Sum.inl (Dy, y3, y4)) → G_X3_reckon p l e s m args below meth c E ad S r0 D0 M 201 Dy M [(0, .ref (ad 31)), (1, .ref (ad p1)), (2, .int x2), (3, .int y3), (4, .int y4)] []) (Kr : ∀ q : (Int32 × wg_C), y = Sum.inr (Sum.inr q) → q = (r0, D0)) (h : f_X3_reckon_j105l9 N S p1 C  x2 x3 x4 x5 = some y) : G_X3_reckon p l e s m args below meth c E ad S r0 D0 M 105 C M [(0, .ref (ad 31)), (1, .ref (ad p1)), (2, .int x2), (3, .int x3), (4, .int x4), (5, .int x5)] [] := by
  unfold f_X3_reckon_j105l9 at h
  refine wg_iload_n X 3 dX3_reckon_105 rfl rfl ?_
  refine wg_iconst (v := 1) X dX3_reckon_106 (by decide) ?_
  refine wg_icmp_ge X 112 dX3_reckon_107 (by decide) (fun c33 => ?_) (fun c33 => ?_)
  · have h := if_t c33 h
    refine wg_aload_n X 0 dX3_reckon_112 rfl rfl ?_
    refine wg_getR (b := 34) X cl3 (SCi hS 31 3 rfl) 3 (by decide) dX3_reckon_113 k_232 rfl (SCr hS 31 3 34 rfl) ?_
    refine wg_iload_n X 3 dX3_reckon_116 rfl rfl ?_
    refine wg_iconst (v := 1) X dX3_reckon_117 (by decide) ?_
    refine wg_isub X dX3_reckon_118 ?_
    obtain ⟨z34, h⟩ := ck_some h
    refine wg_iald X (SCi hS 34 10 rfl) (SCl hS 34 160 rfl) z34 dX3_reckon_119 ?_
    obtain ⟨v35, e36, h⟩ := lt_some h
    refine wg_istore (lv' := [(7, .int v35), (0, .ref (ad 31)), (1, .ref (ad p1)), (2, .int x2), (3, .int x3), (4, .int x4), (5, .int x5)]) X dX3_reckon_120 e36 (by decide) rfl ?_
    refine wg_aload_n X 1 dX3_reckon_122 rfl rfl ?_
    refine wg_getR (b := 34) X cl3 (SCi hS 31 3 rfl) 3 (by decide) dX3_reckon_123 k_232 rfl (SCr hS 31 3 34 rfl) ?_
    refine wg_iload_n X 4 dX3_reckon_126 rfl rfl ?_
    refine wg_iconst (v := 1) X dX3_reckon_127 (by decide) ?_
    refine wg_isub X dX3_reckon_128 ?_
    refine wg_iload X 6 dX3_reckon_129 rfl ?_
    refine wg_iconst (v := 2) X dX3_reckon_131 (by decide) ?_
    refine wg_icmp_ne X 141 dX3_reckon_132 (by decide) (fun c37 => ?_) (fun c37 => ?_)
    · have h := if_f c37 h
      refine wg_iload X 0 dX3_reckon_141 rfl ?_
      refine wg_if_ne X 150 dX3_reckon_143 (by decide) (fun c38 => ?_) (fun c38 => ?_)
      · have h := if_f c38 h
        refine wg_iconst (v := 0) X dX3_reckon_150 (by decide) ?_
        obtain ⟨r40, h39, h⟩ := bd_some h
        refine wg_callSi (As := [.int (0 : Int32)]) (rest := [.int (x3 - (1 : Int32)), .ref (ad 34)]) X (c_X3_truth l E ad S C M (0 : Int32)  h39) T_yX3_truth k_633 dX3_reckon_151 rfl rfl (Nat.le_of_ble_eq_true rfl) ⟨Nat.le_of_ble_eq_true rfl, Nat.le_of_ble_eq_true rfl⟩ ⟨Nat.zero_le _, Nat.zero_le _⟩ ?_
        obtain ⟨z41, h⟩ := ck_some h
        obtain ⟨C42, e43, h⟩ := lt_some h
        refine wg_iaste X (SCi hS 34 10 rfl) (SCl hS 34 160 rfl) z41 dX3_reckon_154 e43 ?_
        refine wg_goto X 195 dX3_reckon_155 (by decide) ?_
        obtain ⟨v44, e45, h⟩ := lt_some h
        refine wg_iinc (lv' := [(4, .int v44), (7, .int v35), (0, .ref (ad 31)), (1, .ref (ad p1)), (2, .int x2), (3, .int x3), (5, .int x5)]) X 5 dX3_reckon_195 rfl e45 (by decide) rfl ?_
        refine wg_goto X 9 dX3_reckon_198 (by decide) ?_
        refine wg_pick [2, 3, 4, 5, 0] (lv' := [(0, .ref (ad 31)), (1, .ref (ad p1)), (2, .int x2), (3, .int x3), (4, .int v44)]) rfl ?_
        exact Kc C42 x3 v44 (sm_inj h).symm
      · have h := if_t c38 h
        refine wg_iconst (v := 1) X dX3_reckon_146 (by decide) ?_
        refine wg_goto X 151 dX3_reckon_147 (by decide) ?_
        obtain ⟨r47, h46, h⟩ := bd_some h
        refine wg_callSi (As := [.int (1 : Int32)]) (rest := [.int (x3 - (1 : Int32)), .ref (ad 34)]) X (c_X3_truth l E ad S C M (1 : Int32)  h46) T_yX3_truth k_633 dX3_reckon_151 rfl rfl (Nat.le_of_ble_eq_true rfl) ⟨Nat.le_of_ble_eq_true rfl, Nat.le_of_ble_eq_true rfl⟩ ⟨Nat.zero_le _, Nat.zero_le _⟩ ?_
        obtain ⟨z48, h⟩ := ck_some h
        obtain ⟨C49, e50, h⟩ := lt_some h
        refine wg_iaste X (SCi hS 34 10 rfl) (SCl hS 34 160 rfl) z48 dX3_reckon_154 e50 ?_
        refine wg_goto X 195 dX3_reckon_155 (by decide) ?_
        obtain ⟨v51, e52, h⟩ := lt_some h
        refine wg_iinc (lv' := [(4, .int v51), (7, .int v35), (0, .ref (ad 31)), (1, .ref (ad p1)), (2, .int x2), (3, .int x3), (5, .int x5)]) X 5 dX3_reckon_195 rfl e52 (by decide) rfl ?_
        refine wg_goto X 9 dX3_reckon_198 (by decide) ?_
        refine wg_pick [2, 3, 4, 5, 0] (lv' := [(0, .ref (ad 31)), (1, .ref (ad p1)), (2, .int x2), (3, .int x3), (4, .int v51)]) rfl ?_
        exact Kc C49 x3 v51 (sm_inj h).symm
    · have h := if_t c37 h
      refine wg_iload X 0 dX3_reckon_135 rfl ?_
      refine wg_ineg X dX3_reckon_137 ?_
      refine wg_goto X 154 dX3_reckon_138 (by decide) ?_
      obtain ⟨z53, h⟩ := ck_some h
      obtain ⟨C54, e55, h⟩ := lt_some h
      refine wg_iaste X (SCi hS 34 10 rfl) (SCl hS 34 160 rfl) z53 dX3_reckon_154 e55 ?_
      refine wg_goto X 195 dX3_reckon_155 (by decide) ?_
      obtain ⟨v56, e57, h⟩ := lt_some h
      refine wg_iinc (lv' := [(4, .int v56), (7, .int v35), (0, .ref (ad 31)), (1, .ref (ad p1)), (2, .int x2), (3, .int x3), (5, .int x5)]) X 5 dX3_reckon_195 rfl e57 (by decide) rfl ?_
      refine wg_goto X 9 dX3_reckon_198 (by decide) ?_
      refine wg_pick [2, 3, 4, 5, 0] (lv' := [(0, .ref (ad 31)), (1, .ref (ad p1)), (2, .int x2), (3, .int x3), (4, .int v56)]) rfl ?_
      exact Kc C54 x3 v56 (sm_inj h).symm
  · have h := if_f c33 h
    refine wg_iconst (v := 0) X dX3_reckon_110 (by decide) ?_
    have hq := Kr _ (sm_inj h).symm
    exact wg_iret X ⟨congrArg Prod.fst hq, congrArg Prod.snd hq, rfl⟩ hr dX3_reckon_111
set_option maxHeartbeats 4000000 in
set_option maxRecDepth 100000 in
theorem L_X3_reckon_l9 {p : Program} {l : Launch} {e : Env} {s : State} {m : MethodId} {args : Array Value} {below : List Frame} {meth : Method} {c : Code} {E : wg_Ev} {ad : Nat → Nat} {S : wg_Sh} (X : wg_X p s m args meth c cX3_reckon 8 RX3 E) (hr : meth.sig.returnType = (some .int)) (hS : wg_SC S) (r0 : Int32) (D0 : wg_C) (M : wg_M) (N : Nat) (p1 : Nat) (hp1 : wg_Txt S p1)  (x2 : Int32)  : ∀ (n : Nat) (C : wg_C) (x3 : Int32) (x4 : Int32) (o : ((wg_C × Int32 × Int32) ⊕ (Int32 × wg_C))), lp (fun o => f_X3_reckon_l9 N S p1  x2 o.1 o.2.1 o.2.2) n (C, x3, x4) = some o → (∀ (Dy : wg_C) (y3 : Int32) (y4 : Int32), o = Sum.inl (Dy, y3, y4) → G_X3_reckon p l e s m args below meth c E ad S r0 D0 M 201 Dy M [(0, .ref (ad 31)), (1, .ref (ad p1)), (2, .int x2), (3, .int y3), (4, .int y4)] []) → (∀ q : (Int32 × wg_C), o = Sum.inr q → q = (r0, D0)) → G_X3_reckon p l e s m args below meth c E ad S r0 D0 M 9 C M [(0, .ref (ad 31)), (1, .ref (ad p1)), (2, .int x2), (3, .int x3), (4, .int x4)] [] := by
  intro n
  induction n with
  | zero => exact fun _ _ _ o h => (lp_zero h).elim
  | succ n ih =>
    intro C x3 x4 o h K KR
    obtain ⟨o1, hb, h2⟩ := lp_some h
    replace hb : f_X3_reckon_l9 N S p1  x2 C x3 x4 = some o1 := hb
    clear h
    have Kc : ∀ (Dy : wg_C) (y3 : Int32) (y4 : Int32), o1 = Sum.inl (Dy, y3, y4) → G_X3_reckon p l e s m args below meth c E ad S r0 D0 M 9 Dy M [(0, .ref (ad 31)), (1, .ref (ad p1)), (2, .int x2), (3, .int y3), (4, .int y4)] [] := fun Dy y3 y4 e1 => by
      subst e1
      exact ih Dy y3 y4 o h2 K KR
    have Ke : ∀ (Dy : wg_C) (y3 : Int32) (y4 : Int32), o1 = Sum.inr (Sum.inl (Dy, y3, y4)) → G_X3_reckon p l e s m args below meth c E ad S r0 D0 M 201 Dy M [(0, .ref (ad 31)), (1, .ref (ad p1)), (2, .int x2), (3, .int y3), (4, .int y4)] [] := fun Dy y3 y4 e1 => by
      subst e1
      exact K Dy y3 y4 (sm_inj (α := ((wg_C × Int32 × Int32) ⊕ (Int32 × wg_C))) h2).symm
    have Kr : ∀ q : (Int32 × wg_C), o1 = Sum.inr (Sum.inr q) → q = (r0, D0) := fun q e1 => by
      subst e1
      exact KR q (sm_inj (α := ((wg_C × Int32 × Int32) ⊕ (Int32 × wg_C))) h2).symm
    clear ih K h2 KR
    unfold f_X3_reckon_l9 at hb
    have h := hb
    clear hb
    refine wg_iload X 4 dX3_reckon_9 rfl ?_
    refine wg_aload_n X 1 dX3_reckon_11 rfl rfl ?_
    refine wg_iload_n X 2 dX3_reckon_12 rfl rfl ?_
    obtain ⟨r4, h3, h⟩ := bd_some h
    refine wg_callVi (As := [.int x2]) (rest := [.int x4]) X (c_X6_end l E ad S hS C M p1 x2 hp1 h3) T_yX6_end k_625 cl6 hp1.1 dX3_reckon_13 rfl rfl (Nat.le_of_ble_eq_true rfl) ⟨Nat.le_of_ble_eq_true rfl, Nat.le_of_ble_eq_true rfl⟩ ⟨Nat.zero_le _, Nat.zero_le _⟩ ?_
    refine wg_icmp_ge X 201 dX3_reckon_16 (by decide) (fun c5 => ?_) (fun c5 => ?_)
    · have h := if_t c5 h
      exact Ke C x3 x4 (sm_inj h).symm
    · have h := if_f c5 h
      refine wg_aload_n X 1 dX3_reckon_19 rfl rfl ?_
      refine wg_getR (b := (p1 + 1)) X cl6 hp1.1 0 (by decide) dX3_reckon_20 k_456 rfl hp1.2.1 ?_
      refine wg_iload X 4 dX3_reckon_23 rfl ?_
      obtain ⟨z6, h⟩ := ck_some h
      refine wg_iald X hp1.2.2.1 rfl z6 dX3_reckon_25 ?_
      refine wg_bipush (v := 16) X dX3_reckon_26 (by decide) ?_
      refine wg_irem X dX3_reckon_28 (by decide) ?_
      obtain ⟨v7, e8, h⟩ := lt_some h
      refine wg_istore (lv' := [(5, .int v7), (0, .ref (ad 31)), (1, .ref (ad p1)), (2, .int x2), (3, .int x3), (4, .int x4)]) X dX3_reckon_29 e8 (by decide) rfl ?_
      refine wg_aload_n X 2 dX3_reckon_31 rfl rfl ?_
      refine wg_getR (b := (p1 + 1)) X cl6 hp1.1 0 (by decide) dX3_reckon_32 k_456 rfl hp1.2.1 ?_
      refine wg_iload X 5 dX3_reckon_35 rfl ?_
      obtain ⟨z9, h⟩ := ck_some h
      refine wg_iald X hp1.2.2.1 rfl z9 dX3_reckon_37 ?_
      refine wg_bipush (v := 16) X dX3_reckon_38 (by decide) ?_
      refine wg_idiv X dX3_reckon_40 (by decide) ?_
      obtain ⟨v10, e11, h⟩ := lt_some h
      refine wg_istore (lv' := [(6, .int v10), (5, .int v7), (0, .ref (ad 31)), (1, .ref (ad p1)), (2, .int x2), (3, .int x3), (4, .int x4)]) X dX3_reckon_41 e11 (by decide) rfl ?_
      refine wg_iload X 1 dX3_reckon_43 rfl ?_
      refine wg_if_eq X 54 dX3_reckon_45 (by decide) (fun c12 => ?_) (fun c12 => ?_)
      · have h := if_t c12 h
        refine wg_pick [2, 3, 4, 5, 6, 1, 0] (lv' := [(0, .ref (ad 31)), (1, .ref (ad p1)), (2, .int x2), (3, .int x3), (4, .int x4), (5, .int v7), (6, .int v10)]) rfl ?_
        exact J_X3_reckon_j54l9 X hr hS r0 D0 M N p1 hp1 C  x2 x3 x4 v7 v10  _ Kc Ke Kr h
      · have h := if_f c12 h
        refine wg_iload X 1 dX3_reckon_48 rfl ?_
        refine wg_iconst (v := 1) X dX3_reckon_50 (by decide) ?_
        refine wg_icmp_ne X 93 dX3_reckon_51 (by decide) (fun c31 => ?_) (fun c31 => ?_)
        · have h := if_f c31 h
          refine wg_iload X 1 dX3_reckon_93 rfl ?_
          refine wg_iconst (v := 2) X dX3_reckon_95 (by decide) ?_
          refine wg_icmp_eq X 105 dX3_reckon_96 (by decide) (fun c32 => ?_) (fun c32 => ?_)
          · have h := if_t c32 h
            refine wg_pick [2, 3, 4, 5, 6, 1] (lv' := [(0, .ref (ad 31)), (1, .ref (ad p1)), (2, .int x2), (3, .int x3), (4, .int x4), (5, .int v7)]) rfl ?_
            exact J_X3_reckon_j105l9 X hr hS r0 D0 M N p1 hp1 C  x2 x3 x4 v7  _ Kc Ke Kr h
          · have h := if_f c32 h
            refine wg_iload X 1 dX3_reckon_99 rfl ?_
            refine wg_iconst (v := 3) X dX3_reckon_101 (by decide) ?_
            refine wg_icmp_ne X 158 dX3_reckon_102 (by decide) (fun c58 => ?_) (fun c58 => ?_)
            · have h := if_f c58 h
              refine wg_iload_n X 5 dX3_reckon_158 rfl rfl ?_
              refine wg_iconst (v := 2) X dX3_reckon_159 (by decide) ?_
              refine wg_icmp_ge X 165 dX3_reckon_160 (by decide) (fun c59 => ?_) (fun c59 => ?_)
              · have h := if_t c59 h
                obtain ⟨v60, e61, h⟩ := lt_some h
                refine wg_iinc (lv' := [(3, .int v60), (6, .int v10), (5, .int v7), (0, .ref (ad 31)), (1, .ref (ad p1)), (2, .int x2), (4, .int x4)]) X 5 dX3_reckon_165 rfl e61 (by decide) rfl ?_
                refine wg_aload_n X 3 dX3_reckon_168 rfl rfl ?_
                refine wg_getR (b := 34) X cl3 (SCi hS 31 3 rfl) 3 (by decide) dX3_reckon_169 k_232 rfl (SCr hS 31 3 34 rfl) ?_
                refine wg_iload_n X 0 dX3_reckon_172 rfl rfl ?_
                refine wg_iconst (v := 1) X dX3_reckon_173 (by decide) ?_
                refine wg_isub X dX3_reckon_174 ?_
                refine wg_iload X 2 dX3_reckon_175 rfl ?_
                refine wg_aload_n X 3 dX3_reckon_177 rfl rfl ?_
                refine wg_getR (b := 34) X cl3 (SCi hS 31 3 rfl) 3 (by decide) dX3_reckon_178 k_232 rfl (SCr hS 31 3 34 rfl) ?_
                refine wg_iload_n X 0 dX3_reckon_181 rfl rfl ?_
                refine wg_iconst (v := 1) X dX3_reckon_182 (by decide) ?_
                refine wg_isub X dX3_reckon_183 ?_
                obtain ⟨z62, h⟩ := ck_some h
                refine wg_iald X (SCi hS 34 10 rfl) (SCl hS 34 160 rfl) z62 dX3_reckon_184 ?_
                refine wg_aload_n X 3 dX3_reckon_185 rfl rfl ?_
                refine wg_getR (b := 34) X cl3 (SCi hS 31 3 rfl) 3 (by decide) dX3_reckon_186 k_232 rfl (SCr hS 31 3 34 rfl) ?_
                refine wg_iload_n X 0 dX3_reckon_189 rfl rfl ?_
                obtain ⟨z63, h⟩ := ck_some h
                refine wg_iald X (SCi hS 34 10 rfl) (SCl hS 34 160 rfl) z63 dX3_reckon_190 ?_
                obtain ⟨r65, h64, h⟩ := bd_some h
                refine wg_callSi (As := [.int v7, .int (C 34 (v60 - (1 : Int32)).toNatClampNeg), .int (C 34 v60.toNatClampNeg)]) (rest := [.int (v60 - (1 : Int32)), .ref (ad 34)]) X (c_X3_joined l E ad S C M v7 (C 34 (v60 - (1 : Int32)).toNatClampNeg) (C 34 v60.toNatClampNeg)  h64) T_yX3_joined k_636 dX3_reckon_191 rfl rfl (Nat.le_of_ble_eq_true rfl) ⟨Nat.le_of_ble_eq_true rfl, Nat.le_of_ble_eq_true rfl⟩ ⟨Nat.zero_le _, Nat.zero_le _⟩ ?_
                obtain ⟨z66, h⟩ := ck_some h
                obtain ⟨C67, e68, h⟩ := lt_some h
                refine wg_iaste X (SCi hS 34 10 rfl) (SCl hS 34 160 rfl) z66 dX3_reckon_194 e68 ?_
                obtain ⟨v69, e70, h⟩ := lt_some h
                refine wg_iinc (lv' := [(4, .int v69), (3, .int v60), (6, .int v10), (5, .int v7), (0, .ref (ad 31)), (1, .ref (ad p1)), (2, .int x2)]) X 6 dX3_reckon_195 rfl e70 (by decide) rfl ?_
                refine wg_goto X 9 dX3_reckon_198 (by decide) ?_
                refine wg_pick [4, 5, 6, 1, 0] (lv' := [(0, .ref (ad 31)), (1, .ref (ad p1)), (2, .int x2), (3, .int v60), (4, .int v69)]) rfl ?_
                exact Kc C67 v60 v69 (sm_inj h).symm
              · have h := if_f c59 h
                refine wg_iconst (v := 0) X dX3_reckon_163 (by decide) ?_
                have hq := Kr _ (sm_inj h).symm
                exact wg_iret X ⟨congrArg Prod.fst hq, congrArg Prod.snd hq, rfl⟩ hr dX3_reckon_164
            · have h := if_t c58 h
              refine wg_pick [2, 3, 4, 5, 6, 1] (lv' := [(0, .ref (ad 31)), (1, .ref (ad p1)), (2, .int x2), (3, .int x3), (4, .int x4), (5, .int v7)]) rfl ?_
              exact J_X3_reckon_j105l9 X hr hS r0 D0 M N p1 hp1 C  x2 x3 x4 v7  _ Kc Ke Kr h
        · have h := if_t c31 h
          refine wg_pick [2, 3, 4, 5, 6, 1, 0] (lv' := [(0, .ref (ad 31)), (1, .ref (ad p1)), (2, .int x2), (3, .int x3), (4, .int x4), (5, .int v7), (6, .int v10)]) rfl ?_
          exact J_X3_reckon_j54l9 X hr hS r0 D0 M N p1 hp1 C  x2 x3 x4 v7 v10  _ Kc Ke Kr h
set_option maxHeartbeats 4000000 in
set_option maxRecDepth 100000 in
theorem c_X3_reckon (l : Launch) (E : wg_Ev) (ad : Nat → Nat) (S : wg_Sh) (hS : wg_SC S) (N : Nat) (C : wg_C) (M : wg_M) (p1 : Nat) (p2 : Int32) (hp1 : wg_Txt S p1) {r0 : Int32} {D0 : wg_C} (h : f_X3_reckon N S C p1 p2 = some (r0, D0)) : wg_Ci l yX3_reckon cX3_reckon 8 (some .int) 2 42 E ad S C M [.ref (ad 31), .ref (ad p1), .int p2] r0 D0 M := by
  refine wg_start (own := RX3) (by decide +kernel) rfl (Nat.le_of_ble_eq_true rfl) ?_
  intro p e s m below meth c X hr hnm
  refine wg_lv (lv' := [(0, .ref (ad 31)), (1, .ref (ad p1)), (2, .int p2)]) rfl ?_
  unfold f_X3_reckon at h
  refine wg_iconst (v := 0) X dX3_reckon_0 (by decide) ?_
  refine wg_istore_n (lv' := [(3, .int (0 : Int32)), (0, .ref (ad 31)), (1, .ref (ad p1)), (2, .int p2)]) X dX3_reckon_1 rfl rfl (by decide) rfl ?_
  refine wg_aload_n X 2 dX3_reckon_2 rfl rfl ?_
  refine wg_iload_n X 3 dX3_reckon_3 rfl rfl ?_
  obtain ⟨r2, h1, h⟩ := bd_some h
  refine wg_callVi (As := [.int p2]) (rest := []) X (c_X6_start l E ad S hS C M p1 p2 hp1 h1) T_yX6_start k_621 cl6 hp1.1 dX3_reckon_4 rfl rfl (Nat.le_of_ble_eq_true rfl) ⟨Nat.le_of_ble_eq_true rfl, Nat.le_of_ble_eq_true rfl⟩ ⟨Nat.zero_le _, Nat.zero_le _⟩ ?_
  refine wg_istore (lv' := [(4, .int r2), (3, .int (0 : Int32)), (0, .ref (ad 31)), (1, .ref (ad p1)), (2, .int p2)]) X dX3_reckon_7 rfl (by decide) rfl ?_
  obtain ⟨o74, h75, h⟩ := bs3_o h
  refine wg_pick [2, 3, 4, 1, 0] (lv' := [(0, .ref (ad 31)), (1, .ref (ad p1)), (2, .int p2), (3, .int (0 : Int32)), (4, .int r2)]) rfl ?_
  refine L_X3_reckon_l9 X hr hS r0 D0 M N p1 hp1  p2  N C (0 : Int32) r2 o74 h75 (fun C71 v72 v73 e77 => ?_) (fun q76 e77 => ?_)
  · subst e77
    replace h := bs3_in h
    refine wg_iload_n X 3 dX3_reckon_201 rfl rfl ?_
    refine wg_if_le X 216 dX3_reckon_202 (by decide) (fun c78 => ?_) (fun c78 => ?_)
    · have h := if_t c78 h
      refine wg_iconst (v := 0) X dX3_reckon_216 (by decide) ?_
      exact wg_iret X ⟨congrArg Prod.fst (sm_inj h), congrArg Prod.snd (sm_inj h), rfl⟩ hr dX3_reckon_217
    · have h := if_f c78 h
      refine wg_aload_n X 0 dX3_reckon_205 rfl rfl ?_
      refine wg_getR (b := 34) X cl3 (SCi hS 31 3 rfl) 3 (by decide) dX3_reckon_206 k_232 rfl (SCr hS 31 3 34 rfl) ?_
      refine wg_iload_n X 3 dX3_reckon_209 rfl rfl ?_
      refine wg_iconst (v := 1) X dX3_reckon_210 (by decide) ?_
      refine wg_isub X dX3_reckon_211 ?_
      obtain ⟨z79, h⟩ := ck_some h
      refine wg_iald X (SCi hS 34 10 rfl) (SCl hS 34 160 rfl) z79 dX3_reckon_212 ?_
      refine wg_goto X 217 dX3_reckon_213 (by decide) ?_
      exact wg_iret X ⟨congrArg Prod.fst (sm_inj h), congrArg Prod.snd (sm_inj h), rfl⟩ hr dX3_reckon_217
  · subst e77
    replace h := bs3_r h
    exact sm_inj h
-- java/lang/Math.min(II)I ('i', 'i')
def f_J9_min_7cf53 (p0 : Int32) (p1 : Int32) : Option Int32 :=
  if p1 < p0 then (
    some p1)
  else (
    some p0)
set_option maxHeartbeats 4000000 in
set_option maxRecDepth 100000 in
theorem c_J9_min_7cf53 (l : Launch) (E : wg_Ev) (ad : Nat → Nat) (S : wg_Sh) (C : wg_C) (M : wg_M) (p0 : Int32) (p1 : Int32)  {r0 : Int32} (h : f_J9_min_7cf53 p0 p1 = some r0) : wg_Ci l yJ9_min_7cf53 cJ9_min_7cf53 2 (some .int) 0 0 E ad S C M [.int p0, .int p1] r0 C M := by
  refine wg_start (own := RJ9) (by decide +kernel) rfl (Nat.le_of_ble_eq_true rfl) ?_
  intro p e s m below meth c X hr hnm
  refine wg_lv (lv' := [(0, .int p0), (1, .int p1)]) rfl ?_
  unfold f_J9_min_7cf53 at h
  refine wg_iload_n X 0 dJ9_min_7cf53_0 rfl rfl ?_
  refine wg_iload_n X 1 dJ9_min_7cf53_1 rfl rfl ?_
  refine wg_icmp_gt X 9 dJ9_min_7cf53_2 (by decide) (fun c1 => ?_) (fun c1 => ?_)
  · have h := if_t c1 h
    refine wg_iload_n X 1 dJ9_min_7cf53_9 rfl rfl ?_
    exact wg_iret X ⟨(sm_inj h), rfl, rfl⟩ hr dJ9_min_7cf53_10
  · have h := if_f c1 h
    refine wg_iload_n X 0 dJ9_min_7cf53_5 rfl rfl ?_
    refine wg_goto X 10 dJ9_min_7cf53_6 (by decide) ?_
    exact wg_iret X ⟨(sm_inj h), rfl, rfl⟩ hr dJ9_min_7cf53_10
-- java/lang/Math.max(II)I ('i', 'i')
def f_J9_max_7cf53 (p0 : Int32) (p1 : Int32) : Option Int32 :=
  if p0 < p1 then (
    some p1)
  else (
    some p0)
set_option maxHeartbeats 4000000 in
set_option maxRecDepth 100000 in
theorem c_J9_max_7cf53 (l : Launch) (E : wg_Ev) (ad : Nat → Nat) (S : wg_Sh) (C : wg_C) (M : wg_M) (p0 : Int32) (p1 : Int32)  {r0 : Int32} (h : f_J9_max_7cf53 p0 p1 = some r0) : wg_Ci l yJ9_max_7cf53 cJ9_max_7cf53 2 (some .int) 0 0 E ad S C M [.int p0, .int p1] r0 C M := by
  refine wg_start (own := RJ9) (by decide +kernel) rfl (Nat.le_of_ble_eq_true rfl) ?_
  intro p e s m below meth c X hr hnm
  refine wg_lv (lv' := [(0, .int p0), (1, .int p1)]) rfl ?_
  unfold f_J9_max_7cf53 at h
  refine wg_iload_n X 0 dJ9_max_7cf53_0 rfl rfl ?_
  refine wg_iload_n X 1 dJ9_max_7cf53_1 rfl rfl ?_
  refine wg_icmp_lt X 9 dJ9_max_7cf53_2 (by decide) (fun c1 => ?_) (fun c1 => ?_)
  · have h := if_t c1 h
    refine wg_iload_n X 1 dJ9_max_7cf53_9 rfl rfl ?_
    exact wg_iret X ⟨(sm_inj h), rfl, rfl⟩ hr dJ9_max_7cf53_10
  · have h := if_f c1 h
    refine wg_iload_n X 0 dJ9_max_7cf53_5 rfl rfl ?_
    refine wg_goto X 10 dJ9_max_7cf53_6 (by decide) ?_
    exact wg_iret X ⟨(sm_inj h), rfl, rfl⟩ hr dJ9_max_7cf53_10
-- WindowsGive$Rules.worth(IILWindowsGive$Pane;I[I)I (('c', 31), 'i', 'i', 'P', 'i', 'IA')
def f_X3_worth_j111 (N : Nat) (S : wg_Sh) (p3 : Nat) (p5 n5 : Nat) (C : wg_C)  (x1 : Int32) (x2 : Int32) (s0 : Int32) : Option (Int32 × wg_C) :=
  ck (inb x1 6) <|
  bd (S.1 32 x1.toNatClampNeg) fun t31 =>
  bd2 (f_X3_reckon N S C t31 x2) fun r34 C35 =>
  bd (f_J9_min_7cf53 (99 : Int32) r34) fun r37 =>
  bd (f_J9_max_7cf53 s0 r37) fun r39 =>
  some (r39, C35)
def f_X3_worth_j81 (N : Nat) (S : wg_Sh) (p3 : Nat) (p5 n5 : Nat) (C : wg_C)  (x1 : Int32) (x2 : Int32) (s0 : Int32) (s1 : Int32) : Option (Int32 × wg_C) :=
  ck (inb s1 6) <|
  lt_ (wg_up C 33 s1.toNatClampNeg s0) fun C21 =>
  ck (inb (4 : Int32) 6) <|
  lt_ (wg_up C21 33 (4 : Int32).toNatClampNeg (C21 p3 0)) fun C24 =>
  ck (inb (5 : Int32) 6) <|
  lt_ (wg_up C24 33 (5 : Int32).toNatClampNeg (C24 p3 4)) fun C27 =>
  if x2 = 0 then (
    f_X3_worth_j111 N S p3 p5 n5 C27  x1 x2 (1 : Int32))
  else (
    f_X3_worth_j111 N S p3 p5 n5 C27  x1 x2 (0 : Int32))
def f_X3_worth (N : Nat) (S : wg_Sh) (C : wg_C) (p1 : Int32) (p2 : Int32) (p3 : Nat) (p4 : Int32) (p5 n5 : Nat) : Option (Int32 × wg_C) :=
  if p1 < 0 then (
    some ((0 : Int32), C))
  else (
    if (C 31 1) ≤ p1 then (
      some ((0 : Int32), C))
    else (
      ck (inb p1 6) <|
      oq (S.1 32 p1.toNatClampNeg) (
        some ((0 : Int32), C))
        (fun t4 =>
        bd (f_X1_on C p3 p4) fun r7 =>
        ck (inb (0 : Int32) 6) <|
        lt_ (wg_up C 33 (0 : Int32).toNatClampNeg p4) fun C9 =>
        ck (inb (1 : Int32) 6) <|
        lt_ (wg_up C9 33 (1 : Int32).toNatClampNeg (C9 p3 3)) fun C12 =>
        ck (inb (2 : Int32) 6) <|
        lt_ (wg_up C12 33 (2 : Int32).toNatClampNeg (C12 p3 2)) fun C15 =>
        bd (f_X8_isDay r7) fun r18 =>
        if r18 = 0 then (
          f_X3_worth_j81 N S p3 p5 n5 C15  p1 p2 (0 : Int32) (3 : Int32))
        else (
          ck (inb r7 n5) <|
          f_X3_worth_j81 N S p3 p5 n5 C15  p1 p2 (C15 p5 r7.toNatClampNeg) (3 : Int32)))))
abbrev G_X3_worth (p : Program) (l : Launch) (e : Env) (s : State) (m : MethodId) (args : Array Value) (below : List Frame) (meth : Method) (c : Code) (E : wg_Ev) (ad : Nat → Nat) (S : wg_Sh) (r0 : Int32) (C0 : wg_C) (M0 : wg_M) (pc : Nat) (C : wg_C) (M : wg_M) (lv : List (Nat × Value)) (st : List Value) : Prop := wg_G p l e (wg_Rm 3 69) s m args below meth c (MQ below (wg_Qi E ad S r0 C0 M0) args s 0 0 (wg_A E)) 8 E ad S 0 0 pc C M lv st
set_option maxHeartbeats 4000000 in
set_option maxRecDepth 100000 in
theorem J_X3_worth_j111 {p : Program} {l : Launch} {e : Env} {s : State} {m : MethodId} {args : Array Value} {below : List Frame} {meth : Method} {c : Code} {E : wg_Ev} {ad : Nat → Nat} {S : wg_Sh} (X : wg_X p s m args meth c cX3_worth 8 RX3 E) (hr : meth.sig.returnType = (some .int)) (hS : wg_SC S) (r0 : Int32) (D0 : wg_C) (M : wg_M) (N : Nat) (p3 : Nat) (hp3 : wg_id S p3 1) (p5 n5 : Nat) (hp5 : wg_IA S p5 n5) (C : wg_C)  (x1 : Int32) (x2 : Int32) (s0 : Int32)   (h : f_X3_worth_j111 N S p3 p5 n5 C  x1 x2 s0 = some (r0, D0)) : G_X3_worth p l e s m args below meth c E ad S r0 D0 M 111 C M [(0, .ref (ad 31)), (1, .int x1), (2, .int x2)] [.int s0] := by
  unfold f_X3_worth_j111 at h
  refine wg_istore (lv' := [(7, .int s0), (0, .ref (ad 31)), (1, .int x1), (2, .int x2)]) X dX3_worth_111 rfl (by decide) rfl ?_
  refine wg_iload X 0 dX3_worth_113 rfl ?_
  refine wg_bipush (v := 99) X dX3_worth_115 (by decide) ?_
  refine wg_aload_n X 1 dX3_worth_117 rfl rfl ?_
  refine wg_aload_n X 1 dX3_worth_118 rfl rfl ?_
  refine wg_getR (b := 32) X cl3 (SCi hS 31 3 rfl) 0 (by decide) dX3_worth_119 k_228 rfl (SCr hS 31 0 32 rfl) ?_
  refine wg_iload_n X 2 dX3_worth_122 rfl rfl ?_
  obtain ⟨z30, h⟩ := ck_some h
  refine wg_aald15 X (SCi hS 32 15 rfl) (SCl hS 32 6 rfl) z30 dX3_worth_123 ?_
  obtain ⟨t31, h32, h⟩ := bd_some h
  refine wg_some h32 ?_
  refine wg_iload_n X 3 dX3_worth_124 rfl rfl ?_
  obtain ⟨r34, C35, h33, h⟩ := bd2_some h
  refine wg_callVi (As := [.ref (ad t31), .int x2]) (rest := [.int (99 : Int32), .int s0]) X (c_X3_reckon l E ad S hS N C M t31 x2 (hS.2.2 _ t31 (inb_lt z30) h32) h33) T_yX3_reckon k_617 cl3 (SCi hS 31 3 rfl) dX3_worth_125 rfl rfl (Nat.le_of_ble_eq_true rfl) ⟨Nat.le_of_ble_eq_true rfl, Nat.le_of_ble_eq_true rfl⟩ ⟨Nat.zero_le _, Nat.zero_le _⟩ ?_
  obtain ⟨r37, h36, h⟩ := bd_some h
  refine wg_callSi (As := [.int (99 : Int32), .int r34]) (rest := [.int s0]) X (c_J9_min_7cf53 l E ad S C35 M (99 : Int32) r34  h36) T_yJ9_min_7cf53 k_639 dX3_worth_128 rfl rfl (Nat.le_of_ble_eq_true rfl) ⟨Nat.le_of_ble_eq_true rfl, Nat.le_of_ble_eq_true rfl⟩ ⟨Nat.zero_le _, Nat.zero_le _⟩ ?_
  obtain ⟨r39, h38, h⟩ := bd_some h
  refine wg_callSi (As := [.int s0, .int r37]) (rest := []) X (c_J9_max_7cf53 l E ad S C35 M s0 r37  h38) T_yJ9_max_7cf53 k_640 dX3_worth_131 rfl rfl (Nat.le_of_ble_eq_true rfl) ⟨Nat.le_of_ble_eq_true rfl, Nat.le_of_ble_eq_true rfl⟩ ⟨Nat.zero_le _, Nat.zero_le _⟩ ?_
  exact wg_iret X ⟨congrArg Prod.fst (sm_inj h), congrArg Prod.snd (sm_inj h), rfl⟩ hr dX3_worth_134
set_option maxHeartbeats 4000000 in
set_option maxRecDepth 100000 in
theorem J_X3_worth_j81 {p : Program} {l : Launch} {e : Env} {s : State} {m : MethodId} {args : Array Value} {below : List Frame} {meth : Method} {c : Code} {E : wg_Ev} {ad : Nat → Nat} {S : wg_Sh} (X : wg_X p s m args meth c cX3_worth 8 RX3 E) (hr : meth.sig.returnType = (some .int)) (hS : wg_SC S) (r0 : Int32) (D0 : wg_C) (M : wg_M) (N : Nat) (p3 : Nat) (hp3 : wg_id S p3 1) (p5 n5 : Nat) (hp5 : wg_IA S p5 n5) (C : wg_C)  (x1 : Int32) (x2 : Int32) (s0 : Int32) (s1 : Int32)   (h : f_X3_worth_j81 N S p3 p5 n5 C  x1 x2 s0 s1 = some (r0, D0)) : G_X3_worth p l e s m args below meth c E ad S r0 D0 M 81 C M [(0, .ref (ad 31)), (1, .int x1), (2, .int x2), (3, .ref (ad p3))] [.int s0, .int s1, .ref (ad 33)] := by
  unfold f_X3_worth_j81 at h
  obtain ⟨z20, h⟩ := ck_some h
  obtain ⟨C21, e22, h⟩ := lt_some h
  refine wg_iaste X (SCi hS 33 10 rfl) (SCl hS 33 6 rfl) z20 dX3_worth_81 e22 ?_
  refine wg_aload_n X 0 dX3_worth_82 rfl rfl ?_
  refine wg_getR (b := 33) X cl3 (SCi hS 31 3 rfl) 2 (by decide) dX3_worth_83 k_231 rfl (SCr hS 31 2 33 rfl) ?_
  refine wg_iconst (v := 4) X dX3_worth_86 (by decide) ?_
  refine wg_aload_n X 3 dX3_worth_87 rfl rfl ?_
  refine wg_getC X cl1 hp3 0 (by decide) dX3_worth_88 k_110 rfl ?_
  obtain ⟨z23, h⟩ := ck_some h
  obtain ⟨C24, e25, h⟩ := lt_some h
  refine wg_iaste X (SCi hS 33 10 rfl) (SCl hS 33 6 rfl) z23 dX3_worth_91 e25 ?_
  refine wg_aload_n X 0 dX3_worth_92 rfl rfl ?_
  refine wg_getR (b := 33) X cl3 (SCi hS 31 3 rfl) 2 (by decide) dX3_worth_93 k_231 rfl (SCr hS 31 2 33 rfl) ?_
  refine wg_iconst (v := 5) X dX3_worth_96 (by decide) ?_
  refine wg_aload_n X 3 dX3_worth_97 rfl rfl ?_
  refine wg_getC X cl1 hp3 4 (by decide) dX3_worth_98 k_121 rfl ?_
  obtain ⟨z26, h⟩ := ck_some h
  obtain ⟨C27, e28, h⟩ := lt_some h
  refine wg_iaste X (SCi hS 33 10 rfl) (SCl hS 33 6 rfl) z26 dX3_worth_101 e28 ?_
  refine wg_iload_n X 2 dX3_worth_102 rfl rfl ?_
  refine wg_if_ne X 110 dX3_worth_103 (by decide) (fun c29 => ?_) (fun c29 => ?_)
  · have h := if_f c29 h
    refine wg_iconst (v := 0) X dX3_worth_110 (by decide) ?_
    refine wg_pick [0, 1, 2] (lv' := [(0, .ref (ad 31)), (1, .int x1), (2, .int x2)]) rfl ?_
    exact J_X3_worth_j111 X hr hS r0 D0 M N p3 hp3 p5 n5 hp5 C27  x1 x2 (0 : Int32)   h
  · have h := if_t c29 h
    refine wg_iconst (v := 1) X dX3_worth_106 (by decide) ?_
    refine wg_goto X 111 dX3_worth_107 (by decide) ?_
    refine wg_pick [0, 1, 2] (lv' := [(0, .ref (ad 31)), (1, .int x1), (2, .int x2)]) rfl ?_
    exact J_X3_worth_j111 X hr hS r0 D0 M N p3 hp3 p5 n5 hp5 C27  x1 x2 (1 : Int32)   h
set_option maxHeartbeats 4000000 in
set_option maxRecDepth 100000 in
theorem c_X3_worth (l : Launch) (E : wg_Ev) (ad : Nat → Nat) (S : wg_Sh) (hS : wg_SC S) (N : Nat) (C : wg_C) (M : wg_M) (p1 : Int32) (p2 : Int32) (p3 : Nat) (p4 : Int32) (p5 n5 : Nat) (hp3 : wg_id S p3 1) (hp5 : wg_IA S p5 n5) {r0 : Int32} {D0 : wg_C} (h : f_X3_worth N S C p1 p2 p3 p4 p5 n5 = some (r0, D0)) : wg_Ci l yX3_worth cX3_worth 8 (some .int) 3 69 E ad S C M [.ref (ad 31), .int p1, .int p2, .ref (ad p3), .int p4, .ref (ad p5)] r0 D0 M := by
  refine wg_start (own := RX3) (by decide +kernel) rfl (Nat.le_of_ble_eq_true rfl) ?_
  intro p e s m below meth c X hr hnm
  refine wg_lv (lv' := [(0, .ref (ad 31)), (1, .int p1), (2, .int p2), (3, .ref (ad p3)), (4, .int p4), (5, .ref (ad p5))]) rfl ?_
  unfold f_X3_worth at h
  refine wg_iload_n X 1 dX3_worth_0 rfl rfl ?_
  refine wg_if_lt X 21 dX3_worth_1 (by decide) (fun c1 => ?_) (fun c1 => ?_)
  · have h := if_t c1 h
    refine wg_iconst (v := 0) X dX3_worth_21 (by decide) ?_
    exact wg_iret X ⟨congrArg Prod.fst (sm_inj h), congrArg Prod.snd (sm_inj h), rfl⟩ hr dX3_worth_22
  · have h := if_f c1 h
    refine wg_iload_n X 1 dX3_worth_4 rfl rfl ?_
    refine wg_aload_n X 0 dX3_worth_5 rfl rfl ?_
    refine wg_getC X cl3 (SCi hS 31 3 rfl) 1 (by decide) dX3_worth_6 k_229 rfl ?_
    refine wg_icmp_ge X 21 dX3_worth_9 (by decide) (fun c2 => ?_) (fun c2 => ?_)
    · have h := if_t c2 h
      refine wg_iconst (v := 0) X dX3_worth_21 (by decide) ?_
      exact wg_iret X ⟨congrArg Prod.fst (sm_inj h), congrArg Prod.snd (sm_inj h), rfl⟩ hr dX3_worth_22
    · have h := if_f c2 h
      refine wg_aload_n X 0 dX3_worth_12 rfl rfl ?_
      refine wg_getR (b := 32) X cl3 (SCi hS 31 3 rfl) 0 (by decide) dX3_worth_13 k_228 rfl (SCr hS 31 0 32 rfl) ?_
      refine wg_iload_n X 1 dX3_worth_16 rfl rfl ?_
      obtain ⟨z3, h⟩ := ck_some h
      refine wg_aald15 X (SCi hS 32 15 rfl) (SCl hS 32 6 rfl) z3 dX3_worth_17 ?_
      refine wg_nonnullQ X 23 dX3_worth_18 (by decide) (fun c5 => ?_) (fun t4 c5 => ?_)
      · have h := oq_n c5 h
        refine wg_iconst (v := 0) X dX3_worth_21 (by decide) ?_
        exact wg_iret X ⟨congrArg Prod.fst (sm_inj h), congrArg Prod.snd (sm_inj h), rfl⟩ hr dX3_worth_22
      · have h := oq_s c5 h
        refine wg_aload_n X 3 dX3_worth_23 rfl rfl ?_
        refine wg_iload X 4 dX3_worth_24 rfl ?_
        obtain ⟨r7, h6, h⟩ := bd_some h
        refine wg_callVi (As := [.int p4]) (rest := []) X (c_X1_on l E ad S hS C M p3 p4 hp3 h6) T_yX1_on k_615 cl1 hp3 dX3_worth_26 rfl rfl (Nat.le_of_ble_eq_true rfl) ⟨Nat.le_of_ble_eq_true rfl, Nat.le_of_ble_eq_true rfl⟩ ⟨Nat.zero_le _, Nat.zero_le _⟩ ?_
        refine wg_istore (lv' := [(6, .int r7), (0, .ref (ad 31)), (1, .int p1), (2, .int p2), (3, .ref (ad p3)), (4, .int p4), (5, .ref (ad p5))]) X dX3_worth_29 rfl (by decide) rfl ?_
        refine wg_aload_n X 1 dX3_worth_31 rfl rfl ?_
        refine wg_getR (b := 33) X cl3 (SCi hS 31 3 rfl) 2 (by decide) dX3_worth_32 k_231 rfl (SCr hS 31 2 33 rfl) ?_
        refine wg_iconst (v := 0) X dX3_worth_35 (by decide) ?_
        refine wg_iload X 5 dX3_worth_36 rfl ?_
        obtain ⟨z8, h⟩ := ck_some h
        obtain ⟨C9, e10, h⟩ := lt_some h
        refine wg_iaste X (SCi hS 33 10 rfl) (SCl hS 33 6 rfl) z8 dX3_worth_38 e10 ?_
        refine wg_aload_n X 1 dX3_worth_39 rfl rfl ?_
        refine wg_getR (b := 33) X cl3 (SCi hS 31 3 rfl) 2 (by decide) dX3_worth_40 k_231 rfl (SCr hS 31 2 33 rfl) ?_
        refine wg_iconst (v := 1) X dX3_worth_43 (by decide) ?_
        refine wg_aload_n X 4 dX3_worth_44 rfl rfl ?_
        refine wg_getC X cl1 hp3 3 (by decide) dX3_worth_45 k_118 rfl ?_
        obtain ⟨z11, h⟩ := ck_some h
        obtain ⟨C12, e13, h⟩ := lt_some h
        refine wg_iaste X (SCi hS 33 10 rfl) (SCl hS 33 6 rfl) z11 dX3_worth_48 e13 ?_
        refine wg_aload_n X 1 dX3_worth_49 rfl rfl ?_
        refine wg_getR (b := 33) X cl3 (SCi hS 31 3 rfl) 2 (by decide) dX3_worth_50 k_231 rfl (SCr hS 31 2 33 rfl) ?_
        refine wg_iconst (v := 2) X dX3_worth_53 (by decide) ?_
        refine wg_aload_n X 4 dX3_worth_54 rfl rfl ?_
        refine wg_getC X cl1 hp3 2 (by decide) dX3_worth_55 k_115 rfl ?_
        obtain ⟨z14, h⟩ := ck_some h
        obtain ⟨C15, e16, h⟩ := lt_some h
        refine wg_iaste X (SCi hS 33 10 rfl) (SCl hS 33 6 rfl) z14 dX3_worth_58 e16 ?_
        refine wg_aload_n X 1 dX3_worth_59 rfl rfl ?_
        refine wg_getR (b := 33) X cl3 (SCi hS 31 3 rfl) 2 (by decide) dX3_worth_60 k_231 rfl (SCr hS 31 2 33 rfl) ?_
        refine wg_iconst (v := 3) X dX3_worth_63 (by decide) ?_
        refine wg_iload X 0 dX3_worth_64 rfl ?_
        obtain ⟨r18, h17, h⟩ := bd_some h
        refine wg_callNi (host := "WindowsGive") (As := [.int r7]) (rest := [.int (3 : Int32), .ref (ad 33)]) X (c_X8_isDay l E ad S C15 M r7  h17) T_yX8_isDay (by simp [wg_nest]) dX3_worth_66 rfl rfl (Nat.le_of_ble_eq_true rfl) ⟨Nat.le_of_ble_eq_true rfl, Nat.le_of_ble_eq_true rfl⟩ ⟨Nat.zero_le _, Nat.zero_le _⟩ ?_
        refine wg_if_eq X 80 dX3_worth_69 (by decide) (fun c19 => ?_) (fun c19 => ?_)
        · have h := if_t c19 h
          refine wg_iconst (v := 0) X dX3_worth_80 (by decide) ?_
          refine wg_pick [1, 2, 3, 4] (lv' := [(0, .ref (ad 31)), (1, .int p1), (2, .int p2), (3, .ref (ad p3))]) rfl ?_
          exact J_X3_worth_j81 X hr hS r0 D0 M N p3 hp3 p5 n5 hp5 C15  p1 p2 (0 : Int32) (3 : Int32)   h
        · have h := if_f c19 h
          refine wg_aload X 6 dX3_worth_72 rfl ?_
          refine wg_iload X 0 dX3_worth_74 rfl ?_
          obtain ⟨z40, h⟩ := ck_some h
          refine wg_iald X hp5.1 hp5.2 z40 dX3_worth_76 ?_
          refine wg_goto X 81 dX3_worth_77 (by decide) ?_
          refine wg_pick [1, 2, 3, 4] (lv' := [(0, .ref (ad 31)), (1, .int p1), (2, .int p2), (3, .ref (ad p3))]) rfl ?_
          exact J_X3_worth_j81 X hr hS r0 D0 M N p3 hp3 p5 n5 hp5 C15  p1 p2 (C15 p5 r7.toNatClampNeg) (3 : Int32)   h
-- WindowsGive$Walk.leave(LWindowsGive$House;LWindowsGive$Rules;II)V (('c', 35), ('c', 1), ('c', 31), 'i', 'i')
def f_X7_leave_i1_j106l39 (N : Nat) (S : wg_Sh) (C : wg_C)  (x3 : Int32) (x4 : Int32) (x5 : Int32) (x6 : Int32) (x7 : Int32) (x8 : Nat) (s0 : Int32) : Option ((wg_C × Int32) ⊕ (wg_C × Int32)) :=
  bd (f_X1_leads C x8) fun r20 =>
  bd (f_X1_on C x8 x6) fun r22 =>
  ck (inb x3 192) <|
  bd (f_X7_shorten C ((r20 * (32 : Int32)) + r22) ((C 37 x3.toNatClampNeg) + s0)) fun C25 =>
  lt_ (x7 + (1 : Int32)) fun v26 =>
  some (.inl (C25, v26))
def f_X7_leave_i1_l39 (N : Nat) (S : wg_Sh)  (x3 : Int32) (x4 : Int32) (x5 : Int32) (x6 : Int32) (C : wg_C) (x7 : Int32) : Option ((wg_C × Int32) ⊕ (wg_C × Int32)) :=
  if (C 1 2) ≤ x7 then (
    some (.inr (C, x7)))
  else (
    ck (inb x7 8) <|
    if (C (4 + x7.toNatClampNeg) 4) = x5 then (
      bd (f_X1_passes C (4 + x7.toNatClampNeg) x6 x4) fun r12 =>
      if r12 = 0 then (
        lt_ (x7 + (1 : Int32)) fun v14 =>
        some (.inl (C, v14)))
      else (
        bd2 (f_X3_worth N S C (C 1 3) (0 : Int32) (4 + x7.toNatClampNeg) x6 2 32) fun r17 C18 =>
        f_X7_leave_i1_j106l39 N S C18  x3 x4 x5 x6 x7 (4 + x7.toNatClampNeg) r17))
    else (
      lt_ (x7 + (1 : Int32)) fun v9 =>
      some (.inl (C, v9))))
def f_X7_leave_i1_j36 (N : Nat) (S : wg_Sh) (C : wg_C)  (x3 : Int32) (x4 : Int32) (x5 : Int32) (x6 : Int32) : Option wg_C :=
  bd2 (lp (fun o => f_X7_leave_i1_l39 N S  x3 x4 x5 x6 o.1 o.2) N (C, (0 : Int32))) fun C28 v29 =>
  some C28
def f_X7_leave_i1 (N : Nat) (S : wg_Sh) (C : wg_C) (p3 : Int32) (p4 : Int32) : Option wg_C :=
  lt_ (p3 / (32 : Int32)) fun v1 =>
  lt_ (p3 - p3 / (32 : Int32) * (32 : Int32)) fun v3 =>
  if (32 : Int32) ≤ (v3 + (1 : Int32)) then (
    f_X7_leave_i1_j36 N S C  p3 p4 v1 v3)
  else (
    ck (inb p3 192) <|
    bd (f_X7_shorten C (p3 + (1 : Int32)) ((C 37 p3.toNatClampNeg) + (1 : Int32))) fun C36 =>
    f_X7_leave_i1_j36 N S C36  p3 p4 v1 v3)
abbrev G_X7_leave_i1 (p : Program) (l : Launch) (e : Env) (s : State) (m : MethodId) (args : Array Value) (below : List Frame) (meth : Method) (c : Code) (E : wg_Ev) (ad : Nat → Nat) (S : wg_Sh) (C0 : wg_C) (M0 : wg_M) (pc : Nat) (C : wg_C) (M : wg_M) (lv : List (Nat × Value)) (st : List Value) : Prop := wg_G p l e (wg_Rm 4 96) s m args below meth c (MQ below (wg_Qv E ad S C0 M0) args s 0 0 (wg_A E)) 10 E ad S 0 0 pc C M lv st
set_option maxHeartbeats 4000000 in
set_option maxRecDepth 100000 in
theorem J_X7_leave_i1_j106l39 {p : Program} {l : Launch} {e : Env} {s : State} {m : MethodId} {args : Array Value} {below : List Frame} {meth : Method} {c : Code} {E : wg_Ev} {ad : Nat → Nat} {S : wg_Sh} (X : wg_X p s m args meth c cX7_leave 10 RX7 E) (hr : meth.sig.returnType = none) (hS : wg_SC S) (D0 : wg_C) (M : wg_M) (N : Nat)  (C : wg_C)  (x3 : Int32) (x4 : Int32) (x5 : Int32) (x6 : Int32) (x7 : Int32) (x8 : Nat) (s0 : Int32) (hx8 : wg_id S x8 1) (y : ((wg_C × Int32) ⊕ (wg_C × Int32))) (Kc : ∀ (Dy : wg_C) (y7 : Int32), y = Sum.inl (Dy, y7) → G_X7_leave_i1 p l e s m args below meth c E ad S D0 M 39 Dy M [(0, .ref (ad 35)), (1, .ref (ad 1)), (2, .ref (ad 31)), (3, .int x3), (4, .int x4), (5, .int x5), (6, .int x6), (7, .int y7)] []) (Ke : ∀ (Dy : wg_C) (y7 : Int32), y = Sum.inr ((Dy, y7)) → G_X7_leave_i1 p l e s m args below meth c E ad S D0 M 143 Dy M [(0, .ref (ad 35)), (1, .ref (ad 1)), (2, .ref (ad 31)), (3, .int x3), (4, .int x4), (5, .int x5), (6, .int x6), (7, .int y7)] []) (h : f_X7_leave_i1_j106l39 N S C  x3 x4 x5 x6 x7 x8 s0 = some y) : G_X7_leave_i1 p l e s m args below meth c E ad S D0 M 106 C M [(0, .ref (ad 35)), (1, .ref (ad 1)), (2, .ref (ad 31)), (3, .int x3), (4, .int x4), (5, .int x5), (6, .int x6), (7, .int x7), (8, .ref (ad x8))] [.int s0] := by
  unfold f_X7_leave_i1_j106l39 at h
  refine wg_istore (lv' := [(9, .int s0), (0, .ref (ad 35)), (1, .ref (ad 1)), (2, .ref (ad 31)), (3, .int x3), (4, .int x4), (5, .int x5), (6, .int x6), (7, .int x7), (8, .ref (ad x8))]) X dX7_leave_106 rfl (by decide) rfl ?_
  refine wg_aload_n X 1 dX7_leave_108 rfl rfl ?_
  refine wg_aload X 9 dX7_leave_109 rfl ?_
  obtain ⟨r20, h19, h⟩ := bd_some h
  refine wg_callVi (As := []) (rest := [.ref (ad 35)]) X (c_X1_leads l E ad S hS C M x8 hx8 h19) T_yX1_leads k_643 cl1 hx8 dX7_leave_111 rfl rfl (Nat.le_of_ble_eq_true rfl) ⟨Nat.le_of_ble_eq_true rfl, Nat.le_of_ble_eq_true rfl⟩ ⟨Nat.zero_le _, Nat.zero_le _⟩ ?_
  refine wg_bipush (v := 32) X dX7_leave_114 (by decide) ?_
  refine wg_imul X dX7_leave_116 ?_
  refine wg_aload X 9 dX7_leave_117 rfl ?_
  refine wg_iload X 7 dX7_leave_119 rfl ?_
  obtain ⟨r22, h21, h⟩ := bd_some h
  refine wg_callVi (As := [.int x6]) (rest := [.int (r20 * (32 : Int32)), .ref (ad 35)]) X (c_X1_on l E ad S hS C M x8 x6 hx8 h21) T_yX1_on k_644 cl1 hx8 dX7_leave_121 rfl rfl (Nat.le_of_ble_eq_true rfl) ⟨Nat.le_of_ble_eq_true rfl, Nat.le_of_ble_eq_true rfl⟩ ⟨Nat.zero_le _, Nat.zero_le _⟩ ?_
  refine wg_iadd X dX7_leave_124 ?_
  refine wg_aload_n X 1 dX7_leave_125 rfl rfl ?_
  refine wg_getR (b := 37) X cl7 (SCi hS 35 7 rfl) 1 (by decide) dX7_leave_126 k_250 rfl (SCr hS 35 1 37 rfl) ?_
  refine wg_iload_n X 4 dX7_leave_129 rfl rfl ?_
  obtain ⟨z23, h⟩ := ck_some h
  refine wg_iald X (SCi hS 37 10 rfl) (SCl hS 37 192 rfl) z23 dX7_leave_130 ?_
  refine wg_iload X 0 dX7_leave_131 rfl ?_
  refine wg_iadd X dX7_leave_133 ?_
  obtain ⟨C25, h24, h⟩ := bd_some h
  refine wg_callVv (As := [.int ((r20 * (32 : Int32)) + r22), .int ((C 37 x3.toNatClampNeg) + s0)]) (rest := []) X (c_X7_shorten l E ad S hS C M ((r20 * (32 : Int32)) + r22) ((C 37 x3.toNatClampNeg) + s0)  h24) T_yX7_shorten k_606 cl7 (SCi hS 35 7 rfl) dX7_leave_134 rfl rfl (Nat.le_of_ble_eq_true rfl) ⟨Nat.le_of_ble_eq_true rfl, Nat.le_of_ble_eq_true rfl⟩ ⟨Nat.zero_le _, Nat.zero_le _⟩ ?_
  obtain ⟨v26, e27, h⟩ := lt_some h
  refine wg_iinc (lv' := [(7, .int v26), (9, .int s0), (0, .ref (ad 35)), (1, .ref (ad 1)), (2, .ref (ad 31)), (3, .int x3), (4, .int x4), (5, .int x5), (6, .int x6), (8, .ref (ad x8))]) X 8 dX7_leave_137 rfl e27 (by decide) rfl ?_
  refine wg_goto X 39 dX7_leave_140 (by decide) ?_
  refine wg_pick [2, 3, 4, 5, 6, 7, 8, 0] (lv' := [(0, .ref (ad 35)), (1, .ref (ad 1)), (2, .ref (ad 31)), (3, .int x3), (4, .int x4), (5, .int x5), (6, .int x6), (7, .int v26)]) rfl ?_
  exact Kc C25 v26 (sm_inj h).symm
set_option maxHeartbeats 4000000 in
set_option maxRecDepth 100000 in
theorem L_X7_leave_i1_l39 {p : Program} {l : Launch} {e : Env} {s : State} {m : MethodId} {args : Array Value} {below : List Frame} {meth : Method} {c : Code} {E : wg_Ev} {ad : Nat → Nat} {S : wg_Sh} (X : wg_X p s m args meth c cX7_leave 10 RX7 E) (hr : meth.sig.returnType = none) (hS : wg_SC S) (D0 : wg_C) (M : wg_M) (N : Nat)   (x3 : Int32) (x4 : Int32) (x5 : Int32) (x6 : Int32)  : ∀ (n : Nat) (C : wg_C) (x7 : Int32) (o : (wg_C × Int32)), lp (fun o => f_X7_leave_i1_l39 N S  x3 x4 x5 x6 o.1 o.2) n (C, x7) = some o → (∀ (Dy : wg_C) (y7 : Int32), o = (Dy, y7) → G_X7_leave_i1 p l e s m args below meth c E ad S D0 M 143 Dy M [(0, .ref (ad 35)), (1, .ref (ad 1)), (2, .ref (ad 31)), (3, .int x3), (4, .int x4), (5, .int x5), (6, .int x6), (7, .int y7)] []) → G_X7_leave_i1 p l e s m args below meth c E ad S D0 M 39 C M [(0, .ref (ad 35)), (1, .ref (ad 1)), (2, .ref (ad 31)), (3, .int x3), (4, .int x4), (5, .int x5), (6, .int x6), (7, .int x7)] [] := by
  intro n
  induction n with
  | zero => exact fun _ _ o h => (lp_zero h).elim
  | succ n ih =>
    intro C x7 o h K
    obtain ⟨o1, hb, h2⟩ := lp_some h
    replace hb : f_X7_leave_i1_l39 N S  x3 x4 x5 x6 C x7 = some o1 := hb
    clear h
    have Kc : ∀ (Dy : wg_C) (y7 : Int32), o1 = Sum.inl (Dy, y7) → G_X7_leave_i1 p l e s m args below meth c E ad S D0 M 39 Dy M [(0, .ref (ad 35)), (1, .ref (ad 1)), (2, .ref (ad 31)), (3, .int x3), (4, .int x4), (5, .int x5), (6, .int x6), (7, .int y7)] [] := fun Dy y7 e1 => by
      subst e1
      exact ih Dy y7 o h2 K
    have Ke : ∀ (Dy : wg_C) (y7 : Int32), o1 = Sum.inr ((Dy, y7)) → G_X7_leave_i1 p l e s m args below meth c E ad S D0 M 143 Dy M [(0, .ref (ad 35)), (1, .ref (ad 1)), (2, .ref (ad 31)), (3, .int x3), (4, .int x4), (5, .int x5), (6, .int x6), (7, .int y7)] [] := fun Dy y7 e1 => by
      subst e1
      exact K Dy y7 (sm_inj (α := (wg_C × Int32)) h2).symm
    clear ih K h2
    unfold f_X7_leave_i1_l39 at hb
    have h := hb
    clear hb
    refine wg_iload X 7 dX7_leave_39 rfl ?_
    refine wg_aload_n X 1 dX7_leave_41 rfl rfl ?_
    refine wg_getC X cl0 (SCi hS 1 0 rfl) 2 (by decide) dX7_leave_42 k_148 rfl ?_
    refine wg_icmp_ge X 143 dX7_leave_45 (by decide) (fun c6 => ?_) (fun c6 => ?_)
    · have h := if_t c6 h
      exact Ke C x7 (sm_inj h).symm
    · have h := if_f c6 h
      refine wg_aload_n X 1 dX7_leave_48 rfl rfl ?_
      refine wg_getR (b := 3) X cl0 (SCi hS 1 0 rfl) 1 (by decide) dX7_leave_49 k_145 rfl (SCr hS 1 1 3 rfl) ?_
      refine wg_iload X 7 dX7_leave_52 rfl ?_
      obtain ⟨z7, h⟩ := ck_some h
      refine wg_aalS13 (b := 4 + x7.toNatClampNeg) X (SCi hS 3 13 rfl) (SCl hS 3 8 rfl) z7 (SCp hS (inb_lt z7)).1 dX7_leave_54 ?_
      refine wg_astore (lv' := [(8, .ref (ad (4 + x7.toNatClampNeg))), (0, .ref (ad 35)), (1, .ref (ad 1)), (2, .ref (ad 31)), (3, .int x3), (4, .int x4), (5, .int x5), (6, .int x6), (7, .int x7)]) X dX7_leave_55 rfl (by decide) rfl ?_
      refine wg_aload X 0 dX7_leave_57 rfl ?_
      refine wg_getC X cl1 (SCp hS (inb_lt z7)).2.1 4 (by decide) dX7_leave_59 k_123 rfl ?_
      refine wg_iload X 6 dX7_leave_62 rfl ?_
      refine wg_icmp_ne X 137 dX7_leave_64 (by decide) (fun c8 => ?_) (fun c8 => ?_)
      · have h := if_f c8 h
        obtain ⟨v9, e10, h⟩ := lt_some h
        refine wg_iinc (lv' := [(7, .int v9), (8, .ref (ad (4 + x7.toNatClampNeg))), (0, .ref (ad 35)), (1, .ref (ad 1)), (2, .ref (ad 31)), (3, .int x3), (4, .int x4), (5, .int x5), (6, .int x6)]) X 8 dX7_leave_137 rfl e10 (by decide) rfl ?_
        refine wg_goto X 39 dX7_leave_140 (by decide) ?_
        refine wg_pick [2, 3, 4, 5, 6, 7, 8, 0] (lv' := [(0, .ref (ad 35)), (1, .ref (ad 1)), (2, .ref (ad 31)), (3, .int x3), (4, .int x4), (5, .int x5), (6, .int x6), (7, .int v9)]) rfl ?_
        exact Kc C v9 (sm_inj h).symm
      · have h := if_t c8 h
        refine wg_aload X 0 dX7_leave_67 rfl ?_
        refine wg_iload X 7 dX7_leave_69 rfl ?_
        refine wg_iload X 5 dX7_leave_71 rfl ?_
        obtain ⟨r12, h11, h⟩ := bd_some h
        refine wg_callVi (As := [.int x6, .int x4]) (rest := []) X (c_X1_passes l E ad S hS C M (4 + x7.toNatClampNeg) x6 x4 ((SCp hS (inb_lt z7)).2.1) h11) T_yX1_passes k_610 cl1 ((SCp hS (inb_lt z7)).2.1) dX7_leave_73 rfl rfl (Nat.le_of_ble_eq_true rfl) ⟨Nat.le_of_ble_eq_true rfl, Nat.le_of_ble_eq_true rfl⟩ ⟨Nat.zero_le _, Nat.zero_le _⟩ ?_
        refine wg_if_eq X 137 dX7_leave_76 (by decide) (fun c13 => ?_) (fun c13 => ?_)
        · have h := if_t c13 h
          obtain ⟨v14, e15, h⟩ := lt_some h
          refine wg_iinc (lv' := [(7, .int v14), (8, .ref (ad (4 + x7.toNatClampNeg))), (0, .ref (ad 35)), (1, .ref (ad 1)), (2, .ref (ad 31)), (3, .int x3), (4, .int x4), (5, .int x5), (6, .int x6)]) X 8 dX7_leave_137 rfl e15 (by decide) rfl ?_
          refine wg_goto X 39 dX7_leave_140 (by decide) ?_
          refine wg_pick [2, 3, 4, 5, 6, 7, 8, 0] (lv' := [(0, .ref (ad 35)), (1, .ref (ad 1)), (2, .ref (ad 31)), (3, .int x3), (4, .int x4), (5, .int x5), (6, .int x6), (7, .int v14)]) rfl ?_
          exact Kc C v14 (sm_inj h).symm
        · have h := if_f c13 h
          refine wg_aload_n X 3 dX7_leave_79 rfl rfl ?_
          refine wg_nonnull X 89 dX7_leave_80 (by decide) ?_
          refine wg_aload_n X 3 dX7_leave_89 rfl rfl ?_
          refine wg_aload_n X 2 dX7_leave_90 rfl rfl ?_
          refine wg_getC X cl0 (SCi hS 1 0 rfl) 3 (by decide) dX7_leave_91 k_150 rfl ?_
          refine wg_iconst (v := 0) X dX7_leave_94 (by decide) ?_
          refine wg_aload X 0 dX7_leave_95 rfl ?_
          refine wg_iload X 7 dX7_leave_97 rfl ?_
          refine wg_aload_n X 2 dX7_leave_99 rfl rfl ?_
          refine wg_getR (b := 2) X cl0 (SCi hS 1 0 rfl) 0 (by decide) dX7_leave_100 k_142 rfl (SCr hS 1 0 2 rfl) ?_
          obtain ⟨r17, C18, h16, h⟩ := bd2_some h
          refine wg_callVi (As := [.int (C 1 3), .int (0 : Int32), .ref (ad (4 + x7.toNatClampNeg)), .int x6, .ref (ad 2)]) (rest := []) X (c_X3_worth l E ad S hS N C M (C 1 3) (0 : Int32) (4 + x7.toNatClampNeg) x6 2 32 ((SCp hS (inb_lt z7)).2.1) ⟨(SCi hS 2 10 rfl), (SCl hS 2 32 rfl)⟩ h16) T_yX3_worth k_611 cl3 (SCi hS 31 3 rfl) dX7_leave_103 rfl rfl (Nat.le_of_ble_eq_true rfl) ⟨Nat.le_of_ble_eq_true rfl, Nat.le_of_ble_eq_true rfl⟩ ⟨Nat.zero_le _, Nat.zero_le _⟩ ?_
          refine wg_pick [1, 2, 3, 4, 5, 6, 7, 8, 0] (lv' := [(0, .ref (ad 35)), (1, .ref (ad 1)), (2, .ref (ad 31)), (3, .int x3), (4, .int x4), (5, .int x5), (6, .int x6), (7, .int x7), (8, .ref (ad (4 + x7.toNatClampNeg)))]) rfl ?_
          exact J_X7_leave_i1_j106l39 X hr hS D0 M N  C18  x3 x4 x5 x6 x7 (4 + x7.toNatClampNeg) r17 ((SCp hS (inb_lt z7)).2.1) _ Kc Ke h
set_option maxHeartbeats 4000000 in
set_option maxRecDepth 100000 in
theorem J_X7_leave_i1_j36 {p : Program} {l : Launch} {e : Env} {s : State} {m : MethodId} {args : Array Value} {below : List Frame} {meth : Method} {c : Code} {E : wg_Ev} {ad : Nat → Nat} {S : wg_Sh} (X : wg_X p s m args meth c cX7_leave 10 RX7 E) (hr : meth.sig.returnType = none) (hS : wg_SC S) (D0 : wg_C) (M : wg_M) (N : Nat)  (C : wg_C)  (x3 : Int32) (x4 : Int32) (x5 : Int32) (x6 : Int32)   (h : f_X7_leave_i1_j36 N S C  x3 x4 x5 x6 = some D0) : G_X7_leave_i1 p l e s m args below meth c E ad S D0 M 36 C M [(0, .ref (ad 35)), (1, .ref (ad 1)), (2, .ref (ad 31)), (3, .int x3), (4, .int x4), (5, .int x5), (6, .int x6)] [] := by
  unfold f_X7_leave_i1_j36 at h
  refine wg_iconst (v := 0) X dX7_leave_36 (by decide) ?_
  refine wg_istore (lv' := [(7, .int (0 : Int32)), (0, .ref (ad 35)), (1, .ref (ad 1)), (2, .ref (ad 31)), (3, .int x3), (4, .int x4), (5, .int x5), (6, .int x6)]) X dX7_leave_37 rfl (by decide) rfl ?_
  obtain ⟨o30, h31, h⟩ := bd2_o h
  refine wg_pick [1, 2, 3, 4, 5, 6, 7, 0] (lv' := [(0, .ref (ad 35)), (1, .ref (ad 1)), (2, .ref (ad 31)), (3, .int x3), (4, .int x4), (5, .int x5), (6, .int x6), (7, .int (0 : Int32))]) rfl ?_
  refine L_X7_leave_i1_l39 X hr hS D0 M N   x3 x4 x5 x6  N C (0 : Int32) o30 h31 (fun C28 v29 e33 => ?_)
  · subst e33
    replace h := bd2_in h
    exact wg_vret X ⟨(sm_inj h), rfl⟩ hr dX7_leave_143
set_option maxHeartbeats 4000000 in
set_option maxRecDepth 100000 in
theorem c_X7_leave_i1 (l : Launch) (E : wg_Ev) (ad : Nat → Nat) (S : wg_Sh) (hS : wg_SC S) (N : Nat) (C : wg_C) (M : wg_M) (p3 : Int32) (p4 : Int32)  {D0 : wg_C} (h : f_X7_leave_i1 N S C p3 p4 = some D0) : wg_Cv l yX7_leave cX7_leave 10 none 4 96 E ad S C M [.ref (ad 35), .ref (ad 1), .ref (ad 31), .int p3, .int p4] D0 M := by
  refine wg_start (own := RX7) (by decide +kernel) rfl (Nat.le_of_ble_eq_true rfl) ?_
  intro p e s m below meth c X hr hnm
  refine wg_lv (lv' := [(0, .ref (ad 35)), (1, .ref (ad 1)), (2, .ref (ad 31)), (3, .int p3), (4, .int p4)]) rfl ?_
  unfold f_X7_leave_i1 at h
  refine wg_iload_n X 3 dX7_leave_0 rfl rfl ?_
  refine wg_bipush (v := 32) X dX7_leave_1 (by decide) ?_
  refine wg_idiv X dX7_leave_3 (by decide) ?_
  obtain ⟨v1, e2, h⟩ := lt_some h
  refine wg_istore (lv' := [(5, .int v1), (0, .ref (ad 35)), (1, .ref (ad 1)), (2, .ref (ad 31)), (3, .int p3), (4, .int p4)]) X dX7_leave_4 e2 (by decide) rfl ?_
  refine wg_iload_n X 4 dX7_leave_6 rfl rfl ?_
  refine wg_bipush (v := 32) X dX7_leave_7 (by decide) ?_
  refine wg_irem X dX7_leave_9 (by decide) ?_
  obtain ⟨v3, e4, h⟩ := lt_some h
  refine wg_istore (lv' := [(6, .int v3), (5, .int v1), (0, .ref (ad 35)), (1, .ref (ad 1)), (2, .ref (ad 31)), (3, .int p3), (4, .int p4)]) X dX7_leave_10 e4 (by decide) rfl ?_
  refine wg_iload X 0 dX7_leave_12 rfl ?_
  refine wg_iconst (v := 1) X dX7_leave_14 (by decide) ?_
  refine wg_iadd X dX7_leave_15 ?_
  refine wg_bipush (v := 32) X dX7_leave_16 (by decide) ?_
  refine wg_icmp_ge X 36 dX7_leave_18 (by decide) (fun c5 => ?_) (fun c5 => ?_)
  · have h := if_t c5 h
    refine wg_pick [2, 3, 4, 5, 6, 1, 0] (lv' := [(0, .ref (ad 35)), (1, .ref (ad 1)), (2, .ref (ad 31)), (3, .int p3), (4, .int p4), (5, .int v1), (6, .int v3)]) rfl ?_
    exact J_X7_leave_i1_j36 X hr hS D0 M N  C  p3 p4 v1 v3   h
  · have h := if_f c5 h
    refine wg_aload_n X 2 dX7_leave_21 rfl rfl ?_
    refine wg_iload_n X 5 dX7_leave_22 rfl rfl ?_
    refine wg_iconst (v := 1) X dX7_leave_23 (by decide) ?_
    refine wg_iadd X dX7_leave_24 ?_
    refine wg_aload_n X 2 dX7_leave_25 rfl rfl ?_
    refine wg_getR (b := 37) X cl7 (SCi hS 35 7 rfl) 1 (by decide) dX7_leave_26 k_250 rfl (SCr hS 35 1 37 rfl) ?_
    refine wg_iload_n X 5 dX7_leave_29 rfl rfl ?_
    obtain ⟨z34, h⟩ := ck_some h
    refine wg_iald X (SCi hS 37 10 rfl) (SCl hS 37 192 rfl) z34 dX7_leave_30 ?_
    refine wg_iconst (v := 1) X dX7_leave_31 (by decide) ?_
    refine wg_iadd X dX7_leave_32 ?_
    obtain ⟨C36, h35, h⟩ := bd_some h
    refine wg_callVv (As := [.int (p3 + (1 : Int32)), .int ((C 37 p3.toNatClampNeg) + (1 : Int32))]) (rest := []) X (c_X7_shorten l E ad S hS C M (p3 + (1 : Int32)) ((C 37 p3.toNatClampNeg) + (1 : Int32))  h35) T_yX7_shorten k_606 cl7 (SCi hS 35 7 rfl) dX7_leave_33 rfl rfl (Nat.le_of_ble_eq_true rfl) ⟨Nat.le_of_ble_eq_true rfl, Nat.le_of_ble_eq_true rfl⟩ ⟨Nat.zero_le _, Nat.zero_le _⟩ ?_
    refine wg_pick [2, 3, 4, 5, 6, 1, 0] (lv' := [(0, .ref (ad 35)), (1, .ref (ad 1)), (2, .ref (ad 31)), (3, .int p3), (4, .int p4), (5, .int v1), (6, .int v3)]) rfl ?_
    exact J_X7_leave_i1_j36 X hr hS D0 M N  C36  p3 p4 v1 v3   h
-- WindowsGive$Walk.search(LWindowsGive$House;LWindowsGive$Rules;II)V (('c', 35), ('c', 1), ('c', 31), 'i', 'i')
def f_X7_search_i1_l27 (N : Nat) (S : wg_Sh)  (x4 : Int32) (C : wg_C) (x5 : Int32) : Option ((wg_C × Int32) ⊕ ((wg_C × Int32) ⊕ wg_C)) :=
  if (192 : Int32) ≤ x5 then (
    some (.inr (.inl (C, x5))))
  else (
    bd (f_X7_nearest N C ) fun r10 =>
    if r10 = (-1 : Int32) then (
      some (.inr (.inr C)))
    else (
      ck (inb r10 192) <|
      lt_ (wg_up C 38 r10.toNatClampNeg (1 : Int32)) fun C13 =>
      bd (f_X7_leave_i1 N S C13 r10 x4) fun C16 =>
      lt_ (x5 + (1 : Int32)) fun v17 =>
      some (.inl (C16, v17))))
def f_X7_search_i1 (N : Nat) (S : wg_Sh) (C : wg_C) (p3 : Int32) (p4 : Int32) : Option wg_C :=
  bd (f_J7_fill_53178 N C 37 192 (1000000000 : Int32)) fun C2 =>
  bd (f_J7_fill_53178 N C2 38 192 (0 : Int32)) fun C4 =>
  ck (inb p3 192) <|
  lt_ (wg_up C4 37 p3.toNatClampNeg (0 : Int32)) fun C6 =>
  bs2 (lp (fun o => f_X7_search_i1_l27 N S  p4 o.1 o.2) N (C6, (0 : Int32))) (fun C19 v20 =>
    some C19)
    (fun q23 => some q23)
abbrev G_X7_search_i1 (p : Program) (l : Launch) (e : Env) (s : State) (m : MethodId) (args : Array Value) (below : List Frame) (meth : Method) (c : Code) (E : wg_Ev) (ad : Nat → Nat) (S : wg_Sh) (C0 : wg_C) (M0 : wg_M) (pc : Nat) (C : wg_C) (M : wg_M) (lv : List (Nat × Value)) (st : List Value) : Prop := wg_G p l e (wg_Rm 5 125) s m args below meth c (MQ below (wg_Qv E ad S C0 M0) args s 0 0 (wg_A E)) 7 E ad S 0 0 pc C M lv st
set_option maxHeartbeats 4000000 in
set_option maxRecDepth 100000 in
theorem L_X7_search_i1_l27 {p : Program} {l : Launch} {e : Env} {s : State} {m : MethodId} {args : Array Value} {below : List Frame} {meth : Method} {c : Code} {E : wg_Ev} {ad : Nat → Nat} {S : wg_Sh} (X : wg_X p s m args meth c cX7_search 7 RX7 E) (hr : meth.sig.returnType = none) (hS : wg_SC S) (D0 : wg_C) (M : wg_M) (N : Nat)   (x4 : Int32)  : ∀ (n : Nat) (C : wg_C) (x5 : Int32) (o : ((wg_C × Int32) ⊕ wg_C)), lp (fun o => f_X7_search_i1_l27 N S  x4 o.1 o.2) n (C, x5) = some o → (∀ (Dy : wg_C) (y5 : Int32), o = Sum.inl (Dy, y5) → G_X7_search_i1 p l e s m args below meth c E ad S D0 M 72 Dy M [(0, .ref (ad 35)), (1, .ref (ad 1)), (2, .ref (ad 31)), (4, .int x4), (5, .int y5)] []) → (∀ q : wg_C, o = Sum.inr q → q = D0) → G_X7_search_i1 p l e s m args below meth c E ad S D0 M 27 C M [(0, .ref (ad 35)), (1, .ref (ad 1)), (2, .ref (ad 31)), (4, .int x4), (5, .int x5)] [] := by
  intro n
  induction n with
  | zero => exact fun _ _ o h => (lp_zero h).elim
  | succ n ih =>
    intro C x5 o h K KR
    obtain ⟨o1, hb, h2⟩ := lp_some h
    replace hb : f_X7_search_i1_l27 N S  x4 C x5 = some o1 := hb
    clear h
    have Kc : ∀ (Dy : wg_C) (y5 : Int32), o1 = Sum.inl (Dy, y5) → G_X7_search_i1 p l e s m args below meth c E ad S D0 M 27 Dy M [(0, .ref (ad 35)), (1, .ref (ad 1)), (2, .ref (ad 31)), (4, .int x4), (5, .int y5)] [] := fun Dy y5 e1 => by
      subst e1
      exact ih Dy y5 o h2 K KR
    have Ke : ∀ (Dy : wg_C) (y5 : Int32), o1 = Sum.inr (Sum.inl (Dy, y5)) → G_X7_search_i1 p l e s m args below meth c E ad S D0 M 72 Dy M [(0, .ref (ad 35)), (1, .ref (ad 1)), (2, .ref (ad 31)), (4, .int x4), (5, .int y5)] [] := fun Dy y5 e1 => by
      subst e1
      exact K Dy y5 (sm_inj (α := ((wg_C × Int32) ⊕ wg_C)) h2).symm
    have Kr : ∀ q : wg_C, o1 = Sum.inr (Sum.inr q) → q = D0 := fun q e1 => by
      subst e1
      exact KR q (sm_inj (α := ((wg_C × Int32) ⊕ wg_C)) h2).symm
    clear ih K h2 KR
    unfold f_X7_search_i1_l27 at hb
    have h := hb
    clear hb
    refine wg_iload X 4 dX7_search_27 rfl ?_
    refine wg_sipush (v := 192) X dX7_search_29 (by decide) ?_
    refine wg_icmp_ge X 72 dX7_search_32 (by decide) (fun c8 => ?_) (fun c8 => ?_)
    · have h := if_t c8 h
      exact Ke C x5 (sm_inj h).symm
    · have h := if_f c8 h
      refine wg_aload_n X 0 dX7_search_35 rfl rfl ?_
      obtain ⟨r10, h9, h⟩ := bd_some h
      refine wg_callVi (As := []) (rest := []) X (c_X7_nearest l E ad S hS N C M   h9) T_yX7_nearest k_598 cl7 (SCi hS 35 7 rfl) dX7_search_36 rfl rfl (Nat.le_of_ble_eq_true rfl) ⟨Nat.le_of_ble_eq_true rfl, Nat.le_of_ble_eq_true rfl⟩ ⟨Nat.zero_le _, Nat.zero_le _⟩ ?_
      refine wg_istore (lv' := [(6, .int r10), (0, .ref (ad 35)), (1, .ref (ad 1)), (2, .ref (ad 31)), (4, .int x4), (5, .int x5)]) X dX7_search_39 rfl (by decide) rfl ?_
      refine wg_iload X 0 dX7_search_41 rfl ?_
      refine wg_iconst (v := -1) X dX7_search_43 (by decide) ?_
      refine wg_icmp_ne X 48 dX7_search_44 (by decide) (fun c11 => ?_) (fun c11 => ?_)
      · have h := if_f c11 h
        refine wg_aload_n X 1 dX7_search_48 rfl rfl ?_
        refine wg_getR (b := 38) X cl7 (SCi hS 35 7 rfl) 2 (by decide) dX7_search_49 k_252 rfl (SCr hS 35 2 38 rfl) ?_
        refine wg_iload X 0 dX7_search_52 rfl ?_
        refine wg_iconst (v := 1) X dX7_search_54 (by decide) ?_
        obtain ⟨z12, h⟩ := ck_some h
        obtain ⟨C13, e14, h⟩ := lt_some h
        refine wg_iaste X (SCi hS 38 10 rfl) (SCl hS 38 192 rfl) z12 dX7_search_55 e14 ?_
        refine wg_aload_n X 1 dX7_search_56 rfl rfl ?_
        refine wg_aload_n X 2 dX7_search_57 rfl rfl ?_
        refine wg_aload_n X 3 dX7_search_58 rfl rfl ?_
        refine wg_iload X 0 dX7_search_59 rfl ?_
        refine wg_iload X 4 dX7_search_61 rfl ?_
        obtain ⟨C16, h15, h⟩ := bd_some h
        refine wg_callVv (As := [.ref (ad 1), .ref (ad 31), .int r10, .int x4]) (rest := []) X (c_X7_leave_i1 l E ad S hS N C13 M r10 x4  h15) T_yX7_leave k_602 cl7 (SCi hS 35 7 rfl) dX7_search_63 rfl rfl (Nat.le_of_ble_eq_true rfl) ⟨Nat.le_of_ble_eq_true rfl, Nat.le_of_ble_eq_true rfl⟩ ⟨Nat.zero_le _, Nat.zero_le _⟩ ?_
        obtain ⟨v17, e18, h⟩ := lt_some h
        refine wg_iinc (lv' := [(5, .int v17), (6, .int r10), (0, .ref (ad 35)), (1, .ref (ad 1)), (2, .ref (ad 31)), (4, .int x4)]) X 5 dX7_search_66 rfl e18 (by decide) rfl ?_
        refine wg_goto X 27 dX7_search_69 (by decide) ?_
        refine wg_pick [2, 3, 4, 5, 0] (lv' := [(0, .ref (ad 35)), (1, .ref (ad 1)), (2, .ref (ad 31)), (4, .int x4), (5, .int v17)]) rfl ?_
        exact Kc C16 v17 (sm_inj h).symm
      · have h := if_t c11 h
        have hq := Kr _ (sm_inj h).symm
        exact wg_vret X ⟨hq, rfl⟩ hr dX7_search_47
set_option maxHeartbeats 4000000 in
set_option maxRecDepth 100000 in
theorem c_X7_search_i1 (l : Launch) (E : wg_Ev) (ad : Nat → Nat) (S : wg_Sh) (hS : wg_SC S) (N : Nat) (C : wg_C) (M : wg_M) (p3 : Int32) (p4 : Int32)  {D0 : wg_C} (h : f_X7_search_i1 N S C p3 p4 = some D0) : wg_Cv l yX7_search cX7_search 7 none 5 125 E ad S C M [.ref (ad 35), .ref (ad 1), .ref (ad 31), .int p3, .int p4] D0 M := by
  refine wg_start (own := RX7) (by decide +kernel) rfl (Nat.le_of_ble_eq_true rfl) ?_
  intro p e s m below meth c X hr hnm
  refine wg_lv (lv' := [(0, .ref (ad 35)), (1, .ref (ad 1)), (2, .ref (ad 31)), (3, .int p3), (4, .int p4)]) rfl ?_
  unfold f_X7_search_i1 at h
  refine wg_aload_n X 0 dX7_search_0 rfl rfl ?_
  refine wg_getR (b := 37) X cl7 (SCi hS 35 7 rfl) 1 (by decide) dX7_search_1 k_250 rfl (SCr hS 35 1 37 rfl) ?_
  refine wg_ldc (v := 1000000000) X dX7_search_4 k_594 ?_
  obtain ⟨C2, h1, h⟩ := bd_some h
  refine wg_callSv (As := [.ref (ad 37), .int (1000000000 : Int32)]) (rest := []) X (c_J7_fill_53178 l E ad S hS N C M 37 192 (1000000000 : Int32) ⟨(SCi hS 37 10 rfl), (SCl hS 37 192 rfl)⟩ h1) T_yJ7_fill_53178 k_595 dX7_search_6 rfl rfl (Nat.le_of_ble_eq_true rfl) ⟨Nat.le_of_ble_eq_true rfl, Nat.le_of_ble_eq_true rfl⟩ ⟨Nat.zero_le _, Nat.zero_le _⟩ ?_
  refine wg_aload_n X 0 dX7_search_9 rfl rfl ?_
  refine wg_getR (b := 38) X cl7 (SCi hS 35 7 rfl) 2 (by decide) dX7_search_10 k_252 rfl (SCr hS 35 2 38 rfl) ?_
  refine wg_iconst (v := 0) X dX7_search_13 (by decide) ?_
  obtain ⟨C4, h3, h⟩ := bd_some h
  refine wg_callSv (As := [.ref (ad 38), .int (0 : Int32)]) (rest := []) X (c_J7_fill_53178 l E ad S hS N C2 M 38 192 (0 : Int32) ⟨(SCi hS 38 10 rfl), (SCl hS 38 192 rfl)⟩ h3) T_yJ7_fill_53178 k_595 dX7_search_14 rfl rfl (Nat.le_of_ble_eq_true rfl) ⟨Nat.le_of_ble_eq_true rfl, Nat.le_of_ble_eq_true rfl⟩ ⟨Nat.zero_le _, Nat.zero_le _⟩ ?_
  refine wg_aload_n X 0 dX7_search_17 rfl rfl ?_
  refine wg_getR (b := 37) X cl7 (SCi hS 35 7 rfl) 1 (by decide) dX7_search_18 k_250 rfl (SCr hS 35 1 37 rfl) ?_
  refine wg_iload_n X 3 dX7_search_21 rfl rfl ?_
  refine wg_iconst (v := 0) X dX7_search_22 (by decide) ?_
  obtain ⟨z5, h⟩ := ck_some h
  obtain ⟨C6, e7, h⟩ := lt_some h
  refine wg_iaste X (SCi hS 37 10 rfl) (SCl hS 37 192 rfl) z5 dX7_search_23 e7 ?_
  refine wg_iconst (v := 0) X dX7_search_24 (by decide) ?_
  refine wg_istore (lv' := [(5, .int (0 : Int32)), (0, .ref (ad 35)), (1, .ref (ad 1)), (2, .ref (ad 31)), (3, .int p3), (4, .int p4)]) X dX7_search_25 rfl (by decide) rfl ?_
  obtain ⟨o21, h22, h⟩ := bs2_o h
  refine wg_pick [1, 2, 3, 5, 0] (lv' := [(0, .ref (ad 35)), (1, .ref (ad 1)), (2, .ref (ad 31)), (4, .int p4), (5, .int (0 : Int32))]) rfl ?_
  refine L_X7_search_i1_l27 X hr hS D0 M N   p4  N C6 (0 : Int32) o21 h22 (fun C19 v20 e24 => ?_) (fun q23 e24 => ?_)
  · subst e24
    replace h := bs2_in h
    exact wg_vret X ⟨(sm_inj h), rfl⟩ hr dX7_search_72
  · subst e24
    replace h := bs2_r h
    exact sm_inj h
-- WindowsGive.cost(III)I (('c', 0), 'i', 'i', 'i')
def f_X8_cost (N : Nat) (S : wg_Sh) (C : wg_C) (p1 : Int32) (p2 : Int32) (p3 : Int32) : Option (Int32 × wg_C) :=
  bd (f_X8_isSpot p1) fun r2 =>
  if r2 = 0 then (
    some ((-2 : Int32), C))
  else (
    bd (f_X8_isSpot p2) fun r5 =>
    if r5 = 0 then (
      some ((-2 : Int32), C))
    else (
      bd (f_X8_isSort p3) fun r8 =>
      if r8 = 0 then (
        some ((-2 : Int32), C))
      else (
        bd (f_X7_search_i1 N S C p1 p3) fun C11 =>
        ck (inb p2 192) <|
        if (C11 37 p2.toNatClampNeg) < (1000000000 : Int32) then (
          ck (inb p2 192) <|
          some ((C11 37 p2.toNatClampNeg), C11))
        else (
          some ((-1 : Int32), C11)))))
set_option maxHeartbeats 4000000 in
set_option maxRecDepth 100000 in
theorem c_X8_cost (l : Launch) (E : wg_Ev) (ad : Nat → Nat) (S : wg_Sh) (hS : wg_SC S) (N : Nat) (C : wg_C) (M : wg_M) (p1 : Int32) (p2 : Int32) (p3 : Int32)  {r0 : Int32} {D0 : wg_C} (h : f_X8_cost N S C p1 p2 p3 = some (r0, D0)) : wg_Ci l yX8_cost cX8_cost 4 (some .int) 6 151 E ad S C M [.ref (ad 0), .int p1, .int p2, .int p3] r0 D0 M := by
  refine wg_start (own := RX8) (by decide +kernel) rfl (Nat.le_of_ble_eq_true rfl) ?_
  intro p e s m below meth c X hr hnm
  refine wg_lv (lv' := [(0, .ref (ad 0)), (1, .int p1), (2, .int p2), (3, .int p3)]) rfl ?_
  unfold f_X8_cost at h
  refine wg_iload_n X 1 dX8_cost_0 rfl rfl ?_
  obtain ⟨r2, h1, h⟩ := bd_some h
  refine wg_callSi (As := [.int p1]) (rest := []) X (c_X8_isSpot l E ad S C M p1  h1) T_yX8_isSpot k_587 dX8_cost_1 rfl rfl (Nat.le_of_ble_eq_true rfl) ⟨Nat.le_of_ble_eq_true rfl, Nat.le_of_ble_eq_true rfl⟩ ⟨Nat.zero_le _, Nat.zero_le _⟩ ?_
  refine wg_if_eq X 21 dX8_cost_4 (by decide) (fun c3 => ?_) (fun c3 => ?_)
  · have h := if_t c3 h
    refine wg_bipush (v := -2) X dX8_cost_21 (by decide) ?_
    exact wg_iret X ⟨congrArg Prod.fst (sm_inj h), congrArg Prod.snd (sm_inj h), rfl⟩ hr dX8_cost_23
  · have h := if_f c3 h
    refine wg_iload_n X 2 dX8_cost_7 rfl rfl ?_
    obtain ⟨r5, h4, h⟩ := bd_some h
    refine wg_callSi (As := [.int p2]) (rest := []) X (c_X8_isSpot l E ad S C M p2  h4) T_yX8_isSpot k_587 dX8_cost_8 rfl rfl (Nat.le_of_ble_eq_true rfl) ⟨Nat.le_of_ble_eq_true rfl, Nat.le_of_ble_eq_true rfl⟩ ⟨Nat.zero_le _, Nat.zero_le _⟩ ?_
    refine wg_if_eq X 21 dX8_cost_11 (by decide) (fun c6 => ?_) (fun c6 => ?_)
    · have h := if_t c6 h
      refine wg_bipush (v := -2) X dX8_cost_21 (by decide) ?_
      exact wg_iret X ⟨congrArg Prod.fst (sm_inj h), congrArg Prod.snd (sm_inj h), rfl⟩ hr dX8_cost_23
    · have h := if_f c6 h
      refine wg_iload_n X 3 dX8_cost_14 rfl rfl ?_
      obtain ⟨r8, h7, h⟩ := bd_some h
      refine wg_callSi (As := [.int p3]) (rest := []) X (c_X8_isSort l E ad S C M p3  h7) T_yX8_isSort k_554 dX8_cost_15 rfl rfl (Nat.le_of_ble_eq_true rfl) ⟨Nat.le_of_ble_eq_true rfl, Nat.le_of_ble_eq_true rfl⟩ ⟨Nat.zero_le _, Nat.zero_le _⟩ ?_
      refine wg_if_ne X 24 dX8_cost_18 (by decide) (fun c9 => ?_) (fun c9 => ?_)
      · have h := if_f c9 h
        refine wg_aload_n X 0 dX8_cost_24 rfl rfl ?_
        refine wg_getR (b := 35) X cl8 (SCi hS 0 8 rfl) 6 (by decide) dX8_cost_25 k_478 rfl (SCr hS 0 6 35 rfl) ?_
        refine wg_aload_n X 0 dX8_cost_28 rfl rfl ?_
        refine wg_getR (b := 1) X cl8 (SCi hS 0 8 rfl) 0 (by decide) dX8_cost_29 k_472 rfl (SCr hS 0 0 1 rfl) ?_
        refine wg_aload_n X 0 dX8_cost_32 rfl rfl ?_
        refine wg_getR (b := 31) X cl8 (SCi hS 0 8 rfl) 5 (by decide) dX8_cost_33 k_477 rfl (SCr hS 0 5 31 rfl) ?_
        refine wg_iload_n X 1 dX8_cost_36 rfl rfl ?_
        refine wg_iload_n X 3 dX8_cost_37 rfl rfl ?_
        obtain ⟨C11, h10, h⟩ := bd_some h
        refine wg_callVv (As := [.ref (ad 1), .ref (ad 31), .int p1, .int p3]) (rest := []) X (c_X7_search_i1 l E ad S hS N C M p1 p3  h10) T_yX7_search k_590 cl7 (SCi hS 35 7 rfl) dX8_cost_38 rfl rfl (Nat.le_of_ble_eq_true rfl) ⟨Nat.le_of_ble_eq_true rfl, Nat.le_of_ble_eq_true rfl⟩ ⟨Nat.zero_le _, Nat.zero_le _⟩ ?_
        refine wg_aload_n X 0 dX8_cost_41 rfl rfl ?_
        refine wg_getR (b := 35) X cl8 (SCi hS 0 8 rfl) 6 (by decide) dX8_cost_42 k_478 rfl (SCr hS 0 6 35 rfl) ?_
        refine wg_getR (b := 37) X cl7 (SCi hS 35 7 rfl) 1 (by decide) dX8_cost_45 k_251 rfl (SCr hS 35 1 37 rfl) ?_
        refine wg_iload_n X 2 dX8_cost_48 rfl rfl ?_
        obtain ⟨z12, h⟩ := ck_some h
        refine wg_iald X (SCi hS 37 10 rfl) (SCl hS 37 192 rfl) z12 dX8_cost_49 ?_
        refine wg_ldc (v := 1000000000) X dX8_cost_50 k_645 ?_
        refine wg_icmp_lt X 59 dX8_cost_52 (by decide) (fun c13 => ?_) (fun c13 => ?_)
        · have h := if_t c13 h
          refine wg_aload_n X 0 dX8_cost_59 rfl rfl ?_
          refine wg_getR (b := 35) X cl8 (SCi hS 0 8 rfl) 6 (by decide) dX8_cost_60 k_478 rfl (SCr hS 0 6 35 rfl) ?_
          refine wg_getR (b := 37) X cl7 (SCi hS 35 7 rfl) 1 (by decide) dX8_cost_63 k_251 rfl (SCr hS 35 1 37 rfl) ?_
          refine wg_iload_n X 2 dX8_cost_66 rfl rfl ?_
          obtain ⟨z14, h⟩ := ck_some h
          refine wg_iald X (SCi hS 37 10 rfl) (SCl hS 37 192 rfl) z14 dX8_cost_67 ?_
          exact wg_iret X ⟨congrArg Prod.fst (sm_inj h), congrArg Prod.snd (sm_inj h), rfl⟩ hr dX8_cost_68
        · have h := if_f c13 h
          refine wg_iconst (v := -1) X dX8_cost_55 (by decide) ?_
          refine wg_goto X 68 dX8_cost_56 (by decide) ?_
          exact wg_iret X ⟨congrArg Prod.fst (sm_inj h), congrArg Prod.snd (sm_inj h), rfl⟩ hr dX8_cost_68
      · have h := if_t c9 h
        refine wg_bipush (v := -2) X dX8_cost_21 (by decide) ?_
        exact wg_iret X ⟨congrArg Prod.fst (sm_inj h), congrArg Prod.snd (sm_inj h), rfl⟩ hr dX8_cost_23
-- WindowsGive$Pane.firstOut(II)I ('P', 'i', 'i')
def f_X1_firstOut_l2 (N : Nat) (p0 : Nat) (C : wg_C)  (x2 : Int32) (x3 : Int32) : Option ((Int32) ⊕ ((Int32) ⊕ Int32)) :=
  if (32 : Int32) ≤ x3 then (
    some (.inr (.inl x3)))
  else (
    bd (f_X1_passes C p0 x3 x2) fun r3 =>
    if r3 = 0 then (
      lt_ (x3 + (1 : Int32)) fun v5 =>
      some (.inl v5))
    else (
      bd (f_X1_on C p0 x3) fun r8 =>
      some (.inr (.inr r8))))
def f_X1_firstOut (N : Nat) (C : wg_C) (p0 : Nat) (p1 : Int32) (p2 : Int32) : Option Int32 :=
  bs1 (lp (fun o => f_X1_firstOut_l2 N p0 C  p2 o) N p1) (fun v9 =>
    some (32 : Int32))
    (fun q12 => some q12)
abbrev G_X1_firstOut (p : Program) (l : Launch) (e : Env) (s : State) (m : MethodId) (args : Array Value) (below : List Frame) (meth : Method) (c : Code) (E : wg_Ev) (ad : Nat → Nat) (S : wg_Sh) (r0 : Int32) (C0 : wg_C) (M0 : wg_M) (pc : Nat) (C : wg_C) (M : wg_M) (lv : List (Nat × Value)) (st : List Value) : Prop := wg_G p l e (wg_Rm 2 44) s m args below meth c (MQ below (wg_Qi E ad S r0 C0 M0) args s 0 0 (wg_A E)) 4 E ad S 0 0 pc C M lv st
set_option maxHeartbeats 4000000 in
set_option maxRecDepth 100000 in
theorem L_X1_firstOut_l2 {p : Program} {l : Launch} {e : Env} {s : State} {m : MethodId} {args : Array Value} {below : List Frame} {meth : Method} {c : Code} {E : wg_Ev} {ad : Nat → Nat} {S : wg_Sh} (X : wg_X p s m args meth c cX1_firstOut 4 RX1 E) (hr : meth.sig.returnType = (some .int)) (hS : wg_SC S) (r0 : Int32) (M : wg_M) (N : Nat) (p0 : Nat) (hp0 : wg_id S p0 1) (C : wg_C)  (x2 : Int32)  : ∀ (n : Nat) (x3 : Int32) (o : ((Int32) ⊕ Int32)), lp (fun o => f_X1_firstOut_l2 N p0 C  x2 o) n x3 = some o → (∀ (y3 : Int32), o = Sum.inl y3 → G_X1_firstOut p l e s m args below meth c E ad S r0 C M 29 C M [(0, .ref (ad p0)), (2, .int x2), (3, .int y3)] []) → (∀ q : Int32, o = Sum.inr q → q = r0) → G_X1_firstOut p l e s m args below meth c E ad S r0 C M 2 C M [(0, .ref (ad p0)), (2, .int x2), (3, .int x3)] [] := by
  intro n
  induction n with
  | zero => exact fun _ o h => (lp_zero h).elim
  | succ n ih =>
    intro x3 o h K KR
    obtain ⟨o1, hb, h2⟩ := lp_some h
    replace hb : f_X1_firstOut_l2 N p0 C  x2 x3 = some o1 := hb
    clear h
    have Kc : ∀ (y3 : Int32), o1 = Sum.inl y3 → G_X1_firstOut p l e s m args below meth c E ad S r0 C M 2 C M [(0, .ref (ad p0)), (2, .int x2), (3, .int y3)] [] := fun y3 e1 => by
      subst e1
      exact ih y3 o h2 K KR
    have Ke : ∀ (y3 : Int32), o1 = Sum.inr (Sum.inl y3) → G_X1_firstOut p l e s m args below meth c E ad S r0 C M 29 C M [(0, .ref (ad p0)), (2, .int x2), (3, .int y3)] [] := fun y3 e1 => by
      subst e1
      exact K y3 (sm_inj (α := ((Int32) ⊕ Int32)) h2).symm
    have Kr : ∀ q : Int32, o1 = Sum.inr (Sum.inr q) → q = r0 := fun q e1 => by
      subst e1
      exact KR q (sm_inj (α := ((Int32) ⊕ Int32)) h2).symm
    clear ih K h2 KR
    unfold f_X1_firstOut_l2 at hb
    have h := hb
    clear hb
    refine wg_iload_n X 2 dX1_firstOut_2 rfl rfl ?_
    refine wg_bipush (v := 32) X dX1_firstOut_3 (by decide) ?_
    refine wg_icmp_ge X 29 dX1_firstOut_5 (by decide) (fun c1 => ?_) (fun c1 => ?_)
    · have h := if_t c1 h
      exact Ke x3 (sm_inj h).symm
    · have h := if_f c1 h
      refine wg_aload_n X 0 dX1_firstOut_8 rfl rfl ?_
      refine wg_iload_n X 2 dX1_firstOut_9 rfl rfl ?_
      refine wg_iload_n X 1 dX1_firstOut_10 rfl rfl ?_
      obtain ⟨r3, h2, h⟩ := bd_some h
      refine wg_callVi (As := [.int x3, .int x2]) (rest := []) X (c_X1_passes l E ad S hS C M p0 x3 x2 hp0 h2) T_yX1_passes k_666 cl1 hp0 dX1_firstOut_11 rfl rfl (Nat.le_of_ble_eq_true rfl) ⟨Nat.le_of_ble_eq_true rfl, Nat.le_of_ble_eq_true rfl⟩ ⟨Nat.zero_le _, Nat.zero_le _⟩ ?_
      refine wg_if_eq X 23 dX1_firstOut_14 (by decide) (fun c4 => ?_) (fun c4 => ?_)
      · have h := if_t c4 h
        obtain ⟨v5, e6, h⟩ := lt_some h
        refine wg_iinc (lv' := [(3, .int v5), (0, .ref (ad p0)), (2, .int x2)]) X 2 dX1_firstOut_23 rfl e6 (by decide) rfl ?_
        refine wg_goto X 2 dX1_firstOut_26 (by decide) ?_
        refine wg_pick [1, 2, 0] (lv' := [(0, .ref (ad p0)), (2, .int x2), (3, .int v5)]) rfl ?_
        exact Kc v5 (sm_inj h).symm
      · have h := if_f c4 h
        refine wg_aload_n X 0 dX1_firstOut_17 rfl rfl ?_
        refine wg_iload_n X 2 dX1_firstOut_18 rfl rfl ?_
        obtain ⟨r8, h7, h⟩ := bd_some h
        refine wg_callVi (As := [.int x3]) (rest := []) X (c_X1_on l E ad S hS C M p0 x3 hp0 h7) T_yX1_on k_565 cl1 hp0 dX1_firstOut_19 rfl rfl (Nat.le_of_ble_eq_true rfl) ⟨Nat.le_of_ble_eq_true rfl, Nat.le_of_ble_eq_true rfl⟩ ⟨Nat.zero_le _, Nat.zero_le _⟩ ?_
        have hq := Kr _ (sm_inj h).symm
        exact wg_iret X ⟨hq, rfl, rfl⟩ hr dX1_firstOut_22
set_option maxHeartbeats 4000000 in
set_option maxRecDepth 100000 in
theorem c_X1_firstOut (l : Launch) (E : wg_Ev) (ad : Nat → Nat) (S : wg_Sh) (hS : wg_SC S) (N : Nat) (C : wg_C) (M : wg_M) (p0 : Nat) (p1 : Int32) (p2 : Int32) (hp0 : wg_id S p0 1) {r0 : Int32} (h : f_X1_firstOut N C p0 p1 p2 = some r0) : wg_Ci l yX1_firstOut cX1_firstOut 4 (some .int) 2 44 E ad S C M [.ref (ad p0), .int p1, .int p2] r0 C M := by
  refine wg_start (own := RX1) (by decide +kernel) rfl (Nat.le_of_ble_eq_true rfl) ?_
  intro p e s m below meth c X hr hnm
  refine wg_lv (lv' := [(0, .ref (ad p0)), (1, .int p1), (2, .int p2)]) rfl ?_
  unfold f_X1_firstOut at h
  refine wg_iload_n X 1 dX1_firstOut_0 rfl rfl ?_
  refine wg_istore_n (lv' := [(3, .int p1), (0, .ref (ad p0)), (1, .int p1), (2, .int p2)]) X dX1_firstOut_1 rfl rfl (by decide) rfl ?_
  obtain ⟨o10, h11, h⟩ := bs1_o h
  refine wg_pick [1, 3, 0] (lv' := [(0, .ref (ad p0)), (2, .int p2), (3, .int p1)]) rfl ?_
  refine L_X1_firstOut_l2 X hr hS r0 M N p0 hp0 C  p2  N p1 o10 h11 (fun v9 e13 => ?_) (fun q12 e13 => ?_)
  · subst e13
    replace h := bs1_in h
    refine wg_bipush (v := 32) X dX1_firstOut_29 (by decide) ?_
    exact wg_iret X ⟨(sm_inj h), rfl, rfl⟩ hr dX1_firstOut_31
  · subst e13
    replace h := bs1_r h
    exact sm_inj h
-- WindowsGive$Walk.passAll(LWindowsGive$House;II)Z (('c', 35), ('c', 1), 'i', 'i')
def f_X7_passAll_l6 (N : Nat)  (x2 : Int32) (x3 : Int32) (C : wg_C) (x4 : Int32) (x5 : Int32) : Option ((wg_C × Int32 × Int32) ⊕ (wg_C × Int32 × Int32)) :=
  if (C 1 2) ≤ x5 then (
    some (.inr (C, x4, x5)))
  else (
    ck (inb x5 8) <|
    if ((x3 >>> (x5 &&& 31)) &&& (1 : Int32)) = 0 then (
      ck (inb (C (4 + x5.toNatClampNeg) 4) 6) <|
      bd (f_X1_firstOut N C (4 + x5.toNatClampNeg) (C 36 (C (4 + x5.toNatClampNeg) 4).toNatClampNeg) x2) fun r8 =>
      bd (f_X1_leads C (4 + x5.toNatClampNeg)) fun r10 =>
      ck (inb r10 6) <|
      if (C 36 r10.toNatClampNeg) ≤ r8 then (
        lt_ (x5 + (1 : Int32)) fun v13 =>
        some (.inl (C, x4, v13)))
      else (
        bd (f_X1_leads C (4 + x5.toNatClampNeg)) fun r16 =>
        ck (inb r16 6) <|
        lt_ (wg_up C 36 r16.toNatClampNeg r8) fun C18 =>
        lt_ (x5 + (1 : Int32)) fun v20 =>
        some (.inl (C18, (1 : Int32), v20))))
    else (
      lt_ (x5 + (1 : Int32)) fun v4 =>
      some (.inl (C, x4, v4))))
def f_X7_passAll (N : Nat) (C : wg_C) (p2 : Int32) (p3 : Int32) : Option (Int32 × wg_C) :=
  bd3 (lp (fun o => f_X7_passAll_l6 N  p2 p3 o.1 o.2.1 o.2.2) N (C, (0 : Int32), (0 : Int32))) fun C22 v23 v24 =>
  ck (v23 = 0 ∨ v23 = 1) <|
  some (v23, C22)
abbrev G_X7_passAll (p : Program) (l : Launch) (e : Env) (s : State) (m : MethodId) (args : Array Value) (below : List Frame) (meth : Method) (c : Code) (E : wg_Ev) (ad : Nat → Nat) (S : wg_Sh) (r0 : Int32) (C0 : wg_C) (M0 : wg_M) (pc : Nat) (C : wg_C) (M : wg_M) (lv : List (Nat × Value)) (st : List Value) : Prop := wg_G p l e (wg_Rm 3 67) s m args below meth c (MQ below (wg_Qi E ad S r0 C0 M0) args s 0 0 (wg_A E)) 8 E ad S 0 0 pc C M lv st
set_option maxHeartbeats 4000000 in
set_option maxRecDepth 100000 in
theorem L_X7_passAll_l6 {p : Program} {l : Launch} {e : Env} {s : State} {m : MethodId} {args : Array Value} {below : List Frame} {meth : Method} {c : Code} {E : wg_Ev} {ad : Nat → Nat} {S : wg_Sh} (X : wg_X p s m args meth c cX7_passAll 8 RX7 E) (hr : meth.sig.returnType = (some .boolean)) (hS : wg_SC S) (r0 : Int32) (D0 : wg_C) (M : wg_M) (N : Nat)   (x2 : Int32) (x3 : Int32)  : ∀ (n : Nat) (C : wg_C) (x4 : Int32) (x5 : Int32) (o : (wg_C × Int32 × Int32)), lp (fun o => f_X7_passAll_l6 N  x2 x3 o.1 o.2.1 o.2.2) n (C, x4, x5) = some o → (∀ (Dy : wg_C) (y4 : Int32) (y5 : Int32), o = (Dy, y4, y5) → G_X7_passAll p l e s m args below meth c E ad S r0 D0 M 87 Dy M [(0, .ref (ad 35)), (1, .ref (ad 1)), (2, .int x2), (3, .int x3), (4, .int y4), (5, .int y5)] []) → G_X7_passAll p l e s m args below meth c E ad S r0 D0 M 6 C M [(0, .ref (ad 35)), (1, .ref (ad 1)), (2, .int x2), (3, .int x3), (4, .int x4), (5, .int x5)] [] := by
  intro n
  induction n with
  | zero => exact fun _ _ _ o h => (lp_zero h).elim
  | succ n ih =>
    intro C x4 x5 o h K
    obtain ⟨o1, hb, h2⟩ := lp_some h
    replace hb : f_X7_passAll_l6 N  x2 x3 C x4 x5 = some o1 := hb
    clear h
    have Kc : ∀ (Dy : wg_C) (y4 : Int32) (y5 : Int32), o1 = Sum.inl (Dy, y4, y5) → G_X7_passAll p l e s m args below meth c E ad S r0 D0 M 6 Dy M [(0, .ref (ad 35)), (1, .ref (ad 1)), (2, .int x2), (3, .int x3), (4, .int y4), (5, .int y5)] [] := fun Dy y4 y5 e1 => by
      subst e1
      exact ih Dy y4 y5 o h2 K
    have Ke : ∀ (Dy : wg_C) (y4 : Int32) (y5 : Int32), o1 = Sum.inr ((Dy, y4, y5)) → G_X7_passAll p l e s m args below meth c E ad S r0 D0 M 87 Dy M [(0, .ref (ad 35)), (1, .ref (ad 1)), (2, .int x2), (3, .int x3), (4, .int y4), (5, .int y5)] [] := fun Dy y4 y5 e1 => by
      subst e1
      exact K Dy y4 y5 (sm_inj (α := (wg_C × Int32 × Int32)) h2).symm
    clear ih K h2
    unfold f_X7_passAll_l6 at hb
    have h := hb
    clear hb
    refine wg_iload X 5 dX7_passAll_6 rfl ?_
    refine wg_aload_n X 1 dX7_passAll_8 rfl rfl ?_
    refine wg_getC X cl0 (SCi hS 1 0 rfl) 2 (by decide) dX7_passAll_9 k_148 rfl ?_
    refine wg_icmp_ge X 87 dX7_passAll_12 (by decide) (fun c1 => ?_) (fun c1 => ?_)
    · have h := if_t c1 h
      exact Ke C x4 x5 (sm_inj h).symm
    · have h := if_f c1 h
      refine wg_aload_n X 1 dX7_passAll_15 rfl rfl ?_
      refine wg_getR (b := 3) X cl0 (SCi hS 1 0 rfl) 1 (by decide) dX7_passAll_16 k_145 rfl (SCr hS 1 1 3 rfl) ?_
      refine wg_iload X 5 dX7_passAll_19 rfl ?_
      obtain ⟨z2, h⟩ := ck_some h
      refine wg_aalS13 (b := 4 + x5.toNatClampNeg) X (SCi hS 3 13 rfl) (SCl hS 3 8 rfl) z2 (SCp hS (inb_lt z2)).1 dX7_passAll_21 ?_
      refine wg_astore (lv' := [(6, .ref (ad (4 + x5.toNatClampNeg))), (0, .ref (ad 35)), (1, .ref (ad 1)), (2, .int x2), (3, .int x3), (4, .int x4), (5, .int x5)]) X dX7_passAll_22 rfl (by decide) rfl ?_
      refine wg_iload_n X 4 dX7_passAll_24 rfl rfl ?_
      refine wg_iload X 6 dX7_passAll_25 rfl ?_
      refine wg_ishr X dX7_passAll_27 ?_
      refine wg_iconst (v := 1) X dX7_passAll_28 (by decide) ?_
      refine wg_iand X dX7_passAll_29 ?_
      refine wg_if_ne X 81 dX7_passAll_30 (by decide) (fun c3 => ?_) (fun c3 => ?_)
      · have h := if_f c3 h
        obtain ⟨v4, e5, h⟩ := lt_some h
        refine wg_iinc (lv' := [(5, .int v4), (6, .ref (ad (4 + x5.toNatClampNeg))), (0, .ref (ad 35)), (1, .ref (ad 1)), (2, .int x2), (3, .int x3), (4, .int x4)]) X 6 dX7_passAll_81 rfl e5 (by decide) rfl ?_
        refine wg_goto X 6 dX7_passAll_84 (by decide) ?_
        refine wg_pick [2, 3, 4, 5, 6, 0] (lv' := [(0, .ref (ad 35)), (1, .ref (ad 1)), (2, .int x2), (3, .int x3), (4, .int x4), (5, .int v4)]) rfl ?_
        exact Kc C x4 v4 (sm_inj h).symm
      · have h := if_t c3 h
        refine wg_aload X 0 dX7_passAll_33 rfl ?_
        refine wg_aload_n X 1 dX7_passAll_35 rfl rfl ?_
        refine wg_getR (b := 36) X cl7 (SCi hS 35 7 rfl) 0 (by decide) dX7_passAll_36 k_248 rfl (SCr hS 35 0 36 rfl) ?_
        refine wg_aload X 0 dX7_passAll_39 rfl ?_
        refine wg_getC X cl1 (SCp hS (inb_lt z2)).2.1 4 (by decide) dX7_passAll_41 k_123 rfl ?_
        obtain ⟨z6, h⟩ := ck_some h
        refine wg_iald X (SCi hS 36 10 rfl) (SCl hS 36 6 rfl) z6 dX7_passAll_44 ?_
        refine wg_iload_n X 3 dX7_passAll_45 rfl rfl ?_
        obtain ⟨r8, h7, h⟩ := bd_some h
        refine wg_callVi (As := [.int (C 36 (C (4 + x5.toNatClampNeg) 4).toNatClampNeg), .int x2]) (rest := []) X (c_X1_firstOut l E ad S hS N C M (4 + x5.toNatClampNeg) (C 36 (C (4 + x5.toNatClampNeg) 4).toNatClampNeg) x2 ((SCp hS (inb_lt z2)).2.1) h7) T_yX1_firstOut k_662 cl1 ((SCp hS (inb_lt z2)).2.1) dX7_passAll_46 rfl rfl (Nat.le_of_ble_eq_true rfl) ⟨Nat.le_of_ble_eq_true rfl, Nat.le_of_ble_eq_true rfl⟩ ⟨Nat.zero_le _, Nat.zero_le _⟩ ?_
        refine wg_istore (lv' := [(7, .int r8), (6, .ref (ad (4 + x5.toNatClampNeg))), (0, .ref (ad 35)), (1, .ref (ad 1)), (2, .int x2), (3, .int x3), (4, .int x4), (5, .int x5)]) X dX7_passAll_49 rfl (by decide) rfl ?_
        refine wg_iload X 0 dX7_passAll_51 rfl ?_
        refine wg_aload_n X 2 dX7_passAll_53 rfl rfl ?_
        refine wg_getR (b := 36) X cl7 (SCi hS 35 7 rfl) 0 (by decide) dX7_passAll_54 k_248 rfl (SCr hS 35 0 36 rfl) ?_
        refine wg_aload X 1 dX7_passAll_57 rfl ?_
        obtain ⟨r10, h9, h⟩ := bd_some h
        refine wg_callVi (As := []) (rest := [.ref (ad 36), .int r8]) X (c_X1_leads l E ad S hS C M (4 + x5.toNatClampNeg) ((SCp hS (inb_lt z2)).2.1) h9) T_yX1_leads k_643 cl1 ((SCp hS (inb_lt z2)).2.1) dX7_passAll_59 rfl rfl (Nat.le_of_ble_eq_true rfl) ⟨Nat.le_of_ble_eq_true rfl, Nat.le_of_ble_eq_true rfl⟩ ⟨Nat.zero_le _, Nat.zero_le _⟩ ?_
        obtain ⟨z11, h⟩ := ck_some h
        refine wg_iald X (SCi hS 36 10 rfl) (SCl hS 36 6 rfl) z11 dX7_passAll_62 ?_
        refine wg_icmp_ge X 81 dX7_passAll_63 (by decide) (fun c12 => ?_) (fun c12 => ?_)
        · have h := if_t c12 h
          obtain ⟨v13, e14, h⟩ := lt_some h
          refine wg_iinc (lv' := [(5, .int v13), (7, .int r8), (6, .ref (ad (4 + x5.toNatClampNeg))), (0, .ref (ad 35)), (1, .ref (ad 1)), (2, .int x2), (3, .int x3), (4, .int x4)]) X 7 dX7_passAll_81 rfl e14 (by decide) rfl ?_
          refine wg_goto X 6 dX7_passAll_84 (by decide) ?_
          refine wg_pick [3, 4, 5, 6, 7, 0] (lv' := [(0, .ref (ad 35)), (1, .ref (ad 1)), (2, .int x2), (3, .int x3), (4, .int x4), (5, .int v13)]) rfl ?_
          exact Kc C x4 v13 (sm_inj h).symm
        · have h := if_f c12 h
          refine wg_aload_n X 2 dX7_passAll_66 rfl rfl ?_
          refine wg_getR (b := 36) X cl7 (SCi hS 35 7 rfl) 0 (by decide) dX7_passAll_67 k_248 rfl (SCr hS 35 0 36 rfl) ?_
          refine wg_aload X 1 dX7_passAll_70 rfl ?_
          obtain ⟨r16, h15, h⟩ := bd_some h
          refine wg_callVi (As := []) (rest := [.ref (ad 36)]) X (c_X1_leads l E ad S hS C M (4 + x5.toNatClampNeg) ((SCp hS (inb_lt z2)).2.1) h15) T_yX1_leads k_643 cl1 ((SCp hS (inb_lt z2)).2.1) dX7_passAll_72 rfl rfl (Nat.le_of_ble_eq_true rfl) ⟨Nat.le_of_ble_eq_true rfl, Nat.le_of_ble_eq_true rfl⟩ ⟨Nat.zero_le _, Nat.zero_le _⟩ ?_
          refine wg_iload X 0 dX7_passAll_75 rfl ?_
          obtain ⟨z17, h⟩ := ck_some h
          obtain ⟨C18, e19, h⟩ := lt_some h
          refine wg_iaste X (SCi hS 36 10 rfl) (SCl hS 36 6 rfl) z17 dX7_passAll_77 e19 ?_
          refine wg_iconst (v := 1) X dX7_passAll_78 (by decide) ?_
          refine wg_istore (lv' := [(4, .int (1 : Int32)), (7, .int r8), (6, .ref (ad (4 + x5.toNatClampNeg))), (0, .ref (ad 35)), (1, .ref (ad 1)), (2, .int x2), (3, .int x3), (5, .int x5)]) X dX7_passAll_79 rfl (by decide) rfl ?_
          obtain ⟨v20, e21, h⟩ := lt_some h
          refine wg_iinc (lv' := [(5, .int v20), (4, .int (1 : Int32)), (7, .int r8), (6, .ref (ad (4 + x5.toNatClampNeg))), (0, .ref (ad 35)), (1, .ref (ad 1)), (2, .int x2), (3, .int x3)]) X 7 dX7_passAll_81 rfl e21 (by decide) rfl ?_
          refine wg_goto X 6 dX7_passAll_84 (by decide) ?_
          refine wg_pick [4, 5, 6, 7, 1, 0] (lv' := [(0, .ref (ad 35)), (1, .ref (ad 1)), (2, .int x2), (3, .int x3), (4, .int (1 : Int32)), (5, .int v20)]) rfl ?_
          exact Kc C18 (1 : Int32) v20 (sm_inj h).symm
set_option maxHeartbeats 4000000 in
set_option maxRecDepth 100000 in
theorem c_X7_passAll (l : Launch) (E : wg_Ev) (ad : Nat → Nat) (S : wg_Sh) (hS : wg_SC S) (N : Nat) (C : wg_C) (M : wg_M) (p2 : Int32) (p3 : Int32)  {r0 : Int32} {D0 : wg_C} (h : f_X7_passAll N C p2 p3 = some (r0, D0)) : wg_Ci l yX7_passAll cX7_passAll 8 (some .boolean) 3 67 E ad S C M [.ref (ad 35), .ref (ad 1), .int p2, .int p3] r0 D0 M := by
  refine wg_start (own := RX7) (by decide +kernel) rfl (Nat.le_of_ble_eq_true rfl) ?_
  intro p e s m below meth c X hr hnm
  refine wg_lv (lv' := [(0, .ref (ad 35)), (1, .ref (ad 1)), (2, .int p2), (3, .int p3)]) rfl ?_
  unfold f_X7_passAll at h
  refine wg_iconst (v := 0) X dX7_passAll_0 (by decide) ?_
  refine wg_istore (lv' := [(4, .int (0 : Int32)), (0, .ref (ad 35)), (1, .ref (ad 1)), (2, .int p2), (3, .int p3)]) X dX7_passAll_1 rfl (by decide) rfl ?_
  refine wg_iconst (v := 0) X dX7_passAll_3 (by decide) ?_
  refine wg_istore (lv' := [(5, .int (0 : Int32)), (4, .int (0 : Int32)), (0, .ref (ad 35)), (1, .ref (ad 1)), (2, .int p2), (3, .int p3)]) X dX7_passAll_4 rfl (by decide) rfl ?_
  obtain ⟨o25, h26, h⟩ := bd3_o h
  refine wg_pick [2, 3, 4, 5, 1, 0] (lv' := [(0, .ref (ad 35)), (1, .ref (ad 1)), (2, .int p2), (3, .int p3), (4, .int (0 : Int32)), (5, .int (0 : Int32))]) rfl ?_
  refine L_X7_passAll_l6 X hr hS r0 D0 M N   p2 p3  N C (0 : Int32) (0 : Int32) o25 h26 (fun C22 v23 v24 e28 => ?_)
  · subst e28
    replace h := bd3_in h
    refine wg_iload X 4 dX7_passAll_87 rfl ?_
    obtain ⟨z29, h⟩ := ck_some h
    exact wg_zret X ⟨congrArg Prod.fst (sm_inj h), congrArg Prod.snd (sm_inj h), rfl⟩ hr z29 dX7_passAll_89
-- WindowsGive$Walk.reach(LWindowsGive$House;III)V (('c', 35), ('c', 1), 'i', 'i', 'i')
def f_X7_reach_l28 (N : Nat)  (x3 : Int32) (x4 : Int32) (C : wg_C) (x5 : Int32) (x6 : Int32) : Option ((wg_C × Int32 × Int32) ⊕ (wg_C × Int32 × Int32)) :=
  if (192 : Int32) < x6 then (
    some (.inr (C, x5, x6)))
  else (
    if x5 = 0 then (
      some (.inr (C, x5, x6)))
    else (
      bd2 (f_X7_passAll N C x3 x4) fun r9 C10 =>
      lt_ (x6 + (1 : Int32)) fun v11 =>
      some (.inl (C10, r9, v11))))
def f_X7_reach (N : Nat) (C : wg_C) (p2 : Int32) (p3 : Int32) (p4 : Int32) : Option wg_C :=
  bd (f_J7_fill_53178 N C 36 6 (32 : Int32)) fun C2 =>
  ck (inb (p2 / (32 : Int32)) 6) <|
  lt_ (wg_up C2 36 (p2 / (32 : Int32)).toNatClampNeg (p2 - p2 / (32 : Int32) * (32 : Int32))) fun C4 =>
  bd3 (lp (fun o => f_X7_reach_l28 N  p3 p4 o.1 o.2.1 o.2.2) N (C4, (1 : Int32), (0 : Int32))) fun C13 v14 v15 =>
  some C13
abbrev G_X7_reach (p : Program) (l : Launch) (e : Env) (s : State) (m : MethodId) (args : Array Value) (below : List Frame) (meth : Method) (c : Code) (E : wg_Ev) (ad : Nat → Nat) (S : wg_Sh) (C0 : wg_C) (M0 : wg_M) (pc : Nat) (C : wg_C) (M : wg_M) (lv : List (Nat × Value)) (st : List Value) : Prop := wg_G p l e (wg_Rm 4 94) s m args below meth c (MQ below (wg_Qv E ad S C0 M0) args s 0 0 (wg_A E)) 7 E ad S 0 0 pc C M lv st
set_option maxHeartbeats 4000000 in
set_option maxRecDepth 100000 in
theorem L_X7_reach_l28 {p : Program} {l : Launch} {e : Env} {s : State} {m : MethodId} {args : Array Value} {below : List Frame} {meth : Method} {c : Code} {E : wg_Ev} {ad : Nat → Nat} {S : wg_Sh} (X : wg_X p s m args meth c cX7_reach 7 RX7 E) (hr : meth.sig.returnType = none) (hS : wg_SC S) (D0 : wg_C) (M : wg_M) (N : Nat)   (x3 : Int32) (x4 : Int32)  : ∀ (n : Nat) (C : wg_C) (x5 : Int32) (x6 : Int32) (o : (wg_C × Int32 × Int32)), lp (fun o => f_X7_reach_l28 N  x3 x4 o.1 o.2.1 o.2.2) n (C, x5, x6) = some o → (∀ (Dy : wg_C) (y5 : Int32) (y6 : Int32), o = (Dy, y5, y6) → G_X7_reach p l e s m args below meth c E ad S D0 M 57 Dy M [(0, .ref (ad 35)), (1, .ref (ad 1)), (3, .int x3), (4, .int x4), (5, .int y5), (6, .int y6)] []) → G_X7_reach p l e s m args below meth c E ad S D0 M 28 C M [(0, .ref (ad 35)), (1, .ref (ad 1)), (3, .int x3), (4, .int x4), (5, .int x5), (6, .int x6)] [] := by
  intro n
  induction n with
  | zero => exact fun _ _ _ o h => (lp_zero h).elim
  | succ n ih =>
    intro C x5 x6 o h K
    obtain ⟨o1, hb, h2⟩ := lp_some h
    replace hb : f_X7_reach_l28 N  x3 x4 C x5 x6 = some o1 := hb
    clear h
    have Kc : ∀ (Dy : wg_C) (y5 : Int32) (y6 : Int32), o1 = Sum.inl (Dy, y5, y6) → G_X7_reach p l e s m args below meth c E ad S D0 M 28 Dy M [(0, .ref (ad 35)), (1, .ref (ad 1)), (3, .int x3), (4, .int x4), (5, .int y5), (6, .int y6)] [] := fun Dy y5 y6 e1 => by
      subst e1
      exact ih Dy y5 y6 o h2 K
    have Ke : ∀ (Dy : wg_C) (y5 : Int32) (y6 : Int32), o1 = Sum.inr ((Dy, y5, y6)) → G_X7_reach p l e s m args below meth c E ad S D0 M 57 Dy M [(0, .ref (ad 35)), (1, .ref (ad 1)), (3, .int x3), (4, .int x4), (5, .int y5), (6, .int y6)] [] := fun Dy y5 y6 e1 => by
      subst e1
      exact K Dy y5 y6 (sm_inj (α := (wg_C × Int32 × Int32)) h2).symm
    clear ih K h2
    unfold f_X7_reach_l28 at hb
    have h := hb
    clear hb
    refine wg_iload X 5 dX7_reach_28 rfl ?_
    refine wg_sipush (v := 192) X dX7_reach_30 (by decide) ?_
    refine wg_icmp_gt X 57 dX7_reach_33 (by decide) (fun c6 => ?_) (fun c6 => ?_)
    · have h := if_t c6 h
      exact Ke C x5 x6 (sm_inj h).symm
    · have h := if_f c6 h
      refine wg_iload X 4 dX7_reach_36 rfl ?_
      refine wg_if_eq X 57 dX7_reach_38 (by decide) (fun c7 => ?_) (fun c7 => ?_)
      · have h := if_t c7 h
        exact Ke C x5 x6 (sm_inj h).symm
      · have h := if_f c7 h
        refine wg_aload_n X 0 dX7_reach_41 rfl rfl ?_
        refine wg_aload_n X 1 dX7_reach_42 rfl rfl ?_
        refine wg_iload_n X 2 dX7_reach_43 rfl rfl ?_
        refine wg_iload X 3 dX7_reach_44 rfl ?_
        obtain ⟨r9, C10, h8, h⟩ := bd2_some h
        refine wg_callVi (As := [.ref (ad 1), .int x3, .int x4]) (rest := []) X (c_X7_passAll l E ad S hS N C M x3 x4  h8) T_yX7_passAll k_658 cl7 (SCi hS 35 7 rfl) dX7_reach_46 rfl rfl (Nat.le_of_ble_eq_true rfl) ⟨Nat.le_of_ble_eq_true rfl, Nat.le_of_ble_eq_true rfl⟩ ⟨Nat.zero_le _, Nat.zero_le _⟩ ?_
        refine wg_istore (lv' := [(5, .int r9), (0, .ref (ad 35)), (1, .ref (ad 1)), (3, .int x3), (4, .int x4), (6, .int x6)]) X dX7_reach_49 rfl (by decide) rfl ?_
        obtain ⟨v11, e12, h⟩ := lt_some h
        refine wg_iinc (lv' := [(6, .int v11), (5, .int r9), (0, .ref (ad 35)), (1, .ref (ad 1)), (3, .int x3), (4, .int x4)]) X 5 dX7_reach_51 rfl e12 (by decide) rfl ?_
        refine wg_goto X 28 dX7_reach_54 (by decide) ?_
        refine wg_pick [2, 3, 4, 5, 1, 0] (lv' := [(0, .ref (ad 35)), (1, .ref (ad 1)), (3, .int x3), (4, .int x4), (5, .int r9), (6, .int v11)]) rfl ?_
        exact Kc C10 r9 v11 (sm_inj h).symm
set_option maxHeartbeats 4000000 in
set_option maxRecDepth 100000 in
theorem c_X7_reach (l : Launch) (E : wg_Ev) (ad : Nat → Nat) (S : wg_Sh) (hS : wg_SC S) (N : Nat) (C : wg_C) (M : wg_M) (p2 : Int32) (p3 : Int32) (p4 : Int32)  {D0 : wg_C} (h : f_X7_reach N C p2 p3 p4 = some D0) : wg_Cv l yX7_reach cX7_reach 7 none 4 94 E ad S C M [.ref (ad 35), .ref (ad 1), .int p2, .int p3, .int p4] D0 M := by
  refine wg_start (own := RX7) (by decide +kernel) rfl (Nat.le_of_ble_eq_true rfl) ?_
  intro p e s m below meth c X hr hnm
  refine wg_lv (lv' := [(0, .ref (ad 35)), (1, .ref (ad 1)), (2, .int p2), (3, .int p3), (4, .int p4)]) rfl ?_
  unfold f_X7_reach at h
  refine wg_aload_n X 0 dX7_reach_0 rfl rfl ?_
  refine wg_getR (b := 36) X cl7 (SCi hS 35 7 rfl) 0 (by decide) dX7_reach_1 k_248 rfl (SCr hS 35 0 36 rfl) ?_
  refine wg_bipush (v := 32) X dX7_reach_4 (by decide) ?_
  obtain ⟨C2, h1, h⟩ := bd_some h
  refine wg_callSv (As := [.ref (ad 36), .int (32 : Int32)]) (rest := []) X (c_J7_fill_53178 l E ad S hS N C M 36 6 (32 : Int32) ⟨(SCi hS 36 10 rfl), (SCl hS 36 6 rfl)⟩ h1) T_yJ7_fill_53178 k_595 dX7_reach_6 rfl rfl (Nat.le_of_ble_eq_true rfl) ⟨Nat.le_of_ble_eq_true rfl, Nat.le_of_ble_eq_true rfl⟩ ⟨Nat.zero_le _, Nat.zero_le _⟩ ?_
  refine wg_aload_n X 0 dX7_reach_9 rfl rfl ?_
  refine wg_getR (b := 36) X cl7 (SCi hS 35 7 rfl) 0 (by decide) dX7_reach_10 k_248 rfl (SCr hS 35 0 36 rfl) ?_
  refine wg_iload_n X 2 dX7_reach_13 rfl rfl ?_
  refine wg_bipush (v := 32) X dX7_reach_14 (by decide) ?_
  refine wg_idiv X dX7_reach_16 (by decide) ?_
  refine wg_iload_n X 2 dX7_reach_17 rfl rfl ?_
  refine wg_bipush (v := 32) X dX7_reach_18 (by decide) ?_
  refine wg_irem X dX7_reach_20 (by decide) ?_
  obtain ⟨z3, h⟩ := ck_some h
  obtain ⟨C4, e5, h⟩ := lt_some h
  refine wg_iaste X (SCi hS 36 10 rfl) (SCl hS 36 6 rfl) z3 dX7_reach_21 e5 ?_
  refine wg_iconst (v := 1) X dX7_reach_22 (by decide) ?_
  refine wg_istore (lv' := [(5, .int (1 : Int32)), (0, .ref (ad 35)), (1, .ref (ad 1)), (2, .int p2), (3, .int p3), (4, .int p4)]) X dX7_reach_23 rfl (by decide) rfl ?_
  refine wg_iconst (v := 0) X dX7_reach_25 (by decide) ?_
  refine wg_istore (lv' := [(6, .int (0 : Int32)), (5, .int (1 : Int32)), (0, .ref (ad 35)), (1, .ref (ad 1)), (2, .int p2), (3, .int p3), (4, .int p4)]) X dX7_reach_26 rfl (by decide) rfl ?_
  obtain ⟨o16, h17, h⟩ := bd3_o h
  refine wg_pick [2, 3, 5, 6, 1, 0] (lv' := [(0, .ref (ad 35)), (1, .ref (ad 1)), (3, .int p3), (4, .int p4), (5, .int (1 : Int32)), (6, .int (0 : Int32))]) rfl ?_
  refine L_X7_reach_l28 X hr hS D0 M N   p3 p4  N C4 (1 : Int32) (0 : Int32) o16 h17 (fun C13 v14 v15 e19 => ?_)
  · subst e19
    replace h := bd3_in h
    exact wg_vret X ⟨(sm_inj h), rfl⟩ hr dX7_reach_57
-- WindowsGive.earliest(III)I (('c', 0), 'i', 'i', 'i')
def f_X8_earliest (N : Nat) (C : wg_C) (p1 : Int32) (p2 : Int32) (p3 : Int32) : Option (Int32 × wg_C) :=
  bd (f_X8_isSpot p1) fun r2 =>
  if r2 = 0 then (
    some ((-2 : Int32), C))
  else (
    bd (f_X8_isRoom p2) fun r5 =>
    if r5 = 0 then (
      some ((-2 : Int32), C))
    else (
      bd (f_X8_isSort p3) fun r8 =>
      if r8 = 0 then (
        some ((-2 : Int32), C))
      else (
        bd (f_X7_reach N C p1 p3 (0 : Int32)) fun C11 =>
        ck (inb p2 6) <|
        if (32 : Int32) ≤ (C11 36 p2.toNatClampNeg) then (
          some ((-1 : Int32), C11))
        else (
          ck (inb p2 6) <|
          some ((C11 36 p2.toNatClampNeg), C11)))))
set_option maxHeartbeats 4000000 in
set_option maxRecDepth 100000 in
theorem c_X8_earliest (l : Launch) (E : wg_Ev) (ad : Nat → Nat) (S : wg_Sh) (hS : wg_SC S) (N : Nat) (C : wg_C) (M : wg_M) (p1 : Int32) (p2 : Int32) (p3 : Int32)  {r0 : Int32} {D0 : wg_C} (h : f_X8_earliest N C p1 p2 p3 = some (r0, D0)) : wg_Ci l yX8_earliest cX8_earliest 4 (some .int) 5 120 E ad S C M [.ref (ad 0), .int p1, .int p2, .int p3] r0 D0 M := by
  refine wg_start (own := RX8) (by decide +kernel) rfl (Nat.le_of_ble_eq_true rfl) ?_
  intro p e s m below meth c X hr hnm
  refine wg_lv (lv' := [(0, .ref (ad 0)), (1, .int p1), (2, .int p2), (3, .int p3)]) rfl ?_
  unfold f_X8_earliest at h
  refine wg_iload_n X 1 dX8_earliest_0 rfl rfl ?_
  obtain ⟨r2, h1, h⟩ := bd_some h
  refine wg_callSi (As := [.int p1]) (rest := []) X (c_X8_isSpot l E ad S C M p1  h1) T_yX8_isSpot k_587 dX8_earliest_1 rfl rfl (Nat.le_of_ble_eq_true rfl) ⟨Nat.le_of_ble_eq_true rfl, Nat.le_of_ble_eq_true rfl⟩ ⟨Nat.zero_le _, Nat.zero_le _⟩ ?_
  refine wg_if_eq X 21 dX8_earliest_4 (by decide) (fun c3 => ?_) (fun c3 => ?_)
  · have h := if_t c3 h
    refine wg_bipush (v := -2) X dX8_earliest_21 (by decide) ?_
    exact wg_iret X ⟨congrArg Prod.fst (sm_inj h), congrArg Prod.snd (sm_inj h), rfl⟩ hr dX8_earliest_23
  · have h := if_f c3 h
    refine wg_iload_n X 2 dX8_earliest_7 rfl rfl ?_
    obtain ⟨r5, h4, h⟩ := bd_some h
    refine wg_callSi (As := [.int p2]) (rest := []) X (c_X8_isRoom l E ad S C M p2  h4) T_yX8_isRoom k_535 dX8_earliest_8 rfl rfl (Nat.le_of_ble_eq_true rfl) ⟨Nat.le_of_ble_eq_true rfl, Nat.le_of_ble_eq_true rfl⟩ ⟨Nat.zero_le _, Nat.zero_le _⟩ ?_
    refine wg_if_eq X 21 dX8_earliest_11 (by decide) (fun c6 => ?_) (fun c6 => ?_)
    · have h := if_t c6 h
      refine wg_bipush (v := -2) X dX8_earliest_21 (by decide) ?_
      exact wg_iret X ⟨congrArg Prod.fst (sm_inj h), congrArg Prod.snd (sm_inj h), rfl⟩ hr dX8_earliest_23
    · have h := if_f c6 h
      refine wg_iload_n X 3 dX8_earliest_14 rfl rfl ?_
      obtain ⟨r8, h7, h⟩ := bd_some h
      refine wg_callSi (As := [.int p3]) (rest := []) X (c_X8_isSort l E ad S C M p3  h7) T_yX8_isSort k_554 dX8_earliest_15 rfl rfl (Nat.le_of_ble_eq_true rfl) ⟨Nat.le_of_ble_eq_true rfl, Nat.le_of_ble_eq_true rfl⟩ ⟨Nat.zero_le _, Nat.zero_le _⟩ ?_
      refine wg_if_ne X 24 dX8_earliest_18 (by decide) (fun c9 => ?_) (fun c9 => ?_)
      · have h := if_f c9 h
        refine wg_aload_n X 0 dX8_earliest_24 rfl rfl ?_
        refine wg_getR (b := 35) X cl8 (SCi hS 0 8 rfl) 6 (by decide) dX8_earliest_25 k_478 rfl (SCr hS 0 6 35 rfl) ?_
        refine wg_aload_n X 0 dX8_earliest_28 rfl rfl ?_
        refine wg_getR (b := 1) X cl8 (SCi hS 0 8 rfl) 0 (by decide) dX8_earliest_29 k_472 rfl (SCr hS 0 0 1 rfl) ?_
        refine wg_iload_n X 1 dX8_earliest_32 rfl rfl ?_
        refine wg_iload_n X 3 dX8_earliest_33 rfl rfl ?_
        refine wg_iconst (v := 0) X dX8_earliest_34 (by decide) ?_
        obtain ⟨C11, h10, h⟩ := bd_some h
        refine wg_callVv (As := [.ref (ad 1), .int p1, .int p3, .int (0 : Int32)]) (rest := []) X (c_X7_reach l E ad S hS N C M p1 p3 (0 : Int32)  h10) T_yX7_reach k_654 cl7 (SCi hS 35 7 rfl) dX8_earliest_35 rfl rfl (Nat.le_of_ble_eq_true rfl) ⟨Nat.le_of_ble_eq_true rfl, Nat.le_of_ble_eq_true rfl⟩ ⟨Nat.zero_le _, Nat.zero_le _⟩ ?_
        refine wg_aload_n X 0 dX8_earliest_38 rfl rfl ?_
        refine wg_getR (b := 35) X cl8 (SCi hS 0 8 rfl) 6 (by decide) dX8_earliest_39 k_478 rfl (SCr hS 0 6 35 rfl) ?_
        refine wg_getR (b := 36) X cl7 (SCi hS 35 7 rfl) 0 (by decide) dX8_earliest_42 k_249 rfl (SCr hS 35 0 36 rfl) ?_
        refine wg_iload_n X 2 dX8_earliest_45 rfl rfl ?_
        obtain ⟨z12, h⟩ := ck_some h
        refine wg_iald X (SCi hS 36 10 rfl) (SCl hS 36 6 rfl) z12 dX8_earliest_46 ?_
        refine wg_bipush (v := 32) X dX8_earliest_47 (by decide) ?_
        refine wg_icmp_ge X 64 dX8_earliest_49 (by decide) (fun c13 => ?_) (fun c13 => ?_)
        · have h := if_t c13 h
          refine wg_iconst (v := -1) X dX8_earliest_64 (by decide) ?_
          exact wg_iret X ⟨congrArg Prod.fst (sm_inj h), congrArg Prod.snd (sm_inj h), rfl⟩ hr dX8_earliest_65
        · have h := if_f c13 h
          refine wg_aload_n X 0 dX8_earliest_52 rfl rfl ?_
          refine wg_getR (b := 35) X cl8 (SCi hS 0 8 rfl) 6 (by decide) dX8_earliest_53 k_478 rfl (SCr hS 0 6 35 rfl) ?_
          refine wg_getR (b := 36) X cl7 (SCi hS 35 7 rfl) 0 (by decide) dX8_earliest_56 k_249 rfl (SCr hS 35 0 36 rfl) ?_
          refine wg_iload_n X 2 dX8_earliest_59 rfl rfl ?_
          obtain ⟨z14, h⟩ := ck_some h
          refine wg_iald X (SCi hS 36 10 rfl) (SCl hS 36 6 rfl) z14 dX8_earliest_60 ?_
          refine wg_goto X 65 dX8_earliest_61 (by decide) ?_
          exact wg_iret X ⟨congrArg Prod.fst (sm_inj h), congrArg Prod.snd (sm_inj h), rfl⟩ hr dX8_earliest_65
      · have h := if_t c9 h
        refine wg_bipush (v := -2) X dX8_earliest_21 (by decide) ?_
        exact wg_iret X ⟨congrArg Prod.fst (sm_inj h), congrArg Prod.snd (sm_inj h), rfl⟩ hr dX8_earliest_23
-- WindowsGive$Walk.fewestBackTo(LWindowsGive$House;II)I (('c', 35), ('c', 1), 'i', 'i')
def f_X7_fewestBackTo_l62 (N : Nat) (C : wg_C)  (x2 : Int32) (x3 : Int32) (x5 : Int32) (x6 : Nat) (x4 : Int32) (x7 : Int32) : Option ((Int32 × Int32) ⊕ (Int32 × Int32)) :=
  if (32 : Int32) ≤ x7 then (
    some (.inr (x4, x7)))
  else (
    ck (inb (((C x6 4) * (32 : Int32)) + x7) 192) <|
    lt_ (C 37 (((C x6 4) * (32 : Int32)) + x7).toNatClampNeg) fun v6 =>
    if (1000000000 : Int32) ≤ v6 then (
      lt_ (x7 + (1 : Int32)) fun v9 =>
      some (.inl (x4, v9)))
    else (
      bd (f_X1_passes C x6 x7 x3) fun r12 =>
      if r12 = 0 then (
        lt_ (x7 + (1 : Int32)) fun v14 =>
        some (.inl (x4, v14)))
      else (
        bd (f_X1_leads C x6) fun r17 =>
        bd (f_X1_on C x6 x7) fun r19 =>
        if ((r17 * (32 : Int32)) + r19) = x2 then (
          bd (f_J9_min_7cf53 x4 ((v6 / (1000 : Int32)) + (1 : Int32))) fun r24 =>
          lt_ (x7 + (1 : Int32)) fun v25 =>
          some (.inl (r24, v25)))
        else (
          lt_ (x7 + (1 : Int32)) fun v21 =>
          some (.inl (x4, v21))))))
def f_X7_fewestBackTo_l41 (N : Nat) (C : wg_C)  (x2 : Int32) (x3 : Int32) (x4 : Int32) (x5 : Int32) : Option ((Int32 × Int32) ⊕ (Int32 × Int32)) :=
  if (C 1 2) ≤ x5 then (
    some (.inr (x4, x5)))
  else (
    ck (inb x5 8) <|
    bd2 (lp (fun o => f_X7_fewestBackTo_l62 N C  x2 x3 x5 (4 + x5.toNatClampNeg) o.1 o.2) N (x4, (0 : Int32))) fun v27 v28 =>
    lt_ (x5 + (1 : Int32)) fun v33 =>
    some (.inl (v27, v33)))
def f_X7_fewestBackTo_j38 (N : Nat) (C : wg_C)  (x2 : Int32) (x3 : Int32) (x4 : Int32) : Option Int32 :=
  bd2 (lp (fun o => f_X7_fewestBackTo_l41 N C  x2 x3 o.1 o.2) N (x4, (0 : Int32))) fun v35 v36 =>
  some v35
def f_X7_fewestBackTo (N : Nat) (C : wg_C) (p2 : Int32) (p3 : Int32) : Option Int32 :=
  if (p2 - p2 / (32 : Int32) * (32 : Int32)) ≤ 0 then (
    f_X7_fewestBackTo_j38 N C  p2 p3 (1000000000 : Int32))
  else (
    ck (inb (p2 - (1 : Int32)) 192) <|
    if (1000000000 : Int32) ≤ (C 37 (p2 - (1 : Int32)).toNatClampNeg) then (
      f_X7_fewestBackTo_j38 N C  p2 p3 (1000000000 : Int32))
    else (
      ck (inb (p2 - (1 : Int32)) 192) <|
      lt_ ((C 37 (p2 - (1 : Int32)).toNatClampNeg) / (1000 : Int32)) fun v44 =>
      f_X7_fewestBackTo_j38 N C  p2 p3 v44))
abbrev G_X7_fewestBackTo (p : Program) (l : Launch) (e : Env) (s : State) (m : MethodId) (args : Array Value) (below : List Frame) (meth : Method) (c : Code) (E : wg_Ev) (ad : Nat → Nat) (S : wg_Sh) (r0 : Int32) (C0 : wg_C) (M0 : wg_M) (pc : Nat) (C : wg_C) (M : wg_M) (lv : List (Nat × Value)) (st : List Value) : Prop := wg_G p l e (wg_Rm 2 44) s m args below meth c (MQ below (wg_Qi E ad S r0 C0 M0) args s 0 0 (wg_A E)) 9 E ad S 0 0 pc C M lv st
set_option maxHeartbeats 4000000 in
set_option maxRecDepth 100000 in
theorem L_X7_fewestBackTo_l62 {p : Program} {l : Launch} {e : Env} {s : State} {m : MethodId} {args : Array Value} {below : List Frame} {meth : Method} {c : Code} {E : wg_Ev} {ad : Nat → Nat} {S : wg_Sh} (X : wg_X p s m args meth c cX7_fewestBackTo 9 RX7 E) (hr : meth.sig.returnType = (some .int)) (hS : wg_SC S) (r0 : Int32) (M : wg_M) (N : Nat)  (C : wg_C)  (x2 : Int32) (x3 : Int32) (x5 : Int32) (x6 : Nat) (hx6 : wg_id S x6 1) : ∀ (n : Nat) (x4 : Int32) (x7 : Int32) (o : (Int32 × Int32)), lp (fun o => f_X7_fewestBackTo_l62 N C  x2 x3 x5 x6 o.1 o.2) n (x4, x7) = some o → (∀ (y4 : Int32) (y7 : Int32), o = (y4, y7) → G_X7_fewestBackTo p l e s m args below meth c E ad S r0 C M 146 C M [(0, .ref (ad 35)), (1, .ref (ad 1)), (2, .int x2), (3, .int x3), (4, .int y4), (5, .int x5), (6, .ref (ad x6)), (7, .int y7)] []) → G_X7_fewestBackTo p l e s m args below meth c E ad S r0 C M 62 C M [(0, .ref (ad 35)), (1, .ref (ad 1)), (2, .int x2), (3, .int x3), (4, .int x4), (5, .int x5), (6, .ref (ad x6)), (7, .int x7)] [] := by
  intro n
  induction n with
  | zero => exact fun _ _ o h => (lp_zero h).elim
  | succ n ih =>
    intro x4 x7 o h K
    obtain ⟨o1, hb, h2⟩ := lp_some h
    replace hb : f_X7_fewestBackTo_l62 N C  x2 x3 x5 x6 x4 x7 = some o1 := hb
    clear h
    have Kc : ∀ (y4 : Int32) (y7 : Int32), o1 = Sum.inl (y4, y7) → G_X7_fewestBackTo p l e s m args below meth c E ad S r0 C M 62 C M [(0, .ref (ad 35)), (1, .ref (ad 1)), (2, .int x2), (3, .int x3), (4, .int y4), (5, .int x5), (6, .ref (ad x6)), (7, .int y7)] [] := fun y4 y7 e1 => by
      subst e1
      exact ih y4 y7 o h2 K
    have Ke : ∀ (y4 : Int32) (y7 : Int32), o1 = Sum.inr ((y4, y7)) → G_X7_fewestBackTo p l e s m args below meth c E ad S r0 C M 146 C M [(0, .ref (ad 35)), (1, .ref (ad 1)), (2, .int x2), (3, .int x3), (4, .int y4), (5, .int x5), (6, .ref (ad x6)), (7, .int y7)] [] := fun y4 y7 e1 => by
      subst e1
      exact K y4 y7 (sm_inj (α := (Int32 × Int32)) h2).symm
    clear ih K h2
    unfold f_X7_fewestBackTo_l62 at hb
    have h := hb
    clear hb
    refine wg_iload X 7 dX7_fewestBackTo_62 rfl ?_
    refine wg_bipush (v := 32) X dX7_fewestBackTo_64 (by decide) ?_
    refine wg_icmp_ge X 146 dX7_fewestBackTo_66 (by decide) (fun c4 => ?_) (fun c4 => ?_)
    · have h := if_t c4 h
      exact Ke x4 x7 (sm_inj h).symm
    · have h := if_f c4 h
      refine wg_aload_n X 0 dX7_fewestBackTo_69 rfl rfl ?_
      refine wg_getR (b := 37) X cl7 (SCi hS 35 7 rfl) 1 (by decide) dX7_fewestBackTo_70 k_250 rfl (SCr hS 35 1 37 rfl) ?_
      refine wg_aload X 6 dX7_fewestBackTo_73 rfl ?_
      refine wg_getC X cl1 hx6 4 (by decide) dX7_fewestBackTo_75 k_123 rfl ?_
      refine wg_bipush (v := 32) X dX7_fewestBackTo_78 (by decide) ?_
      refine wg_imul X dX7_fewestBackTo_80 ?_
      refine wg_iload X 7 dX7_fewestBackTo_81 rfl ?_
      refine wg_iadd X dX7_fewestBackTo_83 ?_
      obtain ⟨z5, h⟩ := ck_some h
      refine wg_iald X (SCi hS 37 10 rfl) (SCl hS 37 192 rfl) z5 dX7_fewestBackTo_84 ?_
      obtain ⟨v6, e7, h⟩ := lt_some h
      refine wg_istore (lv' := [(8, .int v6), (0, .ref (ad 35)), (1, .ref (ad 1)), (2, .int x2), (3, .int x3), (4, .int x4), (5, .int x5), (6, .ref (ad x6)), (7, .int x7)]) X dX7_fewestBackTo_85 e7 (by decide) rfl ?_
      refine wg_iload X 0 dX7_fewestBackTo_87 rfl ?_
      refine wg_ldc (v := 1000000000) X dX7_fewestBackTo_89 k_594 ?_
      refine wg_icmp_ge X 140 dX7_fewestBackTo_91 (by decide) (fun c8 => ?_) (fun c8 => ?_)
      · have h := if_t c8 h
        obtain ⟨v9, e10, h⟩ := lt_some h
        refine wg_iinc (lv' := [(7, .int v9), (8, .int v6), (0, .ref (ad 35)), (1, .ref (ad 1)), (2, .int x2), (3, .int x3), (4, .int x4), (5, .int x5), (6, .ref (ad x6))]) X 8 dX7_fewestBackTo_140 rfl e10 (by decide) rfl ?_
        refine wg_goto X 62 dX7_fewestBackTo_143 (by decide) ?_
        refine wg_pick [2, 3, 4, 5, 6, 7, 8, 0] (lv' := [(0, .ref (ad 35)), (1, .ref (ad 1)), (2, .int x2), (3, .int x3), (4, .int x4), (5, .int x5), (6, .ref (ad x6)), (7, .int v9)]) rfl ?_
        exact Kc x4 v9 (sm_inj h).symm
      · have h := if_f c8 h
        refine wg_aload X 7 dX7_fewestBackTo_94 rfl ?_
        refine wg_iload X 8 dX7_fewestBackTo_96 rfl ?_
        refine wg_iload_n X 4 dX7_fewestBackTo_98 rfl rfl ?_
        obtain ⟨r12, h11, h⟩ := bd_some h
        refine wg_callVi (As := [.int x7, .int x3]) (rest := []) X (c_X1_passes l E ad S hS C M x6 x7 x3 hx6 h11) T_yX1_passes k_610 cl1 hx6 dX7_fewestBackTo_99 rfl rfl (Nat.le_of_ble_eq_true rfl) ⟨Nat.le_of_ble_eq_true rfl, Nat.le_of_ble_eq_true rfl⟩ ⟨Nat.zero_le _, Nat.zero_le _⟩ ?_
        refine wg_if_eq X 140 dX7_fewestBackTo_102 (by decide) (fun c13 => ?_) (fun c13 => ?_)
        · have h := if_t c13 h
          obtain ⟨v14, e15, h⟩ := lt_some h
          refine wg_iinc (lv' := [(7, .int v14), (8, .int v6), (0, .ref (ad 35)), (1, .ref (ad 1)), (2, .int x2), (3, .int x3), (4, .int x4), (5, .int x5), (6, .ref (ad x6))]) X 8 dX7_fewestBackTo_140 rfl e15 (by decide) rfl ?_
          refine wg_goto X 62 dX7_fewestBackTo_143 (by decide) ?_
          refine wg_pick [2, 3, 4, 5, 6, 7, 8, 0] (lv' := [(0, .ref (ad 35)), (1, .ref (ad 1)), (2, .int x2), (3, .int x3), (4, .int x4), (5, .int x5), (6, .ref (ad x6)), (7, .int v14)]) rfl ?_
          exact Kc x4 v14 (sm_inj h).symm
        · have h := if_f c13 h
          refine wg_aload X 7 dX7_fewestBackTo_105 rfl ?_
          obtain ⟨r17, h16, h⟩ := bd_some h
          refine wg_callVi (As := []) (rest := []) X (c_X1_leads l E ad S hS C M x6 hx6 h16) T_yX1_leads k_643 cl1 hx6 dX7_fewestBackTo_107 rfl rfl (Nat.le_of_ble_eq_true rfl) ⟨Nat.le_of_ble_eq_true rfl, Nat.le_of_ble_eq_true rfl⟩ ⟨Nat.zero_le _, Nat.zero_le _⟩ ?_
          refine wg_bipush (v := 32) X dX7_fewestBackTo_110 (by decide) ?_
          refine wg_imul X dX7_fewestBackTo_112 ?_
          refine wg_aload X 7 dX7_fewestBackTo_113 rfl ?_
          refine wg_iload X 8 dX7_fewestBackTo_115 rfl ?_
          obtain ⟨r19, h18, h⟩ := bd_some h
          refine wg_callVi (As := [.int x7]) (rest := [.int (r17 * (32 : Int32))]) X (c_X1_on l E ad S hS C M x6 x7 hx6 h18) T_yX1_on k_644 cl1 hx6 dX7_fewestBackTo_117 rfl rfl (Nat.le_of_ble_eq_true rfl) ⟨Nat.le_of_ble_eq_true rfl, Nat.le_of_ble_eq_true rfl⟩ ⟨Nat.zero_le _, Nat.zero_le _⟩ ?_
          refine wg_iadd X dX7_fewestBackTo_120 ?_
          refine wg_iload_n X 3 dX7_fewestBackTo_121 rfl rfl ?_
          refine wg_icmp_ne X 140 dX7_fewestBackTo_122 (by decide) (fun c20 => ?_) (fun c20 => ?_)
          · have h := if_f c20 h
            obtain ⟨v21, e22, h⟩ := lt_some h
            refine wg_iinc (lv' := [(7, .int v21), (8, .int v6), (0, .ref (ad 35)), (1, .ref (ad 1)), (2, .int x2), (3, .int x3), (4, .int x4), (5, .int x5), (6, .ref (ad x6))]) X 8 dX7_fewestBackTo_140 rfl e22 (by decide) rfl ?_
            refine wg_goto X 62 dX7_fewestBackTo_143 (by decide) ?_
            refine wg_pick [2, 3, 4, 5, 6, 7, 8, 0] (lv' := [(0, .ref (ad 35)), (1, .ref (ad 1)), (2, .int x2), (3, .int x3), (4, .int x4), (5, .int x5), (6, .ref (ad x6)), (7, .int v21)]) rfl ?_
            exact Kc x4 v21 (sm_inj h).symm
          · have h := if_t c20 h
            refine wg_iload X 5 dX7_fewestBackTo_125 rfl ?_
            refine wg_iload X 0 dX7_fewestBackTo_127 rfl ?_
            refine wg_sipush (v := 1000) X dX7_fewestBackTo_129 (by decide) ?_
            refine wg_idiv X dX7_fewestBackTo_132 (by decide) ?_
            refine wg_iconst (v := 1) X dX7_fewestBackTo_133 (by decide) ?_
            refine wg_iadd X dX7_fewestBackTo_134 ?_
            obtain ⟨r24, h23, h⟩ := bd_some h
            refine wg_callSi (As := [.int x4, .int ((v6 / (1000 : Int32)) + (1 : Int32))]) (rest := []) X (c_J9_min_7cf53 l E ad S C M x4 ((v6 / (1000 : Int32)) + (1 : Int32))  h23) T_yJ9_min_7cf53 k_675 dX7_fewestBackTo_135 rfl rfl (Nat.le_of_ble_eq_true rfl) ⟨Nat.le_of_ble_eq_true rfl, Nat.le_of_ble_eq_true rfl⟩ ⟨Nat.zero_le _, Nat.zero_le _⟩ ?_
            refine wg_istore (lv' := [(4, .int r24), (8, .int v6), (0, .ref (ad 35)), (1, .ref (ad 1)), (2, .int x2), (3, .int x3), (5, .int x5), (6, .ref (ad x6)), (7, .int x7)]) X dX7_fewestBackTo_138 rfl (by decide) rfl ?_
            obtain ⟨v25, e26, h⟩ := lt_some h
            refine wg_iinc (lv' := [(7, .int v25), (4, .int r24), (8, .int v6), (0, .ref (ad 35)), (1, .ref (ad 1)), (2, .int x2), (3, .int x3), (5, .int x5), (6, .ref (ad x6))]) X 8 dX7_fewestBackTo_140 rfl e26 (by decide) rfl ?_
            refine wg_goto X 62 dX7_fewestBackTo_143 (by decide) ?_
            refine wg_pick [3, 4, 5, 6, 1, 7, 8, 0] (lv' := [(0, .ref (ad 35)), (1, .ref (ad 1)), (2, .int x2), (3, .int x3), (4, .int r24), (5, .int x5), (6, .ref (ad x6)), (7, .int v25)]) rfl ?_
            exact Kc r24 v25 (sm_inj h).symm
set_option maxHeartbeats 4000000 in
set_option maxRecDepth 100000 in
theorem L_X7_fewestBackTo_l41 {p : Program} {l : Launch} {e : Env} {s : State} {m : MethodId} {args : Array Value} {below : List Frame} {meth : Method} {c : Code} {E : wg_Ev} {ad : Nat → Nat} {S : wg_Sh} (X : wg_X p s m args meth c cX7_fewestBackTo 9 RX7 E) (hr : meth.sig.returnType = (some .int)) (hS : wg_SC S) (r0 : Int32) (M : wg_M) (N : Nat)  (C : wg_C)  (x2 : Int32) (x3 : Int32)  : ∀ (n : Nat) (x4 : Int32) (x5 : Int32) (o : (Int32 × Int32)), lp (fun o => f_X7_fewestBackTo_l41 N C  x2 x3 o.1 o.2) n (x4, x5) = some o → (∀ (y4 : Int32) (y5 : Int32), o = (y4, y5) → G_X7_fewestBackTo p l e s m args below meth c E ad S r0 C M 152 C M [(0, .ref (ad 35)), (1, .ref (ad 1)), (2, .int x2), (3, .int x3), (4, .int y4), (5, .int y5)] []) → G_X7_fewestBackTo p l e s m args below meth c E ad S r0 C M 41 C M [(0, .ref (ad 35)), (1, .ref (ad 1)), (2, .int x2), (3, .int x3), (4, .int x4), (5, .int x5)] [] := by
  intro n
  induction n with
  | zero => exact fun _ _ o h => (lp_zero h).elim
  | succ n ih =>
    intro x4 x5 o h K
    obtain ⟨o1, hb, h2⟩ := lp_some h
    replace hb : f_X7_fewestBackTo_l41 N C  x2 x3 x4 x5 = some o1 := hb
    clear h
    have Kc : ∀ (y4 : Int32) (y5 : Int32), o1 = Sum.inl (y4, y5) → G_X7_fewestBackTo p l e s m args below meth c E ad S r0 C M 41 C M [(0, .ref (ad 35)), (1, .ref (ad 1)), (2, .int x2), (3, .int x3), (4, .int y4), (5, .int y5)] [] := fun y4 y5 e1 => by
      subst e1
      exact ih y4 y5 o h2 K
    have Ke : ∀ (y4 : Int32) (y5 : Int32), o1 = Sum.inr ((y4, y5)) → G_X7_fewestBackTo p l e s m args below meth c E ad S r0 C M 152 C M [(0, .ref (ad 35)), (1, .ref (ad 1)), (2, .int x2), (3, .int x3), (4, .int y4), (5, .int y5)] [] := fun y4 y5 e1 => by
      subst e1
      exact K y4 y5 (sm_inj (α := (Int32 × Int32)) h2).symm
    clear ih K h2
    unfold f_X7_fewestBackTo_l41 at hb
    have h := hb
    clear hb
    refine wg_iload X 5 dX7_fewestBackTo_41 rfl ?_
    refine wg_aload_n X 1 dX7_fewestBackTo_43 rfl rfl ?_
    refine wg_getC X cl0 (SCi hS 1 0 rfl) 2 (by decide) dX7_fewestBackTo_44 k_148 rfl ?_
    refine wg_icmp_ge X 152 dX7_fewestBackTo_47 (by decide) (fun c2 => ?_) (fun c2 => ?_)
    · have h := if_t c2 h
      exact Ke x4 x5 (sm_inj h).symm
    · have h := if_f c2 h
      refine wg_aload_n X 1 dX7_fewestBackTo_50 rfl rfl ?_
      refine wg_getR (b := 3) X cl0 (SCi hS 1 0 rfl) 1 (by decide) dX7_fewestBackTo_51 k_145 rfl (SCr hS 1 1 3 rfl) ?_
      refine wg_iload X 5 dX7_fewestBackTo_54 rfl ?_
      obtain ⟨z3, h⟩ := ck_some h
      refine wg_aalS13 (b := 4 + x5.toNatClampNeg) X (SCi hS 3 13 rfl) (SCl hS 3 8 rfl) z3 (SCp hS (inb_lt z3)).1 dX7_fewestBackTo_56 ?_
      refine wg_astore (lv' := [(6, .ref (ad (4 + x5.toNatClampNeg))), (0, .ref (ad 35)), (1, .ref (ad 1)), (2, .int x2), (3, .int x3), (4, .int x4), (5, .int x5)]) X dX7_fewestBackTo_57 rfl (by decide) rfl ?_
      refine wg_iconst (v := 0) X dX7_fewestBackTo_59 (by decide) ?_
      refine wg_istore (lv' := [(7, .int (0 : Int32)), (6, .ref (ad (4 + x5.toNatClampNeg))), (0, .ref (ad 35)), (1, .ref (ad 1)), (2, .int x2), (3, .int x3), (4, .int x4), (5, .int x5)]) X dX7_fewestBackTo_60 rfl (by decide) rfl ?_
      obtain ⟨o29, h30, h⟩ := bd2_o h
      refine wg_pick [2, 3, 4, 5, 6, 7, 1, 0] (lv' := [(0, .ref (ad 35)), (1, .ref (ad 1)), (2, .int x2), (3, .int x3), (4, .int x4), (5, .int x5), (6, .ref (ad (4 + x5.toNatClampNeg))), (7, .int (0 : Int32))]) rfl ?_
      refine L_X7_fewestBackTo_l62 X hr hS r0 M N  C  x2 x3 x5 (4 + x5.toNatClampNeg) ((SCp hS (inb_lt z3)).2.1) N x4 (0 : Int32) o29 h30 (fun v27 v28 e32 => ?_)
      · subst e32
        replace h := bd2_in h
        obtain ⟨v33, e34, h⟩ := lt_some h
        refine wg_iinc (lv' := [(5, .int v33), (0, .ref (ad 35)), (1, .ref (ad 1)), (2, .int x2), (3, .int x3), (4, .int v27), (6, .ref (ad (4 + x5.toNatClampNeg))), (7, .int v28)]) X 5 dX7_fewestBackTo_146 rfl e34 (by decide) rfl ?_
        refine wg_goto X 41 dX7_fewestBackTo_149 (by decide) ?_
        refine wg_pick [1, 2, 3, 4, 5, 0] (lv' := [(0, .ref (ad 35)), (1, .ref (ad 1)), (2, .int x2), (3, .int x3), (4, .int v27), (5, .int v33)]) rfl ?_
        exact Kc v27 v33 (sm_inj h).symm
set_option maxHeartbeats 4000000 in
set_option maxRecDepth 100000 in
theorem J_X7_fewestBackTo_j38 {p : Program} {l : Launch} {e : Env} {s : State} {m : MethodId} {args : Array Value} {below : List Frame} {meth : Method} {c : Code} {E : wg_Ev} {ad : Nat → Nat} {S : wg_Sh} (X : wg_X p s m args meth c cX7_fewestBackTo 9 RX7 E) (hr : meth.sig.returnType = (some .int)) (hS : wg_SC S) (r0 : Int32) (M : wg_M) (N : Nat)  (C : wg_C)  (x2 : Int32) (x3 : Int32) (x4 : Int32)   (h : f_X7_fewestBackTo_j38 N C  x2 x3 x4 = some r0) : G_X7_fewestBackTo p l e s m args below meth c E ad S r0 C M 38 C M [(0, .ref (ad 35)), (1, .ref (ad 1)), (2, .int x2), (3, .int x3), (4, .int x4)] [] := by
  unfold f_X7_fewestBackTo_j38 at h
  refine wg_iconst (v := 0) X dX7_fewestBackTo_38 (by decide) ?_
  refine wg_istore (lv' := [(5, .int (0 : Int32)), (0, .ref (ad 35)), (1, .ref (ad 1)), (2, .int x2), (3, .int x3), (4, .int x4)]) X dX7_fewestBackTo_39 rfl (by decide) rfl ?_
  obtain ⟨o37, h38, h⟩ := bd2_o h
  refine wg_pick [1, 2, 3, 4, 5, 0] (lv' := [(0, .ref (ad 35)), (1, .ref (ad 1)), (2, .int x2), (3, .int x3), (4, .int x4), (5, .int (0 : Int32))]) rfl ?_
  refine L_X7_fewestBackTo_l41 X hr hS r0 M N  C  x2 x3  N x4 (0 : Int32) o37 h38 (fun v35 v36 e40 => ?_)
  · subst e40
    replace h := bd2_in h
    refine wg_iload X 4 dX7_fewestBackTo_152 rfl ?_
    exact wg_iret X ⟨(sm_inj h), rfl, rfl⟩ hr dX7_fewestBackTo_154
set_option maxHeartbeats 4000000 in
set_option maxRecDepth 100000 in
theorem c_X7_fewestBackTo (l : Launch) (E : wg_Ev) (ad : Nat → Nat) (S : wg_Sh) (hS : wg_SC S) (N : Nat) (C : wg_C) (M : wg_M) (p2 : Int32) (p3 : Int32)  {r0 : Int32} (h : f_X7_fewestBackTo N C p2 p3 = some r0) : wg_Ci l yX7_fewestBackTo cX7_fewestBackTo 9 (some .int) 2 44 E ad S C M [.ref (ad 35), .ref (ad 1), .int p2, .int p3] r0 C M := by
  refine wg_start (own := RX7) (by decide +kernel) rfl (Nat.le_of_ble_eq_true rfl) ?_
  intro p e s m below meth c X hr hnm
  refine wg_lv (lv' := [(0, .ref (ad 35)), (1, .ref (ad 1)), (2, .int p2), (3, .int p3)]) rfl ?_
  unfold f_X7_fewestBackTo at h
  refine wg_ldc (v := 1000000000) X dX7_fewestBackTo_0 k_594 ?_
  refine wg_istore (lv' := [(4, .int (1000000000 : Int32)), (0, .ref (ad 35)), (1, .ref (ad 1)), (2, .int p2), (3, .int p3)]) X dX7_fewestBackTo_2 rfl (by decide) rfl ?_
  refine wg_iload_n X 3 dX7_fewestBackTo_4 rfl rfl ?_
  refine wg_bipush (v := 32) X dX7_fewestBackTo_5 (by decide) ?_
  refine wg_irem X dX7_fewestBackTo_7 (by decide) ?_
  refine wg_if_le X 38 dX7_fewestBackTo_8 (by decide) (fun c1 => ?_) (fun c1 => ?_)
  · have h := if_t c1 h
    refine wg_pick [1, 2, 3, 4, 0] (lv' := [(0, .ref (ad 35)), (1, .ref (ad 1)), (2, .int p2), (3, .int p3), (4, .int (1000000000 : Int32))]) rfl ?_
    exact J_X7_fewestBackTo_j38 X hr hS r0 M N  C  p2 p3 (1000000000 : Int32)   h
  · have h := if_f c1 h
    refine wg_aload_n X 1 dX7_fewestBackTo_11 rfl rfl ?_
    refine wg_getR (b := 37) X cl7 (SCi hS 35 7 rfl) 1 (by decide) dX7_fewestBackTo_12 k_250 rfl (SCr hS 35 1 37 rfl) ?_
    refine wg_iload_n X 3 dX7_fewestBackTo_15 rfl rfl ?_
    refine wg_iconst (v := 1) X dX7_fewestBackTo_16 (by decide) ?_
    refine wg_isub X dX7_fewestBackTo_17 ?_
    obtain ⟨z41, h⟩ := ck_some h
    refine wg_iald X (SCi hS 37 10 rfl) (SCl hS 37 192 rfl) z41 dX7_fewestBackTo_18 ?_
    refine wg_ldc (v := 1000000000) X dX7_fewestBackTo_19 k_594 ?_
    refine wg_icmp_ge X 38 dX7_fewestBackTo_21 (by decide) (fun c42 => ?_) (fun c42 => ?_)
    · have h := if_t c42 h
      refine wg_pick [1, 2, 3, 4, 0] (lv' := [(0, .ref (ad 35)), (1, .ref (ad 1)), (2, .int p2), (3, .int p3), (4, .int (1000000000 : Int32))]) rfl ?_
      exact J_X7_fewestBackTo_j38 X hr hS r0 M N  C  p2 p3 (1000000000 : Int32)   h
    · have h := if_f c42 h
      refine wg_aload_n X 1 dX7_fewestBackTo_24 rfl rfl ?_
      refine wg_getR (b := 37) X cl7 (SCi hS 35 7 rfl) 1 (by decide) dX7_fewestBackTo_25 k_250 rfl (SCr hS 35 1 37 rfl) ?_
      refine wg_iload_n X 3 dX7_fewestBackTo_28 rfl rfl ?_
      refine wg_iconst (v := 1) X dX7_fewestBackTo_29 (by decide) ?_
      refine wg_isub X dX7_fewestBackTo_30 ?_
      obtain ⟨z43, h⟩ := ck_some h
      refine wg_iald X (SCi hS 37 10 rfl) (SCl hS 37 192 rfl) z43 dX7_fewestBackTo_31 ?_
      refine wg_sipush (v := 1000) X dX7_fewestBackTo_32 (by decide) ?_
      refine wg_idiv X dX7_fewestBackTo_35 (by decide) ?_
      obtain ⟨v44, e45, h⟩ := lt_some h
      refine wg_istore (lv' := [(4, .int v44), (0, .ref (ad 35)), (1, .ref (ad 1)), (2, .int p2), (3, .int p3)]) X dX7_fewestBackTo_36 e45 (by decide) rfl ?_
      refine wg_pick [1, 2, 3, 4, 0] (lv' := [(0, .ref (ad 35)), (1, .ref (ad 1)), (2, .int p2), (3, .int p3), (4, .int v44)]) rfl ?_
      exact J_X7_fewestBackTo_j38 X hr hS r0 M N  C  p2 p3 v44   h
-- WindowsGive.loop(II)I (('c', 0), 'i', 'i')
def f_X8_loop (N : Nat) (S : wg_Sh) (C : wg_C) (p1 : Int32) (p2 : Int32) : Option (Int32 × wg_C) :=
  bd (f_X8_isSpot p1) fun r2 =>
  if r2 = 0 then (
    some ((-2 : Int32), C))
  else (
    bd (f_X8_isSort p2) fun r5 =>
    if r5 = 0 then (
      some ((-2 : Int32), C))
    else (
      bd (f_X7_search N S C p1 p2) fun C8 =>
      bd (f_X7_fewestBackTo N C8 p1 p2) fun r10 =>
      if r10 < (1000000000 : Int32) then (
        some (r10, C8))
      else (
        some ((-1 : Int32), C8))))
set_option maxHeartbeats 4000000 in
set_option maxRecDepth 100000 in
theorem c_X8_loop (l : Launch) (E : wg_Ev) (ad : Nat → Nat) (S : wg_Sh) (hS : wg_SC S) (N : Nat) (C : wg_C) (M : wg_M) (p1 : Int32) (p2 : Int32)  {r0 : Int32} {D0 : wg_C} (h : f_X8_loop N S C p1 p2 = some (r0, D0)) : wg_Ci l yX8_loop cX8_loop 4 (some .int) 4 99 E ad S C M [.ref (ad 0), .int p1, .int p2] r0 D0 M := by
  refine wg_start (own := RX8) (by decide +kernel) rfl (Nat.le_of_ble_eq_true rfl) ?_
  intro p e s m below meth c X hr hnm
  refine wg_lv (lv' := [(0, .ref (ad 0)), (1, .int p1), (2, .int p2)]) rfl ?_
  unfold f_X8_loop at h
  refine wg_iload_n X 1 dX8_loop_0 rfl rfl ?_
  obtain ⟨r2, h1, h⟩ := bd_some h
  refine wg_callSi (As := [.int p1]) (rest := []) X (c_X8_isSpot l E ad S C M p1  h1) T_yX8_isSpot k_587 dX8_loop_1 rfl rfl (Nat.le_of_ble_eq_true rfl) ⟨Nat.le_of_ble_eq_true rfl, Nat.le_of_ble_eq_true rfl⟩ ⟨Nat.zero_le _, Nat.zero_le _⟩ ?_
  refine wg_if_eq X 14 dX8_loop_4 (by decide) (fun c3 => ?_) (fun c3 => ?_)
  · have h := if_t c3 h
    refine wg_bipush (v := -2) X dX8_loop_14 (by decide) ?_
    exact wg_iret X ⟨congrArg Prod.fst (sm_inj h), congrArg Prod.snd (sm_inj h), rfl⟩ hr dX8_loop_16
  · have h := if_f c3 h
    refine wg_iload_n X 2 dX8_loop_7 rfl rfl ?_
    obtain ⟨r5, h4, h⟩ := bd_some h
    refine wg_callSi (As := [.int p2]) (rest := []) X (c_X8_isSort l E ad S C M p2  h4) T_yX8_isSort k_554 dX8_loop_8 rfl rfl (Nat.le_of_ble_eq_true rfl) ⟨Nat.le_of_ble_eq_true rfl, Nat.le_of_ble_eq_true rfl⟩ ⟨Nat.zero_le _, Nat.zero_le _⟩ ?_
    refine wg_if_ne X 17 dX8_loop_11 (by decide) (fun c6 => ?_) (fun c6 => ?_)
    · have h := if_f c6 h
      refine wg_aload_n X 0 dX8_loop_17 rfl rfl ?_
      refine wg_getR (b := 35) X cl8 (SCi hS 0 8 rfl) 6 (by decide) dX8_loop_18 k_478 rfl (SCr hS 0 6 35 rfl) ?_
      refine wg_aload_n X 0 dX8_loop_21 rfl rfl ?_
      refine wg_getR (b := 1) X cl8 (SCi hS 0 8 rfl) 0 (by decide) dX8_loop_22 k_472 rfl (SCr hS 0 0 1 rfl) ?_
      refine wg_null X dX8_loop_25 ?_
      refine wg_iload_n X 1 dX8_loop_26 rfl rfl ?_
      refine wg_iload_n X 2 dX8_loop_27 rfl rfl ?_
      obtain ⟨C8, h7, h⟩ := bd_some h
      refine wg_callVv (As := [.ref (ad 1), .null, .int p1, .int p2]) (rest := []) X (c_X7_search l E ad S hS N C M p1 p2  h7) T_yX7_search k_590 cl7 (SCi hS 35 7 rfl) dX8_loop_28 rfl rfl (Nat.le_of_ble_eq_true rfl) ⟨Nat.le_of_ble_eq_true rfl, Nat.le_of_ble_eq_true rfl⟩ ⟨Nat.zero_le _, Nat.zero_le _⟩ ?_
      refine wg_aload_n X 0 dX8_loop_31 rfl rfl ?_
      refine wg_getR (b := 35) X cl8 (SCi hS 0 8 rfl) 6 (by decide) dX8_loop_32 k_478 rfl (SCr hS 0 6 35 rfl) ?_
      refine wg_aload_n X 0 dX8_loop_35 rfl rfl ?_
      refine wg_getR (b := 1) X cl8 (SCi hS 0 8 rfl) 0 (by decide) dX8_loop_36 k_472 rfl (SCr hS 0 0 1 rfl) ?_
      refine wg_iload_n X 1 dX8_loop_39 rfl rfl ?_
      refine wg_iload_n X 2 dX8_loop_40 rfl rfl ?_
      obtain ⟨r10, h9, h⟩ := bd_some h
      refine wg_callVi (As := [.ref (ad 1), .int p1, .int p2]) (rest := []) X (c_X7_fewestBackTo l E ad S hS N C8 M p1 p2  h9) T_yX7_fewestBackTo k_671 cl7 (SCi hS 35 7 rfl) dX8_loop_41 rfl rfl (Nat.le_of_ble_eq_true rfl) ⟨Nat.le_of_ble_eq_true rfl, Nat.le_of_ble_eq_true rfl⟩ ⟨Nat.zero_le _, Nat.zero_le _⟩ ?_
      refine wg_istore_n (lv' := [(3, .int r10), (0, .ref (ad 0)), (1, .int p1), (2, .int p2)]) X dX8_loop_44 rfl rfl (by decide) rfl ?_
      refine wg_iload_n X 0 dX8_loop_45 rfl rfl ?_
      refine wg_ldc (v := 1000000000) X dX8_loop_46 k_645 ?_
      refine wg_icmp_lt X 55 dX8_loop_48 (by decide) (fun c11 => ?_) (fun c11 => ?_)
      · have h := if_t c11 h
        refine wg_iload_n X 0 dX8_loop_55 rfl rfl ?_
        exact wg_iret X ⟨congrArg Prod.fst (sm_inj h), congrArg Prod.snd (sm_inj h), rfl⟩ hr dX8_loop_56
      · have h := if_f c11 h
        refine wg_iconst (v := -1) X dX8_loop_51 (by decide) ?_
        refine wg_goto X 56 dX8_loop_52 (by decide) ?_
        exact wg_iret X ⟨congrArg Prod.fst (sm_inj h), congrArg Prod.snd (sm_inj h), rfl⟩ hr dX8_loop_56
    · have h := if_t c6 h
      refine wg_bipush (v := -2) X dX8_loop_14 (by decide) ?_
      exact wg_iret X ⟨congrArg Prod.fst (sm_inj h), congrArg Prod.snd (sm_inj h), rfl⟩ hr dX8_loop_16
-- WindowsGive.spots(II)I (('c', 0), 'i', 'i')
def f_X8_spots_l36 (N : Nat) (C : wg_C)   (x3 : Int32) (x4 : Int32) : Option ((Int32 × Int32) ⊕ (Int32 × Int32)) :=
  if (6 : Int32) ≤ x4 then (
    some (.inr (x3, x4)))
  else (
    ck (inb x4 6) <|
    lt_ (x3 + ((32 : Int32) - (C 36 x4.toNatClampNeg))) fun v11 =>
    lt_ (x4 + (1 : Int32)) fun v13 =>
    some (.inl (v11, v13)))
def f_X8_spots (N : Nat) (C : wg_C) (p1 : Int32) (p2 : Int32) : Option (Int32 × wg_C) :=
  bd (f_X8_isSpot p1) fun r2 =>
  if r2 = 0 then (
    some ((-2 : Int32), C))
  else (
    bd (f_X8_isSort p2) fun r5 =>
    if r5 = 0 then (
      some ((-2 : Int32), C))
    else (
      bd (f_X7_reach N C p1 p2 (0 : Int32)) fun C8 =>
      bd2 (lp (fun o => f_X8_spots_l36 N C8   o.1 o.2) N ((0 : Int32), (0 : Int32))) fun v15 v16 =>
      some (v15, C8)))
abbrev G_X8_spots (p : Program) (l : Launch) (e : Env) (s : State) (m : MethodId) (args : Array Value) (below : List Frame) (meth : Method) (c : Code) (E : wg_Ev) (ad : Nat → Nat) (S : wg_Sh) (r0 : Int32) (C0 : wg_C) (M0 : wg_M) (pc : Nat) (C : wg_C) (M : wg_M) (lv : List (Nat × Value)) (st : List Value) : Prop := wg_G p l e (wg_Rm 5 120) s m args below meth c (MQ below (wg_Qi E ad S r0 C0 M0) args s 0 0 (wg_A E)) 5 E ad S 0 0 pc C M lv st
set_option maxHeartbeats 4000000 in
set_option maxRecDepth 100000 in
theorem L_X8_spots_l36 {p : Program} {l : Launch} {e : Env} {s : State} {m : MethodId} {args : Array Value} {below : List Frame} {meth : Method} {c : Code} {E : wg_Ev} {ad : Nat → Nat} {S : wg_Sh} (X : wg_X p s m args meth c cX8_spots 5 RX8 E) (hr : meth.sig.returnType = (some .int)) (hS : wg_SC S) (r0 : Int32) (D0 : wg_C) (M : wg_M) (N : Nat)  (C : wg_C)    : ∀ (n : Nat) (x3 : Int32) (x4 : Int32) (o : (Int32 × Int32)), lp (fun o => f_X8_spots_l36 N C   o.1 o.2) n (x3, x4) = some o → (∀ (y3 : Int32) (y4 : Int32), o = (y3, y4) → G_X8_spots p l e s m args below meth c E ad S r0 D0 M 65 C M [(0, .ref (ad 0)), (3, .int y3), (4, .int y4)] []) → G_X8_spots p l e s m args below meth c E ad S r0 D0 M 36 C M [(0, .ref (ad 0)), (3, .int x3), (4, .int x4)] [] := by
  intro n
  induction n with
  | zero => exact fun _ _ o h => (lp_zero h).elim
  | succ n ih =>
    intro x3 x4 o h K
    obtain ⟨o1, hb, h2⟩ := lp_some h
    replace hb : f_X8_spots_l36 N C   x3 x4 = some o1 := hb
    clear h
    have Kc : ∀ (y3 : Int32) (y4 : Int32), o1 = Sum.inl (y3, y4) → G_X8_spots p l e s m args below meth c E ad S r0 D0 M 36 C M [(0, .ref (ad 0)), (3, .int y3), (4, .int y4)] [] := fun y3 y4 e1 => by
      subst e1
      exact ih y3 y4 o h2 K
    have Ke : ∀ (y3 : Int32) (y4 : Int32), o1 = Sum.inr ((y3, y4)) → G_X8_spots p l e s m args below meth c E ad S r0 D0 M 65 C M [(0, .ref (ad 0)), (3, .int y3), (4, .int y4)] [] := fun y3 y4 e1 => by
      subst e1
      exact K y3 y4 (sm_inj (α := (Int32 × Int32)) h2).symm
    clear ih K h2
    unfold f_X8_spots_l36 at hb
    have h := hb
    clear hb
    refine wg_iload X 2 dX8_spots_36 rfl ?_
    refine wg_bipush (v := 6) X dX8_spots_38 (by decide) ?_
    refine wg_icmp_ge X 65 dX8_spots_40 (by decide) (fun c9 => ?_) (fun c9 => ?_)
    · have h := if_t c9 h
      exact Ke x3 x4 (sm_inj h).symm
    · have h := if_f c9 h
      refine wg_iload_n X 1 dX8_spots_43 rfl rfl ?_
      refine wg_bipush (v := 32) X dX8_spots_44 (by decide) ?_
      refine wg_aload_n X 0 dX8_spots_46 rfl rfl ?_
      refine wg_getR (b := 35) X cl8 (SCi hS 0 8 rfl) 6 (by decide) dX8_spots_47 k_478 rfl (SCr hS 0 6 35 rfl) ?_
      refine wg_getR (b := 36) X cl7 (SCi hS 35 7 rfl) 0 (by decide) dX8_spots_50 k_249 rfl (SCr hS 35 0 36 rfl) ?_
      refine wg_iload X 2 dX8_spots_53 rfl ?_
      obtain ⟨z10, h⟩ := ck_some h
      refine wg_iald X (SCi hS 36 10 rfl) (SCl hS 36 6 rfl) z10 dX8_spots_55 ?_
      refine wg_isub X dX8_spots_56 ?_
      refine wg_iadd X dX8_spots_57 ?_
      obtain ⟨v11, e12, h⟩ := lt_some h
      refine wg_istore_n (lv' := [(3, .int v11), (0, .ref (ad 0)), (4, .int x4)]) X dX8_spots_58 rfl e12 (by decide) rfl ?_
      obtain ⟨v13, e14, h⟩ := lt_some h
      refine wg_iinc (lv' := [(4, .int v13), (3, .int v11), (0, .ref (ad 0))]) X 2 dX8_spots_59 rfl e14 (by decide) rfl ?_
      refine wg_goto X 36 dX8_spots_62 (by decide) ?_
      refine wg_pick [2, 1, 0] (lv' := [(0, .ref (ad 0)), (3, .int v11), (4, .int v13)]) rfl ?_
      exact Kc v11 v13 (sm_inj h).symm
set_option maxHeartbeats 4000000 in
set_option maxRecDepth 100000 in
theorem c_X8_spots (l : Launch) (E : wg_Ev) (ad : Nat → Nat) (S : wg_Sh) (hS : wg_SC S) (N : Nat) (C : wg_C) (M : wg_M) (p1 : Int32) (p2 : Int32)  {r0 : Int32} {D0 : wg_C} (h : f_X8_spots N C p1 p2 = some (r0, D0)) : wg_Ci l yX8_spots cX8_spots 5 (some .int) 5 120 E ad S C M [.ref (ad 0), .int p1, .int p2] r0 D0 M := by
  refine wg_start (own := RX8) (by decide +kernel) rfl (Nat.le_of_ble_eq_true rfl) ?_
  intro p e s m below meth c X hr hnm
  refine wg_lv (lv' := [(0, .ref (ad 0)), (1, .int p1), (2, .int p2)]) rfl ?_
  unfold f_X8_spots at h
  refine wg_iload_n X 1 dX8_spots_0 rfl rfl ?_
  obtain ⟨r2, h1, h⟩ := bd_some h
  refine wg_callSi (As := [.int p1]) (rest := []) X (c_X8_isSpot l E ad S C M p1  h1) T_yX8_isSpot k_587 dX8_spots_1 rfl rfl (Nat.le_of_ble_eq_true rfl) ⟨Nat.le_of_ble_eq_true rfl, Nat.le_of_ble_eq_true rfl⟩ ⟨Nat.zero_le _, Nat.zero_le _⟩ ?_
  refine wg_if_eq X 14 dX8_spots_4 (by decide) (fun c3 => ?_) (fun c3 => ?_)
  · have h := if_t c3 h
    refine wg_bipush (v := -2) X dX8_spots_14 (by decide) ?_
    exact wg_iret X ⟨congrArg Prod.fst (sm_inj h), congrArg Prod.snd (sm_inj h), rfl⟩ hr dX8_spots_16
  · have h := if_f c3 h
    refine wg_iload_n X 2 dX8_spots_7 rfl rfl ?_
    obtain ⟨r5, h4, h⟩ := bd_some h
    refine wg_callSi (As := [.int p2]) (rest := []) X (c_X8_isSort l E ad S C M p2  h4) T_yX8_isSort k_554 dX8_spots_8 rfl rfl (Nat.le_of_ble_eq_true rfl) ⟨Nat.le_of_ble_eq_true rfl, Nat.le_of_ble_eq_true rfl⟩ ⟨Nat.zero_le _, Nat.zero_le _⟩ ?_
    refine wg_if_ne X 17 dX8_spots_11 (by decide) (fun c6 => ?_) (fun c6 => ?_)
    · have h := if_f c6 h
      refine wg_aload_n X 0 dX8_spots_17 rfl rfl ?_
      refine wg_getR (b := 35) X cl8 (SCi hS 0 8 rfl) 6 (by decide) dX8_spots_18 k_478 rfl (SCr hS 0 6 35 rfl) ?_
      refine wg_aload_n X 0 dX8_spots_21 rfl rfl ?_
      refine wg_getR (b := 1) X cl8 (SCi hS 0 8 rfl) 0 (by decide) dX8_spots_22 k_472 rfl (SCr hS 0 0 1 rfl) ?_
      refine wg_iload_n X 1 dX8_spots_25 rfl rfl ?_
      refine wg_iload_n X 2 dX8_spots_26 rfl rfl ?_
      refine wg_iconst (v := 0) X dX8_spots_27 (by decide) ?_
      obtain ⟨C8, h7, h⟩ := bd_some h
      refine wg_callVv (As := [.ref (ad 1), .int p1, .int p2, .int (0 : Int32)]) (rest := []) X (c_X7_reach l E ad S hS N C M p1 p2 (0 : Int32)  h7) T_yX7_reach k_654 cl7 (SCi hS 35 7 rfl) dX8_spots_28 rfl rfl (Nat.le_of_ble_eq_true rfl) ⟨Nat.le_of_ble_eq_true rfl, Nat.le_of_ble_eq_true rfl⟩ ⟨Nat.zero_le _, Nat.zero_le _⟩ ?_
      refine wg_iconst (v := 0) X dX8_spots_31 (by decide) ?_
      refine wg_istore_n (lv' := [(3, .int (0 : Int32)), (0, .ref (ad 0)), (1, .int p1), (2, .int p2)]) X dX8_spots_32 rfl rfl (by decide) rfl ?_
      refine wg_iconst (v := 0) X dX8_spots_33 (by decide) ?_
      refine wg_istore (lv' := [(4, .int (0 : Int32)), (3, .int (0 : Int32)), (0, .ref (ad 0)), (1, .int p1), (2, .int p2)]) X dX8_spots_34 rfl (by decide) rfl ?_
      obtain ⟨o17, h18, h⟩ := bd2_o h
      refine wg_pick [2, 1, 0] (lv' := [(0, .ref (ad 0)), (3, .int (0 : Int32)), (4, .int (0 : Int32))]) rfl ?_
      refine L_X8_spots_l36 X hr hS r0 D0 M N  C8    N (0 : Int32) (0 : Int32) o17 h18 (fun v15 v16 e20 => ?_)
      · subst e20
        replace h := bd2_in h
        refine wg_iload_n X 1 dX8_spots_65 rfl rfl ?_
        exact wg_iret X ⟨congrArg Prod.fst (sm_inj h), congrArg Prod.snd (sm_inj h), rfl⟩ hr dX8_spots_66
    · have h := if_t c6 h
      refine wg_bipush (v := -2) X dX8_spots_14 (by decide) ?_
      exact wg_iret X ⟨congrArg Prod.fst (sm_inj h), congrArg Prod.snd (sm_inj h), rfl⟩ hr dX8_spots_16
-- WindowsGive$Walk.comes(LWindowsGive$House;IIII)Z (('c', 35), ('c', 1), 'i', 'i', 'i', 'i')
def f_X7_comes (N : Nat) (C : wg_C) (p2 : Int32) (p3 : Int32) (p4 : Int32) (p5 : Int32) : Option (Int32 × wg_C) :=
  bd (f_X7_reach N C p2 p4 p5) fun C2 =>
  ck (inb (p3 / (32 : Int32)) 6) <|
  if (p3 - p3 / (32 : Int32) * (32 : Int32)) < (C2 36 (p3 / (32 : Int32)).toNatClampNeg) then (
    some ((0 : Int32), C2))
  else (
    some ((1 : Int32), C2))
set_option maxHeartbeats 4000000 in
set_option maxRecDepth 100000 in
theorem c_X7_comes (l : Launch) (E : wg_Ev) (ad : Nat → Nat) (S : wg_Sh) (hS : wg_SC S) (N : Nat) (C : wg_C) (M : wg_M) (p2 : Int32) (p3 : Int32) (p4 : Int32) (p5 : Int32)  {r0 : Int32} {D0 : wg_C} (h : f_X7_comes N C p2 p3 p4 p5 = some (r0, D0)) : wg_Ci l yX7_comes cX7_comes 6 (some .boolean) 5 120 E ad S C M [.ref (ad 35), .ref (ad 1), .int p2, .int p3, .int p4, .int p5] r0 D0 M := by
  refine wg_start (own := RX7) (by decide +kernel) rfl (Nat.le_of_ble_eq_true rfl) ?_
  intro p e s m below meth c X hr hnm
  refine wg_lv (lv' := [(0, .ref (ad 35)), (1, .ref (ad 1)), (2, .int p2), (3, .int p3), (4, .int p4), (5, .int p5)]) rfl ?_
  unfold f_X7_comes at h
  refine wg_aload_n X 0 dX7_comes_0 rfl rfl ?_
  refine wg_aload_n X 1 dX7_comes_1 rfl rfl ?_
  refine wg_iload_n X 2 dX7_comes_2 rfl rfl ?_
  refine wg_iload X 4 dX7_comes_3 rfl ?_
  refine wg_iload X 5 dX7_comes_5 rfl ?_
  obtain ⟨C2, h1, h⟩ := bd_some h
  refine wg_callVv (As := [.ref (ad 1), .int p2, .int p4, .int p5]) (rest := []) X (c_X7_reach l E ad S hS N C M p2 p4 p5  h1) T_yX7_reach k_692 cl7 (SCi hS 35 7 rfl) dX7_comes_7 rfl rfl (Nat.le_of_ble_eq_true rfl) ⟨Nat.le_of_ble_eq_true rfl, Nat.le_of_ble_eq_true rfl⟩ ⟨Nat.zero_le _, Nat.zero_le _⟩ ?_
  refine wg_aload_n X 0 dX7_comes_10 rfl rfl ?_
  refine wg_getR (b := 36) X cl7 (SCi hS 35 7 rfl) 0 (by decide) dX7_comes_11 k_248 rfl (SCr hS 35 0 36 rfl) ?_
  refine wg_iload_n X 3 dX7_comes_14 rfl rfl ?_
  refine wg_bipush (v := 32) X dX7_comes_15 (by decide) ?_
  refine wg_idiv X dX7_comes_17 (by decide) ?_
  obtain ⟨z3, h⟩ := ck_some h
  refine wg_iald X (SCi hS 36 10 rfl) (SCl hS 36 6 rfl) z3 dX7_comes_18 ?_
  refine wg_iload_n X 3 dX7_comes_19 rfl rfl ?_
  refine wg_bipush (v := 32) X dX7_comes_20 (by decide) ?_
  refine wg_irem X dX7_comes_22 (by decide) ?_
  refine wg_icmp_gt X 30 dX7_comes_23 (by decide) (fun c4 => ?_) (fun c4 => ?_)
  · have h := if_t c4 h
    refine wg_iconst (v := 0) X dX7_comes_30 (by decide) ?_
    exact wg_zret X ⟨congrArg Prod.fst (sm_inj h), congrArg Prod.snd (sm_inj h), rfl⟩ hr (by decide) dX7_comes_31
  · have h := if_f c4 h
    refine wg_iconst (v := 1) X dX7_comes_26 (by decide) ?_
    refine wg_goto X 31 dX7_comes_27 (by decide) ?_
    exact wg_zret X ⟨congrArg Prod.fst (sm_inj h), congrArg Prod.snd (sm_inj h), rfl⟩ hr (by decide) dX7_comes_31
-- WindowsGive.neededAlone(III)I (('c', 0), 'i', 'i', 'i')
def f_X8_neededAlone_l6 (N : Nat)  (x1 : Int32) (x2 : Int32) (x3 : Int32) (C : wg_C) (x4 : Int32) (x5 : Int32) : Option ((wg_C × Int32 × Int32) ⊕ (wg_C × Int32 × Int32)) :=
  if (C 1 2) ≤ x5 then (
    some (.inr (C, x4, x5)))
  else (
    bd2 (f_X7_comes N C x1 x2 x3 ((1 : Int32) <<< (x5 &&& 31))) fun r3 C4 =>
    if r3 = 0 then (
      lt_ (x4 ||| ((1 : Int32) <<< (x5 &&& 31))) fun v8 =>
      lt_ (x5 + (1 : Int32)) fun v10 =>
      some (.inl (C4, v8, v10)))
    else (
      lt_ (x5 + (1 : Int32)) fun v6 =>
      some (.inl (C4, x4, v6))))
def f_X8_neededAlone (N : Nat) (C : wg_C) (p1 : Int32) (p2 : Int32) (p3 : Int32) : Option (Int32 × wg_C) :=
  bd3 (lp (fun o => f_X8_neededAlone_l6 N  p1 p2 p3 o.1 o.2.1 o.2.2) N (C, (0 : Int32), (0 : Int32))) fun C12 v13 v14 =>
  some (v13, C12)
abbrev G_X8_neededAlone (p : Program) (l : Launch) (e : Env) (s : State) (m : MethodId) (args : Array Value) (below : List Frame) (meth : Method) (c : Code) (E : wg_Ev) (ad : Nat → Nat) (S : wg_Sh) (r0 : Int32) (C0 : wg_C) (M0 : wg_M) (pc : Nat) (C : wg_C) (M : wg_M) (lv : List (Nat × Value)) (st : List Value) : Prop := wg_G p l e (wg_Rm 6 145) s m args below meth c (MQ below (wg_Qi E ad S r0 C0 M0) args s 0 0 (wg_A E)) 6 E ad S 0 0 pc C M lv st
set_option maxHeartbeats 4000000 in
set_option maxRecDepth 100000 in
theorem L_X8_neededAlone_l6 {p : Program} {l : Launch} {e : Env} {s : State} {m : MethodId} {args : Array Value} {below : List Frame} {meth : Method} {c : Code} {E : wg_Ev} {ad : Nat → Nat} {S : wg_Sh} (X : wg_X p s m args meth c cX8_neededAlone 6 RX8 E) (hr : meth.sig.returnType = (some .int)) (hS : wg_SC S) (r0 : Int32) (D0 : wg_C) (M : wg_M) (N : Nat)   (x1 : Int32) (x2 : Int32) (x3 : Int32)  : ∀ (n : Nat) (C : wg_C) (x4 : Int32) (x5 : Int32) (o : (wg_C × Int32 × Int32)), lp (fun o => f_X8_neededAlone_l6 N  x1 x2 x3 o.1 o.2.1 o.2.2) n (C, x4, x5) = some o → (∀ (Dy : wg_C) (y4 : Int32) (y5 : Int32), o = (Dy, y4, y5) → G_X8_neededAlone p l e s m args below meth c E ad S r0 D0 M 54 Dy M [(0, .ref (ad 0)), (1, .int x1), (2, .int x2), (3, .int x3), (4, .int y4), (5, .int y5)] []) → G_X8_neededAlone p l e s m args below meth c E ad S r0 D0 M 6 C M [(0, .ref (ad 0)), (1, .int x1), (2, .int x2), (3, .int x3), (4, .int x4), (5, .int x5)] [] := by
  intro n
  induction n with
  | zero => exact fun _ _ _ o h => (lp_zero h).elim
  | succ n ih =>
    intro C x4 x5 o h K
    obtain ⟨o1, hb, h2⟩ := lp_some h
    replace hb : f_X8_neededAlone_l6 N  x1 x2 x3 C x4 x5 = some o1 := hb
    clear h
    have Kc : ∀ (Dy : wg_C) (y4 : Int32) (y5 : Int32), o1 = Sum.inl (Dy, y4, y5) → G_X8_neededAlone p l e s m args below meth c E ad S r0 D0 M 6 Dy M [(0, .ref (ad 0)), (1, .int x1), (2, .int x2), (3, .int x3), (4, .int y4), (5, .int y5)] [] := fun Dy y4 y5 e1 => by
      subst e1
      exact ih Dy y4 y5 o h2 K
    have Ke : ∀ (Dy : wg_C) (y4 : Int32) (y5 : Int32), o1 = Sum.inr ((Dy, y4, y5)) → G_X8_neededAlone p l e s m args below meth c E ad S r0 D0 M 54 Dy M [(0, .ref (ad 0)), (1, .int x1), (2, .int x2), (3, .int x3), (4, .int y4), (5, .int y5)] [] := fun Dy y4 y5 e1 => by
      subst e1
      exact K Dy y4 y5 (sm_inj (α := (wg_C × Int32 × Int32)) h2).symm
    clear ih K h2
    unfold f_X8_neededAlone_l6 at hb
    have h := hb
    clear hb
    refine wg_iload X 5 dX8_neededAlone_6 rfl ?_
    refine wg_aload_n X 0 dX8_neededAlone_8 rfl rfl ?_
    refine wg_getR (b := 1) X cl8 (SCi hS 0 8 rfl) 0 (by decide) dX8_neededAlone_9 k_472 rfl (SCr hS 0 0 1 rfl) ?_
    refine wg_getC X cl0 (SCi hS 1 0 rfl) 2 (by decide) dX8_neededAlone_12 k_147 rfl ?_
    refine wg_icmp_ge X 54 dX8_neededAlone_15 (by decide) (fun c1 => ?_) (fun c1 => ?_)
    · have h := if_t c1 h
      exact Ke C x4 x5 (sm_inj h).symm
    · have h := if_f c1 h
      refine wg_aload_n X 0 dX8_neededAlone_18 rfl rfl ?_
      refine wg_getR (b := 35) X cl8 (SCi hS 0 8 rfl) 6 (by decide) dX8_neededAlone_19 k_478 rfl (SCr hS 0 6 35 rfl) ?_
      refine wg_aload_n X 0 dX8_neededAlone_22 rfl rfl ?_
      refine wg_getR (b := 1) X cl8 (SCi hS 0 8 rfl) 0 (by decide) dX8_neededAlone_23 k_472 rfl (SCr hS 0 0 1 rfl) ?_
      refine wg_iload_n X 1 dX8_neededAlone_26 rfl rfl ?_
      refine wg_iload_n X 2 dX8_neededAlone_27 rfl rfl ?_
      refine wg_iload_n X 3 dX8_neededAlone_28 rfl rfl ?_
      refine wg_iconst (v := 1) X dX8_neededAlone_29 (by decide) ?_
      refine wg_iload X 5 dX8_neededAlone_30 rfl ?_
      refine wg_ishl X dX8_neededAlone_32 ?_
      obtain ⟨r3, C4, h2, h⟩ := bd2_some h
      refine wg_callVi (As := [.ref (ad 1), .int x1, .int x2, .int x3, .int ((1 : Int32) <<< (x5 &&& 31))]) (rest := []) X (c_X7_comes l E ad S hS N C M x1 x2 x3 ((1 : Int32) <<< (x5 &&& 31))  h2) T_yX7_comes k_688 cl7 (SCi hS 35 7 rfl) dX8_neededAlone_33 rfl rfl (Nat.le_of_ble_eq_true rfl) ⟨Nat.le_of_ble_eq_true rfl, Nat.le_of_ble_eq_true rfl⟩ ⟨Nat.zero_le _, Nat.zero_le _⟩ ?_
      refine wg_if_ne X 48 dX8_neededAlone_36 (by decide) (fun c5 => ?_) (fun c5 => ?_)
      · have h := if_f c5 h
        obtain ⟨v6, e7, h⟩ := lt_some h
        refine wg_iinc (lv' := [(5, .int v6), (0, .ref (ad 0)), (1, .int x1), (2, .int x2), (3, .int x3), (4, .int x4)]) X 5 dX8_neededAlone_48 rfl e7 (by decide) rfl ?_
        refine wg_goto X 6 dX8_neededAlone_51 (by decide) ?_
        refine wg_pick [1, 2, 3, 4, 5, 0] (lv' := [(0, .ref (ad 0)), (1, .int x1), (2, .int x2), (3, .int x3), (4, .int x4), (5, .int v6)]) rfl ?_
        exact Kc C4 x4 v6 (sm_inj h).symm
      · have h := if_t c5 h
        refine wg_iload X 4 dX8_neededAlone_39 rfl ?_
        refine wg_iconst (v := 1) X dX8_neededAlone_41 (by decide) ?_
        refine wg_iload X 5 dX8_neededAlone_42 rfl ?_
        refine wg_ishl X dX8_neededAlone_44 ?_
        refine wg_ior X dX8_neededAlone_45 ?_
        obtain ⟨v8, e9, h⟩ := lt_some h
        refine wg_istore (lv' := [(4, .int v8), (0, .ref (ad 0)), (1, .int x1), (2, .int x2), (3, .int x3), (5, .int x5)]) X dX8_neededAlone_46 e9 (by decide) rfl ?_
        obtain ⟨v10, e11, h⟩ := lt_some h
        refine wg_iinc (lv' := [(5, .int v10), (4, .int v8), (0, .ref (ad 0)), (1, .int x1), (2, .int x2), (3, .int x3)]) X 5 dX8_neededAlone_48 rfl e11 (by decide) rfl ?_
        refine wg_goto X 6 dX8_neededAlone_51 (by decide) ?_
        refine wg_pick [2, 3, 4, 5, 1, 0] (lv' := [(0, .ref (ad 0)), (1, .int x1), (2, .int x2), (3, .int x3), (4, .int v8), (5, .int v10)]) rfl ?_
        exact Kc C4 v8 v10 (sm_inj h).symm
set_option maxHeartbeats 4000000 in
set_option maxRecDepth 100000 in
theorem c_X8_neededAlone (l : Launch) (E : wg_Ev) (ad : Nat → Nat) (S : wg_Sh) (hS : wg_SC S) (N : Nat) (C : wg_C) (M : wg_M) (p1 : Int32) (p2 : Int32) (p3 : Int32)  {r0 : Int32} {D0 : wg_C} (h : f_X8_neededAlone N C p1 p2 p3 = some (r0, D0)) : wg_Ci l yX8_neededAlone cX8_neededAlone 6 (some .int) 6 145 E ad S C M [.ref (ad 0), .int p1, .int p2, .int p3] r0 D0 M := by
  refine wg_start (own := RX8) (by decide +kernel) rfl (Nat.le_of_ble_eq_true rfl) ?_
  intro p e s m below meth c X hr hnm
  refine wg_lv (lv' := [(0, .ref (ad 0)), (1, .int p1), (2, .int p2), (3, .int p3)]) rfl ?_
  unfold f_X8_neededAlone at h
  refine wg_iconst (v := 0) X dX8_neededAlone_0 (by decide) ?_
  refine wg_istore (lv' := [(4, .int (0 : Int32)), (0, .ref (ad 0)), (1, .int p1), (2, .int p2), (3, .int p3)]) X dX8_neededAlone_1 rfl (by decide) rfl ?_
  refine wg_iconst (v := 0) X dX8_neededAlone_3 (by decide) ?_
  refine wg_istore (lv' := [(5, .int (0 : Int32)), (4, .int (0 : Int32)), (0, .ref (ad 0)), (1, .int p1), (2, .int p2), (3, .int p3)]) X dX8_neededAlone_4 rfl (by decide) rfl ?_
  obtain ⟨o15, h16, h⟩ := bd3_o h
  refine wg_pick [2, 3, 4, 5, 1, 0] (lv' := [(0, .ref (ad 0)), (1, .int p1), (2, .int p2), (3, .int p3), (4, .int (0 : Int32)), (5, .int (0 : Int32))]) rfl ?_
  refine L_X8_neededAlone_l6 X hr hS r0 D0 M N   p1 p2 p3  N C (0 : Int32) (0 : Int32) o15 h16 (fun C12 v13 v14 e18 => ?_)
  · subst e18
    replace h := bd3_in h
    refine wg_iload X 4 dX8_neededAlone_54 rfl ?_
    exact wg_iret X ⟨congrArg Prod.fst (sm_inj h), congrArg Prod.snd (sm_inj h), rfl⟩ hr dX8_neededAlone_56
-- java/lang/Integer.bitCount(I)I ('i',)
def f_J6_bitCount_0f7a4 (p0 : Int32) : Option Int32 :=
  lt_ (p0 - (((p0.toUInt32 >>> ((1 : Int32).toUInt32 &&& Int32.toUInt32 31)).toInt32) &&& (1431655765 : Int32))) fun v1 =>
  lt_ ((v1 &&& (858993459 : Int32)) + (((v1.toUInt32 >>> ((2 : Int32).toUInt32 &&& Int32.toUInt32 31)).toInt32) &&& (858993459 : Int32))) fun v3 =>
  lt_ ((v3 + ((v3.toUInt32 >>> ((4 : Int32).toUInt32 &&& Int32.toUInt32 31)).toInt32)) &&& (252645135 : Int32)) fun v5 =>
  lt_ (v5 + ((v5.toUInt32 >>> ((8 : Int32).toUInt32 &&& Int32.toUInt32 31)).toInt32)) fun v7 =>
  lt_ (v7 + ((v7.toUInt32 >>> ((16 : Int32).toUInt32 &&& Int32.toUInt32 31)).toInt32)) fun v9 =>
  some (v9 &&& (63 : Int32))
set_option maxHeartbeats 4000000 in
set_option maxRecDepth 100000 in
theorem c_J6_bitCount_0f7a4 (l : Launch) (E : wg_Ev) (ad : Nat → Nat) (S : wg_Sh) (C : wg_C) (M : wg_M) (p0 : Int32)  {r0 : Int32} (h : f_J6_bitCount_0f7a4 p0 = some r0) : wg_Ci l yJ6_bitCount_0f7a4 cJ6_bitCount_0f7a4 1 (some .int) 0 0 E ad S C M [.int p0] r0 C M := by
  refine wg_start (own := RJ6) (by decide +kernel) rfl (Nat.le_of_ble_eq_true rfl) ?_
  intro p e s m below meth c X hr hnm
  refine wg_lv (lv' := [(0, .int p0)]) rfl ?_
  unfold f_J6_bitCount_0f7a4 at h
  refine wg_iload_n X 0 dJ6_bitCount_0f7a4_0 rfl rfl ?_
  refine wg_iload_n X 0 dJ6_bitCount_0f7a4_1 rfl rfl ?_
  refine wg_iconst (v := 1) X dJ6_bitCount_0f7a4_2 (by decide) ?_
  refine wg_iushr X dJ6_bitCount_0f7a4_3 ?_
  refine wg_ldcw (v := 1431655765) X dJ6_bitCount_0f7a4_4 k_696 ?_
  refine wg_iand X dJ6_bitCount_0f7a4_7 ?_
  refine wg_isub X dJ6_bitCount_0f7a4_8 ?_
  obtain ⟨v1, e2, h⟩ := lt_some h
  refine wg_istore_n (lv' := [(0, .int v1)]) X dJ6_bitCount_0f7a4_9 rfl e2 (by decide) rfl ?_
  refine wg_iload_n X 0 dJ6_bitCount_0f7a4_10 rfl rfl ?_
  refine wg_ldcw (v := 858993459) X dJ6_bitCount_0f7a4_11 k_697 ?_
  refine wg_iand X dJ6_bitCount_0f7a4_14 ?_
  refine wg_iload_n X 0 dJ6_bitCount_0f7a4_15 rfl rfl ?_
  refine wg_iconst (v := 2) X dJ6_bitCount_0f7a4_16 (by decide) ?_
  refine wg_iushr X dJ6_bitCount_0f7a4_17 ?_
  refine wg_ldcw (v := 858993459) X dJ6_bitCount_0f7a4_18 k_697 ?_
  refine wg_iand X dJ6_bitCount_0f7a4_21 ?_
  refine wg_iadd X dJ6_bitCount_0f7a4_22 ?_
  obtain ⟨v3, e4, h⟩ := lt_some h
  refine wg_istore_n (lv' := [(0, .int v3)]) X dJ6_bitCount_0f7a4_23 rfl e4 (by decide) rfl ?_
  refine wg_iload_n X 0 dJ6_bitCount_0f7a4_24 rfl rfl ?_
  refine wg_iload_n X 0 dJ6_bitCount_0f7a4_25 rfl rfl ?_
  refine wg_iconst (v := 4) X dJ6_bitCount_0f7a4_26 (by decide) ?_
  refine wg_iushr X dJ6_bitCount_0f7a4_27 ?_
  refine wg_iadd X dJ6_bitCount_0f7a4_28 ?_
  refine wg_ldcw (v := 252645135) X dJ6_bitCount_0f7a4_29 k_698 ?_
  refine wg_iand X dJ6_bitCount_0f7a4_32 ?_
  obtain ⟨v5, e6, h⟩ := lt_some h
  refine wg_istore_n (lv' := [(0, .int v5)]) X dJ6_bitCount_0f7a4_33 rfl e6 (by decide) rfl ?_
  refine wg_iload_n X 0 dJ6_bitCount_0f7a4_34 rfl rfl ?_
  refine wg_iload_n X 0 dJ6_bitCount_0f7a4_35 rfl rfl ?_
  refine wg_bipush (v := 8) X dJ6_bitCount_0f7a4_36 (by decide) ?_
  refine wg_iushr X dJ6_bitCount_0f7a4_38 ?_
  refine wg_iadd X dJ6_bitCount_0f7a4_39 ?_
  obtain ⟨v7, e8, h⟩ := lt_some h
  refine wg_istore_n (lv' := [(0, .int v7)]) X dJ6_bitCount_0f7a4_40 rfl e8 (by decide) rfl ?_
  refine wg_iload_n X 0 dJ6_bitCount_0f7a4_41 rfl rfl ?_
  refine wg_iload_n X 0 dJ6_bitCount_0f7a4_42 rfl rfl ?_
  refine wg_bipush (v := 16) X dJ6_bitCount_0f7a4_43 (by decide) ?_
  refine wg_iushr X dJ6_bitCount_0f7a4_45 ?_
  refine wg_iadd X dJ6_bitCount_0f7a4_46 ?_
  obtain ⟨v9, e10, h⟩ := lt_some h
  refine wg_istore_n (lv' := [(0, .int v9)]) X dJ6_bitCount_0f7a4_47 rfl e10 (by decide) rfl ?_
  refine wg_iload_n X 0 dJ6_bitCount_0f7a4_48 rfl rfl ?_
  refine wg_bipush (v := 63) X dJ6_bitCount_0f7a4_49 (by decide) ?_
  refine wg_iand X dJ6_bitCount_0f7a4_51 ?_
  exact wg_iret X ⟨(sm_inj h), rfl, rfl⟩ hr dJ6_bitCount_0f7a4_52
-- WindowsGive.fewestToBrick(III)I (('c', 0), 'i', 'i', 'i')
def f_X8_fewestToBrick_l52 (N : Nat)  (x1 : Int32) (x2 : Int32) (x3 : Int32) (x4 : Int32) (x5 : Int32) (C : wg_C) (x6 : Int32) : Option ((wg_C × Int32) ⊕ ((wg_C × Int32) ⊕ (Int32 × wg_C))) :=
  if x4 ≤ x6 then (
    some (.inr (.inl (C, x6))))
  else (
    bd (f_J6_bitCount_0f7a4 x6) fun r10 =>
    if r10 = x5 then (
      bd2 (f_X7_comes N C x1 x2 x3 x6) fun r15 C16 =>
      if r15 = 0 then (
        some (.inr (.inr (x6, C16))))
      else (
        lt_ (x6 + (1 : Int32)) fun v18 =>
        some (.inl (C16, v18))))
    else (
      lt_ (x6 + (1 : Int32)) fun v12 =>
      some (.inl (C, v12))))
def f_X8_fewestToBrick_l37 (N : Nat)  (x1 : Int32) (x2 : Int32) (x3 : Int32) (x4 : Int32) (C : wg_C) (x5 : Int32) : Option ((wg_C × Int32) ⊕ ((wg_C × Int32) ⊕ (Int32 × wg_C))) :=
  if (C 1 2) < x5 then (
    some (.inr (.inl (C, x5))))
  else (
    bs2 (lp (fun o => f_X8_fewestToBrick_l52 N  x1 x2 x3 x4 x5 o.1 o.2) N (C, (0 : Int32))) (fun C20 v21 =>
      lt_ (x5 + (1 : Int32)) fun v26 =>
      some (.inl (C20, v26)))
      (fun q24 => some (.inr (.inr q24))))
def f_X8_fewestToBrick (N : Nat) (C : wg_C) (p1 : Int32) (p2 : Int32) (p3 : Int32) : Option (Int32 × wg_C) :=
  lt_ ((1 : Int32) <<< ((C 1 2) &&& 31)) fun v1 =>
  bd2 (f_X7_comes N C p1 p2 p3 (v1 - (1 : Int32))) fun r4 C5 =>
  if r4 = 0 then (
    bs2 (lp (fun o => f_X8_fewestToBrick_l37 N  p1 p2 p3 v1 o.1 o.2) N (C5, (0 : Int32))) (fun C28 v29 =>
      some ((-1 : Int32), C28))
      (fun q32 => some q32))
  else (
    some ((-1 : Int32), C5))
abbrev G_X8_fewestToBrick (p : Program) (l : Launch) (e : Env) (s : State) (m : MethodId) (args : Array Value) (below : List Frame) (meth : Method) (c : Code) (E : wg_Ev) (ad : Nat → Nat) (S : wg_Sh) (r0 : Int32) (C0 : wg_C) (M0 : wg_M) (pc : Nat) (C : wg_C) (M : wg_M) (lv : List (Nat × Value)) (st : List Value) : Prop := wg_G p l e (wg_Rm 6 145) s m args below meth c (MQ below (wg_Qi E ad S r0 C0 M0) args s 0 0 (wg_A E)) 7 E ad S 0 0 pc C M lv st
set_option maxHeartbeats 4000000 in
set_option maxRecDepth 100000 in
theorem L_X8_fewestToBrick_l52 {p : Program} {l : Launch} {e : Env} {s : State} {m : MethodId} {args : Array Value} {below : List Frame} {meth : Method} {c : Code} {E : wg_Ev} {ad : Nat → Nat} {S : wg_Sh} (X : wg_X p s m args meth c cX8_fewestToBrick 7 RX8 E) (hr : meth.sig.returnType = (some .int)) (hS : wg_SC S) (r0 : Int32) (D0 : wg_C) (M : wg_M) (N : Nat)   (x1 : Int32) (x2 : Int32) (x3 : Int32) (x4 : Int32) (x5 : Int32)  : ∀ (n : Nat) (C : wg_C) (x6 : Int32) (o : ((wg_C × Int32) ⊕ (Int32 × wg_C))), lp (fun o => f_X8_fewestToBrick_l52 N  x1 x2 x3 x4 x5 o.1 o.2) n (C, x6) = some o → (∀ (Dy : wg_C) (y6 : Int32), o = Sum.inl (Dy, y6) → G_X8_fewestToBrick p l e s m args below meth c E ad S r0 D0 M 97 Dy M [(0, .ref (ad 0)), (1, .int x1), (2, .int x2), (3, .int x3), (4, .int x4), (5, .int x5), (6, .int y6)] []) → (∀ q : (Int32 × wg_C), o = Sum.inr q → q = (r0, D0)) → G_X8_fewestToBrick p l e s m args below meth c E ad S r0 D0 M 52 C M [(0, .ref (ad 0)), (1, .int x1), (2, .int x2), (3, .int x3), (4, .int x4), (5, .int x5), (6, .int x6)] [] := by
  intro n
  induction n with
  | zero => exact fun _ _ o h => (lp_zero h).elim
  | succ n ih =>
    intro C x6 o h K KR
    obtain ⟨o1, hb, h2⟩ := lp_some h
    replace hb : f_X8_fewestToBrick_l52 N  x1 x2 x3 x4 x5 C x6 = some o1 := hb
    clear h
    have Kc : ∀ (Dy : wg_C) (y6 : Int32), o1 = Sum.inl (Dy, y6) → G_X8_fewestToBrick p l e s m args below meth c E ad S r0 D0 M 52 Dy M [(0, .ref (ad 0)), (1, .int x1), (2, .int x2), (3, .int x3), (4, .int x4), (5, .int x5), (6, .int y6)] [] := fun Dy y6 e1 => by
      subst e1
      exact ih Dy y6 o h2 K KR
    have Ke : ∀ (Dy : wg_C) (y6 : Int32), o1 = Sum.inr (Sum.inl (Dy, y6)) → G_X8_fewestToBrick p l e s m args below meth c E ad S r0 D0 M 97 Dy M [(0, .ref (ad 0)), (1, .int x1), (2, .int x2), (3, .int x3), (4, .int x4), (5, .int x5), (6, .int y6)] [] := fun Dy y6 e1 => by
      subst e1
      exact K Dy y6 (sm_inj (α := ((wg_C × Int32) ⊕ (Int32 × wg_C))) h2).symm
    have Kr : ∀ q : (Int32 × wg_C), o1 = Sum.inr (Sum.inr q) → q = (r0, D0) := fun q e1 => by
      subst e1
      exact KR q (sm_inj (α := ((wg_C × Int32) ⊕ (Int32 × wg_C))) h2).symm
    clear ih K h2 KR
    unfold f_X8_fewestToBrick_l52 at hb
    have h := hb
    clear hb
    refine wg_iload X 6 dX8_fewestToBrick_52 rfl ?_
    refine wg_iload X 4 dX8_fewestToBrick_54 rfl ?_
    refine wg_icmp_ge X 97 dX8_fewestToBrick_56 (by decide) (fun c8 => ?_) (fun c8 => ?_)
    · have h := if_t c8 h
      exact Ke C x6 (sm_inj h).symm
    · have h := if_f c8 h
      refine wg_iload X 6 dX8_fewestToBrick_59 rfl ?_
      obtain ⟨r10, h9, h⟩ := bd_some h
      refine wg_callSi (As := [.int x6]) (rest := []) X (c_J6_bitCount_0f7a4 l E ad S C M x6  h9) T_yJ6_bitCount_0f7a4 k_693 dX8_fewestToBrick_61 rfl rfl (Nat.le_of_ble_eq_true rfl) ⟨Nat.le_of_ble_eq_true rfl, Nat.le_of_ble_eq_true rfl⟩ ⟨Nat.zero_le _, Nat.zero_le _⟩ ?_
      refine wg_iload X 5 dX8_fewestToBrick_64 rfl ?_
      refine wg_icmp_ne X 91 dX8_fewestToBrick_66 (by decide) (fun c11 => ?_) (fun c11 => ?_)
      · have h := if_f c11 h
        obtain ⟨v12, e13, h⟩ := lt_some h
        refine wg_iinc (lv' := [(6, .int v12), (0, .ref (ad 0)), (1, .int x1), (2, .int x2), (3, .int x3), (4, .int x4), (5, .int x5)]) X 6 dX8_fewestToBrick_91 rfl e13 (by decide) rfl ?_
        refine wg_goto X 52 dX8_fewestToBrick_94 (by decide) ?_
        refine wg_pick [1, 2, 3, 4, 5, 6, 0] (lv' := [(0, .ref (ad 0)), (1, .int x1), (2, .int x2), (3, .int x3), (4, .int x4), (5, .int x5), (6, .int v12)]) rfl ?_
        exact Kc C v12 (sm_inj h).symm
      · have h := if_t c11 h
        refine wg_aload_n X 0 dX8_fewestToBrick_69 rfl rfl ?_
        refine wg_getR (b := 35) X cl8 (SCi hS 0 8 rfl) 6 (by decide) dX8_fewestToBrick_70 k_478 rfl (SCr hS 0 6 35 rfl) ?_
        refine wg_aload_n X 0 dX8_fewestToBrick_73 rfl rfl ?_
        refine wg_getR (b := 1) X cl8 (SCi hS 0 8 rfl) 0 (by decide) dX8_fewestToBrick_74 k_472 rfl (SCr hS 0 0 1 rfl) ?_
        refine wg_iload_n X 1 dX8_fewestToBrick_77 rfl rfl ?_
        refine wg_iload_n X 2 dX8_fewestToBrick_78 rfl rfl ?_
        refine wg_iload_n X 3 dX8_fewestToBrick_79 rfl rfl ?_
        refine wg_iload X 6 dX8_fewestToBrick_80 rfl ?_
        obtain ⟨r15, C16, h14, h⟩ := bd2_some h
        refine wg_callVi (As := [.ref (ad 1), .int x1, .int x2, .int x3, .int x6]) (rest := []) X (c_X7_comes l E ad S hS N C M x1 x2 x3 x6  h14) T_yX7_comes k_688 cl7 (SCi hS 35 7 rfl) dX8_fewestToBrick_82 rfl rfl (Nat.le_of_ble_eq_true rfl) ⟨Nat.le_of_ble_eq_true rfl, Nat.le_of_ble_eq_true rfl⟩ ⟨Nat.zero_le _, Nat.zero_le _⟩ ?_
        refine wg_if_ne X 91 dX8_fewestToBrick_85 (by decide) (fun c17 => ?_) (fun c17 => ?_)
        · have h := if_f c17 h
          obtain ⟨v18, e19, h⟩ := lt_some h
          refine wg_iinc (lv' := [(6, .int v18), (0, .ref (ad 0)), (1, .int x1), (2, .int x2), (3, .int x3), (4, .int x4), (5, .int x5)]) X 6 dX8_fewestToBrick_91 rfl e19 (by decide) rfl ?_
          refine wg_goto X 52 dX8_fewestToBrick_94 (by decide) ?_
          refine wg_pick [1, 2, 3, 4, 5, 6, 0] (lv' := [(0, .ref (ad 0)), (1, .int x1), (2, .int x2), (3, .int x3), (4, .int x4), (5, .int x5), (6, .int v18)]) rfl ?_
          exact Kc C16 v18 (sm_inj h).symm
        · have h := if_t c17 h
          refine wg_iload X 6 dX8_fewestToBrick_88 rfl ?_
          have hq := Kr _ (sm_inj h).symm
          exact wg_iret X ⟨congrArg Prod.fst hq, congrArg Prod.snd hq, rfl⟩ hr dX8_fewestToBrick_90
set_option maxHeartbeats 4000000 in
set_option maxRecDepth 100000 in
theorem L_X8_fewestToBrick_l37 {p : Program} {l : Launch} {e : Env} {s : State} {m : MethodId} {args : Array Value} {below : List Frame} {meth : Method} {c : Code} {E : wg_Ev} {ad : Nat → Nat} {S : wg_Sh} (X : wg_X p s m args meth c cX8_fewestToBrick 7 RX8 E) (hr : meth.sig.returnType = (some .int)) (hS : wg_SC S) (r0 : Int32) (D0 : wg_C) (M : wg_M) (N : Nat)   (x1 : Int32) (x2 : Int32) (x3 : Int32) (x4 : Int32)  : ∀ (n : Nat) (C : wg_C) (x5 : Int32) (o : ((wg_C × Int32) ⊕ (Int32 × wg_C))), lp (fun o => f_X8_fewestToBrick_l37 N  x1 x2 x3 x4 o.1 o.2) n (C, x5) = some o → (∀ (Dy : wg_C) (y5 : Int32), o = Sum.inl (Dy, y5) → G_X8_fewestToBrick p l e s m args below meth c E ad S r0 D0 M 103 Dy M [(0, .ref (ad 0)), (1, .int x1), (2, .int x2), (3, .int x3), (4, .int x4), (5, .int y5)] []) → (∀ q : (Int32 × wg_C), o = Sum.inr q → q = (r0, D0)) → G_X8_fewestToBrick p l e s m args below meth c E ad S r0 D0 M 37 C M [(0, .ref (ad 0)), (1, .int x1), (2, .int x2), (3, .int x3), (4, .int x4), (5, .int x5)] [] := by
  intro n
  induction n with
  | zero => exact fun _ _ o h => (lp_zero h).elim
  | succ n ih =>
    intro C x5 o h K KR
    obtain ⟨o1, hb, h2⟩ := lp_some h
    replace hb : f_X8_fewestToBrick_l37 N  x1 x2 x3 x4 C x5 = some o1 := hb
    clear h
    have Kc : ∀ (Dy : wg_C) (y5 : Int32), o1 = Sum.inl (Dy, y5) → G_X8_fewestToBrick p l e s m args below meth c E ad S r0 D0 M 37 Dy M [(0, .ref (ad 0)), (1, .int x1), (2, .int x2), (3, .int x3), (4, .int x4), (5, .int y5)] [] := fun Dy y5 e1 => by
      subst e1
      exact ih Dy y5 o h2 K KR
    have Ke : ∀ (Dy : wg_C) (y5 : Int32), o1 = Sum.inr (Sum.inl (Dy, y5)) → G_X8_fewestToBrick p l e s m args below meth c E ad S r0 D0 M 103 Dy M [(0, .ref (ad 0)), (1, .int x1), (2, .int x2), (3, .int x3), (4, .int x4), (5, .int y5)] [] := fun Dy y5 e1 => by
      subst e1
      exact K Dy y5 (sm_inj (α := ((wg_C × Int32) ⊕ (Int32 × wg_C))) h2).symm
    have Kr : ∀ q : (Int32 × wg_C), o1 = Sum.inr (Sum.inr q) → q = (r0, D0) := fun q e1 => by
      subst e1
      exact KR q (sm_inj (α := ((wg_C × Int32) ⊕ (Int32 × wg_C))) h2).symm
    clear ih K h2 KR
    unfold f_X8_fewestToBrick_l37 at hb
    have h := hb
    clear hb
    refine wg_iload X 5 dX8_fewestToBrick_37 rfl ?_
    refine wg_aload_n X 0 dX8_fewestToBrick_39 rfl rfl ?_
    refine wg_getR (b := 1) X cl8 (SCi hS 0 8 rfl) 0 (by decide) dX8_fewestToBrick_40 k_472 rfl (SCr hS 0 0 1 rfl) ?_
    refine wg_getC X cl0 (SCi hS 1 0 rfl) 2 (by decide) dX8_fewestToBrick_43 k_147 rfl ?_
    refine wg_icmp_gt X 103 dX8_fewestToBrick_46 (by decide) (fun c7 => ?_) (fun c7 => ?_)
    · have h := if_t c7 h
      exact Ke C x5 (sm_inj h).symm
    · have h := if_f c7 h
      refine wg_iconst (v := 0) X dX8_fewestToBrick_49 (by decide) ?_
      refine wg_istore (lv' := [(6, .int (0 : Int32)), (0, .ref (ad 0)), (1, .int x1), (2, .int x2), (3, .int x3), (4, .int x4), (5, .int x5)]) X dX8_fewestToBrick_50 rfl (by decide) rfl ?_
      obtain ⟨o22, h23, h⟩ := bs2_o h
      refine wg_pick [1, 2, 3, 4, 5, 6, 0] (lv' := [(0, .ref (ad 0)), (1, .int x1), (2, .int x2), (3, .int x3), (4, .int x4), (5, .int x5), (6, .int (0 : Int32))]) rfl ?_
      refine L_X8_fewestToBrick_l52 X hr hS r0 D0 M N   x1 x2 x3 x4 x5  N C (0 : Int32) o22 h23 (fun C20 v21 e25 => ?_) (fun q24 e25 => ?_)
      · subst e25
        replace h := bs2_in h
        obtain ⟨v26, e27, h⟩ := lt_some h
        refine wg_iinc (lv' := [(5, .int v26), (0, .ref (ad 0)), (1, .int x1), (2, .int x2), (3, .int x3), (4, .int x4), (6, .int v21)]) X 5 dX8_fewestToBrick_97 rfl e27 (by decide) rfl ?_
        refine wg_goto X 37 dX8_fewestToBrick_100 (by decide) ?_
        refine wg_pick [1, 2, 3, 4, 5, 0] (lv' := [(0, .ref (ad 0)), (1, .int x1), (2, .int x2), (3, .int x3), (4, .int x4), (5, .int v26)]) rfl ?_
        exact Kc C20 v26 (sm_inj h).symm
      · subst e25
        replace h := bs2_r h
        exact Kr _ (sm_inj h).symm
set_option maxHeartbeats 4000000 in
set_option maxRecDepth 100000 in
theorem c_X8_fewestToBrick (l : Launch) (E : wg_Ev) (ad : Nat → Nat) (S : wg_Sh) (hS : wg_SC S) (N : Nat) (C : wg_C) (M : wg_M) (p1 : Int32) (p2 : Int32) (p3 : Int32)  {r0 : Int32} {D0 : wg_C} (h : f_X8_fewestToBrick N C p1 p2 p3 = some (r0, D0)) : wg_Ci l yX8_fewestToBrick cX8_fewestToBrick 7 (some .int) 6 145 E ad S C M [.ref (ad 0), .int p1, .int p2, .int p3] r0 D0 M := by
  refine wg_start (own := RX8) (by decide +kernel) rfl (Nat.le_of_ble_eq_true rfl) ?_
  intro p e s m below meth c X hr hnm
  refine wg_lv (lv' := [(0, .ref (ad 0)), (1, .int p1), (2, .int p2), (3, .int p3)]) rfl ?_
  unfold f_X8_fewestToBrick at h
  refine wg_iconst (v := 1) X dX8_fewestToBrick_0 (by decide) ?_
  refine wg_aload_n X 0 dX8_fewestToBrick_1 rfl rfl ?_
  refine wg_getR (b := 1) X cl8 (SCi hS 0 8 rfl) 0 (by decide) dX8_fewestToBrick_2 k_472 rfl (SCr hS 0 0 1 rfl) ?_
  refine wg_getC X cl0 (SCi hS 1 0 rfl) 2 (by decide) dX8_fewestToBrick_5 k_147 rfl ?_
  refine wg_ishl X dX8_fewestToBrick_8 ?_
  obtain ⟨v1, e2, h⟩ := lt_some h
  refine wg_istore (lv' := [(4, .int v1), (0, .ref (ad 0)), (1, .int p1), (2, .int p2), (3, .int p3)]) X dX8_fewestToBrick_9 e2 (by decide) rfl ?_
  refine wg_aload_n X 1 dX8_fewestToBrick_11 rfl rfl ?_
  refine wg_getR (b := 35) X cl8 (SCi hS 0 8 rfl) 6 (by decide) dX8_fewestToBrick_12 k_478 rfl (SCr hS 0 6 35 rfl) ?_
  refine wg_aload_n X 1 dX8_fewestToBrick_15 rfl rfl ?_
  refine wg_getR (b := 1) X cl8 (SCi hS 0 8 rfl) 0 (by decide) dX8_fewestToBrick_16 k_472 rfl (SCr hS 0 0 1 rfl) ?_
  refine wg_iload_n X 2 dX8_fewestToBrick_19 rfl rfl ?_
  refine wg_iload_n X 3 dX8_fewestToBrick_20 rfl rfl ?_
  refine wg_iload_n X 4 dX8_fewestToBrick_21 rfl rfl ?_
  refine wg_iload X 0 dX8_fewestToBrick_22 rfl ?_
  refine wg_iconst (v := 1) X dX8_fewestToBrick_24 (by decide) ?_
  refine wg_isub X dX8_fewestToBrick_25 ?_
  obtain ⟨r4, C5, h3, h⟩ := bd2_some h
  refine wg_callVi (As := [.ref (ad 1), .int p1, .int p2, .int p3, .int (v1 - (1 : Int32))]) (rest := []) X (c_X7_comes l E ad S hS N C M p1 p2 p3 (v1 - (1 : Int32))  h3) T_yX7_comes k_688 cl7 (SCi hS 35 7 rfl) dX8_fewestToBrick_26 rfl rfl (Nat.le_of_ble_eq_true rfl) ⟨Nat.le_of_ble_eq_true rfl, Nat.le_of_ble_eq_true rfl⟩ ⟨Nat.zero_le _, Nat.zero_le _⟩ ?_
  refine wg_if_eq X 34 dX8_fewestToBrick_29 (by decide) (fun c6 => ?_) (fun c6 => ?_)
  · have h := if_t c6 h
    refine wg_iconst (v := 0) X dX8_fewestToBrick_34 (by decide) ?_
    refine wg_istore (lv' := [(5, .int (0 : Int32)), (4, .int v1), (0, .ref (ad 0)), (1, .int p1), (2, .int p2), (3, .int p3)]) X dX8_fewestToBrick_35 rfl (by decide) rfl ?_
    obtain ⟨o30, h31, h⟩ := bs2_o h
    refine wg_pick [2, 3, 4, 5, 1, 0] (lv' := [(0, .ref (ad 0)), (1, .int p1), (2, .int p2), (3, .int p3), (4, .int v1), (5, .int (0 : Int32))]) rfl ?_
    refine L_X8_fewestToBrick_l37 X hr hS r0 D0 M N   p1 p2 p3 v1  N C5 (0 : Int32) o30 h31 (fun C28 v29 e33 => ?_) (fun q32 e33 => ?_)
    · subst e33
      replace h := bs2_in h
      refine wg_iconst (v := -1) X dX8_fewestToBrick_103 (by decide) ?_
      exact wg_iret X ⟨congrArg Prod.fst (sm_inj h), congrArg Prod.snd (sm_inj h), rfl⟩ hr dX8_fewestToBrick_104
    · subst e33
      replace h := bs2_r h
      exact sm_inj h
  · have h := if_f c6 h
    refine wg_iconst (v := -1) X dX8_fewestToBrick_32 (by decide) ?_
    exact wg_iret X ⟨congrArg Prod.fst (sm_inj h), congrArg Prod.snd (sm_inj h), rfl⟩ hr dX8_fewestToBrick_33
-- WindowsGive.brick(IIII)I (('c', 0), 'i', 'i', 'i', 'i')
def f_X8_brick (N : Nat) (C : wg_C) (p1 : Int32) (p2 : Int32) (p3 : Int32) (p4 : Int32) : Option (Int32 × wg_C) :=
  bd (f_X8_isSpot p1) fun r2 =>
  if r2 = 0 then (
    some ((-2 : Int32), C))
  else (
    bd (f_X8_isSpot p2) fun r5 =>
    if r5 = 0 then (
      some ((-2 : Int32), C))
    else (
      bd (f_X8_isSort p3) fun r8 =>
      if r8 = 0 then (
        some ((-2 : Int32), C))
      else (
        if p4 < 0 then (
          some ((-2 : Int32), C))
        else (
          if p4 ≤ (1 : Int32) then (
            if p4 = 0 then (
              bd2 (f_X8_fewestToBrick N C p1 p2 p3) fun r17 C18 =>
              some (r17, C18))
            else (
              bd2 (f_X8_neededAlone N C p1 p2 p3) fun r14 C15 =>
              some (r14, C15)))
          else (
            some ((-2 : Int32), C))))))
set_option maxHeartbeats 4000000 in
set_option maxRecDepth 100000 in
theorem c_X8_brick (l : Launch) (E : wg_Ev) (ad : Nat → Nat) (S : wg_Sh) (hS : wg_SC S) (N : Nat) (C : wg_C) (M : wg_M) (p1 : Int32) (p2 : Int32) (p3 : Int32) (p4 : Int32)  {r0 : Int32} {D0 : wg_C} (h : f_X8_brick N C p1 p2 p3 p4 = some (r0, D0)) : wg_Ci l yX8_brick cX8_brick 5 (some .int) 7 171 E ad S C M [.ref (ad 0), .int p1, .int p2, .int p3, .int p4] r0 D0 M := by
  refine wg_start (own := RX8) (by decide +kernel) rfl (Nat.le_of_ble_eq_true rfl) ?_
  intro p e s m below meth c X hr hnm
  refine wg_lv (lv' := [(0, .ref (ad 0)), (1, .int p1), (2, .int p2), (3, .int p3), (4, .int p4)]) rfl ?_
  unfold f_X8_brick at h
  refine wg_iload_n X 1 dX8_brick_0 rfl rfl ?_
  obtain ⟨r2, h1, h⟩ := bd_some h
  refine wg_callSi (As := [.int p1]) (rest := []) X (c_X8_isSpot l E ad S C M p1  h1) T_yX8_isSpot k_587 dX8_brick_1 rfl rfl (Nat.le_of_ble_eq_true rfl) ⟨Nat.le_of_ble_eq_true rfl, Nat.le_of_ble_eq_true rfl⟩ ⟨Nat.zero_le _, Nat.zero_le _⟩ ?_
  refine wg_if_eq X 32 dX8_brick_4 (by decide) (fun c3 => ?_) (fun c3 => ?_)
  · have h := if_t c3 h
    refine wg_bipush (v := -2) X dX8_brick_32 (by decide) ?_
    exact wg_iret X ⟨congrArg Prod.fst (sm_inj h), congrArg Prod.snd (sm_inj h), rfl⟩ hr dX8_brick_34
  · have h := if_f c3 h
    refine wg_iload_n X 2 dX8_brick_7 rfl rfl ?_
    obtain ⟨r5, h4, h⟩ := bd_some h
    refine wg_callSi (As := [.int p2]) (rest := []) X (c_X8_isSpot l E ad S C M p2  h4) T_yX8_isSpot k_587 dX8_brick_8 rfl rfl (Nat.le_of_ble_eq_true rfl) ⟨Nat.le_of_ble_eq_true rfl, Nat.le_of_ble_eq_true rfl⟩ ⟨Nat.zero_le _, Nat.zero_le _⟩ ?_
    refine wg_if_eq X 32 dX8_brick_11 (by decide) (fun c6 => ?_) (fun c6 => ?_)
    · have h := if_t c6 h
      refine wg_bipush (v := -2) X dX8_brick_32 (by decide) ?_
      exact wg_iret X ⟨congrArg Prod.fst (sm_inj h), congrArg Prod.snd (sm_inj h), rfl⟩ hr dX8_brick_34
    · have h := if_f c6 h
      refine wg_iload_n X 3 dX8_brick_14 rfl rfl ?_
      obtain ⟨r8, h7, h⟩ := bd_some h
      refine wg_callSi (As := [.int p3]) (rest := []) X (c_X8_isSort l E ad S C M p3  h7) T_yX8_isSort k_554 dX8_brick_15 rfl rfl (Nat.le_of_ble_eq_true rfl) ⟨Nat.le_of_ble_eq_true rfl, Nat.le_of_ble_eq_true rfl⟩ ⟨Nat.zero_le _, Nat.zero_le _⟩ ?_
      refine wg_if_eq X 32 dX8_brick_18 (by decide) (fun c9 => ?_) (fun c9 => ?_)
      · have h := if_t c9 h
        refine wg_bipush (v := -2) X dX8_brick_32 (by decide) ?_
        exact wg_iret X ⟨congrArg Prod.fst (sm_inj h), congrArg Prod.snd (sm_inj h), rfl⟩ hr dX8_brick_34
      · have h := if_f c9 h
        refine wg_iload X 4 dX8_brick_21 rfl ?_
        refine wg_if_lt X 32 dX8_brick_23 (by decide) (fun c10 => ?_) (fun c10 => ?_)
        · have h := if_t c10 h
          refine wg_bipush (v := -2) X dX8_brick_32 (by decide) ?_
          exact wg_iret X ⟨congrArg Prod.fst (sm_inj h), congrArg Prod.snd (sm_inj h), rfl⟩ hr dX8_brick_34
        · have h := if_f c10 h
          refine wg_iload X 4 dX8_brick_26 rfl ?_
          refine wg_iconst (v := 1) X dX8_brick_28 (by decide) ?_
          refine wg_icmp_le X 35 dX8_brick_29 (by decide) (fun c11 => ?_) (fun c11 => ?_)
          · have h := if_t c11 h
            refine wg_iload X 4 dX8_brick_35 rfl ?_
            refine wg_if_ne X 50 dX8_brick_37 (by decide) (fun c12 => ?_) (fun c12 => ?_)
            · have h := if_f c12 h
              refine wg_aload_n X 0 dX8_brick_50 rfl rfl ?_
              refine wg_iload_n X 1 dX8_brick_51 rfl rfl ?_
              refine wg_iload_n X 2 dX8_brick_52 rfl rfl ?_
              refine wg_iload_n X 3 dX8_brick_53 rfl rfl ?_
              obtain ⟨r14, C15, h13, h⟩ := bd2_some h
              refine wg_callVi (As := [.int p1, .int p2, .int p3]) (rest := []) X (c_X8_neededAlone l E ad S hS N C M p1 p2 p3  h13) T_yX8_neededAlone k_699 cl8 (SCi hS 0 8 rfl) dX8_brick_54 rfl rfl (Nat.le_of_ble_eq_true rfl) ⟨Nat.le_of_ble_eq_true rfl, Nat.le_of_ble_eq_true rfl⟩ ⟨Nat.zero_le _, Nat.zero_le _⟩ ?_
              exact wg_iret X ⟨congrArg Prod.fst (sm_inj h), congrArg Prod.snd (sm_inj h), rfl⟩ hr dX8_brick_57
            · have h := if_t c12 h
              refine wg_aload_n X 0 dX8_brick_40 rfl rfl ?_
              refine wg_iload_n X 1 dX8_brick_41 rfl rfl ?_
              refine wg_iload_n X 2 dX8_brick_42 rfl rfl ?_
              refine wg_iload_n X 3 dX8_brick_43 rfl rfl ?_
              obtain ⟨r17, C18, h16, h⟩ := bd2_some h
              refine wg_callVi (As := [.int p1, .int p2, .int p3]) (rest := []) X (c_X8_fewestToBrick l E ad S hS N C M p1 p2 p3  h16) T_yX8_fewestToBrick k_684 cl8 (SCi hS 0 8 rfl) dX8_brick_44 rfl rfl (Nat.le_of_ble_eq_true rfl) ⟨Nat.le_of_ble_eq_true rfl, Nat.le_of_ble_eq_true rfl⟩ ⟨Nat.zero_le _, Nat.zero_le _⟩ ?_
              refine wg_goto X 57 dX8_brick_47 (by decide) ?_
              exact wg_iret X ⟨congrArg Prod.fst (sm_inj h), congrArg Prod.snd (sm_inj h), rfl⟩ hr dX8_brick_57
          · have h := if_f c11 h
            refine wg_bipush (v := -2) X dX8_brick_32 (by decide) ?_
            exact wg_iret X ⟨congrArg Prod.fst (sm_inj h), congrArg Prod.snd (sm_inj h), rfl⟩ hr dX8_brick_34
-- WindowsGive.isSheet(I)Z ('i',)
def f_X8_isSheet (p0 : Int32) : Option Int32 :=
  if p0 < 0 then (
    some (0 : Int32))
  else (
    if (4 : Int32) ≤ p0 then (
      some (0 : Int32))
    else (
      some (1 : Int32)))
set_option maxHeartbeats 4000000 in
set_option maxRecDepth 100000 in
theorem c_X8_isSheet (l : Launch) (E : wg_Ev) (ad : Nat → Nat) (S : wg_Sh) (C : wg_C) (M : wg_M) (p0 : Int32)  {r0 : Int32} (h : f_X8_isSheet p0 = some r0) : wg_Ci l yX8_isSheet cX8_isSheet 1 (some .boolean) 0 0 E ad S C M [.int p0] r0 C M := by
  refine wg_start (own := RX8) (by decide +kernel) rfl (Nat.le_of_ble_eq_true rfl) ?_
  intro p e s m below meth c X hr hnm
  refine wg_lv (lv' := [(0, .int p0)]) rfl ?_
  unfold f_X8_isSheet at h
  refine wg_iload_n X 0 dX8_isSheet_0 rfl rfl ?_
  refine wg_if_lt X 13 dX8_isSheet_1 (by decide) (fun c1 => ?_) (fun c1 => ?_)
  · have h := if_t c1 h
    refine wg_iconst (v := 0) X dX8_isSheet_13 (by decide) ?_
    exact wg_zret X ⟨(sm_inj h), rfl, rfl⟩ hr (by decide) dX8_isSheet_14
  · have h := if_f c1 h
    refine wg_iload_n X 0 dX8_isSheet_4 rfl rfl ?_
    refine wg_iconst (v := 4) X dX8_isSheet_5 (by decide) ?_
    refine wg_icmp_ge X 13 dX8_isSheet_6 (by decide) (fun c2 => ?_) (fun c2 => ?_)
    · have h := if_t c2 h
      refine wg_iconst (v := 0) X dX8_isSheet_13 (by decide) ?_
      exact wg_zret X ⟨(sm_inj h), rfl, rfl⟩ hr (by decide) dX8_isSheet_14
    · have h := if_f c2 h
      refine wg_iconst (v := 1) X dX8_isSheet_9 (by decide) ?_
      refine wg_goto X 14 dX8_isSheet_10 (by decide) ?_
      exact wg_zret X ⟨(sm_inj h), rfl, rfl⟩ hr (by decide) dX8_isSheet_14
-- WindowsGive$Sheet.isMissing()Z ('SH',)
def f_X4_isMissing (C : wg_C) (p0 : Nat) : Option Int32 :=
  if (C p0 1) = (-1 : Int32) then (
    some (1 : Int32))
  else (
    some (0 : Int32))
set_option maxHeartbeats 4000000 in
set_option maxRecDepth 100000 in
theorem c_X4_isMissing (l : Launch) (E : wg_Ev) (ad : Nat → Nat) (S : wg_Sh) (hS : wg_SC S) (C : wg_C) (M : wg_M) (p0 : Nat) (hp0 : wg_Sht S p0) {r0 : Int32} (h : f_X4_isMissing C p0 = some r0) : wg_Ci l yX4_isMissing cX4_isMissing 1 (some .boolean) 0 0 E ad S C M [.ref (ad p0)] r0 C M := by
  refine wg_start (own := RX4) (by decide +kernel) rfl (Nat.le_of_ble_eq_true rfl) ?_
  intro p e s m below meth c X hr hnm
  refine wg_lv (lv' := [(0, .ref (ad p0))]) rfl ?_
  unfold f_X4_isMissing at h
  refine wg_aload_n X 0 dX4_isMissing_0 rfl rfl ?_
  refine wg_getC X cl4 hp0.1 1 (by decide) dX4_isMissing_1 k_271 rfl ?_
  refine wg_iconst (v := -1) X dX4_isMissing_4 (by decide) ?_
  refine wg_icmp_ne X 12 dX4_isMissing_5 (by decide) (fun c1 => ?_) (fun c1 => ?_)
  · have h := if_f c1 h
    refine wg_iconst (v := 0) X dX4_isMissing_12 (by decide) ?_
    exact wg_zret X ⟨(sm_inj h), rfl, rfl⟩ hr (by decide) dX4_isMissing_13
  · have h := if_t c1 h
    refine wg_iconst (v := 1) X dX4_isMissing_8 (by decide) ?_
    refine wg_goto X 13 dX4_isMissing_9 (by decide) ?_
    exact wg_zret X ⟨(sm_inj h), rfl, rfl⟩ hr (by decide) dX4_isMissing_13
-- WindowsGive.refusalOfLook(IIIII)I (('c', 0), 'i', 'i', 'i', 'i', 'i')
def f_X8_refusalOfLook (C : wg_C) (p1 : Int32) (p2 : Int32) (p3 : Int32) (p4 : Int32) (p5 : Int32) : Option Int32 :=
  bd (f_X8_isSheet p1) fun r2 =>
  if r2 = 0 then (
    some (-2 : Int32))
  else (
    bd (f_X0_has C p2) fun r5 =>
    if r5 = 0 then (
      some (-2 : Int32))
    else (
      bd (f_X8_isDay p3) fun r8 =>
      if r8 = 0 then (
        some (-2 : Int32))
      else (
        if p4 < 0 then (
          some (-2 : Int32))
        else (
          if p4 ≤ p5 then (
            ck (inb p1 4) <|
            bd (f_X4_isMissing C (44 + 2 * p1.toNatClampNeg)) fun r14 =>
            if r14 = 0 then (
              ck (inb p1 4) <|
              if (C (44 + 2 * p1.toNatClampNeg) 2) ≤ (10 : Int32) then (
                some (0 : Int32))
              else (
                some (-2 : Int32)))
            else (
              some (-11 : Int32)))
          else (
            some (-2 : Int32))))))
set_option maxHeartbeats 4000000 in
set_option maxRecDepth 100000 in
theorem c_X8_refusalOfLook (l : Launch) (E : wg_Ev) (ad : Nat → Nat) (S : wg_Sh) (hS : wg_SC S) (C : wg_C) (M : wg_M) (p1 : Int32) (p2 : Int32) (p3 : Int32) (p4 : Int32) (p5 : Int32)  {r0 : Int32} (h : f_X8_refusalOfLook C p1 p2 p3 p4 p5 = some r0) : wg_Ci l yX8_refusalOfLook cX8_refusalOfLook 6 (some .int) 1 21 E ad S C M [.ref (ad 0), .int p1, .int p2, .int p3, .int p4, .int p5] r0 C M := by
  refine wg_start (own := RX8) (by decide +kernel) rfl (Nat.le_of_ble_eq_true rfl) ?_
  intro p e s m below meth c X hr hnm
  refine wg_lv (lv' := [(0, .ref (ad 0)), (1, .int p1), (2, .int p2), (3, .int p3), (4, .int p4), (5, .int p5)]) rfl ?_
  unfold f_X8_refusalOfLook at h
  refine wg_iload_n X 1 dX8_refusalOfLook_0 rfl rfl ?_
  obtain ⟨r2, h1, h⟩ := bd_some h
  refine wg_callSi (As := [.int p1]) (rest := []) X (c_X8_isSheet l E ad S C M p1  h1) T_yX8_isSheet k_711 dX8_refusalOfLook_1 rfl rfl (Nat.le_of_ble_eq_true rfl) ⟨Nat.le_of_ble_eq_true rfl, Nat.le_of_ble_eq_true rfl⟩ ⟨Nat.zero_le _, Nat.zero_le _⟩ ?_
  refine wg_if_eq X 37 dX8_refusalOfLook_4 (by decide) (fun c3 => ?_) (fun c3 => ?_)
  · have h := if_t c3 h
    refine wg_bipush (v := -2) X dX8_refusalOfLook_37 (by decide) ?_
    exact wg_iret X ⟨(sm_inj h), rfl, rfl⟩ hr dX8_refusalOfLook_39
  · have h := if_f c3 h
    refine wg_aload_n X 0 dX8_refusalOfLook_7 rfl rfl ?_
    refine wg_getR (b := 1) X cl8 (SCi hS 0 8 rfl) 0 (by decide) dX8_refusalOfLook_8 k_472 rfl (SCr hS 0 0 1 rfl) ?_
    refine wg_iload_n X 2 dX8_refusalOfLook_11 rfl rfl ?_
    obtain ⟨r5, h4, h⟩ := bd_some h
    refine wg_callVi (As := [.int p2]) (rest := []) X (c_X0_has l E ad S hS C M p2  h4) T_yX0_has k_520 cl0 (SCi hS 1 0 rfl) dX8_refusalOfLook_12 rfl rfl (Nat.le_of_ble_eq_true rfl) ⟨Nat.le_of_ble_eq_true rfl, Nat.le_of_ble_eq_true rfl⟩ ⟨Nat.zero_le _, Nat.zero_le _⟩ ?_
    refine wg_if_eq X 37 dX8_refusalOfLook_15 (by decide) (fun c6 => ?_) (fun c6 => ?_)
    · have h := if_t c6 h
      refine wg_bipush (v := -2) X dX8_refusalOfLook_37 (by decide) ?_
      exact wg_iret X ⟨(sm_inj h), rfl, rfl⟩ hr dX8_refusalOfLook_39
    · have h := if_f c6 h
      refine wg_iload_n X 3 dX8_refusalOfLook_18 rfl rfl ?_
      obtain ⟨r8, h7, h⟩ := bd_some h
      refine wg_callSi (As := [.int p3]) (rest := []) X (c_X8_isDay l E ad S C M p3  h7) T_yX8_isDay k_517 dX8_refusalOfLook_19 rfl rfl (Nat.le_of_ble_eq_true rfl) ⟨Nat.le_of_ble_eq_true rfl, Nat.le_of_ble_eq_true rfl⟩ ⟨Nat.zero_le _, Nat.zero_le _⟩ ?_
      refine wg_if_eq X 37 dX8_refusalOfLook_22 (by decide) (fun c9 => ?_) (fun c9 => ?_)
      · have h := if_t c9 h
        refine wg_bipush (v := -2) X dX8_refusalOfLook_37 (by decide) ?_
        exact wg_iret X ⟨(sm_inj h), rfl, rfl⟩ hr dX8_refusalOfLook_39
      · have h := if_f c9 h
        refine wg_iload X 4 dX8_refusalOfLook_25 rfl ?_
        refine wg_if_lt X 37 dX8_refusalOfLook_27 (by decide) (fun c10 => ?_) (fun c10 => ?_)
        · have h := if_t c10 h
          refine wg_bipush (v := -2) X dX8_refusalOfLook_37 (by decide) ?_
          exact wg_iret X ⟨(sm_inj h), rfl, rfl⟩ hr dX8_refusalOfLook_39
        · have h := if_f c10 h
          refine wg_iload X 4 dX8_refusalOfLook_30 rfl ?_
          refine wg_iload X 5 dX8_refusalOfLook_32 rfl ?_
          refine wg_icmp_le X 40 dX8_refusalOfLook_34 (by decide) (fun c11 => ?_) (fun c11 => ?_)
          · have h := if_t c11 h
            refine wg_aload_n X 0 dX8_refusalOfLook_40 rfl rfl ?_
            refine wg_getR (b := 39) X cl8 (SCi hS 0 8 rfl) 7 (by decide) dX8_refusalOfLook_41 k_479 rfl (SCr hS 0 7 39 rfl) ?_
            refine wg_iload_n X 1 dX8_refusalOfLook_44 rfl rfl ?_
            obtain ⟨z12, h⟩ := ck_some h
            refine wg_aalS14 (b := 44 + 2 * p1.toNatClampNeg) X (SCi hS 39 14 rfl) (SCl hS 39 4 rfl) z12 (SCs hS (inb_lt z12)).1 dX8_refusalOfLook_45 ?_
            obtain ⟨r14, h13, h⟩ := bd_some h
            refine wg_callVi (As := []) (rest := []) X (c_X4_isMissing l E ad S hS C M (44 + 2 * p1.toNatClampNeg) ((SCs hS (inb_lt z12)).2) h13) T_yX4_isMissing k_714 cl4 ((SCs hS (inb_lt z12)).2.1) dX8_refusalOfLook_46 rfl rfl (Nat.le_of_ble_eq_true rfl) ⟨Nat.le_of_ble_eq_true rfl, Nat.le_of_ble_eq_true rfl⟩ ⟨Nat.zero_le _, Nat.zero_le _⟩ ?_
            refine wg_if_eq X 55 dX8_refusalOfLook_49 (by decide) (fun c15 => ?_) (fun c15 => ?_)
            · have h := if_t c15 h
              refine wg_aload_n X 0 dX8_refusalOfLook_55 rfl rfl ?_
              refine wg_getR (b := 39) X cl8 (SCi hS 0 8 rfl) 7 (by decide) dX8_refusalOfLook_56 k_479 rfl (SCr hS 0 7 39 rfl) ?_
              refine wg_iload_n X 1 dX8_refusalOfLook_59 rfl rfl ?_
              obtain ⟨z16, h⟩ := ck_some h
              refine wg_aalS14 (b := 44 + 2 * p1.toNatClampNeg) X (SCi hS 39 14 rfl) (SCl hS 39 4 rfl) z16 (SCs hS (inb_lt z16)).1 dX8_refusalOfLook_60 ?_
              refine wg_getC X cl4 (SCs hS (inb_lt z16)).2.1 2 (by decide) dX8_refusalOfLook_61 k_274 rfl ?_
              refine wg_bipush (v := 10) X dX8_refusalOfLook_64 (by decide) ?_
              refine wg_icmp_le X 74 dX8_refusalOfLook_66 (by decide) (fun c17 => ?_) (fun c17 => ?_)
              · have h := if_t c17 h
                refine wg_iconst (v := 0) X dX8_refusalOfLook_74 (by decide) ?_
                exact wg_iret X ⟨(sm_inj h), rfl, rfl⟩ hr dX8_refusalOfLook_75
              · have h := if_f c17 h
                refine wg_bipush (v := -2) X dX8_refusalOfLook_69 (by decide) ?_
                refine wg_goto X 75 dX8_refusalOfLook_71 (by decide) ?_
                exact wg_iret X ⟨(sm_inj h), rfl, rfl⟩ hr dX8_refusalOfLook_75
            · have h := if_f c15 h
              refine wg_bipush (v := -11) X dX8_refusalOfLook_52 (by decide) ?_
              exact wg_iret X ⟨(sm_inj h), rfl, rfl⟩ hr dX8_refusalOfLook_54
          · have h := if_f c11 h
            refine wg_bipush (v := -2) X dX8_refusalOfLook_37 (by decide) ?_
            exact wg_iret X ⟨(sm_inj h), rfl, rfl⟩ hr dX8_refusalOfLook_39
-- WindowsGive$Pane.become(LWindowsGive$Pane;)V ('P', 'P')
def f_X1_become (C : wg_C) (p0 : Nat) (p1 : Nat) : Option wg_C :=
  lt_ (wg_up C p0 1 (C p1 1)) fun C1 =>
  lt_ (wg_up C1 p0 2 (C1 p1 2)) fun C3 =>
  lt_ (wg_up C3 p0 3 (C3 p1 3)) fun C5 =>
  lt_ (wg_up C5 p0 4 (C5 p1 4)) fun C7 =>
  lt_ (wg_up C7 p0 5 (C7 p1 5)) fun C9 =>
  some C9
set_option maxHeartbeats 4000000 in
set_option maxRecDepth 100000 in
theorem c_X1_become (l : Launch) (E : wg_Ev) (ad : Nat → Nat) (S : wg_Sh) (hS : wg_SC S) (C : wg_C) (M : wg_M) (p0 : Nat) (p1 : Nat) (hp0 : wg_id S p0 1) (hp1 : wg_id S p1 1) {D0 : wg_C} (h : f_X1_become C p0 p1 = some D0) : wg_Cv l yX1_become cX1_become 2 none 0 0 E ad S C M [.ref (ad p0), .ref (ad p1)] D0 M := by
  refine wg_start (own := RX1) (by decide +kernel) rfl (Nat.le_of_ble_eq_true rfl) ?_
  intro p e s m below meth c X hr hnm
  refine wg_lv (lv' := [(0, .ref (ad p0)), (1, .ref (ad p1))]) rfl ?_
  unfold f_X1_become at h
  refine wg_aload_n X 0 dX1_become_0 rfl rfl ?_
  refine wg_aload_n X 1 dX1_become_1 rfl rfl ?_
  refine wg_getC X cl1 hp1 1 (by decide) dX1_become_2 k_112 rfl ?_
  obtain ⟨C1, e2, h⟩ := lt_some h
  refine wg_putCe X cl1 hp0 1 (by decide) dX1_become_5 k_112 rfl rfl rfl rfl e2 ?_
  refine wg_aload_n X 0 dX1_become_8 rfl rfl ?_
  refine wg_aload_n X 1 dX1_become_9 rfl rfl ?_
  refine wg_getC X cl1 hp1 2 (by decide) dX1_become_10 k_114 rfl ?_
  obtain ⟨C3, e4, h⟩ := lt_some h
  refine wg_putCe X cl1 hp0 2 (by decide) dX1_become_13 k_114 rfl rfl rfl rfl e4 ?_
  refine wg_aload_n X 0 dX1_become_16 rfl rfl ?_
  refine wg_aload_n X 1 dX1_become_17 rfl rfl ?_
  refine wg_getC X cl1 hp1 3 (by decide) dX1_become_18 k_117 rfl ?_
  obtain ⟨C5, e6, h⟩ := lt_some h
  refine wg_putCe X cl1 hp0 3 (by decide) dX1_become_21 k_117 rfl rfl rfl rfl e6 ?_
  refine wg_aload_n X 0 dX1_become_24 rfl rfl ?_
  refine wg_aload_n X 1 dX1_become_25 rfl rfl ?_
  refine wg_getC X cl1 hp1 4 (by decide) dX1_become_26 k_120 rfl ?_
  obtain ⟨C7, e8, h⟩ := lt_some h
  refine wg_putCe X cl1 hp0 4 (by decide) dX1_become_29 k_120 rfl rfl rfl rfl e8 ?_
  refine wg_aload_n X 0 dX1_become_32 rfl rfl ?_
  refine wg_aload_n X 1 dX1_become_33 rfl rfl ?_
  refine wg_getC X cl1 hp1 5 (by decide) dX1_become_34 k_124 rfl ?_
  obtain ⟨C9, e10, h⟩ := lt_some h
  refine wg_putCe X cl1 hp0 5 (by decide) dX1_become_37 k_124 rfl rfl rfl rfl e10 ?_
  exact wg_vret X ⟨(sm_inj h), rfl⟩ hr dX1_become_40
-- WindowsGive$House.shows(LWindowsGive$Pane;I)I (('c', 1), 'P', 'i')
def f_X0_shows (C : wg_C) (p1 : Nat) (p2 : Int32) : Option Int32 :=
  bd (f_X8_isDay p2) fun r2 =>
  if r2 = 0 then (
    some (-1 : Int32))
  else (
    bd (f_X1_passes C p1 p2 (0 : Int32)) fun r5 =>
    if r5 = 0 then (
      some (-1 : Int32))
    else (
      bd (f_X1_on C p1 p2) fun r8 =>
      ck (inb r8 32) <|
      some (C 2 r8.toNatClampNeg)))
set_option maxHeartbeats 4000000 in
set_option maxRecDepth 100000 in
theorem c_X0_shows (l : Launch) (E : wg_Ev) (ad : Nat → Nat) (S : wg_Sh) (hS : wg_SC S) (C : wg_C) (M : wg_M) (p1 : Nat) (p2 : Int32) (hp1 : wg_id S p1 1) {r0 : Int32} (h : f_X0_shows C p1 p2 = some r0) : wg_Ci l yX0_shows cX0_shows 3 (some .int) 2 44 E ad S C M [.ref (ad 1), .ref (ad p1), .int p2] r0 C M := by
  refine wg_start (own := RX0) (by decide +kernel) rfl (Nat.le_of_ble_eq_true rfl) ?_
  intro p e s m below meth c X hr hnm
  refine wg_lv (lv' := [(0, .ref (ad 1)), (1, .ref (ad p1)), (2, .int p2)]) rfl ?_
  unfold f_X0_shows at h
  refine wg_iload_n X 2 dX0_shows_0 rfl rfl ?_
  obtain ⟨r2, h1, h⟩ := bd_some h
  refine wg_callNi (host := "WindowsGive") (As := [.int p2]) (rest := []) X (c_X8_isDay l E ad S C M p2  h1) T_yX8_isDay (by simp [wg_nest]) dX0_shows_1 rfl rfl (Nat.le_of_ble_eq_true rfl) ⟨Nat.le_of_ble_eq_true rfl, Nat.le_of_ble_eq_true rfl⟩ ⟨Nat.zero_le _, Nat.zero_le _⟩ ?_
  refine wg_if_eq X 29 dX0_shows_4 (by decide) (fun c3 => ?_) (fun c3 => ?_)
  · have h := if_t c3 h
    refine wg_iconst (v := -1) X dX0_shows_29 (by decide) ?_
    exact wg_iret X ⟨(sm_inj h), rfl, rfl⟩ hr dX0_shows_30
  · have h := if_f c3 h
    refine wg_aload_n X 1 dX0_shows_7 rfl rfl ?_
    refine wg_iload_n X 2 dX0_shows_8 rfl rfl ?_
    refine wg_iconst (v := 0) X dX0_shows_9 (by decide) ?_
    obtain ⟨r5, h4, h⟩ := bd_some h
    refine wg_callVi (As := [.int p2, .int (0 : Int32)]) (rest := []) X (c_X1_passes l E ad S hS C M p1 p2 (0 : Int32) hp1 h4) T_yX1_passes k_727 cl1 hp1 dX0_shows_10 rfl rfl (Nat.le_of_ble_eq_true rfl) ⟨Nat.le_of_ble_eq_true rfl, Nat.le_of_ble_eq_true rfl⟩ ⟨Nat.zero_le _, Nat.zero_le _⟩ ?_
    refine wg_if_eq X 29 dX0_shows_13 (by decide) (fun c6 => ?_) (fun c6 => ?_)
    · have h := if_t c6 h
      refine wg_iconst (v := -1) X dX0_shows_29 (by decide) ?_
      exact wg_iret X ⟨(sm_inj h), rfl, rfl⟩ hr dX0_shows_30
    · have h := if_f c6 h
      refine wg_aload_n X 0 dX0_shows_16 rfl rfl ?_
      refine wg_getR (b := 2) X cl0 (SCi hS 1 0 rfl) 0 (by decide) dX0_shows_17 k_140 rfl (SCr hS 1 0 2 rfl) ?_
      refine wg_aload_n X 1 dX0_shows_20 rfl rfl ?_
      refine wg_iload_n X 2 dX0_shows_21 rfl rfl ?_
      obtain ⟨r8, h7, h⟩ := bd_some h
      refine wg_callVi (As := [.int p2]) (rest := [.ref (ad 2)]) X (c_X1_on l E ad S hS C M p1 p2 hp1 h7) T_yX1_on k_728 cl1 hp1 dX0_shows_22 rfl rfl (Nat.le_of_ble_eq_true rfl) ⟨Nat.le_of_ble_eq_true rfl, Nat.le_of_ble_eq_true rfl⟩ ⟨Nat.zero_le _, Nat.zero_le _⟩ ?_
      obtain ⟨z9, h⟩ := ck_some h
      refine wg_iald X (SCi hS 2 10 rfl) (SCl hS 2 32 rfl) z9 dX0_shows_25 ?_
      refine wg_goto X 30 dX0_shows_26 (by decide) ?_
      exact wg_iret X ⟨(sm_inj h), rfl, rfl⟩ hr dX0_shows_30
-- WindowsGive.firstOther(LWindowsGive$Sheet;LWindowsGive$Pane;I)I (('c', 0), 'SH', 'P', 'i')
def f_X8_firstOther_l3 (N : Nat) (p1 : Nat) (p2 : Nat) (C : wg_C)  (x3 : Int32) (x4 : Int32) : Option ((Int32) ⊕ ((Int32) ⊕ Int32)) :=
  if (C p1 2) ≤ x4 then (
    some (.inr (.inl x4)))
  else (
    ck (inb x4 40) <|
    bd (f_X0_shows C p2 (x3 + x4)) fun r4 =>
    if (C (p1 + 1) x4.toNatClampNeg) = r4 then (
      lt_ (x4 + (1 : Int32)) fun v6 =>
      some (.inl v6))
    else (
      some (.inr (.inr x4))))
def f_X8_firstOther (N : Nat) (C : wg_C) (p1 : Nat) (p2 : Nat) (p3 : Int32) : Option Int32 :=
  bs1 (lp (fun o => f_X8_firstOther_l3 N p1 p2 C  p3 o) N (0 : Int32)) (fun v8 =>
    some (-1 : Int32))
    (fun q11 => some q11)
abbrev G_X8_firstOther (p : Program) (l : Launch) (e : Env) (s : State) (m : MethodId) (args : Array Value) (below : List Frame) (meth : Method) (c : Code) (E : wg_Ev) (ad : Nat → Nat) (S : wg_Sh) (r0 : Int32) (C0 : wg_C) (M0 : wg_M) (pc : Nat) (C : wg_C) (M : wg_M) (lv : List (Nat × Value)) (st : List Value) : Prop := wg_G p l e (wg_Rm 3 66) s m args below meth c (MQ below (wg_Qi E ad S r0 C0 M0) args s 0 0 (wg_A E)) 5 E ad S 0 0 pc C M lv st
set_option maxHeartbeats 4000000 in
set_option maxRecDepth 100000 in
theorem L_X8_firstOther_l3 {p : Program} {l : Launch} {e : Env} {s : State} {m : MethodId} {args : Array Value} {below : List Frame} {meth : Method} {c : Code} {E : wg_Ev} {ad : Nat → Nat} {S : wg_Sh} (X : wg_X p s m args meth c cX8_firstOther 5 RX8 E) (hr : meth.sig.returnType = (some .int)) (hS : wg_SC S) (r0 : Int32) (M : wg_M) (N : Nat) (p1 : Nat) (hp1 : wg_Sht S p1) (p2 : Nat) (hp2 : wg_id S p2 1) (C : wg_C)  (x3 : Int32)  : ∀ (n : Nat) (x4 : Int32) (o : ((Int32) ⊕ Int32)), lp (fun o => f_X8_firstOther_l3 N p1 p2 C  x3 o) n x4 = some o → (∀ (y4 : Int32), o = Sum.inl y4 → G_X8_firstOther p l e s m args below meth c E ad S r0 C M 43 C M [(0, .ref (ad 0)), (1, .ref (ad p1)), (2, .ref (ad p2)), (3, .int x3), (4, .int y4)] []) → (∀ q : Int32, o = Sum.inr q → q = r0) → G_X8_firstOther p l e s m args below meth c E ad S r0 C M 3 C M [(0, .ref (ad 0)), (1, .ref (ad p1)), (2, .ref (ad p2)), (3, .int x3), (4, .int x4)] [] := by
  intro n
  induction n with
  | zero => exact fun _ o h => (lp_zero h).elim
  | succ n ih =>
    intro x4 o h K KR
    obtain ⟨o1, hb, h2⟩ := lp_some h
    replace hb : f_X8_firstOther_l3 N p1 p2 C  x3 x4 = some o1 := hb
    clear h
    have Kc : ∀ (y4 : Int32), o1 = Sum.inl y4 → G_X8_firstOther p l e s m args below meth c E ad S r0 C M 3 C M [(0, .ref (ad 0)), (1, .ref (ad p1)), (2, .ref (ad p2)), (3, .int x3), (4, .int y4)] [] := fun y4 e1 => by
      subst e1
      exact ih y4 o h2 K KR
    have Ke : ∀ (y4 : Int32), o1 = Sum.inr (Sum.inl y4) → G_X8_firstOther p l e s m args below meth c E ad S r0 C M 43 C M [(0, .ref (ad 0)), (1, .ref (ad p1)), (2, .ref (ad p2)), (3, .int x3), (4, .int y4)] [] := fun y4 e1 => by
      subst e1
      exact K y4 (sm_inj (α := ((Int32) ⊕ Int32)) h2).symm
    have Kr : ∀ q : Int32, o1 = Sum.inr (Sum.inr q) → q = r0 := fun q e1 => by
      subst e1
      exact KR q (sm_inj (α := ((Int32) ⊕ Int32)) h2).symm
    clear ih K h2 KR
    unfold f_X8_firstOther_l3 at hb
    have h := hb
    clear hb
    refine wg_iload X 4 dX8_firstOther_3 rfl ?_
    refine wg_aload_n X 1 dX8_firstOther_5 rfl rfl ?_
    refine wg_getC X cl4 hp1.1 2 (by decide) dX8_firstOther_6 k_274 rfl ?_
    refine wg_icmp_ge X 43 dX8_firstOther_9 (by decide) (fun c1 => ?_) (fun c1 => ?_)
    · have h := if_t c1 h
      exact Ke x4 (sm_inj h).symm
    · have h := if_f c1 h
      refine wg_aload_n X 1 dX8_firstOther_12 rfl rfl ?_
      refine wg_getR (b := (p1 + 1)) X cl4 hp1.1 0 (by decide) dX8_firstOther_13 k_270 rfl hp1.2.1 ?_
      refine wg_iload X 4 dX8_firstOther_16 rfl ?_
      obtain ⟨z2, h⟩ := ck_some h
      refine wg_iald X hp1.2.2.1 hp1.2.2.2 z2 dX8_firstOther_18 ?_
      refine wg_aload_n X 0 dX8_firstOther_19 rfl rfl ?_
      refine wg_getR (b := 1) X cl8 (SCi hS 0 8 rfl) 0 (by decide) dX8_firstOther_20 k_472 rfl (SCr hS 0 0 1 rfl) ?_
      refine wg_aload_n X 2 dX8_firstOther_23 rfl rfl ?_
      refine wg_iload_n X 3 dX8_firstOther_24 rfl rfl ?_
      refine wg_iload X 4 dX8_firstOther_25 rfl ?_
      refine wg_iadd X dX8_firstOther_27 ?_
      obtain ⟨r4, h3, h⟩ := bd_some h
      refine wg_callVi (As := [.ref (ad p2), .int (x3 + x4)]) (rest := [.int (C (p1 + 1) x4.toNatClampNeg)]) X (c_X0_shows l E ad S hS C M p2 (x3 + x4) hp2 h3) T_yX0_shows k_722 cl0 (SCi hS 1 0 rfl) dX8_firstOther_28 rfl rfl (Nat.le_of_ble_eq_true rfl) ⟨Nat.le_of_ble_eq_true rfl, Nat.le_of_ble_eq_true rfl⟩ ⟨Nat.zero_le _, Nat.zero_le _⟩ ?_
      refine wg_icmp_eq X 37 dX8_firstOther_31 (by decide) (fun c5 => ?_) (fun c5 => ?_)
      · have h := if_t c5 h
        obtain ⟨v6, e7, h⟩ := lt_some h
        refine wg_iinc (lv' := [(4, .int v6), (0, .ref (ad 0)), (1, .ref (ad p1)), (2, .ref (ad p2)), (3, .int x3)]) X 4 dX8_firstOther_37 rfl e7 (by decide) rfl ?_
        refine wg_goto X 3 dX8_firstOther_40 (by decide) ?_
        refine wg_pick [1, 2, 3, 4, 0] (lv' := [(0, .ref (ad 0)), (1, .ref (ad p1)), (2, .ref (ad p2)), (3, .int x3), (4, .int v6)]) rfl ?_
        exact Kc v6 (sm_inj h).symm
      · have h := if_f c5 h
        refine wg_iload X 4 dX8_firstOther_34 rfl ?_
        have hq := Kr _ (sm_inj h).symm
        exact wg_iret X ⟨hq, rfl, rfl⟩ hr dX8_firstOther_36
set_option maxHeartbeats 4000000 in
set_option maxRecDepth 100000 in
theorem c_X8_firstOther (l : Launch) (E : wg_Ev) (ad : Nat → Nat) (S : wg_Sh) (hS : wg_SC S) (N : Nat) (C : wg_C) (M : wg_M) (p1 : Nat) (p2 : Nat) (p3 : Int32) (hp1 : wg_Sht S p1) (hp2 : wg_id S p2 1) {r0 : Int32} (h : f_X8_firstOther N C p1 p2 p3 = some r0) : wg_Ci l yX8_firstOther cX8_firstOther 5 (some .int) 3 66 E ad S C M [.ref (ad 0), .ref (ad p1), .ref (ad p2), .int p3] r0 C M := by
  refine wg_start (own := RX8) (by decide +kernel) rfl (Nat.le_of_ble_eq_true rfl) ?_
  intro p e s m below meth c X hr hnm
  refine wg_lv (lv' := [(0, .ref (ad 0)), (1, .ref (ad p1)), (2, .ref (ad p2)), (3, .int p3)]) rfl ?_
  unfold f_X8_firstOther at h
  refine wg_iconst (v := 0) X dX8_firstOther_0 (by decide) ?_
  refine wg_istore (lv' := [(4, .int (0 : Int32)), (0, .ref (ad 0)), (1, .ref (ad p1)), (2, .ref (ad p2)), (3, .int p3)]) X dX8_firstOther_1 rfl (by decide) rfl ?_
  obtain ⟨o9, h10, h⟩ := bs1_o h
  refine wg_pick [1, 2, 3, 4, 0] (lv' := [(0, .ref (ad 0)), (1, .ref (ad p1)), (2, .ref (ad p2)), (3, .int p3), (4, .int (0 : Int32))]) rfl ?_
  refine L_X8_firstOther_l3 X hr hS r0 M N p1 hp1 p2 hp2 C  p3  N (0 : Int32) o9 h10 (fun v8 e12 => ?_) (fun q11 e12 => ?_)
  · subst e12
    replace h := bs1_in h
    refine wg_iconst (v := -1) X dX8_firstOther_43 (by decide) ?_
    exact wg_iret X ⟨(sm_inj h), rfl, rfl⟩ hr dX8_firstOther_44
  · subst e12
    replace h := bs1_r h
    exact sm_inj h
-- WindowsGive.fittingKinds(LWindowsGive$Sheet;LWindowsGive$Pane;I)I (('c', 0), 'SH', 'P', 'i')
def f_X8_fittingKinds_l14 (N : Nat) (p1 : Nat) (p2 : Nat)  (x3 : Int32) (C : wg_C) (x4 : Int32) (x5 : Int32) : Option ((wg_C × Int32 × Int32) ⊕ (wg_C × Int32 × Int32)) :=
  if (5 : Int32) < x5 then (
    some (.inr (C, x4, x5)))
  else (
    lt_ (wg_up C 40 1 x5) fun C4 =>
    bd (f_X8_firstOther N C4 p1 40 x3) fun r7 =>
    if r7 = (-1 : Int32) then (
      lt_ (x4 ||| ((1 : Int32) <<< (x5 &&& 31))) fun v11 =>
      lt_ (x5 + (1 : Int32)) fun v13 =>
      some (.inl (C4, v11, v13)))
    else (
      lt_ (x5 + (1 : Int32)) fun v9 =>
      some (.inl (C4, x4, v9))))
def f_X8_fittingKinds (N : Nat) (C : wg_C) (p1 : Nat) (p2 : Nat) (p3 : Int32) : Option (Int32 × wg_C) :=
  bd (f_X1_become C 40 p2) fun C2 =>
  bd3 (lp (fun o => f_X8_fittingKinds_l14 N p1 p2  p3 o.1 o.2.1 o.2.2) N (C2, (0 : Int32), (0 : Int32))) fun C15 v16 v17 =>
  some (v16, C15)
abbrev G_X8_fittingKinds (p : Program) (l : Launch) (e : Env) (s : State) (m : MethodId) (args : Array Value) (below : List Frame) (meth : Method) (c : Code) (E : wg_Ev) (ad : Nat → Nat) (S : wg_Sh) (r0 : Int32) (C0 : wg_C) (M0 : wg_M) (pc : Nat) (C : wg_C) (M : wg_M) (lv : List (Nat × Value)) (st : List Value) : Prop := wg_G p l e (wg_Rm 4 90) s m args below meth c (MQ below (wg_Qi E ad S r0 C0 M0) args s 0 0 (wg_A E)) 6 E ad S 0 0 pc C M lv st
set_option maxHeartbeats 4000000 in
set_option maxRecDepth 100000 in
theorem L_X8_fittingKinds_l14 {p : Program} {l : Launch} {e : Env} {s : State} {m : MethodId} {args : Array Value} {below : List Frame} {meth : Method} {c : Code} {E : wg_Ev} {ad : Nat → Nat} {S : wg_Sh} (X : wg_X p s m args meth c cX8_fittingKinds 6 RX8 E) (hr : meth.sig.returnType = (some .int)) (hS : wg_SC S) (r0 : Int32) (D0 : wg_C) (M : wg_M) (N : Nat) (p1 : Nat) (hp1 : wg_Sht S p1) (p2 : Nat) (hp2 : wg_id S p2 1)  (x3 : Int32)  : ∀ (n : Nat) (C : wg_C) (x4 : Int32) (x5 : Int32) (o : (wg_C × Int32 × Int32)), lp (fun o => f_X8_fittingKinds_l14 N p1 p2  x3 o.1 o.2.1 o.2.2) n (C, x4, x5) = some o → (∀ (Dy : wg_C) (y4 : Int32) (y5 : Int32), o = (Dy, y4, y5) → G_X8_fittingKinds p l e s m args below meth c E ad S r0 D0 M 58 Dy M [(0, .ref (ad 0)), (1, .ref (ad p1)), (3, .int x3), (4, .int y4), (5, .int y5)] []) → G_X8_fittingKinds p l e s m args below meth c E ad S r0 D0 M 14 C M [(0, .ref (ad 0)), (1, .ref (ad p1)), (3, .int x3), (4, .int x4), (5, .int x5)] [] := by
  intro n
  induction n with
  | zero => exact fun _ _ _ o h => (lp_zero h).elim
  | succ n ih =>
    intro C x4 x5 o h K
    obtain ⟨o1, hb, h2⟩ := lp_some h
    replace hb : f_X8_fittingKinds_l14 N p1 p2  x3 C x4 x5 = some o1 := hb
    clear h
    have Kc : ∀ (Dy : wg_C) (y4 : Int32) (y5 : Int32), o1 = Sum.inl (Dy, y4, y5) → G_X8_fittingKinds p l e s m args below meth c E ad S r0 D0 M 14 Dy M [(0, .ref (ad 0)), (1, .ref (ad p1)), (3, .int x3), (4, .int y4), (5, .int y5)] [] := fun Dy y4 y5 e1 => by
      subst e1
      exact ih Dy y4 y5 o h2 K
    have Ke : ∀ (Dy : wg_C) (y4 : Int32) (y5 : Int32), o1 = Sum.inr ((Dy, y4, y5)) → G_X8_fittingKinds p l e s m args below meth c E ad S r0 D0 M 58 Dy M [(0, .ref (ad 0)), (1, .ref (ad p1)), (3, .int x3), (4, .int y4), (5, .int y5)] [] := fun Dy y4 y5 e1 => by
      subst e1
      exact K Dy y4 y5 (sm_inj (α := (wg_C × Int32 × Int32)) h2).symm
    clear ih K h2
    unfold f_X8_fittingKinds_l14 at hb
    have h := hb
    clear hb
    refine wg_iload X 4 dX8_fittingKinds_14 rfl ?_
    refine wg_iconst (v := 5) X dX8_fittingKinds_16 (by decide) ?_
    refine wg_icmp_gt X 58 dX8_fittingKinds_17 (by decide) (fun c3 => ?_) (fun c3 => ?_)
    · have h := if_t c3 h
      exact Ke C x4 x5 (sm_inj h).symm
    · have h := if_f c3 h
      refine wg_aload_n X 0 dX8_fittingKinds_20 rfl rfl ?_
      refine wg_getR (b := 40) X cl8 (SCi hS 0 8 rfl) 8 (by decide) dX8_fittingKinds_21 k_480 rfl (SCr hS 0 8 40 rfl) ?_
      refine wg_iload X 4 dX8_fittingKinds_24 rfl ?_
      obtain ⟨C4, e5, h⟩ := lt_some h
      refine wg_putCe X cl1 (SCi hS 40 1 rfl) 1 (by decide) dX8_fittingKinds_26 k_113 rfl rfl rfl rfl e5 ?_
      refine wg_aload_n X 0 dX8_fittingKinds_29 rfl rfl ?_
      refine wg_aload_n X 1 dX8_fittingKinds_30 rfl rfl ?_
      refine wg_aload_n X 0 dX8_fittingKinds_31 rfl rfl ?_
      refine wg_getR (b := 40) X cl8 (SCi hS 0 8 rfl) 8 (by decide) dX8_fittingKinds_32 k_480 rfl (SCr hS 0 8 40 rfl) ?_
      refine wg_iload_n X 2 dX8_fittingKinds_35 rfl rfl ?_
      obtain ⟨r7, h6, h⟩ := bd_some h
      refine wg_callVi (As := [.ref (ad p1), .ref (ad 40), .int x3]) (rest := []) X (c_X8_firstOther l E ad S hS N C4 M p1 40 x3 hp1 (SCi hS 40 1 rfl) h6) T_yX8_firstOther k_718 cl8 (SCi hS 0 8 rfl) dX8_fittingKinds_36 rfl rfl (Nat.le_of_ble_eq_true rfl) ⟨Nat.le_of_ble_eq_true rfl, Nat.le_of_ble_eq_true rfl⟩ ⟨Nat.zero_le _, Nat.zero_le _⟩ ?_
      refine wg_iconst (v := -1) X dX8_fittingKinds_39 (by decide) ?_
      refine wg_icmp_ne X 52 dX8_fittingKinds_40 (by decide) (fun c8 => ?_) (fun c8 => ?_)
      · have h := if_f c8 h
        obtain ⟨v9, e10, h⟩ := lt_some h
        refine wg_iinc (lv' := [(5, .int v9), (0, .ref (ad 0)), (1, .ref (ad p1)), (3, .int x3), (4, .int x4)]) X 4 dX8_fittingKinds_52 rfl e10 (by decide) rfl ?_
        refine wg_goto X 14 dX8_fittingKinds_55 (by decide) ?_
        refine wg_pick [1, 2, 3, 4, 0] (lv' := [(0, .ref (ad 0)), (1, .ref (ad p1)), (3, .int x3), (4, .int x4), (5, .int v9)]) rfl ?_
        exact Kc C4 x4 v9 (sm_inj h).symm
      · have h := if_t c8 h
        refine wg_iload X 3 dX8_fittingKinds_43 rfl ?_
        refine wg_iconst (v := 1) X dX8_fittingKinds_45 (by decide) ?_
        refine wg_iload X 4 dX8_fittingKinds_46 rfl ?_
        refine wg_ishl X dX8_fittingKinds_48 ?_
        refine wg_ior X dX8_fittingKinds_49 ?_
        obtain ⟨v11, e12, h⟩ := lt_some h
        refine wg_istore (lv' := [(4, .int v11), (0, .ref (ad 0)), (1, .ref (ad p1)), (3, .int x3), (5, .int x5)]) X dX8_fittingKinds_50 e12 (by decide) rfl ?_
        obtain ⟨v13, e14, h⟩ := lt_some h
        refine wg_iinc (lv' := [(5, .int v13), (4, .int v11), (0, .ref (ad 0)), (1, .ref (ad p1)), (3, .int x3)]) X 4 dX8_fittingKinds_52 rfl e14 (by decide) rfl ?_
        refine wg_goto X 14 dX8_fittingKinds_55 (by decide) ?_
        refine wg_pick [2, 3, 4, 1, 0] (lv' := [(0, .ref (ad 0)), (1, .ref (ad p1)), (3, .int x3), (4, .int v11), (5, .int v13)]) rfl ?_
        exact Kc C4 v11 v13 (sm_inj h).symm
set_option maxHeartbeats 4000000 in
set_option maxRecDepth 100000 in
theorem c_X8_fittingKinds (l : Launch) (E : wg_Ev) (ad : Nat → Nat) (S : wg_Sh) (hS : wg_SC S) (N : Nat) (C : wg_C) (M : wg_M) (p1 : Nat) (p2 : Nat) (p3 : Int32) (hp1 : wg_Sht S p1) (hp2 : wg_id S p2 1) {r0 : Int32} {D0 : wg_C} (h : f_X8_fittingKinds N C p1 p2 p3 = some (r0, D0)) : wg_Ci l yX8_fittingKinds cX8_fittingKinds 6 (some .int) 4 90 E ad S C M [.ref (ad 0), .ref (ad p1), .ref (ad p2), .int p3] r0 D0 M := by
  refine wg_start (own := RX8) (by decide +kernel) rfl (Nat.le_of_ble_eq_true rfl) ?_
  intro p e s m below meth c X hr hnm
  refine wg_lv (lv' := [(0, .ref (ad 0)), (1, .ref (ad p1)), (2, .ref (ad p2)), (3, .int p3)]) rfl ?_
  unfold f_X8_fittingKinds at h
  refine wg_iconst (v := 0) X dX8_fittingKinds_0 (by decide) ?_
  refine wg_istore (lv' := [(4, .int (0 : Int32)), (0, .ref (ad 0)), (1, .ref (ad p1)), (2, .ref (ad p2)), (3, .int p3)]) X dX8_fittingKinds_1 rfl (by decide) rfl ?_
  refine wg_aload_n X 1 dX8_fittingKinds_3 rfl rfl ?_
  refine wg_getR (b := 40) X cl8 (SCi hS 0 8 rfl) 8 (by decide) dX8_fittingKinds_4 k_480 rfl (SCr hS 0 8 40 rfl) ?_
  refine wg_aload_n X 3 dX8_fittingKinds_7 rfl rfl ?_
  obtain ⟨C2, h1, h⟩ := bd_some h
  refine wg_callVv (As := [.ref (ad p2)]) (rest := []) X (c_X1_become l E ad S hS C M 40 p2 (SCi hS 40 1 rfl) hp2 h1) T_yX1_become k_733 cl1 (SCi hS 40 1 rfl) dX8_fittingKinds_8 rfl rfl (Nat.le_of_ble_eq_true rfl) ⟨Nat.le_of_ble_eq_true rfl, Nat.le_of_ble_eq_true rfl⟩ ⟨Nat.zero_le _, Nat.zero_le _⟩ ?_
  refine wg_iconst (v := 0) X dX8_fittingKinds_11 (by decide) ?_
  refine wg_istore (lv' := [(5, .int (0 : Int32)), (4, .int (0 : Int32)), (0, .ref (ad 0)), (1, .ref (ad p1)), (2, .ref (ad p2)), (3, .int p3)]) X dX8_fittingKinds_12 rfl (by decide) rfl ?_
  obtain ⟨o18, h19, h⟩ := bd3_o h
  refine wg_pick [2, 3, 5, 1, 0] (lv' := [(0, .ref (ad 0)), (1, .ref (ad p1)), (3, .int p3), (4, .int (0 : Int32)), (5, .int (0 : Int32))]) rfl ?_
  refine L_X8_fittingKinds_l14 X hr hS r0 D0 M N p1 hp1 p2 hp2  p3  N C2 (0 : Int32) (0 : Int32) o18 h19 (fun C15 v16 v17 e21 => ?_)
  · subst e21
    replace h := bd3_in h
    refine wg_iload X 3 dX8_fittingKinds_58 rfl ?_
    exact wg_iret X ⟨congrArg Prod.fst (sm_inj h), congrArg Prod.snd (sm_inj h), rfl⟩ hr dX8_fittingKinds_60
-- WindowsGive.fittingShifts(LWindowsGive$Sheet;LWindowsGive$Pane;I)I (('c', 0), 'SH', 'P', 'i')
def f_X8_fittingShifts_l14 (N : Nat) (p1 : Nat) (p2 : Nat)  (x3 : Int32) (C : wg_C) (x4 : Int32) (x5 : Int32) : Option ((wg_C × Int32 × Int32) ⊕ (wg_C × Int32 × Int32)) :=
  if (18 : Int32) < x5 then (
    some (.inr (C, x4, x5)))
  else (
    lt_ (wg_up C 40 3 (x5 - (9 : Int32))) fun C4 =>
    bd (f_X8_firstOther N C4 p1 40 x3) fun r7 =>
    if r7 = (-1 : Int32) then (
      lt_ (x4 ||| ((1 : Int32) <<< (x5 &&& 31))) fun v11 =>
      lt_ (x5 + (1 : Int32)) fun v13 =>
      some (.inl (C4, v11, v13)))
    else (
      lt_ (x5 + (1 : Int32)) fun v9 =>
      some (.inl (C4, x4, v9))))
def f_X8_fittingShifts (N : Nat) (C : wg_C) (p1 : Nat) (p2 : Nat) (p3 : Int32) : Option (Int32 × wg_C) :=
  bd (f_X1_become C 40 p2) fun C2 =>
  bd3 (lp (fun o => f_X8_fittingShifts_l14 N p1 p2  p3 o.1 o.2.1 o.2.2) N (C2, (0 : Int32), (0 : Int32))) fun C15 v16 v17 =>
  some (v16, C15)
abbrev G_X8_fittingShifts (p : Program) (l : Launch) (e : Env) (s : State) (m : MethodId) (args : Array Value) (below : List Frame) (meth : Method) (c : Code) (E : wg_Ev) (ad : Nat → Nat) (S : wg_Sh) (r0 : Int32) (C0 : wg_C) (M0 : wg_M) (pc : Nat) (C : wg_C) (M : wg_M) (lv : List (Nat × Value)) (st : List Value) : Prop := wg_G p l e (wg_Rm 4 90) s m args below meth c (MQ below (wg_Qi E ad S r0 C0 M0) args s 0 0 (wg_A E)) 6 E ad S 0 0 pc C M lv st
set_option maxHeartbeats 4000000 in
set_option maxRecDepth 100000 in
theorem L_X8_fittingShifts_l14 {p : Program} {l : Launch} {e : Env} {s : State} {m : MethodId} {args : Array Value} {below : List Frame} {meth : Method} {c : Code} {E : wg_Ev} {ad : Nat → Nat} {S : wg_Sh} (X : wg_X p s m args meth c cX8_fittingShifts 6 RX8 E) (hr : meth.sig.returnType = (some .int)) (hS : wg_SC S) (r0 : Int32) (D0 : wg_C) (M : wg_M) (N : Nat) (p1 : Nat) (hp1 : wg_Sht S p1) (p2 : Nat) (hp2 : wg_id S p2 1)  (x3 : Int32)  : ∀ (n : Nat) (C : wg_C) (x4 : Int32) (x5 : Int32) (o : (wg_C × Int32 × Int32)), lp (fun o => f_X8_fittingShifts_l14 N p1 p2  x3 o.1 o.2.1 o.2.2) n (C, x4, x5) = some o → (∀ (Dy : wg_C) (y4 : Int32) (y5 : Int32), o = (Dy, y4, y5) → G_X8_fittingShifts p l e s m args below meth c E ad S r0 D0 M 62 Dy M [(0, .ref (ad 0)), (1, .ref (ad p1)), (3, .int x3), (4, .int y4), (5, .int y5)] []) → G_X8_fittingShifts p l e s m args below meth c E ad S r0 D0 M 14 C M [(0, .ref (ad 0)), (1, .ref (ad p1)), (3, .int x3), (4, .int x4), (5, .int x5)] [] := by
  intro n
  induction n with
  | zero => exact fun _ _ _ o h => (lp_zero h).elim
  | succ n ih =>
    intro C x4 x5 o h K
    obtain ⟨o1, hb, h2⟩ := lp_some h
    replace hb : f_X8_fittingShifts_l14 N p1 p2  x3 C x4 x5 = some o1 := hb
    clear h
    have Kc : ∀ (Dy : wg_C) (y4 : Int32) (y5 : Int32), o1 = Sum.inl (Dy, y4, y5) → G_X8_fittingShifts p l e s m args below meth c E ad S r0 D0 M 14 Dy M [(0, .ref (ad 0)), (1, .ref (ad p1)), (3, .int x3), (4, .int y4), (5, .int y5)] [] := fun Dy y4 y5 e1 => by
      subst e1
      exact ih Dy y4 y5 o h2 K
    have Ke : ∀ (Dy : wg_C) (y4 : Int32) (y5 : Int32), o1 = Sum.inr ((Dy, y4, y5)) → G_X8_fittingShifts p l e s m args below meth c E ad S r0 D0 M 62 Dy M [(0, .ref (ad 0)), (1, .ref (ad p1)), (3, .int x3), (4, .int y4), (5, .int y5)] [] := fun Dy y4 y5 e1 => by
      subst e1
      exact K Dy y4 y5 (sm_inj (α := (wg_C × Int32 × Int32)) h2).symm
    clear ih K h2
    unfold f_X8_fittingShifts_l14 at hb
    have h := hb
    clear hb
    refine wg_iload X 4 dX8_fittingShifts_14 rfl ?_
    refine wg_bipush (v := 18) X dX8_fittingShifts_16 (by decide) ?_
    refine wg_icmp_gt X 62 dX8_fittingShifts_18 (by decide) (fun c3 => ?_) (fun c3 => ?_)
    · have h := if_t c3 h
      exact Ke C x4 x5 (sm_inj h).symm
    · have h := if_f c3 h
      refine wg_aload_n X 0 dX8_fittingShifts_21 rfl rfl ?_
      refine wg_getR (b := 40) X cl8 (SCi hS 0 8 rfl) 8 (by decide) dX8_fittingShifts_22 k_480 rfl (SCr hS 0 8 40 rfl) ?_
      refine wg_iload X 4 dX8_fittingShifts_25 rfl ?_
      refine wg_bipush (v := 9) X dX8_fittingShifts_27 (by decide) ?_
      refine wg_isub X dX8_fittingShifts_29 ?_
      obtain ⟨C4, e5, h⟩ := lt_some h
      refine wg_putCe X cl1 (SCi hS 40 1 rfl) 3 (by decide) dX8_fittingShifts_30 k_119 rfl rfl rfl rfl e5 ?_
      refine wg_aload_n X 0 dX8_fittingShifts_33 rfl rfl ?_
      refine wg_aload_n X 1 dX8_fittingShifts_34 rfl rfl ?_
      refine wg_aload_n X 0 dX8_fittingShifts_35 rfl rfl ?_
      refine wg_getR (b := 40) X cl8 (SCi hS 0 8 rfl) 8 (by decide) dX8_fittingShifts_36 k_480 rfl (SCr hS 0 8 40 rfl) ?_
      refine wg_iload_n X 2 dX8_fittingShifts_39 rfl rfl ?_
      obtain ⟨r7, h6, h⟩ := bd_some h
      refine wg_callVi (As := [.ref (ad p1), .ref (ad 40), .int x3]) (rest := []) X (c_X8_firstOther l E ad S hS N C4 M p1 40 x3 hp1 (SCi hS 40 1 rfl) h6) T_yX8_firstOther k_718 cl8 (SCi hS 0 8 rfl) dX8_fittingShifts_40 rfl rfl (Nat.le_of_ble_eq_true rfl) ⟨Nat.le_of_ble_eq_true rfl, Nat.le_of_ble_eq_true rfl⟩ ⟨Nat.zero_le _, Nat.zero_le _⟩ ?_
      refine wg_iconst (v := -1) X dX8_fittingShifts_43 (by decide) ?_
      refine wg_icmp_ne X 56 dX8_fittingShifts_44 (by decide) (fun c8 => ?_) (fun c8 => ?_)
      · have h := if_f c8 h
        obtain ⟨v9, e10, h⟩ := lt_some h
        refine wg_iinc (lv' := [(5, .int v9), (0, .ref (ad 0)), (1, .ref (ad p1)), (3, .int x3), (4, .int x4)]) X 4 dX8_fittingShifts_56 rfl e10 (by decide) rfl ?_
        refine wg_goto X 14 dX8_fittingShifts_59 (by decide) ?_
        refine wg_pick [1, 2, 3, 4, 0] (lv' := [(0, .ref (ad 0)), (1, .ref (ad p1)), (3, .int x3), (4, .int x4), (5, .int v9)]) rfl ?_
        exact Kc C4 x4 v9 (sm_inj h).symm
      · have h := if_t c8 h
        refine wg_iload X 3 dX8_fittingShifts_47 rfl ?_
        refine wg_iconst (v := 1) X dX8_fittingShifts_49 (by decide) ?_
        refine wg_iload X 4 dX8_fittingShifts_50 rfl ?_
        refine wg_ishl X dX8_fittingShifts_52 ?_
        refine wg_ior X dX8_fittingShifts_53 ?_
        obtain ⟨v11, e12, h⟩ := lt_some h
        refine wg_istore (lv' := [(4, .int v11), (0, .ref (ad 0)), (1, .ref (ad p1)), (3, .int x3), (5, .int x5)]) X dX8_fittingShifts_54 e12 (by decide) rfl ?_
        obtain ⟨v13, e14, h⟩ := lt_some h
        refine wg_iinc (lv' := [(5, .int v13), (4, .int v11), (0, .ref (ad 0)), (1, .ref (ad p1)), (3, .int x3)]) X 4 dX8_fittingShifts_56 rfl e14 (by decide) rfl ?_
        refine wg_goto X 14 dX8_fittingShifts_59 (by decide) ?_
        refine wg_pick [2, 3, 4, 1, 0] (lv' := [(0, .ref (ad 0)), (1, .ref (ad p1)), (3, .int x3), (4, .int v11), (5, .int v13)]) rfl ?_
        exact Kc C4 v11 v13 (sm_inj h).symm
set_option maxHeartbeats 4000000 in
set_option maxRecDepth 100000 in
theorem c_X8_fittingShifts (l : Launch) (E : wg_Ev) (ad : Nat → Nat) (S : wg_Sh) (hS : wg_SC S) (N : Nat) (C : wg_C) (M : wg_M) (p1 : Nat) (p2 : Nat) (p3 : Int32) (hp1 : wg_Sht S p1) (hp2 : wg_id S p2 1) {r0 : Int32} {D0 : wg_C} (h : f_X8_fittingShifts N C p1 p2 p3 = some (r0, D0)) : wg_Ci l yX8_fittingShifts cX8_fittingShifts 6 (some .int) 4 90 E ad S C M [.ref (ad 0), .ref (ad p1), .ref (ad p2), .int p3] r0 D0 M := by
  refine wg_start (own := RX8) (by decide +kernel) rfl (Nat.le_of_ble_eq_true rfl) ?_
  intro p e s m below meth c X hr hnm
  refine wg_lv (lv' := [(0, .ref (ad 0)), (1, .ref (ad p1)), (2, .ref (ad p2)), (3, .int p3)]) rfl ?_
  unfold f_X8_fittingShifts at h
  refine wg_iconst (v := 0) X dX8_fittingShifts_0 (by decide) ?_
  refine wg_istore (lv' := [(4, .int (0 : Int32)), (0, .ref (ad 0)), (1, .ref (ad p1)), (2, .ref (ad p2)), (3, .int p3)]) X dX8_fittingShifts_1 rfl (by decide) rfl ?_
  refine wg_aload_n X 1 dX8_fittingShifts_3 rfl rfl ?_
  refine wg_getR (b := 40) X cl8 (SCi hS 0 8 rfl) 8 (by decide) dX8_fittingShifts_4 k_480 rfl (SCr hS 0 8 40 rfl) ?_
  refine wg_aload_n X 3 dX8_fittingShifts_7 rfl rfl ?_
  obtain ⟨C2, h1, h⟩ := bd_some h
  refine wg_callVv (As := [.ref (ad p2)]) (rest := []) X (c_X1_become l E ad S hS C M 40 p2 (SCi hS 40 1 rfl) hp2 h1) T_yX1_become k_733 cl1 (SCi hS 40 1 rfl) dX8_fittingShifts_8 rfl rfl (Nat.le_of_ble_eq_true rfl) ⟨Nat.le_of_ble_eq_true rfl, Nat.le_of_ble_eq_true rfl⟩ ⟨Nat.zero_le _, Nat.zero_le _⟩ ?_
  refine wg_iconst (v := 0) X dX8_fittingShifts_11 (by decide) ?_
  refine wg_istore (lv' := [(5, .int (0 : Int32)), (4, .int (0 : Int32)), (0, .ref (ad 0)), (1, .ref (ad p1)), (2, .ref (ad p2)), (3, .int p3)]) X dX8_fittingShifts_12 rfl (by decide) rfl ?_
  obtain ⟨o18, h19, h⟩ := bd3_o h
  refine wg_pick [2, 3, 5, 1, 0] (lv' := [(0, .ref (ad 0)), (1, .ref (ad p1)), (3, .int p3), (4, .int (0 : Int32)), (5, .int (0 : Int32))]) rfl ?_
  refine L_X8_fittingShifts_l14 X hr hS r0 D0 M N p1 hp1 p2 hp2  p3  N C2 (0 : Int32) (0 : Int32) o18 h19 (fun C15 v16 v17 e21 => ?_)
  · subst e21
    replace h := bd3_in h
    refine wg_iload X 3 dX8_fittingShifts_62 rfl ?_
    exact wg_iret X ⟨congrArg Prod.fst (sm_inj h), congrArg Prod.snd (sm_inj h), rfl⟩ hr dX8_fittingShifts_64
-- WindowsGive.seen(IIII)I (('c', 0), 'i', 'i', 'i', 'i')
def f_X8_seen (N : Nat) (C : wg_C) (p1 : Int32) (p2 : Int32) (p3 : Int32) (p4 : Int32) : Option (Int32 × wg_C) :=
  bd (f_X8_refusalOfLook C p1 p2 p3 p4 (2 : Int32)) fun r2 =>
  if r2 = 0 then (
    ck (inb p1 4) <|
    ck (inb p2 8) <|
    if p4 = 0 then (
      bd (f_X8_firstOther N C (44 + 2 * p1.toNatClampNeg) (4 + p2.toNatClampNeg) p3) fun r15 =>
      some (r15, C))
    else (
      if p4 = (1 : Int32) then (
        bd2 (f_X8_fittingShifts N C (44 + 2 * p1.toNatClampNeg) (4 + p2.toNatClampNeg) p3) fun r12 C13 =>
        some (r12, C13))
      else (
        bd2 (f_X8_fittingKinds N C (44 + 2 * p1.toNatClampNeg) (4 + p2.toNatClampNeg) p3) fun r9 C10 =>
        some (r9, C10))))
  else (
    some (r2, C))
set_option maxHeartbeats 4000000 in
set_option maxRecDepth 100000 in
theorem c_X8_seen (l : Launch) (E : wg_Ev) (ad : Nat → Nat) (S : wg_Sh) (hS : wg_SC S) (N : Nat) (C : wg_C) (M : wg_M) (p1 : Int32) (p2 : Int32) (p3 : Int32) (p4 : Int32)  {r0 : Int32} {D0 : wg_C} (h : f_X8_seen N C p1 p2 p3 p4 = some (r0, D0)) : wg_Ci l yX8_seen cX8_seen 8 (some .int) 5 115 E ad S C M [.ref (ad 0), .int p1, .int p2, .int p3, .int p4] r0 D0 M := by
  refine wg_start (own := RX8) (by decide +kernel) rfl (Nat.le_of_ble_eq_true rfl) ?_
  intro p e s m below meth c X hr hnm
  refine wg_lv (lv' := [(0, .ref (ad 0)), (1, .int p1), (2, .int p2), (3, .int p3), (4, .int p4)]) rfl ?_
  unfold f_X8_seen at h
  refine wg_aload_n X 0 dX8_seen_0 rfl rfl ?_
  refine wg_iload_n X 1 dX8_seen_1 rfl rfl ?_
  refine wg_iload_n X 2 dX8_seen_2 rfl rfl ?_
  refine wg_iload_n X 3 dX8_seen_3 rfl rfl ?_
  refine wg_iload X 4 dX8_seen_4 rfl ?_
  refine wg_iconst (v := 2) X dX8_seen_6 (by decide) ?_
  obtain ⟨r2, h1, h⟩ := bd_some h
  refine wg_callVi (As := [.int p1, .int p2, .int p3, .int p4, .int (2 : Int32)]) (rest := []) X (c_X8_refusalOfLook l E ad S hS C M p1 p2 p3 p4 (2 : Int32)  h1) T_yX8_refusalOfLook k_707 cl8 (SCi hS 0 8 rfl) dX8_seen_7 rfl rfl (Nat.le_of_ble_eq_true rfl) ⟨Nat.le_of_ble_eq_true rfl, Nat.le_of_ble_eq_true rfl⟩ ⟨Nat.zero_le _, Nat.zero_le _⟩ ?_
  refine wg_istore (lv' := [(5, .int r2), (0, .ref (ad 0)), (1, .int p1), (2, .int p2), (3, .int p3), (4, .int p4)]) X dX8_seen_10 rfl (by decide) rfl ?_
  refine wg_iload X 0 dX8_seen_12 rfl ?_
  refine wg_if_eq X 20 dX8_seen_14 (by decide) (fun c3 => ?_) (fun c3 => ?_)
  · have h := if_t c3 h
    refine wg_aload_n X 1 dX8_seen_20 rfl rfl ?_
    refine wg_getR (b := 39) X cl8 (SCi hS 0 8 rfl) 7 (by decide) dX8_seen_21 k_479 rfl (SCr hS 0 7 39 rfl) ?_
    refine wg_iload_n X 2 dX8_seen_24 rfl rfl ?_
    obtain ⟨z4, h⟩ := ck_some h
    refine wg_aalS14 (b := 44 + 2 * p1.toNatClampNeg) X (SCi hS 39 14 rfl) (SCl hS 39 4 rfl) z4 (SCs hS (inb_lt z4)).1 dX8_seen_25 ?_
    refine wg_astore (lv' := [(6, .ref (ad (44 + 2 * p1.toNatClampNeg))), (5, .int r2), (0, .ref (ad 0)), (1, .int p1), (2, .int p2), (3, .int p3), (4, .int p4)]) X dX8_seen_26 rfl (by decide) rfl ?_
    refine wg_aload_n X 2 dX8_seen_28 rfl rfl ?_
    refine wg_getR (b := 1) X cl8 (SCi hS 0 8 rfl) 0 (by decide) dX8_seen_29 k_472 rfl (SCr hS 0 0 1 rfl) ?_
    refine wg_getR (b := 3) X cl0 (SCi hS 1 0 rfl) 1 (by decide) dX8_seen_32 k_144 rfl (SCr hS 1 1 3 rfl) ?_
    refine wg_iload_n X 4 dX8_seen_35 rfl rfl ?_
    obtain ⟨z5, h⟩ := ck_some h
    refine wg_aalS13 (b := 4 + p2.toNatClampNeg) X (SCi hS 3 13 rfl) (SCl hS 3 8 rfl) z5 (SCp hS (inb_lt z5)).1 dX8_seen_36 ?_
    refine wg_astore (lv' := [(7, .ref (ad (4 + p2.toNatClampNeg))), (6, .ref (ad (44 + 2 * p1.toNatClampNeg))), (5, .int r2), (0, .ref (ad 0)), (1, .int p1), (2, .int p2), (3, .int p3), (4, .int p4)]) X dX8_seen_37 rfl (by decide) rfl ?_
    refine wg_iload X 7 dX8_seen_39 rfl ?_
    refine wg_if_ne X 54 dX8_seen_41 (by decide) (fun c6 => ?_) (fun c6 => ?_)
    · have h := if_f c6 h
      refine wg_iload X 7 dX8_seen_54 rfl ?_
      refine wg_iconst (v := 1) X dX8_seen_56 (by decide) ?_
      refine wg_icmp_ne X 72 dX8_seen_57 (by decide) (fun c7 => ?_) (fun c7 => ?_)
      · have h := if_f c7 h
        refine wg_aload_n X 3 dX8_seen_72 rfl rfl ?_
        refine wg_aload X 1 dX8_seen_73 rfl ?_
        refine wg_aload X 0 dX8_seen_75 rfl ?_
        refine wg_iload_n X 6 dX8_seen_77 rfl rfl ?_
        obtain ⟨r9, C10, h8, h⟩ := bd2_some h
        refine wg_callVi (As := [.ref (ad (44 + 2 * p1.toNatClampNeg)), .ref (ad (4 + p2.toNatClampNeg)), .int p3]) (rest := []) X (c_X8_fittingKinds l E ad S hS N C M (44 + 2 * p1.toNatClampNeg) (4 + p2.toNatClampNeg) p3 ((SCs hS (inb_lt z4)).2) ((SCp hS (inb_lt z5)).2.1) h8) T_yX8_fittingKinds k_737 cl8 (SCi hS 0 8 rfl) dX8_seen_78 rfl rfl (Nat.le_of_ble_eq_true rfl) ⟨Nat.le_of_ble_eq_true rfl, Nat.le_of_ble_eq_true rfl⟩ ⟨Nat.zero_le _, Nat.zero_le _⟩ ?_
        exact wg_iret X ⟨congrArg Prod.fst (sm_inj h), congrArg Prod.snd (sm_inj h), rfl⟩ hr dX8_seen_81
      · have h := if_t c7 h
        refine wg_aload_n X 3 dX8_seen_60 rfl rfl ?_
        refine wg_aload X 1 dX8_seen_61 rfl ?_
        refine wg_aload X 0 dX8_seen_63 rfl ?_
        refine wg_iload_n X 6 dX8_seen_65 rfl rfl ?_
        obtain ⟨r12, C13, h11, h⟩ := bd2_some h
        refine wg_callVi (As := [.ref (ad (44 + 2 * p1.toNatClampNeg)), .ref (ad (4 + p2.toNatClampNeg)), .int p3]) (rest := []) X (c_X8_fittingShifts l E ad S hS N C M (44 + 2 * p1.toNatClampNeg) (4 + p2.toNatClampNeg) p3 ((SCs hS (inb_lt z4)).2) ((SCp hS (inb_lt z5)).2.1) h11) T_yX8_fittingShifts k_729 cl8 (SCi hS 0 8 rfl) dX8_seen_66 rfl rfl (Nat.le_of_ble_eq_true rfl) ⟨Nat.le_of_ble_eq_true rfl, Nat.le_of_ble_eq_true rfl⟩ ⟨Nat.zero_le _, Nat.zero_le _⟩ ?_
        refine wg_goto X 81 dX8_seen_69 (by decide) ?_
        exact wg_iret X ⟨congrArg Prod.fst (sm_inj h), congrArg Prod.snd (sm_inj h), rfl⟩ hr dX8_seen_81
    · have h := if_t c6 h
      refine wg_aload_n X 3 dX8_seen_44 rfl rfl ?_
      refine wg_aload X 1 dX8_seen_45 rfl ?_
      refine wg_aload X 0 dX8_seen_47 rfl ?_
      refine wg_iload_n X 6 dX8_seen_49 rfl rfl ?_
      obtain ⟨r15, h14, h⟩ := bd_some h
      refine wg_callVi (As := [.ref (ad (44 + 2 * p1.toNatClampNeg)), .ref (ad (4 + p2.toNatClampNeg)), .int p3]) (rest := []) X (c_X8_firstOther l E ad S hS N C M (44 + 2 * p1.toNatClampNeg) (4 + p2.toNatClampNeg) p3 ((SCs hS (inb_lt z4)).2) ((SCp hS (inb_lt z5)).2.1) h14) T_yX8_firstOther k_718 cl8 (SCi hS 0 8 rfl) dX8_seen_50 rfl rfl (Nat.le_of_ble_eq_true rfl) ⟨Nat.le_of_ble_eq_true rfl, Nat.le_of_ble_eq_true rfl⟩ ⟨Nat.zero_le _, Nat.zero_le _⟩ ?_
      exact wg_iret X ⟨congrArg Prod.fst (sm_inj h), congrArg Prod.snd (sm_inj h), rfl⟩ hr dX8_seen_53
  · have h := if_f c3 h
    refine wg_iload X 0 dX8_seen_17 rfl ?_
    exact wg_iret X ⟨congrArg Prod.fst (sm_inj h), congrArg Prod.snd (sm_inj h), rfl⟩ hr dX8_seen_19
-- WindowsGive.unlikeShown(LWindowsGive$Pane;II)I (('c', 0), 'P', 'i', 'i')
def f_X8_unlikeShown_l14 (N : Nat) (p1 : Nat)  (x2 : Int32) (x3 : Int32) (C : wg_C) (x4 : Int32) (x5 : Int32) : Option ((wg_C × Int32 × Int32) ⊕ (wg_C × Int32 × Int32)) :=
  if (18 : Int32) < x5 then (
    some (.inr (C, x4, x5)))
  else (
    if ((x2 >>> (x5 &&& 31)) &&& (1 : Int32)) = (1 : Int32) then (
      lt_ (wg_up C 40 3 (x5 - (9 : Int32))) fun C7 =>
      bd (f_X0_shows C7 40 x3) fun r10 =>
      lt_ (x4 ||| ((1 : Int32) <<< ((r10 + (1 : Int32)) &&& 31))) fun v11 =>
      lt_ (x5 + (1 : Int32)) fun v13 =>
      some (.inl (C7, v11, v13)))
    else (
      lt_ (x5 + (1 : Int32)) fun v5 =>
      some (.inl (C, x4, v5))))
def f_X8_unlikeShown (N : Nat) (C : wg_C) (p1 : Nat) (p2 : Int32) (p3 : Int32) : Option (Int32 × wg_C) :=
  bd (f_X1_become C 40 p1) fun C2 =>
  bd3 (lp (fun o => f_X8_unlikeShown_l14 N p1  p2 p3 o.1 o.2.1 o.2.2) N (C2, (0 : Int32), (0 : Int32))) fun C15 v16 v17 =>
  bd (f_J6_bitCount_0f7a4 v16) fun r23 =>
  some (r23, C15)
abbrev G_X8_unlikeShown (p : Program) (l : Launch) (e : Env) (s : State) (m : MethodId) (args : Array Value) (below : List Frame) (meth : Method) (c : Code) (E : wg_Ev) (ad : Nat → Nat) (S : wg_Sh) (r0 : Int32) (C0 : wg_C) (M0 : wg_M) (pc : Nat) (C : wg_C) (M : wg_M) (lv : List (Nat × Value)) (st : List Value) : Prop := wg_G p l e (wg_Rm 3 66) s m args below meth c (MQ below (wg_Qi E ad S r0 C0 M0) args s 0 0 (wg_A E)) 6 E ad S 0 0 pc C M lv st
set_option maxHeartbeats 4000000 in
set_option maxRecDepth 100000 in
theorem L_X8_unlikeShown_l14 {p : Program} {l : Launch} {e : Env} {s : State} {m : MethodId} {args : Array Value} {below : List Frame} {meth : Method} {c : Code} {E : wg_Ev} {ad : Nat → Nat} {S : wg_Sh} (X : wg_X p s m args meth c cX8_unlikeShown 6 RX8 E) (hr : meth.sig.returnType = (some .int)) (hS : wg_SC S) (r0 : Int32) (D0 : wg_C) (M : wg_M) (N : Nat) (p1 : Nat) (hp1 : wg_id S p1 1)  (x2 : Int32) (x3 : Int32)  : ∀ (n : Nat) (C : wg_C) (x4 : Int32) (x5 : Int32) (o : (wg_C × Int32 × Int32)), lp (fun o => f_X8_unlikeShown_l14 N p1  x2 x3 o.1 o.2.1 o.2.2) n (C, x4, x5) = some o → (∀ (Dy : wg_C) (y4 : Int32) (y5 : Int32), o = (Dy, y4, y5) → G_X8_unlikeShown p l e s m args below meth c E ad S r0 D0 M 70 Dy M [(0, .ref (ad 0)), (2, .int x2), (3, .int x3), (4, .int y4), (5, .int y5)] []) → G_X8_unlikeShown p l e s m args below meth c E ad S r0 D0 M 14 C M [(0, .ref (ad 0)), (2, .int x2), (3, .int x3), (4, .int x4), (5, .int x5)] [] := by
  intro n
  induction n with
  | zero => exact fun _ _ _ o h => (lp_zero h).elim
  | succ n ih =>
    intro C x4 x5 o h K
    obtain ⟨o1, hb, h2⟩ := lp_some h
    replace hb : f_X8_unlikeShown_l14 N p1  x2 x3 C x4 x5 = some o1 := hb
    clear h
    have Kc : ∀ (Dy : wg_C) (y4 : Int32) (y5 : Int32), o1 = Sum.inl (Dy, y4, y5) → G_X8_unlikeShown p l e s m args below meth c E ad S r0 D0 M 14 Dy M [(0, .ref (ad 0)), (2, .int x2), (3, .int x3), (4, .int y4), (5, .int y5)] [] := fun Dy y4 y5 e1 => by
      subst e1
      exact ih Dy y4 y5 o h2 K
    have Ke : ∀ (Dy : wg_C) (y4 : Int32) (y5 : Int32), o1 = Sum.inr ((Dy, y4, y5)) → G_X8_unlikeShown p l e s m args below meth c E ad S r0 D0 M 70 Dy M [(0, .ref (ad 0)), (2, .int x2), (3, .int x3), (4, .int y4), (5, .int y5)] [] := fun Dy y4 y5 e1 => by
      subst e1
      exact K Dy y4 y5 (sm_inj (α := (wg_C × Int32 × Int32)) h2).symm
    clear ih K h2
    unfold f_X8_unlikeShown_l14 at hb
    have h := hb
    clear hb
    refine wg_iload X 4 dX8_unlikeShown_14 rfl ?_
    refine wg_bipush (v := 18) X dX8_unlikeShown_16 (by decide) ?_
    refine wg_icmp_gt X 70 dX8_unlikeShown_18 (by decide) (fun c3 => ?_) (fun c3 => ?_)
    · have h := if_t c3 h
      exact Ke C x4 x5 (sm_inj h).symm
    · have h := if_f c3 h
      refine wg_iload_n X 1 dX8_unlikeShown_21 rfl rfl ?_
      refine wg_iload X 4 dX8_unlikeShown_22 rfl ?_
      refine wg_ishr X dX8_unlikeShown_24 ?_
      refine wg_iconst (v := 1) X dX8_unlikeShown_25 (by decide) ?_
      refine wg_iand X dX8_unlikeShown_26 ?_
      refine wg_iconst (v := 1) X dX8_unlikeShown_27 (by decide) ?_
      refine wg_icmp_ne X 64 dX8_unlikeShown_28 (by decide) (fun c4 => ?_) (fun c4 => ?_)
      · have h := if_f c4 h
        obtain ⟨v5, e6, h⟩ := lt_some h
        refine wg_iinc (lv' := [(5, .int v5), (0, .ref (ad 0)), (2, .int x2), (3, .int x3), (4, .int x4)]) X 4 dX8_unlikeShown_64 rfl e6 (by decide) rfl ?_
        refine wg_goto X 14 dX8_unlikeShown_67 (by decide) ?_
        refine wg_pick [1, 2, 3, 4, 0] (lv' := [(0, .ref (ad 0)), (2, .int x2), (3, .int x3), (4, .int x4), (5, .int v5)]) rfl ?_
        exact Kc C x4 v5 (sm_inj h).symm
      · have h := if_t c4 h
        refine wg_aload_n X 0 dX8_unlikeShown_31 rfl rfl ?_
        refine wg_getR (b := 40) X cl8 (SCi hS 0 8 rfl) 8 (by decide) dX8_unlikeShown_32 k_480 rfl (SCr hS 0 8 40 rfl) ?_
        refine wg_iload X 4 dX8_unlikeShown_35 rfl ?_
        refine wg_bipush (v := 9) X dX8_unlikeShown_37 (by decide) ?_
        refine wg_isub X dX8_unlikeShown_39 ?_
        obtain ⟨C7, e8, h⟩ := lt_some h
        refine wg_putCe X cl1 (SCi hS 40 1 rfl) 3 (by decide) dX8_unlikeShown_40 k_119 rfl rfl rfl rfl e8 ?_
        refine wg_iload X 3 dX8_unlikeShown_43 rfl ?_
        refine wg_iconst (v := 1) X dX8_unlikeShown_45 (by decide) ?_
        refine wg_aload_n X 0 dX8_unlikeShown_46 rfl rfl ?_
        refine wg_getR (b := 1) X cl8 (SCi hS 0 8 rfl) 0 (by decide) dX8_unlikeShown_47 k_472 rfl (SCr hS 0 0 1 rfl) ?_
        refine wg_aload_n X 0 dX8_unlikeShown_50 rfl rfl ?_
        refine wg_getR (b := 40) X cl8 (SCi hS 0 8 rfl) 8 (by decide) dX8_unlikeShown_51 k_480 rfl (SCr hS 0 8 40 rfl) ?_
        refine wg_iload_n X 2 dX8_unlikeShown_54 rfl rfl ?_
        obtain ⟨r10, h9, h⟩ := bd_some h
        refine wg_callVi (As := [.ref (ad 40), .int x3]) (rest := [.int (1 : Int32), .int x4]) X (c_X0_shows l E ad S hS C7 M 40 x3 (SCi hS 40 1 rfl) h9) T_yX0_shows k_722 cl0 (SCi hS 1 0 rfl) dX8_unlikeShown_55 rfl rfl (Nat.le_of_ble_eq_true rfl) ⟨Nat.le_of_ble_eq_true rfl, Nat.le_of_ble_eq_true rfl⟩ ⟨Nat.zero_le _, Nat.zero_le _⟩ ?_
        refine wg_iconst (v := 1) X dX8_unlikeShown_58 (by decide) ?_
        refine wg_iadd X dX8_unlikeShown_59 ?_
        refine wg_ishl X dX8_unlikeShown_60 ?_
        refine wg_ior X dX8_unlikeShown_61 ?_
        obtain ⟨v11, e12, h⟩ := lt_some h
        refine wg_istore (lv' := [(4, .int v11), (0, .ref (ad 0)), (2, .int x2), (3, .int x3), (5, .int x5)]) X dX8_unlikeShown_62 e12 (by decide) rfl ?_
        obtain ⟨v13, e14, h⟩ := lt_some h
        refine wg_iinc (lv' := [(5, .int v13), (4, .int v11), (0, .ref (ad 0)), (2, .int x2), (3, .int x3)]) X 4 dX8_unlikeShown_64 rfl e14 (by decide) rfl ?_
        refine wg_goto X 14 dX8_unlikeShown_67 (by decide) ?_
        refine wg_pick [2, 3, 4, 1, 0] (lv' := [(0, .ref (ad 0)), (2, .int x2), (3, .int x3), (4, .int v11), (5, .int v13)]) rfl ?_
        exact Kc C7 v11 v13 (sm_inj h).symm
set_option maxHeartbeats 4000000 in
set_option maxRecDepth 100000 in
theorem c_X8_unlikeShown (l : Launch) (E : wg_Ev) (ad : Nat → Nat) (S : wg_Sh) (hS : wg_SC S) (N : Nat) (C : wg_C) (M : wg_M) (p1 : Nat) (p2 : Int32) (p3 : Int32) (hp1 : wg_id S p1 1) {r0 : Int32} {D0 : wg_C} (h : f_X8_unlikeShown N C p1 p2 p3 = some (r0, D0)) : wg_Ci l yX8_unlikeShown cX8_unlikeShown 6 (some .int) 3 66 E ad S C M [.ref (ad 0), .ref (ad p1), .int p2, .int p3] r0 D0 M := by
  refine wg_start (own := RX8) (by decide +kernel) rfl (Nat.le_of_ble_eq_true rfl) ?_
  intro p e s m below meth c X hr hnm
  refine wg_lv (lv' := [(0, .ref (ad 0)), (1, .ref (ad p1)), (2, .int p2), (3, .int p3)]) rfl ?_
  unfold f_X8_unlikeShown at h
  refine wg_iconst (v := 0) X dX8_unlikeShown_0 (by decide) ?_
  refine wg_istore (lv' := [(4, .int (0 : Int32)), (0, .ref (ad 0)), (1, .ref (ad p1)), (2, .int p2), (3, .int p3)]) X dX8_unlikeShown_1 rfl (by decide) rfl ?_
  refine wg_aload_n X 1 dX8_unlikeShown_3 rfl rfl ?_
  refine wg_getR (b := 40) X cl8 (SCi hS 0 8 rfl) 8 (by decide) dX8_unlikeShown_4 k_480 rfl (SCr hS 0 8 40 rfl) ?_
  refine wg_aload_n X 2 dX8_unlikeShown_7 rfl rfl ?_
  obtain ⟨C2, h1, h⟩ := bd_some h
  refine wg_callVv (As := [.ref (ad p1)]) (rest := []) X (c_X1_become l E ad S hS C M 40 p1 (SCi hS 40 1 rfl) hp1 h1) T_yX1_become k_733 cl1 (SCi hS 40 1 rfl) dX8_unlikeShown_8 rfl rfl (Nat.le_of_ble_eq_true rfl) ⟨Nat.le_of_ble_eq_true rfl, Nat.le_of_ble_eq_true rfl⟩ ⟨Nat.zero_le _, Nat.zero_le _⟩ ?_
  refine wg_iconst (v := 0) X dX8_unlikeShown_11 (by decide) ?_
  refine wg_istore (lv' := [(5, .int (0 : Int32)), (4, .int (0 : Int32)), (0, .ref (ad 0)), (1, .ref (ad p1)), (2, .int p2), (3, .int p3)]) X dX8_unlikeShown_12 rfl (by decide) rfl ?_
  obtain ⟨o18, h19, h⟩ := bd3_o h
  refine wg_pick [2, 4, 5, 1, 0] (lv' := [(0, .ref (ad 0)), (2, .int p2), (3, .int p3), (4, .int (0 : Int32)), (5, .int (0 : Int32))]) rfl ?_
  refine L_X8_unlikeShown_l14 X hr hS r0 D0 M N p1 hp1  p2 p3  N C2 (0 : Int32) (0 : Int32) o18 h19 (fun C15 v16 v17 e21 => ?_)
  · subst e21
    replace h := bd3_in h
    refine wg_iload X 3 dX8_unlikeShown_70 rfl ?_
    obtain ⟨r23, h22, h⟩ := bd_some h
    refine wg_callSi (As := [.int v16]) (rest := []) X (c_J6_bitCount_0f7a4 l E ad S C15 M v16  h22) T_yJ6_bitCount_0f7a4 k_693 dX8_unlikeShown_72 rfl rfl (Nat.le_of_ble_eq_true rfl) ⟨Nat.le_of_ble_eq_true rfl, Nat.le_of_ble_eq_true rfl⟩ ⟨Nat.zero_le _, Nat.zero_le _⟩ ?_
    exact wg_iret X ⟨congrArg Prod.fst (sm_inj h), congrArg Prod.snd (sm_inj h), rfl⟩ hr dX8_unlikeShown_75
-- WindowsGive.lookNext(IIII)I (('c', 0), 'i', 'i', 'i', 'i')
def f_X8_lookNext_l55 (N : Nat)  (x4 : Int32) (x6 : Nat) (x7 : Int32) (C : wg_C) (x8 : Int32) (x9 : Int32) (x10 : Int32) : Option ((wg_C × Int32 × Int32 × Int32) ⊕ (wg_C × Int32 × Int32 × Int32)) :=
  if (32 : Int32) ≤ x10 then (
    some (.inr (C, x8, x9, x10)))
  else (
    bd2 (f_X8_unlikeShown N C x6 x7 x10) fun r11 C12 =>
    if r11 ≤ x9 then (
      lt_ (x10 + (1 : Int32)) fun v14 =>
      some (.inl (C12, x8, x9, v14)))
    else (
      lt_ (x10 + (1 : Int32)) fun v16 =>
      some (.inl (C12, x10, r11, v16))))
def f_X8_lookNext (N : Nat) (C : wg_C) (p1 : Int32) (p2 : Int32) (p3 : Int32) (p4 : Int32) : Option (Int32 × wg_C) :=
  bd (f_X8_refusalOfLook C p1 p2 p3 p4 (1 : Int32)) fun r2 =>
  if r2 = 0 then (
    ck (inb p2 8) <|
    ck (inb p1 4) <|
    bd2 (f_X8_fittingShifts N C (44 + 2 * p1.toNatClampNeg) (4 + p2.toNatClampNeg) p3) fun r7 C8 =>
    bd4 (lp (fun o => f_X8_lookNext_l55 N  p4 (4 + p2.toNatClampNeg) r7 o.1 o.2.1 o.2.2.1 o.2.2.2) N (C8, (0 : Int32), (0 : Int32), (0 : Int32))) fun C18 v19 v20 v21 =>
    if p4 = 0 then (
      some (v19, C18))
    else (
      some (v20, C18)))
  else (
    some (r2, C))
abbrev G_X8_lookNext (p : Program) (l : Launch) (e : Env) (s : State) (m : MethodId) (args : Array Value) (below : List Frame) (meth : Method) (c : Code) (E : wg_Ev) (ad : Nat → Nat) (S : wg_Sh) (r0 : Int32) (C0 : wg_C) (M0 : wg_M) (pc : Nat) (C : wg_C) (M : wg_M) (lv : List (Nat × Value)) (st : List Value) : Prop := wg_G p l e (wg_Rm 5 115) s m args below meth c (MQ below (wg_Qi E ad S r0 C0 M0) args s 0 0 (wg_A E)) 12 E ad S 0 0 pc C M lv st
set_option maxHeartbeats 4000000 in
set_option maxRecDepth 100000 in
theorem L_X8_lookNext_l55 {p : Program} {l : Launch} {e : Env} {s : State} {m : MethodId} {args : Array Value} {below : List Frame} {meth : Method} {c : Code} {E : wg_Ev} {ad : Nat → Nat} {S : wg_Sh} (X : wg_X p s m args meth c cX8_lookNext 12 RX8 E) (hr : meth.sig.returnType = (some .int)) (hS : wg_SC S) (r0 : Int32) (D0 : wg_C) (M : wg_M) (N : Nat)   (x4 : Int32) (x6 : Nat) (x7 : Int32) (hx6 : wg_id S x6 1) : ∀ (n : Nat) (C : wg_C) (x8 : Int32) (x9 : Int32) (x10 : Int32) (o : (wg_C × Int32 × Int32 × Int32)), lp (fun o => f_X8_lookNext_l55 N  x4 x6 x7 o.1 o.2.1 o.2.2.1 o.2.2.2) n (C, x8, x9, x10) = some o → (∀ (Dy : wg_C) (y8 : Int32) (y9 : Int32) (y10 : Int32), o = (Dy, y8, y9, y10) → G_X8_lookNext p l e s m args below meth c E ad S r0 D0 M 95 Dy M [(0, .ref (ad 0)), (4, .int x4), (6, .ref (ad x6)), (7, .int x7), (8, .int y8), (9, .int y9), (10, .int y10)] []) → G_X8_lookNext p l e s m args below meth c E ad S r0 D0 M 55 C M [(0, .ref (ad 0)), (4, .int x4), (6, .ref (ad x6)), (7, .int x7), (8, .int x8), (9, .int x9), (10, .int x10)] [] := by
  intro n
  induction n with
  | zero => exact fun _ _ _ _ o h => (lp_zero h).elim
  | succ n ih =>
    intro C x8 x9 x10 o h K
    obtain ⟨o1, hb, h2⟩ := lp_some h
    replace hb : f_X8_lookNext_l55 N  x4 x6 x7 C x8 x9 x10 = some o1 := hb
    clear h
    have Kc : ∀ (Dy : wg_C) (y8 : Int32) (y9 : Int32) (y10 : Int32), o1 = Sum.inl (Dy, y8, y9, y10) → G_X8_lookNext p l e s m args below meth c E ad S r0 D0 M 55 Dy M [(0, .ref (ad 0)), (4, .int x4), (6, .ref (ad x6)), (7, .int x7), (8, .int y8), (9, .int y9), (10, .int y10)] [] := fun Dy y8 y9 y10 e1 => by
      subst e1
      exact ih Dy y8 y9 y10 o h2 K
    have Ke : ∀ (Dy : wg_C) (y8 : Int32) (y9 : Int32) (y10 : Int32), o1 = Sum.inr ((Dy, y8, y9, y10)) → G_X8_lookNext p l e s m args below meth c E ad S r0 D0 M 95 Dy M [(0, .ref (ad 0)), (4, .int x4), (6, .ref (ad x6)), (7, .int x7), (8, .int y8), (9, .int y9), (10, .int y10)] [] := fun Dy y8 y9 y10 e1 => by
      subst e1
      exact K Dy y8 y9 y10 (sm_inj (α := (wg_C × Int32 × Int32 × Int32)) h2).symm
    clear ih K h2
    unfold f_X8_lookNext_l55 at hb
    have h := hb
    clear hb
    refine wg_iload X 6 dX8_lookNext_55 rfl ?_
    refine wg_bipush (v := 32) X dX8_lookNext_57 (by decide) ?_
    refine wg_icmp_ge X 95 dX8_lookNext_59 (by decide) (fun c9 => ?_) (fun c9 => ?_)
    · have h := if_t c9 h
      exact Ke C x8 x9 x10 (sm_inj h).symm
    · have h := if_f c9 h
      refine wg_aload_n X 0 dX8_lookNext_62 rfl rfl ?_
      refine wg_aload X 2 dX8_lookNext_63 rfl ?_
      refine wg_iload X 3 dX8_lookNext_65 rfl ?_
      refine wg_iload X 6 dX8_lookNext_67 rfl ?_
      obtain ⟨r11, C12, h10, h⟩ := bd2_some h
      refine wg_callVi (As := [.ref (ad x6), .int x7, .int x10]) (rest := []) X (c_X8_unlikeShown l E ad S hS N C M x6 x7 x10 hx6 h10) T_yX8_unlikeShown k_745 cl8 (SCi hS 0 8 rfl) dX8_lookNext_69 rfl rfl (Nat.le_of_ble_eq_true rfl) ⟨Nat.le_of_ble_eq_true rfl, Nat.le_of_ble_eq_true rfl⟩ ⟨Nat.zero_le _, Nat.zero_le _⟩ ?_
      refine wg_istore (lv' := [(11, .int r11), (0, .ref (ad 0)), (4, .int x4), (6, .ref (ad x6)), (7, .int x7), (8, .int x8), (9, .int x9), (10, .int x10)]) X dX8_lookNext_72 rfl (by decide) rfl ?_
      refine wg_iload X 0 dX8_lookNext_74 rfl ?_
      refine wg_iload X 6 dX8_lookNext_76 rfl ?_
      refine wg_icmp_le X 89 dX8_lookNext_78 (by decide) (fun c13 => ?_) (fun c13 => ?_)
      · have h := if_t c13 h
        obtain ⟨v14, e15, h⟩ := lt_some h
        refine wg_iinc (lv' := [(10, .int v14), (11, .int r11), (0, .ref (ad 0)), (4, .int x4), (6, .ref (ad x6)), (7, .int x7), (8, .int x8), (9, .int x9)]) X 7 dX8_lookNext_89 rfl e15 (by decide) rfl ?_
        refine wg_goto X 55 dX8_lookNext_92 (by decide) ?_
        refine wg_pick [2, 3, 4, 5, 6, 7, 0] (lv' := [(0, .ref (ad 0)), (4, .int x4), (6, .ref (ad x6)), (7, .int x7), (8, .int x8), (9, .int x9), (10, .int v14)]) rfl ?_
        exact Kc C12 x8 x9 v14 (sm_inj h).symm
      · have h := if_f c13 h
        refine wg_iload X 0 dX8_lookNext_81 rfl ?_
        refine wg_istore (lv' := [(9, .int r11), (11, .int r11), (0, .ref (ad 0)), (4, .int x4), (6, .ref (ad x6)), (7, .int x7), (8, .int x8), (10, .int x10)]) X dX8_lookNext_83 rfl (by decide) rfl ?_
        refine wg_iload X 7 dX8_lookNext_85 rfl ?_
        refine wg_istore (lv' := [(8, .int x10), (9, .int r11), (11, .int r11), (0, .ref (ad 0)), (4, .int x4), (6, .ref (ad x6)), (7, .int x7), (10, .int x10)]) X dX8_lookNext_87 rfl (by decide) rfl ?_
        obtain ⟨v16, e17, h⟩ := lt_some h
        refine wg_iinc (lv' := [(10, .int v16), (8, .int x10), (9, .int r11), (11, .int r11), (0, .ref (ad 0)), (4, .int x4), (6, .ref (ad x6)), (7, .int x7)]) X 7 dX8_lookNext_89 rfl e17 (by decide) rfl ?_
        refine wg_goto X 55 dX8_lookNext_92 (by decide) ?_
        refine wg_pick [4, 5, 6, 7, 1, 2, 0] (lv' := [(0, .ref (ad 0)), (4, .int x4), (6, .ref (ad x6)), (7, .int x7), (8, .int x10), (9, .int r11), (10, .int v16)]) rfl ?_
        exact Kc C12 x10 r11 v16 (sm_inj h).symm
set_option maxHeartbeats 4000000 in
set_option maxRecDepth 100000 in
theorem c_X8_lookNext (l : Launch) (E : wg_Ev) (ad : Nat → Nat) (S : wg_Sh) (hS : wg_SC S) (N : Nat) (C : wg_C) (M : wg_M) (p1 : Int32) (p2 : Int32) (p3 : Int32) (p4 : Int32)  {r0 : Int32} {D0 : wg_C} (h : f_X8_lookNext N C p1 p2 p3 p4 = some (r0, D0)) : wg_Ci l yX8_lookNext cX8_lookNext 12 (some .int) 5 115 E ad S C M [.ref (ad 0), .int p1, .int p2, .int p3, .int p4] r0 D0 M := by
  refine wg_start (own := RX8) (by decide +kernel) rfl (Nat.le_of_ble_eq_true rfl) ?_
  intro p e s m below meth c X hr hnm
  refine wg_lv (lv' := [(0, .ref (ad 0)), (1, .int p1), (2, .int p2), (3, .int p3), (4, .int p4)]) rfl ?_
  unfold f_X8_lookNext at h
  refine wg_aload_n X 0 dX8_lookNext_0 rfl rfl ?_
  refine wg_iload_n X 1 dX8_lookNext_1 rfl rfl ?_
  refine wg_iload_n X 2 dX8_lookNext_2 rfl rfl ?_
  refine wg_iload_n X 3 dX8_lookNext_3 rfl rfl ?_
  refine wg_iload X 4 dX8_lookNext_4 rfl ?_
  refine wg_iconst (v := 1) X dX8_lookNext_6 (by decide) ?_
  obtain ⟨r2, h1, h⟩ := bd_some h
  refine wg_callVi (As := [.int p1, .int p2, .int p3, .int p4, .int (1 : Int32)]) (rest := []) X (c_X8_refusalOfLook l E ad S hS C M p1 p2 p3 p4 (1 : Int32)  h1) T_yX8_refusalOfLook k_707 cl8 (SCi hS 0 8 rfl) dX8_lookNext_7 rfl rfl (Nat.le_of_ble_eq_true rfl) ⟨Nat.le_of_ble_eq_true rfl, Nat.le_of_ble_eq_true rfl⟩ ⟨Nat.zero_le _, Nat.zero_le _⟩ ?_
  refine wg_istore (lv' := [(5, .int r2), (0, .ref (ad 0)), (1, .int p1), (2, .int p2), (3, .int p3), (4, .int p4)]) X dX8_lookNext_10 rfl (by decide) rfl ?_
  refine wg_iload X 0 dX8_lookNext_12 rfl ?_
  refine wg_if_eq X 20 dX8_lookNext_14 (by decide) (fun c3 => ?_) (fun c3 => ?_)
  · have h := if_t c3 h
    refine wg_aload_n X 1 dX8_lookNext_20 rfl rfl ?_
    refine wg_getR (b := 1) X cl8 (SCi hS 0 8 rfl) 0 (by decide) dX8_lookNext_21 k_472 rfl (SCr hS 0 0 1 rfl) ?_
    refine wg_getR (b := 3) X cl0 (SCi hS 1 0 rfl) 1 (by decide) dX8_lookNext_24 k_144 rfl (SCr hS 1 1 3 rfl) ?_
    refine wg_iload_n X 3 dX8_lookNext_27 rfl rfl ?_
    obtain ⟨z4, h⟩ := ck_some h
    refine wg_aalS13 (b := 4 + p2.toNatClampNeg) X (SCi hS 3 13 rfl) (SCl hS 3 8 rfl) z4 (SCp hS (inb_lt z4)).1 dX8_lookNext_28 ?_
    refine wg_astore (lv' := [(6, .ref (ad (4 + p2.toNatClampNeg))), (5, .int r2), (0, .ref (ad 0)), (1, .int p1), (2, .int p2), (3, .int p3), (4, .int p4)]) X dX8_lookNext_29 rfl (by decide) rfl ?_
    refine wg_aload_n X 2 dX8_lookNext_31 rfl rfl ?_
    refine wg_aload_n X 2 dX8_lookNext_32 rfl rfl ?_
    refine wg_getR (b := 39) X cl8 (SCi hS 0 8 rfl) 7 (by decide) dX8_lookNext_33 k_479 rfl (SCr hS 0 7 39 rfl) ?_
    refine wg_iload_n X 3 dX8_lookNext_36 rfl rfl ?_
    obtain ⟨z5, h⟩ := ck_some h
    refine wg_aalS14 (b := 44 + 2 * p1.toNatClampNeg) X (SCi hS 39 14 rfl) (SCl hS 39 4 rfl) z5 (SCs hS (inb_lt z5)).1 dX8_lookNext_37 ?_
    refine wg_aload X 0 dX8_lookNext_38 rfl ?_
    refine wg_iload_n X 5 dX8_lookNext_40 rfl rfl ?_
    obtain ⟨r7, C8, h6, h⟩ := bd2_some h
    refine wg_callVi (As := [.ref (ad (44 + 2 * p1.toNatClampNeg)), .ref (ad (4 + p2.toNatClampNeg)), .int p3]) (rest := []) X (c_X8_fittingShifts l E ad S hS N C M (44 + 2 * p1.toNatClampNeg) (4 + p2.toNatClampNeg) p3 ((SCs hS (inb_lt z5)).2) ((SCp hS (inb_lt z4)).2.1) h6) T_yX8_fittingShifts k_729 cl8 (SCi hS 0 8 rfl) dX8_lookNext_41 rfl rfl (Nat.le_of_ble_eq_true rfl) ⟨Nat.le_of_ble_eq_true rfl, Nat.le_of_ble_eq_true rfl⟩ ⟨Nat.zero_le _, Nat.zero_le _⟩ ?_
    refine wg_istore (lv' := [(7, .int r7), (6, .ref (ad (4 + p2.toNatClampNeg))), (5, .int r2), (0, .ref (ad 0)), (1, .int p1), (2, .int p2), (3, .int p3), (4, .int p4)]) X dX8_lookNext_44 rfl (by decide) rfl ?_
    refine wg_iconst (v := 0) X dX8_lookNext_46 (by decide) ?_
    refine wg_istore (lv' := [(8, .int (0 : Int32)), (7, .int r7), (6, .ref (ad (4 + p2.toNatClampNeg))), (5, .int r2), (0, .ref (ad 0)), (1, .int p1), (2, .int p2), (3, .int p3), (4, .int p4)]) X dX8_lookNext_47 rfl (by decide) rfl ?_
    refine wg_iconst (v := 0) X dX8_lookNext_49 (by decide) ?_
    refine wg_istore (lv' := [(9, .int (0 : Int32)), (8, .int (0 : Int32)), (7, .int r7), (6, .ref (ad (4 + p2.toNatClampNeg))), (5, .int r2), (0, .ref (ad 0)), (1, .int p1), (2, .int p2), (3, .int p3), (4, .int p4)]) X dX8_lookNext_50 rfl (by decide) rfl ?_
    refine wg_iconst (v := 0) X dX8_lookNext_52 (by decide) ?_
    refine wg_istore (lv' := [(10, .int (0 : Int32)), (9, .int (0 : Int32)), (8, .int (0 : Int32)), (7, .int r7), (6, .ref (ad (4 + p2.toNatClampNeg))), (5, .int r2), (0, .ref (ad 0)), (1, .int p1), (2, .int p2), (3, .int p3), (4, .int p4)]) X dX8_lookNext_53 rfl (by decide) rfl ?_
    obtain ⟨o22, h23, h⟩ := bd4_o h
    refine wg_pick [6, 10, 4, 3, 2, 1, 0] (lv' := [(0, .ref (ad 0)), (4, .int p4), (6, .ref (ad (4 + p2.toNatClampNeg))), (7, .int r7), (8, .int (0 : Int32)), (9, .int (0 : Int32)), (10, .int (0 : Int32))]) rfl ?_
    refine L_X8_lookNext_l55 X hr hS r0 D0 M N   p4 (4 + p2.toNatClampNeg) r7 ((SCp hS (inb_lt z4)).2.1) N C8 (0 : Int32) (0 : Int32) (0 : Int32) o22 h23 (fun C18 v19 v20 v21 e25 => ?_)
    · subst e25
      replace h := bd4_in h
      refine wg_iload X 1 dX8_lookNext_95 rfl ?_
      refine wg_if_ne X 105 dX8_lookNext_97 (by decide) (fun c26 => ?_) (fun c26 => ?_)
      · have h := if_f c26 h
        refine wg_iload X 5 dX8_lookNext_105 rfl ?_
        exact wg_iret X ⟨congrArg Prod.fst (sm_inj h), congrArg Prod.snd (sm_inj h), rfl⟩ hr dX8_lookNext_107
      · have h := if_t c26 h
        refine wg_iload X 4 dX8_lookNext_100 rfl ?_
        refine wg_goto X 107 dX8_lookNext_102 (by decide) ?_
        exact wg_iret X ⟨congrArg Prod.fst (sm_inj h), congrArg Prod.snd (sm_inj h), rfl⟩ hr dX8_lookNext_107
  · have h := if_f c3 h
    refine wg_iload X 0 dX8_lookNext_17 rfl ?_
    exact wg_iret X ⟨congrArg Prod.fst (sm_inj h), congrArg Prod.snd (sm_inj h), rfl⟩ hr dX8_lookNext_19
-- WindowsGive$Sheet.become(II)V ('SH', 'i', 'i')
def f_X4_become (N : Nat) (C : wg_C) (p0 : Nat) (p1 : Int32) (p2 : Int32) : Option wg_C :=
  bd (f_J7_fill_53178 N C (p0 + 1) 40 (0 : Int32)) fun C2 =>
  lt_ (wg_up C2 p0 1 p1) fun C3 =>
  lt_ (wg_up C3 p0 2 p2) fun C5 =>
  some C5
set_option maxHeartbeats 4000000 in
set_option maxRecDepth 100000 in
theorem c_X4_become (l : Launch) (E : wg_Ev) (ad : Nat → Nat) (S : wg_Sh) (hS : wg_SC S) (N : Nat) (C : wg_C) (M : wg_M) (p0 : Nat) (p1 : Int32) (p2 : Int32) (hp0 : wg_Sht S p0) {D0 : wg_C} (h : f_X4_become N C p0 p1 p2 = some D0) : wg_Cv l yX4_become cX4_become 3 none 1 23 E ad S C M [.ref (ad p0), .int p1, .int p2] D0 M := by
  refine wg_start (own := RX4) (by decide +kernel) rfl (Nat.le_of_ble_eq_true rfl) ?_
  intro p e s m below meth c X hr hnm
  refine wg_lv (lv' := [(0, .ref (ad p0)), (1, .int p1), (2, .int p2)]) rfl ?_
  unfold f_X4_become at h
  refine wg_aload_n X 0 dX4_become_0 rfl rfl ?_
  refine wg_getR (b := (p0 + 1)) X cl4 hp0.1 0 (by decide) dX4_become_1 k_269 rfl hp0.2.1 ?_
  refine wg_iconst (v := 0) X dX4_become_4 (by decide) ?_
  obtain ⟨C2, h1, h⟩ := bd_some h
  refine wg_callSv (As := [.ref (ad (p0 + 1)), .int (0 : Int32)]) (rest := []) X (c_J7_fill_53178 l E ad S hS N C M (p0 + 1) 40 (0 : Int32) ⟨hp0.2.2.1, hp0.2.2.2⟩ h1) T_yJ7_fill_53178 k_757 dX4_become_5 rfl rfl (Nat.le_of_ble_eq_true rfl) ⟨Nat.le_of_ble_eq_true rfl, Nat.le_of_ble_eq_true rfl⟩ ⟨Nat.zero_le _, Nat.zero_le _⟩ ?_
  refine wg_aload_n X 0 dX4_become_8 rfl rfl ?_
  refine wg_iload_n X 1 dX4_become_9 rfl rfl ?_
  obtain ⟨C3, e4, h⟩ := lt_some h
  refine wg_putCe X cl4 hp0.1 1 (by decide) dX4_become_10 k_271 rfl rfl rfl rfl e4 ?_
  refine wg_aload_n X 0 dX4_become_13 rfl rfl ?_
  refine wg_iload_n X 2 dX4_become_14 rfl rfl ?_
  obtain ⟨C5, e6, h⟩ := lt_some h
  refine wg_putCe X cl4 hp0.1 2 (by decide) dX4_become_15 k_273 rfl rfl rfl rfl e6 ?_
  exact wg_vret X ⟨(sm_inj h), rfl⟩ hr dX4_become_18
-- WindowsGive$Sheet.put(II)V ('SH', 'i', 'i')
def f_X4_put (C : wg_C) (p0 : Nat) (p1 : Int32) (p2 : Int32) : Option wg_C :=
  if (C p0 1) = 0 then (
    ck (inb p1 40) <|
    lt_ (wg_up C (p0 + 1) p1.toNatClampNeg p2.toInt8.toInt32) fun C10 =>
    some C10)
  else (
    if (C p0 1) = (1 : Int32) then (
      ck (inb p1 40) <|
      lt_ (wg_up C (p0 + 1) p1.toNatClampNeg p2.toInt16.toInt32) fun C7 =>
      some C7)
    else (
      ck (inb p1 40) <|
      lt_ (wg_up C (p0 + 1) p1.toNatClampNeg p2) fun C4 =>
      some C4))
set_option maxHeartbeats 4000000 in
set_option maxRecDepth 100000 in
theorem c_X4_put (l : Launch) (E : wg_Ev) (ad : Nat → Nat) (S : wg_Sh) (hS : wg_SC S) (C : wg_C) (M : wg_M) (p0 : Nat) (p1 : Int32) (p2 : Int32) (hp0 : wg_Sht S p0) {D0 : wg_C} (h : f_X4_put C p0 p1 p2 = some D0) : wg_Cv l yX4_put cX4_put 3 none 0 0 E ad S C M [.ref (ad p0), .int p1, .int p2] D0 M := by
  refine wg_start (own := RX4) (by decide +kernel) rfl (Nat.le_of_ble_eq_true rfl) ?_
  intro p e s m below meth c X hr hnm
  refine wg_lv (lv' := [(0, .ref (ad p0)), (1, .int p1), (2, .int p2)]) rfl ?_
  unfold f_X4_put at h
  refine wg_aload_n X 0 dX4_put_0 rfl rfl ?_
  refine wg_getC X cl4 hp0.1 1 (by decide) dX4_put_1 k_271 rfl ?_
  refine wg_if_ne X 18 dX4_put_4 (by decide) (fun c1 => ?_) (fun c1 => ?_)
  · have h := if_f c1 h
    refine wg_aload_n X 0 dX4_put_18 rfl rfl ?_
    refine wg_getR (b := (p0 + 1)) X cl4 hp0.1 0 (by decide) dX4_put_19 k_269 rfl hp0.2.1 ?_
    refine wg_iload_n X 1 dX4_put_22 rfl rfl ?_
    refine wg_aload_n X 0 dX4_put_23 rfl rfl ?_
    refine wg_getC X cl4 hp0.1 1 (by decide) dX4_put_24 k_271 rfl ?_
    refine wg_iconst (v := 1) X dX4_put_27 (by decide) ?_
    refine wg_icmp_ne X 36 dX4_put_28 (by decide) (fun c2 => ?_) (fun c2 => ?_)
    · have h := if_f c2 h
      refine wg_iload_n X 2 dX4_put_36 rfl rfl ?_
      obtain ⟨z3, h⟩ := ck_some h
      obtain ⟨C4, e5, h⟩ := lt_some h
      refine wg_iaste X hp0.2.2.1 hp0.2.2.2 z3 dX4_put_37 e5 ?_
      exact wg_vret X ⟨(sm_inj h), rfl⟩ hr dX4_put_38
    · have h := if_t c2 h
      refine wg_iload_n X 2 dX4_put_31 rfl rfl ?_
      refine wg_i2s X dX4_put_32 ?_
      refine wg_goto X 37 dX4_put_33 (by decide) ?_
      obtain ⟨z6, h⟩ := ck_some h
      obtain ⟨C7, e8, h⟩ := lt_some h
      refine wg_iaste X hp0.2.2.1 hp0.2.2.2 z6 dX4_put_37 e8 ?_
      exact wg_vret X ⟨(sm_inj h), rfl⟩ hr dX4_put_38
  · have h := if_t c1 h
    refine wg_aload_n X 0 dX4_put_7 rfl rfl ?_
    refine wg_getR (b := (p0 + 1)) X cl4 hp0.1 0 (by decide) dX4_put_8 k_269 rfl hp0.2.1 ?_
    refine wg_iload_n X 1 dX4_put_11 rfl rfl ?_
    refine wg_iload_n X 2 dX4_put_12 rfl rfl ?_
    refine wg_i2b X dX4_put_13 ?_
    obtain ⟨z9, h⟩ := ck_some h
    obtain ⟨C10, e11, h⟩ := lt_some h
    refine wg_iaste X hp0.2.2.1 hp0.2.2.2 z9 dX4_put_14 e11 ?_
    refine wg_goto X 38 dX4_put_15 (by decide) ?_
    exact wg_vret X ⟨(sm_inj h), rfl⟩ hr dX4_put_38
-- WindowsGive.film(IIII)I (('c', 0), 'i', 'i', 'i', 'i')
def f_X8_film_l59 (N : Nat)  (x2 : Int32) (x3 : Int32) (x4 : Int32) (x5 : Nat) (C : wg_C) (x6 : Int32) : Option ((wg_C × Int32) ⊕ (wg_C × Int32)) :=
  if x4 ≤ x6 then (
    some (.inr (C, x6)))
  else (
    ck (inb x2 8) <|
    bd (f_X0_shows C (4 + x2.toNatClampNeg) (x3 + x6)) fun r18 =>
    bd (f_X4_put C x5 x6 r18) fun C20 =>
    lt_ (x6 + (1 : Int32)) fun v21 =>
    some (.inl (C20, v21)))
def f_X8_film (N : Nat) (C : wg_C) (p1 : Int32) (p2 : Int32) (p3 : Int32) (p4 : Int32) : Option (Int32 × wg_C) :=
  bd (f_X8_isSheet p1) fun r2 =>
  if r2 = 0 then (
    some ((-2 : Int32), C))
  else (
    bd (f_X0_has C p2) fun r5 =>
    if r5 = 0 then (
      some ((-2 : Int32), C))
    else (
      bd (f_X8_isDay p3) fun r8 =>
      if r8 = 0 then (
        some ((-2 : Int32), C))
      else (
        if p4 < 0 then (
          some ((-2 : Int32), C))
        else (
          if p4 ≤ (10 : Int32) then (
            ck (inb p1 4) <|
            bd (f_X4_become N C (44 + 2 * p1.toNatClampNeg) (0 : Int32) p4) fun C14 =>
            bd2 (lp (fun o => f_X8_film_l59 N  p2 p3 p4 (44 + 2 * p1.toNatClampNeg) o.1 o.2) N (C14, (0 : Int32))) fun C23 v24 =>
            some (p4, C23))
          else (
            some ((-2 : Int32), C))))))
abbrev G_X8_film (p : Program) (l : Launch) (e : Env) (s : State) (m : MethodId) (args : Array Value) (below : List Frame) (meth : Method) (c : Code) (E : wg_Ev) (ad : Nat → Nat) (S : wg_Sh) (r0 : Int32) (C0 : wg_C) (M0 : wg_M) (pc : Nat) (C : wg_C) (M : wg_M) (lv : List (Nat × Value)) (st : List Value) : Prop := wg_G p l e (wg_Rm 3 66) s m args below meth c (MQ below (wg_Qi E ad S r0 C0 M0) args s 0 0 (wg_A E)) 7 E ad S 0 0 pc C M lv st
set_option maxHeartbeats 4000000 in
set_option maxRecDepth 100000 in
theorem L_X8_film_l59 {p : Program} {l : Launch} {e : Env} {s : State} {m : MethodId} {args : Array Value} {below : List Frame} {meth : Method} {c : Code} {E : wg_Ev} {ad : Nat → Nat} {S : wg_Sh} (X : wg_X p s m args meth c cX8_film 7 RX8 E) (hr : meth.sig.returnType = (some .int)) (hS : wg_SC S) (r0 : Int32) (D0 : wg_C) (M : wg_M) (N : Nat)   (x2 : Int32) (x3 : Int32) (x4 : Int32) (x5 : Nat) (hx5 : wg_Sht S x5) : ∀ (n : Nat) (C : wg_C) (x6 : Int32) (o : (wg_C × Int32)), lp (fun o => f_X8_film_l59 N  x2 x3 x4 x5 o.1 o.2) n (C, x6) = some o → (∀ (Dy : wg_C) (y6 : Int32), o = (Dy, y6) → G_X8_film p l e s m args below meth c E ad S r0 D0 M 99 Dy M [(0, .ref (ad 0)), (2, .int x2), (3, .int x3), (4, .int x4), (5, .ref (ad x5)), (6, .int y6)] []) → G_X8_film p l e s m args below meth c E ad S r0 D0 M 59 C M [(0, .ref (ad 0)), (2, .int x2), (3, .int x3), (4, .int x4), (5, .ref (ad x5)), (6, .int x6)] [] := by
  intro n
  induction n with
  | zero => exact fun _ _ o h => (lp_zero h).elim
  | succ n ih =>
    intro C x6 o h K
    obtain ⟨o1, hb, h2⟩ := lp_some h
    replace hb : f_X8_film_l59 N  x2 x3 x4 x5 C x6 = some o1 := hb
    clear h
    have Kc : ∀ (Dy : wg_C) (y6 : Int32), o1 = Sum.inl (Dy, y6) → G_X8_film p l e s m args below meth c E ad S r0 D0 M 59 Dy M [(0, .ref (ad 0)), (2, .int x2), (3, .int x3), (4, .int x4), (5, .ref (ad x5)), (6, .int y6)] [] := fun Dy y6 e1 => by
      subst e1
      exact ih Dy y6 o h2 K
    have Ke : ∀ (Dy : wg_C) (y6 : Int32), o1 = Sum.inr ((Dy, y6)) → G_X8_film p l e s m args below meth c E ad S r0 D0 M 99 Dy M [(0, .ref (ad 0)), (2, .int x2), (3, .int x3), (4, .int x4), (5, .ref (ad x5)), (6, .int y6)] [] := fun Dy y6 e1 => by
      subst e1
      exact K Dy y6 (sm_inj (α := (wg_C × Int32)) h2).symm
    clear ih K h2
    unfold f_X8_film_l59 at hb
    have h := hb
    clear hb
    refine wg_iload X 5 dX8_film_59 rfl ?_
    refine wg_iload X 3 dX8_film_61 rfl ?_
    refine wg_icmp_ge X 99 dX8_film_63 (by decide) (fun c15 => ?_) (fun c15 => ?_)
    · have h := if_t c15 h
      exact Ke C x6 (sm_inj h).symm
    · have h := if_f c15 h
      refine wg_aload X 4 dX8_film_66 rfl ?_
      refine wg_iload X 5 dX8_film_68 rfl ?_
      refine wg_aload_n X 0 dX8_film_70 rfl rfl ?_
      refine wg_getR (b := 1) X cl8 (SCi hS 0 8 rfl) 0 (by decide) dX8_film_71 k_472 rfl (SCr hS 0 0 1 rfl) ?_
      refine wg_aload_n X 0 dX8_film_74 rfl rfl ?_
      refine wg_getR (b := 1) X cl8 (SCi hS 0 8 rfl) 0 (by decide) dX8_film_75 k_472 rfl (SCr hS 0 0 1 rfl) ?_
      refine wg_getR (b := 3) X cl0 (SCi hS 1 0 rfl) 1 (by decide) dX8_film_78 k_144 rfl (SCr hS 1 1 3 rfl) ?_
      refine wg_iload_n X 1 dX8_film_81 rfl rfl ?_
      obtain ⟨z16, h⟩ := ck_some h
      refine wg_aalS13 (b := 4 + x2.toNatClampNeg) X (SCi hS 3 13 rfl) (SCl hS 3 8 rfl) z16 (SCp hS (inb_lt z16)).1 dX8_film_82 ?_
      refine wg_iload_n X 2 dX8_film_83 rfl rfl ?_
      refine wg_iload X 5 dX8_film_84 rfl ?_
      refine wg_iadd X dX8_film_86 ?_
      obtain ⟨r18, h17, h⟩ := bd_some h
      refine wg_callVi (As := [.ref (ad (4 + x2.toNatClampNeg)), .int (x3 + x6)]) (rest := [.int x6, .ref (ad x5)]) X (c_X0_shows l E ad S hS C M (4 + x2.toNatClampNeg) (x3 + x6) ((SCp hS (inb_lt z16)).2.1) h17) T_yX0_shows k_722 cl0 (SCi hS 1 0 rfl) dX8_film_87 rfl rfl (Nat.le_of_ble_eq_true rfl) ⟨Nat.le_of_ble_eq_true rfl, Nat.le_of_ble_eq_true rfl⟩ ⟨Nat.zero_le _, Nat.zero_le _⟩ ?_
      obtain ⟨C20, h19, h⟩ := bd_some h
      refine wg_callVv (As := [.int x6, .int r18]) (rest := []) X (c_X4_put l E ad S hS C M x5 x6 r18 hx5 h19) T_yX4_put k_758 cl4 hx5.1 dX8_film_90 rfl rfl (Nat.le_of_ble_eq_true rfl) ⟨Nat.le_of_ble_eq_true rfl, Nat.le_of_ble_eq_true rfl⟩ ⟨Nat.zero_le _, Nat.zero_le _⟩ ?_
      obtain ⟨v21, e22, h⟩ := lt_some h
      refine wg_iinc (lv' := [(6, .int v21), (0, .ref (ad 0)), (2, .int x2), (3, .int x3), (4, .int x4), (5, .ref (ad x5))]) X 5 dX8_film_93 rfl e22 (by decide) rfl ?_
      refine wg_goto X 59 dX8_film_96 (by decide) ?_
      refine wg_pick [1, 2, 3, 4, 5, 0] (lv' := [(0, .ref (ad 0)), (2, .int x2), (3, .int x3), (4, .int x4), (5, .ref (ad x5)), (6, .int v21)]) rfl ?_
      exact Kc C20 v21 (sm_inj h).symm
set_option maxHeartbeats 4000000 in
set_option maxRecDepth 100000 in
theorem c_X8_film (l : Launch) (E : wg_Ev) (ad : Nat → Nat) (S : wg_Sh) (hS : wg_SC S) (N : Nat) (C : wg_C) (M : wg_M) (p1 : Int32) (p2 : Int32) (p3 : Int32) (p4 : Int32)  {r0 : Int32} {D0 : wg_C} (h : f_X8_film N C p1 p2 p3 p4 = some (r0, D0)) : wg_Ci l yX8_film cX8_film 7 (some .int) 3 66 E ad S C M [.ref (ad 0), .int p1, .int p2, .int p3, .int p4] r0 D0 M := by
  refine wg_start (own := RX8) (by decide +kernel) rfl (Nat.le_of_ble_eq_true rfl) ?_
  intro p e s m below meth c X hr hnm
  refine wg_lv (lv' := [(0, .ref (ad 0)), (1, .int p1), (2, .int p2), (3, .int p3), (4, .int p4)]) rfl ?_
  unfold f_X8_film at h
  refine wg_iload_n X 1 dX8_film_0 rfl rfl ?_
  obtain ⟨r2, h1, h⟩ := bd_some h
  refine wg_callSi (As := [.int p1]) (rest := []) X (c_X8_isSheet l E ad S C M p1  h1) T_yX8_isSheet k_711 dX8_film_1 rfl rfl (Nat.le_of_ble_eq_true rfl) ⟨Nat.le_of_ble_eq_true rfl, Nat.le_of_ble_eq_true rfl⟩ ⟨Nat.zero_le _, Nat.zero_le _⟩ ?_
  refine wg_if_eq X 37 dX8_film_4 (by decide) (fun c3 => ?_) (fun c3 => ?_)
  · have h := if_t c3 h
    refine wg_bipush (v := -2) X dX8_film_37 (by decide) ?_
    exact wg_iret X ⟨congrArg Prod.fst (sm_inj h), congrArg Prod.snd (sm_inj h), rfl⟩ hr dX8_film_39
  · have h := if_f c3 h
    refine wg_aload_n X 0 dX8_film_7 rfl rfl ?_
    refine wg_getR (b := 1) X cl8 (SCi hS 0 8 rfl) 0 (by decide) dX8_film_8 k_472 rfl (SCr hS 0 0 1 rfl) ?_
    refine wg_iload_n X 2 dX8_film_11 rfl rfl ?_
    obtain ⟨r5, h4, h⟩ := bd_some h
    refine wg_callVi (As := [.int p2]) (rest := []) X (c_X0_has l E ad S hS C M p2  h4) T_yX0_has k_520 cl0 (SCi hS 1 0 rfl) dX8_film_12 rfl rfl (Nat.le_of_ble_eq_true rfl) ⟨Nat.le_of_ble_eq_true rfl, Nat.le_of_ble_eq_true rfl⟩ ⟨Nat.zero_le _, Nat.zero_le _⟩ ?_
    refine wg_if_eq X 37 dX8_film_15 (by decide) (fun c6 => ?_) (fun c6 => ?_)
    · have h := if_t c6 h
      refine wg_bipush (v := -2) X dX8_film_37 (by decide) ?_
      exact wg_iret X ⟨congrArg Prod.fst (sm_inj h), congrArg Prod.snd (sm_inj h), rfl⟩ hr dX8_film_39
    · have h := if_f c6 h
      refine wg_iload_n X 3 dX8_film_18 rfl rfl ?_
      obtain ⟨r8, h7, h⟩ := bd_some h
      refine wg_callSi (As := [.int p3]) (rest := []) X (c_X8_isDay l E ad S C M p3  h7) T_yX8_isDay k_517 dX8_film_19 rfl rfl (Nat.le_of_ble_eq_true rfl) ⟨Nat.le_of_ble_eq_true rfl, Nat.le_of_ble_eq_true rfl⟩ ⟨Nat.zero_le _, Nat.zero_le _⟩ ?_
      refine wg_if_eq X 37 dX8_film_22 (by decide) (fun c9 => ?_) (fun c9 => ?_)
      · have h := if_t c9 h
        refine wg_bipush (v := -2) X dX8_film_37 (by decide) ?_
        exact wg_iret X ⟨congrArg Prod.fst (sm_inj h), congrArg Prod.snd (sm_inj h), rfl⟩ hr dX8_film_39
      · have h := if_f c9 h
        refine wg_iload X 4 dX8_film_25 rfl ?_
        refine wg_if_lt X 37 dX8_film_27 (by decide) (fun c10 => ?_) (fun c10 => ?_)
        · have h := if_t c10 h
          refine wg_bipush (v := -2) X dX8_film_37 (by decide) ?_
          exact wg_iret X ⟨congrArg Prod.fst (sm_inj h), congrArg Prod.snd (sm_inj h), rfl⟩ hr dX8_film_39
        · have h := if_f c10 h
          refine wg_iload X 4 dX8_film_30 rfl ?_
          refine wg_bipush (v := 10) X dX8_film_32 (by decide) ?_
          refine wg_icmp_le X 40 dX8_film_34 (by decide) (fun c11 => ?_) (fun c11 => ?_)
          · have h := if_t c11 h
            refine wg_aload_n X 0 dX8_film_40 rfl rfl ?_
            refine wg_getR (b := 39) X cl8 (SCi hS 0 8 rfl) 7 (by decide) dX8_film_41 k_479 rfl (SCr hS 0 7 39 rfl) ?_
            refine wg_iload_n X 1 dX8_film_44 rfl rfl ?_
            obtain ⟨z12, h⟩ := ck_some h
            refine wg_aalS14 (b := 44 + 2 * p1.toNatClampNeg) X (SCi hS 39 14 rfl) (SCl hS 39 4 rfl) z12 (SCs hS (inb_lt z12)).1 dX8_film_45 ?_
            refine wg_astore (lv' := [(5, .ref (ad (44 + 2 * p1.toNatClampNeg))), (0, .ref (ad 0)), (1, .int p1), (2, .int p2), (3, .int p3), (4, .int p4)]) X dX8_film_46 rfl (by decide) rfl ?_
            refine wg_aload X 0 dX8_film_48 rfl ?_
            refine wg_iconst (v := 0) X dX8_film_50 (by decide) ?_
            refine wg_iload X 5 dX8_film_51 rfl ?_
            obtain ⟨C14, h13, h⟩ := bd_some h
            refine wg_callVv (As := [.int (0 : Int32), .int p4]) (rest := []) X (c_X4_become l E ad S hS N C M (44 + 2 * p1.toNatClampNeg) (0 : Int32) p4 ((SCs hS (inb_lt z12)).2) h13) T_yX4_become k_753 cl4 ((SCs hS (inb_lt z12)).2.1) dX8_film_53 rfl rfl (Nat.le_of_ble_eq_true rfl) ⟨Nat.le_of_ble_eq_true rfl, Nat.le_of_ble_eq_true rfl⟩ ⟨Nat.zero_le _, Nat.zero_le _⟩ ?_
            refine wg_iconst (v := 0) X dX8_film_56 (by decide) ?_
            refine wg_istore (lv' := [(6, .int (0 : Int32)), (5, .ref (ad (44 + 2 * p1.toNatClampNeg))), (0, .ref (ad 0)), (1, .int p1), (2, .int p2), (3, .int p3), (4, .int p4)]) X dX8_film_57 rfl (by decide) rfl ?_
            obtain ⟨o25, h26, h⟩ := bd2_o h
            refine wg_pick [2, 4, 5, 6, 1, 0] (lv' := [(0, .ref (ad 0)), (2, .int p2), (3, .int p3), (4, .int p4), (5, .ref (ad (44 + 2 * p1.toNatClampNeg))), (6, .int (0 : Int32))]) rfl ?_
            refine L_X8_film_l59 X hr hS r0 D0 M N   p2 p3 p4 (44 + 2 * p1.toNatClampNeg) ((SCs hS (inb_lt z12)).2) N C14 (0 : Int32) o25 h26 (fun C23 v24 e28 => ?_)
            · subst e28
              replace h := bd2_in h
              refine wg_iload X 3 dX8_film_99 rfl ?_
              exact wg_iret X ⟨congrArg Prod.fst (sm_inj h), congrArg Prod.snd (sm_inj h), rfl⟩ hr dX8_film_101
          · have h := if_f c11 h
            refine wg_bipush (v := -2) X dX8_film_37 (by decide) ?_
            exact wg_iret X ⟨congrArg Prod.fst (sm_inj h), congrArg Prod.snd (sm_inj h), rfl⟩ hr dX8_film_39
-- WindowsGive.flood(I[I)I (('c', 0), 'i', 'IA')
def f_X8_flood_l40 (N : Nat) (S : wg_Sh) (p2 n2 : Nat)  (x1 : Int32) (x4 : Int32) (x5 : Nat) (C : wg_C) (x3 : Int32) (x6 : Int32) : Option ((wg_C × Int32 × Int32) ⊕ (wg_C × Int32 × Int32)) :=
  if (32 : Int32) ≤ x6 then (
    some (.inr (C, x3, x6)))
  else (
    bd (f_X1_leads C x5) fun r7 =>
    if r7 = x1 then (
      bd (f_X1_passes C x5 x6 (2 : Int32)) fun r10 =>
      if r10 = 0 then (
        lt_ (x6 + (1 : Int32)) fun v12 =>
        some (.inl (C, x3, v12)))
      else (
        bd2 (f_X3_worth N S C (C 1 3) (1 : Int32) x5 x6 p2 n2) fun r15 C16 =>
        bd (f_X1_on C16 x5 x6) fun r18 =>
        ck (inb r18 32) <|
        ck (inb r18 32) <|
        lt_ (wg_up C16 41 r18.toNatClampNeg ((C16 41 r18.toNatClampNeg) + r15)) fun C21 =>
        lt_ (x3 + r15) fun v23 =>
        lt_ (x6 + (1 : Int32)) fun v25 =>
        some (.inl (C21, v23, v25))))
    else (
      some (.inr (C, x3, x6))))
def f_X8_flood_l13 (N : Nat) (S : wg_Sh) (p2 n2 : Nat)  (x1 : Int32) (C : wg_C) (x3 : Int32) (x4 : Int32) : Option ((wg_C × Int32 × Int32) ⊕ (wg_C × Int32 × Int32)) :=
  if (C 1 2) ≤ x4 then (
    some (.inr (C, x3, x4)))
  else (
    ck (inb x4 8) <|
    bd3 (lp (fun o => f_X8_flood_l40 N S p2 n2  x1 x4 (4 + x4.toNatClampNeg) o.1 o.2.1 o.2.2) N (C, x3, (0 : Int32))) fun C27 v28 v29 =>
    lt_ (x4 + (1 : Int32)) fun v34 =>
    some (.inl (C27, v28, v34)))
def f_X8_flood (N : Nat) (S : wg_Sh) (C : wg_C) (p1 : Int32) (p2 n2 : Nat) : Option (Int32 × wg_C) :=
  bd (f_J7_fill_53178 N C 41 32 (0 : Int32)) fun C2 =>
  bd3 (lp (fun o => f_X8_flood_l13 N S p2 n2  p1 o.1 o.2.1 o.2.2) N (C2, (0 : Int32), (0 : Int32))) fun C36 v37 v38 =>
  some (v37, C36)
abbrev G_X8_flood (p : Program) (l : Launch) (e : Env) (s : State) (m : MethodId) (args : Array Value) (below : List Frame) (meth : Method) (c : Code) (E : wg_Ev) (ad : Nat → Nat) (S : wg_Sh) (r0 : Int32) (C0 : wg_C) (M0 : wg_M) (pc : Nat) (C : wg_C) (M : wg_M) (lv : List (Nat × Value)) (st : List Value) : Prop := wg_G p l e (wg_Rm 4 96) s m args below meth c (MQ below (wg_Qi E ad S r0 C0 M0) args s 0 0 (wg_A E)) 8 E ad S 0 0 pc C M lv st
set_option maxHeartbeats 4000000 in
set_option maxRecDepth 100000 in
theorem L_X8_flood_l40 {p : Program} {l : Launch} {e : Env} {s : State} {m : MethodId} {args : Array Value} {below : List Frame} {meth : Method} {c : Code} {E : wg_Ev} {ad : Nat → Nat} {S : wg_Sh} (X : wg_X p s m args meth c cX8_flood 8 RX8 E) (hr : meth.sig.returnType = (some .int)) (hS : wg_SC S) (r0 : Int32) (D0 : wg_C) (M : wg_M) (N : Nat) (p2 n2 : Nat) (hp2 : wg_IA S p2 n2)  (x1 : Int32) (x4 : Int32) (x5 : Nat) (hx5 : wg_id S x5 1) : ∀ (n : Nat) (C : wg_C) (x3 : Int32) (x6 : Int32) (o : (wg_C × Int32 × Int32)), lp (fun o => f_X8_flood_l40 N S p2 n2  x1 x4 x5 o.1 o.2.1 o.2.2) n (C, x3, x6) = some o → (∀ (Dy : wg_C) (y3 : Int32) (y6 : Int32), o = (Dy, y3, y6) → G_X8_flood p l e s m args below meth c E ad S r0 D0 M 117 Dy M [(0, .ref (ad 0)), (1, .int x1), (2, .ref (ad p2)), (3, .int y3), (4, .int x4), (5, .ref (ad x5)), (6, .int y6)] []) → G_X8_flood p l e s m args below meth c E ad S r0 D0 M 40 C M [(0, .ref (ad 0)), (1, .int x1), (2, .ref (ad p2)), (3, .int x3), (4, .int x4), (5, .ref (ad x5)), (6, .int x6)] [] := by
  intro n
  induction n with
  | zero => exact fun _ _ _ o h => (lp_zero h).elim
  | succ n ih =>
    intro C x3 x6 o h K
    obtain ⟨o1, hb, h2⟩ := lp_some h
    replace hb : f_X8_flood_l40 N S p2 n2  x1 x4 x5 C x3 x6 = some o1 := hb
    clear h
    have Kc : ∀ (Dy : wg_C) (y3 : Int32) (y6 : Int32), o1 = Sum.inl (Dy, y3, y6) → G_X8_flood p l e s m args below meth c E ad S r0 D0 M 40 Dy M [(0, .ref (ad 0)), (1, .int x1), (2, .ref (ad p2)), (3, .int y3), (4, .int x4), (5, .ref (ad x5)), (6, .int y6)] [] := fun Dy y3 y6 e1 => by
      subst e1
      exact ih Dy y3 y6 o h2 K
    have Ke : ∀ (Dy : wg_C) (y3 : Int32) (y6 : Int32), o1 = Sum.inr ((Dy, y3, y6)) → G_X8_flood p l e s m args below meth c E ad S r0 D0 M 117 Dy M [(0, .ref (ad 0)), (1, .int x1), (2, .ref (ad p2)), (3, .int y3), (4, .int x4), (5, .ref (ad x5)), (6, .int y6)] [] := fun Dy y3 y6 e1 => by
      subst e1
      exact K Dy y3 y6 (sm_inj (α := (wg_C × Int32 × Int32)) h2).symm
    clear ih K h2
    unfold f_X8_flood_l40 at hb
    have h := hb
    clear hb
    refine wg_iload X 6 dX8_flood_40 rfl ?_
    refine wg_bipush (v := 32) X dX8_flood_42 (by decide) ?_
    refine wg_icmp_ge X 117 dX8_flood_44 (by decide) (fun c5 => ?_) (fun c5 => ?_)
    · have h := if_t c5 h
      exact Ke C x3 x6 (sm_inj h).symm
    · have h := if_f c5 h
      refine wg_aload X 5 dX8_flood_47 rfl ?_
      obtain ⟨r7, h6, h⟩ := bd_some h
      refine wg_callVi (As := []) (rest := []) X (c_X1_leads l E ad S hS C M x5 hx5 h6) T_yX1_leads k_771 cl1 hx5 dX8_flood_49 rfl rfl (Nat.le_of_ble_eq_true rfl) ⟨Nat.le_of_ble_eq_true rfl, Nat.le_of_ble_eq_true rfl⟩ ⟨Nat.zero_le _, Nat.zero_le _⟩ ?_
      refine wg_iload_n X 1 dX8_flood_52 rfl rfl ?_
      refine wg_icmp_ne X 117 dX8_flood_53 (by decide) (fun c8 => ?_) (fun c8 => ?_)
      · have h := if_f c8 h
        exact Ke C x3 x6 (sm_inj h).symm
      · have h := if_t c8 h
        refine wg_aload X 5 dX8_flood_56 rfl ?_
        refine wg_iload X 6 dX8_flood_58 rfl ?_
        refine wg_iconst (v := 2) X dX8_flood_60 (by decide) ?_
        obtain ⟨r10, h9, h⟩ := bd_some h
        refine wg_callVi (As := [.int x6, .int (2 : Int32)]) (rest := []) X (c_X1_passes l E ad S hS C M x5 x6 (2 : Int32) hx5 h9) T_yX1_passes k_561 cl1 hx5 dX8_flood_61 rfl rfl (Nat.le_of_ble_eq_true rfl) ⟨Nat.le_of_ble_eq_true rfl, Nat.le_of_ble_eq_true rfl⟩ ⟨Nat.zero_le _, Nat.zero_le _⟩ ?_
        refine wg_if_eq X 111 dX8_flood_64 (by decide) (fun c11 => ?_) (fun c11 => ?_)
        · have h := if_t c11 h
          obtain ⟨v12, e13, h⟩ := lt_some h
          refine wg_iinc (lv' := [(6, .int v12), (0, .ref (ad 0)), (1, .int x1), (2, .ref (ad p2)), (3, .int x3), (4, .int x4), (5, .ref (ad x5))]) X 6 dX8_flood_111 rfl e13 (by decide) rfl ?_
          refine wg_goto X 40 dX8_flood_114 (by decide) ?_
          refine wg_pick [1, 2, 3, 4, 5, 6, 0] (lv' := [(0, .ref (ad 0)), (1, .int x1), (2, .ref (ad p2)), (3, .int x3), (4, .int x4), (5, .ref (ad x5)), (6, .int v12)]) rfl ?_
          exact Kc C x3 v12 (sm_inj h).symm
        · have h := if_f c11 h
          refine wg_aload_n X 0 dX8_flood_67 rfl rfl ?_
          refine wg_getR (b := 31) X cl8 (SCi hS 0 8 rfl) 5 (by decide) dX8_flood_68 k_477 rfl (SCr hS 0 5 31 rfl) ?_
          refine wg_aload_n X 0 dX8_flood_71 rfl rfl ?_
          refine wg_getR (b := 1) X cl8 (SCi hS 0 8 rfl) 0 (by decide) dX8_flood_72 k_472 rfl (SCr hS 0 0 1 rfl) ?_
          refine wg_getC X cl0 (SCi hS 1 0 rfl) 3 (by decide) dX8_flood_75 k_151 rfl ?_
          refine wg_iconst (v := 1) X dX8_flood_78 (by decide) ?_
          refine wg_aload X 5 dX8_flood_79 rfl ?_
          refine wg_iload X 6 dX8_flood_81 rfl ?_
          refine wg_aload_n X 2 dX8_flood_83 rfl rfl ?_
          obtain ⟨r15, C16, h14, h⟩ := bd2_some h
          refine wg_callVi (As := [.int (C 1 3), .int (1 : Int32), .ref (ad x5), .int x6, .ref (ad p2)]) (rest := []) X (c_X3_worth l E ad S hS N C M (C 1 3) (1 : Int32) x5 x6 p2 n2 hx5 ⟨hp2.1, hp2.2⟩ h14) T_yX3_worth k_772 cl3 (SCi hS 31 3 rfl) dX8_flood_84 rfl rfl (Nat.le_of_ble_eq_true rfl) ⟨Nat.le_of_ble_eq_true rfl, Nat.le_of_ble_eq_true rfl⟩ ⟨Nat.zero_le _, Nat.zero_le _⟩ ?_
          refine wg_istore (lv' := [(7, .int r15), (0, .ref (ad 0)), (1, .int x1), (2, .ref (ad p2)), (3, .int x3), (4, .int x4), (5, .ref (ad x5)), (6, .int x6)]) X dX8_flood_87 rfl (by decide) rfl ?_
          refine wg_aload_n X 1 dX8_flood_89 rfl rfl ?_
          refine wg_getR (b := 41) X cl8 (SCi hS 0 8 rfl) 9 (by decide) dX8_flood_90 k_481 rfl (SCr hS 0 9 41 rfl) ?_
          refine wg_aload X 6 dX8_flood_93 rfl ?_
          refine wg_iload X 7 dX8_flood_95 rfl ?_
          obtain ⟨r18, h17, h⟩ := bd_some h
          refine wg_callVi (As := [.int x6]) (rest := [.ref (ad 41)]) X (c_X1_on l E ad S hS C16 M x5 x6 hx5 h17) T_yX1_on k_557 cl1 hx5 dX8_flood_97 rfl rfl (Nat.le_of_ble_eq_true rfl) ⟨Nat.le_of_ble_eq_true rfl, Nat.le_of_ble_eq_true rfl⟩ ⟨Nat.zero_le _, Nat.zero_le _⟩ ?_
          refine wg_dup2 X dX8_flood_100 rfl rfl ?_
          obtain ⟨z19, h⟩ := ck_some h
          refine wg_iald X (SCi hS 41 10 rfl) (SCl hS 41 32 rfl) z19 dX8_flood_101 ?_
          refine wg_iload X 0 dX8_flood_102 rfl ?_
          refine wg_iadd X dX8_flood_104 ?_
          obtain ⟨z20, h⟩ := ck_some h
          obtain ⟨C21, e22, h⟩ := lt_some h
          refine wg_iaste X (SCi hS 41 10 rfl) (SCl hS 41 32 rfl) z20 dX8_flood_105 e22 ?_
          refine wg_iload_n X 4 dX8_flood_106 rfl rfl ?_
          refine wg_iload X 0 dX8_flood_107 rfl ?_
          refine wg_iadd X dX8_flood_109 ?_
          obtain ⟨v23, e24, h⟩ := lt_some h
          refine wg_istore_n (lv' := [(3, .int v23), (7, .int r15), (0, .ref (ad 0)), (1, .int x1), (2, .ref (ad p2)), (4, .int x4), (5, .ref (ad x5)), (6, .int x6)]) X dX8_flood_110 rfl e24 (by decide) rfl ?_
          obtain ⟨v25, e26, h⟩ := lt_some h
          refine wg_iinc (lv' := [(6, .int v25), (3, .int v23), (7, .int r15), (0, .ref (ad 0)), (1, .int x1), (2, .ref (ad p2)), (4, .int x4), (5, .ref (ad x5))]) X 7 dX8_flood_111 rfl e26 (by decide) rfl ?_
          refine wg_goto X 40 dX8_flood_114 (by decide) ?_
          refine wg_pick [3, 4, 5, 1, 6, 7, 0] (lv' := [(0, .ref (ad 0)), (1, .int x1), (2, .ref (ad p2)), (3, .int v23), (4, .int x4), (5, .ref (ad x5)), (6, .int v25)]) rfl ?_
          exact Kc C21 v23 v25 (sm_inj h).symm
set_option maxHeartbeats 4000000 in
set_option maxRecDepth 100000 in
theorem L_X8_flood_l13 {p : Program} {l : Launch} {e : Env} {s : State} {m : MethodId} {args : Array Value} {below : List Frame} {meth : Method} {c : Code} {E : wg_Ev} {ad : Nat → Nat} {S : wg_Sh} (X : wg_X p s m args meth c cX8_flood 8 RX8 E) (hr : meth.sig.returnType = (some .int)) (hS : wg_SC S) (r0 : Int32) (D0 : wg_C) (M : wg_M) (N : Nat) (p2 n2 : Nat) (hp2 : wg_IA S p2 n2)  (x1 : Int32)  : ∀ (n : Nat) (C : wg_C) (x3 : Int32) (x4 : Int32) (o : (wg_C × Int32 × Int32)), lp (fun o => f_X8_flood_l13 N S p2 n2  x1 o.1 o.2.1 o.2.2) n (C, x3, x4) = some o → (∀ (Dy : wg_C) (y3 : Int32) (y4 : Int32), o = (Dy, y3, y4) → G_X8_flood p l e s m args below meth c E ad S r0 D0 M 123 Dy M [(0, .ref (ad 0)), (1, .int x1), (2, .ref (ad p2)), (3, .int y3), (4, .int y4)] []) → G_X8_flood p l e s m args below meth c E ad S r0 D0 M 13 C M [(0, .ref (ad 0)), (1, .int x1), (2, .ref (ad p2)), (3, .int x3), (4, .int x4)] [] := by
  intro n
  induction n with
  | zero => exact fun _ _ _ o h => (lp_zero h).elim
  | succ n ih =>
    intro C x3 x4 o h K
    obtain ⟨o1, hb, h2⟩ := lp_some h
    replace hb : f_X8_flood_l13 N S p2 n2  x1 C x3 x4 = some o1 := hb
    clear h
    have Kc : ∀ (Dy : wg_C) (y3 : Int32) (y4 : Int32), o1 = Sum.inl (Dy, y3, y4) → G_X8_flood p l e s m args below meth c E ad S r0 D0 M 13 Dy M [(0, .ref (ad 0)), (1, .int x1), (2, .ref (ad p2)), (3, .int y3), (4, .int y4)] [] := fun Dy y3 y4 e1 => by
      subst e1
      exact ih Dy y3 y4 o h2 K
    have Ke : ∀ (Dy : wg_C) (y3 : Int32) (y4 : Int32), o1 = Sum.inr ((Dy, y3, y4)) → G_X8_flood p l e s m args below meth c E ad S r0 D0 M 123 Dy M [(0, .ref (ad 0)), (1, .int x1), (2, .ref (ad p2)), (3, .int y3), (4, .int y4)] [] := fun Dy y3 y4 e1 => by
      subst e1
      exact K Dy y3 y4 (sm_inj (α := (wg_C × Int32 × Int32)) h2).symm
    clear ih K h2
    unfold f_X8_flood_l13 at hb
    have h := hb
    clear hb
    refine wg_iload X 4 dX8_flood_13 rfl ?_
    refine wg_aload_n X 0 dX8_flood_15 rfl rfl ?_
    refine wg_getR (b := 1) X cl8 (SCi hS 0 8 rfl) 0 (by decide) dX8_flood_16 k_472 rfl (SCr hS 0 0 1 rfl) ?_
    refine wg_getC X cl0 (SCi hS 1 0 rfl) 2 (by decide) dX8_flood_19 k_147 rfl ?_
    refine wg_icmp_ge X 123 dX8_flood_22 (by decide) (fun c3 => ?_) (fun c3 => ?_)
    · have h := if_t c3 h
      exact Ke C x3 x4 (sm_inj h).symm
    · have h := if_f c3 h
      refine wg_aload_n X 0 dX8_flood_25 rfl rfl ?_
      refine wg_getR (b := 1) X cl8 (SCi hS 0 8 rfl) 0 (by decide) dX8_flood_26 k_472 rfl (SCr hS 0 0 1 rfl) ?_
      refine wg_getR (b := 3) X cl0 (SCi hS 1 0 rfl) 1 (by decide) dX8_flood_29 k_144 rfl (SCr hS 1 1 3 rfl) ?_
      refine wg_iload X 4 dX8_flood_32 rfl ?_
      obtain ⟨z4, h⟩ := ck_some h
      refine wg_aalS13 (b := 4 + x4.toNatClampNeg) X (SCi hS 3 13 rfl) (SCl hS 3 8 rfl) z4 (SCp hS (inb_lt z4)).1 dX8_flood_34 ?_
      refine wg_astore (lv' := [(5, .ref (ad (4 + x4.toNatClampNeg))), (0, .ref (ad 0)), (1, .int x1), (2, .ref (ad p2)), (3, .int x3), (4, .int x4)]) X dX8_flood_35 rfl (by decide) rfl ?_
      refine wg_iconst (v := 0) X dX8_flood_37 (by decide) ?_
      refine wg_istore (lv' := [(6, .int (0 : Int32)), (5, .ref (ad (4 + x4.toNatClampNeg))), (0, .ref (ad 0)), (1, .int x1), (2, .ref (ad p2)), (3, .int x3), (4, .int x4)]) X dX8_flood_38 rfl (by decide) rfl ?_
      obtain ⟨o30, h31, h⟩ := bd3_o h
      refine wg_pick [2, 3, 4, 5, 6, 1, 0] (lv' := [(0, .ref (ad 0)), (1, .int x1), (2, .ref (ad p2)), (3, .int x3), (4, .int x4), (5, .ref (ad (4 + x4.toNatClampNeg))), (6, .int (0 : Int32))]) rfl ?_
      refine L_X8_flood_l40 X hr hS r0 D0 M N p2 n2 hp2  x1 x4 (4 + x4.toNatClampNeg) ((SCp hS (inb_lt z4)).2.1) N C x3 (0 : Int32) o30 h31 (fun C27 v28 v29 e33 => ?_)
      · subst e33
        replace h := bd3_in h
        obtain ⟨v34, e35, h⟩ := lt_some h
        refine wg_iinc (lv' := [(4, .int v34), (0, .ref (ad 0)), (1, .int x1), (2, .ref (ad p2)), (3, .int v28), (5, .ref (ad (4 + x4.toNatClampNeg))), (6, .int v29)]) X 4 dX8_flood_117 rfl e35 (by decide) rfl ?_
        refine wg_goto X 13 dX8_flood_120 (by decide) ?_
        refine wg_pick [1, 2, 3, 4, 0] (lv' := [(0, .ref (ad 0)), (1, .int x1), (2, .ref (ad p2)), (3, .int v28), (4, .int v34)]) rfl ?_
        exact Kc C27 v28 v34 (sm_inj h).symm
set_option maxHeartbeats 4000000 in
set_option maxRecDepth 100000 in
theorem c_X8_flood (l : Launch) (E : wg_Ev) (ad : Nat → Nat) (S : wg_Sh) (hS : wg_SC S) (N : Nat) (C : wg_C) (M : wg_M) (p1 : Int32) (p2 n2 : Nat) (hp2 : wg_IA S p2 n2) {r0 : Int32} {D0 : wg_C} (h : f_X8_flood N S C p1 p2 n2 = some (r0, D0)) : wg_Ci l yX8_flood cX8_flood 8 (some .int) 4 96 E ad S C M [.ref (ad 0), .int p1, .ref (ad p2)] r0 D0 M := by
  refine wg_start (own := RX8) (by decide +kernel) rfl (Nat.le_of_ble_eq_true rfl) ?_
  intro p e s m below meth c X hr hnm
  refine wg_lv (lv' := [(0, .ref (ad 0)), (1, .int p1), (2, .ref (ad p2))]) rfl ?_
  unfold f_X8_flood at h
  refine wg_aload_n X 0 dX8_flood_0 rfl rfl ?_
  refine wg_getR (b := 41) X cl8 (SCi hS 0 8 rfl) 9 (by decide) dX8_flood_1 k_481 rfl (SCr hS 0 9 41 rfl) ?_
  refine wg_iconst (v := 0) X dX8_flood_4 (by decide) ?_
  obtain ⟨C2, h1, h⟩ := bd_some h
  refine wg_callSv (As := [.ref (ad 41), .int (0 : Int32)]) (rest := []) X (c_J7_fill_53178 l E ad S hS N C M 41 32 (0 : Int32) ⟨(SCi hS 41 10 rfl), (SCl hS 41 32 rfl)⟩ h1) T_yJ7_fill_53178 k_770 dX8_flood_5 rfl rfl (Nat.le_of_ble_eq_true rfl) ⟨Nat.le_of_ble_eq_true rfl, Nat.le_of_ble_eq_true rfl⟩ ⟨Nat.zero_le _, Nat.zero_le _⟩ ?_
  refine wg_iconst (v := 0) X dX8_flood_8 (by decide) ?_
  refine wg_istore_n (lv' := [(3, .int (0 : Int32)), (0, .ref (ad 0)), (1, .int p1), (2, .ref (ad p2))]) X dX8_flood_9 rfl rfl (by decide) rfl ?_
  refine wg_iconst (v := 0) X dX8_flood_10 (by decide) ?_
  refine wg_istore (lv' := [(4, .int (0 : Int32)), (3, .int (0 : Int32)), (0, .ref (ad 0)), (1, .int p1), (2, .ref (ad p2))]) X dX8_flood_11 rfl (by decide) rfl ?_
  obtain ⟨o39, h40, h⟩ := bd3_o h
  refine wg_pick [2, 3, 4, 1, 0] (lv' := [(0, .ref (ad 0)), (1, .int p1), (2, .ref (ad p2)), (3, .int (0 : Int32)), (4, .int (0 : Int32))]) rfl ?_
  refine L_X8_flood_l13 X hr hS r0 D0 M N p2 n2 hp2  p1  N C2 (0 : Int32) (0 : Int32) o39 h40 (fun C36 v37 v38 e42 => ?_)
  · subst e42
    replace h := bd3_in h
    refine wg_iload_n X 3 dX8_flood_123 rfl rfl ?_
    exact wg_iret X ⟨congrArg Prod.fst (sm_inj h), congrArg Prod.snd (sm_inj h), rfl⟩ hr dX8_flood_124
-- WindowsGive.water(II)I (('c', 0), 'i', 'i')
def f_X8_water (N : Nat) (S : wg_Sh) (C : wg_C) (p1 : Int32) (p2 : Int32) : Option (Int32 × wg_C) :=
  bd (f_X8_isRoom p1) fun r2 =>
  if r2 = 0 then (
    some ((-2 : Int32), C))
  else (
    bd (f_X8_isDay p2) fun r5 =>
    if r5 = 0 then (
      some ((-2 : Int32), C))
    else (
      bd2 (f_X8_flood N S C p1 2 32) fun r8 C9 =>
      ck (inb p2 32) <|
      some ((C9 41 p2.toNatClampNeg), C9)))
set_option maxHeartbeats 4000000 in
set_option maxRecDepth 100000 in
theorem c_X8_water (l : Launch) (E : wg_Ev) (ad : Nat → Nat) (S : wg_Sh) (hS : wg_SC S) (N : Nat) (C : wg_C) (M : wg_M) (p1 : Int32) (p2 : Int32)  {r0 : Int32} {D0 : wg_C} (h : f_X8_water N S C p1 p2 = some (r0, D0)) : wg_Ci l yX8_water cX8_water 3 (some .int) 5 123 E ad S C M [.ref (ad 0), .int p1, .int p2] r0 D0 M := by
  refine wg_start (own := RX8) (by decide +kernel) rfl (Nat.le_of_ble_eq_true rfl) ?_
  intro p e s m below meth c X hr hnm
  refine wg_lv (lv' := [(0, .ref (ad 0)), (1, .int p1), (2, .int p2)]) rfl ?_
  unfold f_X8_water at h
  refine wg_iload_n X 1 dX8_water_0 rfl rfl ?_
  obtain ⟨r2, h1, h⟩ := bd_some h
  refine wg_callSi (As := [.int p1]) (rest := []) X (c_X8_isRoom l E ad S C M p1  h1) T_yX8_isRoom k_535 dX8_water_1 rfl rfl (Nat.le_of_ble_eq_true rfl) ⟨Nat.le_of_ble_eq_true rfl, Nat.le_of_ble_eq_true rfl⟩ ⟨Nat.zero_le _, Nat.zero_le _⟩ ?_
  refine wg_if_eq X 14 dX8_water_4 (by decide) (fun c3 => ?_) (fun c3 => ?_)
  · have h := if_t c3 h
    refine wg_bipush (v := -2) X dX8_water_14 (by decide) ?_
    exact wg_iret X ⟨congrArg Prod.fst (sm_inj h), congrArg Prod.snd (sm_inj h), rfl⟩ hr dX8_water_16
  · have h := if_f c3 h
    refine wg_iload_n X 2 dX8_water_7 rfl rfl ?_
    obtain ⟨r5, h4, h⟩ := bd_some h
    refine wg_callSi (As := [.int p2]) (rest := []) X (c_X8_isDay l E ad S C M p2  h4) T_yX8_isDay k_517 dX8_water_8 rfl rfl (Nat.le_of_ble_eq_true rfl) ⟨Nat.le_of_ble_eq_true rfl, Nat.le_of_ble_eq_true rfl⟩ ⟨Nat.zero_le _, Nat.zero_le _⟩ ?_
    refine wg_if_ne X 17 dX8_water_11 (by decide) (fun c6 => ?_) (fun c6 => ?_)
    · have h := if_f c6 h
      refine wg_aload_n X 0 dX8_water_17 rfl rfl ?_
      refine wg_iload_n X 1 dX8_water_18 rfl rfl ?_
      refine wg_aload_n X 0 dX8_water_19 rfl rfl ?_
      refine wg_getR (b := 1) X cl8 (SCi hS 0 8 rfl) 0 (by decide) dX8_water_20 k_472 rfl (SCr hS 0 0 1 rfl) ?_
      refine wg_getR (b := 2) X cl0 (SCi hS 1 0 rfl) 0 (by decide) dX8_water_23 k_141 rfl (SCr hS 1 0 2 rfl) ?_
      obtain ⟨r8, C9, h7, h⟩ := bd2_some h
      refine wg_callVi (As := [.int p1, .ref (ad 2)]) (rest := []) X (c_X8_flood l E ad S hS N C M p1 2 32 ⟨(SCi hS 2 10 rfl), (SCl hS 2 32 rfl)⟩ h7) T_yX8_flood k_766 cl8 (SCi hS 0 8 rfl) dX8_water_26 rfl rfl (Nat.le_of_ble_eq_true rfl) ⟨Nat.le_of_ble_eq_true rfl, Nat.le_of_ble_eq_true rfl⟩ ⟨Nat.zero_le _, Nat.zero_le _⟩ ?_
      refine wg_pop X dX8_water_29 rfl ?_
      refine wg_aload_n X 0 dX8_water_30 rfl rfl ?_
      refine wg_getR (b := 41) X cl8 (SCi hS 0 8 rfl) 9 (by decide) dX8_water_31 k_481 rfl (SCr hS 0 9 41 rfl) ?_
      refine wg_iload_n X 2 dX8_water_34 rfl rfl ?_
      obtain ⟨z10, h⟩ := ck_some h
      refine wg_iald X (SCi hS 41 10 rfl) (SCl hS 41 32 rfl) z10 dX8_water_35 ?_
      exact wg_iret X ⟨congrArg Prod.fst (sm_inj h), congrArg Prod.snd (sm_inj h), rfl⟩ hr dX8_water_36
    · have h := if_t c6 h
      refine wg_bipush (v := -2) X dX8_water_14 (by decide) ?_
      exact wg_iret X ⟨congrArg Prod.fst (sm_inj h), congrArg Prod.snd (sm_inj h), rfl⟩ hr dX8_water_16
-- WindowsGive.wettest(II)I (('c', 0), 'i', 'i')
def f_X8_wettest_l45 (N : Nat) (S : wg_Sh) (C : wg_C)   (x4 : Int32) (x5 : Int32) : Option ((Int32 × Int32) ⊕ (Int32 × Int32)) :=
  if (32 : Int32) ≤ x5 then (
    some (.inr (x4, x5)))
  else (
    ck (inb x5 32) <|
    ck (inb x4 32) <|
    if (C 41 x5.toNatClampNeg) ≤ (C 41 x4.toNatClampNeg) then (
      lt_ (x5 + (1 : Int32)) fun v14 =>
      some (.inl (x4, v14)))
    else (
      lt_ (x5 + (1 : Int32)) fun v16 =>
      some (.inl (x5, v16))))
def f_X8_wettest (N : Nat) (S : wg_Sh) (C : wg_C) (p1 : Int32) (p2 : Int32) : Option (Int32 × wg_C) :=
  bd (f_X8_isRoom p1) fun r2 =>
  if r2 = 0 then (
    some ((-2 : Int32), C))
  else (
    if p2 < 0 then (
      some ((-2 : Int32), C))
    else (
      if p2 ≤ (1 : Int32) then (
        bd2 (f_X8_flood N S C p1 2 32) fun r7 C8 =>
        if p2 = (1 : Int32) then (
          some (r7, C8))
        else (
          bd2 (lp (fun o => f_X8_wettest_l45 N S C8   o.1 o.2) N ((0 : Int32), (1 : Int32))) fun v18 v19 =>
          some (v18, C8)))
      else (
        some ((-2 : Int32), C))))
abbrev G_X8_wettest (p : Program) (l : Launch) (e : Env) (s : State) (m : MethodId) (args : Array Value) (below : List Frame) (meth : Method) (c : Code) (E : wg_Ev) (ad : Nat → Nat) (S : wg_Sh) (r0 : Int32) (C0 : wg_C) (M0 : wg_M) (pc : Nat) (C : wg_C) (M : wg_M) (lv : List (Nat × Value)) (st : List Value) : Prop := wg_G p l e (wg_Rm 5 123) s m args below meth c (MQ below (wg_Qi E ad S r0 C0 M0) args s 0 0 (wg_A E)) 6 E ad S 0 0 pc C M lv st
set_option maxHeartbeats 4000000 in
set_option maxRecDepth 100000 in
theorem L_X8_wettest_l45 {p : Program} {l : Launch} {e : Env} {s : State} {m : MethodId} {args : Array Value} {below : List Frame} {meth : Method} {c : Code} {E : wg_Ev} {ad : Nat → Nat} {S : wg_Sh} (X : wg_X p s m args meth c cX8_wettest 6 RX8 E) (hr : meth.sig.returnType = (some .int)) (hS : wg_SC S) (r0 : Int32) (D0 : wg_C) (M : wg_M) (N : Nat)  (C : wg_C)    : ∀ (n : Nat) (x4 : Int32) (x5 : Int32) (o : (Int32 × Int32)), lp (fun o => f_X8_wettest_l45 N S C   o.1 o.2) n (x4, x5) = some o → (∀ (y4 : Int32) (y5 : Int32), o = (y4, y5) → G_X8_wettest p l e s m args below meth c E ad S r0 D0 M 79 C M [(0, .ref (ad 0)), (4, .int y4), (5, .int y5)] []) → G_X8_wettest p l e s m args below meth c E ad S r0 D0 M 45 C M [(0, .ref (ad 0)), (4, .int x4), (5, .int x5)] [] := by
  intro n
  induction n with
  | zero => exact fun _ _ o h => (lp_zero h).elim
  | succ n ih =>
    intro x4 x5 o h K
    obtain ⟨o1, hb, h2⟩ := lp_some h
    replace hb : f_X8_wettest_l45 N S C   x4 x5 = some o1 := hb
    clear h
    have Kc : ∀ (y4 : Int32) (y5 : Int32), o1 = Sum.inl (y4, y5) → G_X8_wettest p l e s m args below meth c E ad S r0 D0 M 45 C M [(0, .ref (ad 0)), (4, .int y4), (5, .int y5)] [] := fun y4 y5 e1 => by
      subst e1
      exact ih y4 y5 o h2 K
    have Ke : ∀ (y4 : Int32) (y5 : Int32), o1 = Sum.inr ((y4, y5)) → G_X8_wettest p l e s m args below meth c E ad S r0 D0 M 79 C M [(0, .ref (ad 0)), (4, .int y4), (5, .int y5)] [] := fun y4 y5 e1 => by
      subst e1
      exact K y4 y5 (sm_inj (α := (Int32 × Int32)) h2).symm
    clear ih K h2
    unfold f_X8_wettest_l45 at hb
    have h := hb
    clear hb
    refine wg_iload X 2 dX8_wettest_45 rfl ?_
    refine wg_bipush (v := 32) X dX8_wettest_47 (by decide) ?_
    refine wg_icmp_ge X 79 dX8_wettest_49 (by decide) (fun c10 => ?_) (fun c10 => ?_)
    · have h := if_t c10 h
      exact Ke x4 x5 (sm_inj h).symm
    · have h := if_f c10 h
      refine wg_aload_n X 0 dX8_wettest_52 rfl rfl ?_
      refine wg_getR (b := 41) X cl8 (SCi hS 0 8 rfl) 9 (by decide) dX8_wettest_53 k_481 rfl (SCr hS 0 9 41 rfl) ?_
      refine wg_iload X 2 dX8_wettest_56 rfl ?_
      obtain ⟨z11, h⟩ := ck_some h
      refine wg_iald X (SCi hS 41 10 rfl) (SCl hS 41 32 rfl) z11 dX8_wettest_58 ?_
      refine wg_aload_n X 0 dX8_wettest_59 rfl rfl ?_
      refine wg_getR (b := 41) X cl8 (SCi hS 0 8 rfl) 9 (by decide) dX8_wettest_60 k_481 rfl (SCr hS 0 9 41 rfl) ?_
      refine wg_iload X 1 dX8_wettest_63 rfl ?_
      obtain ⟨z12, h⟩ := ck_some h
      refine wg_iald X (SCi hS 41 10 rfl) (SCl hS 41 32 rfl) z12 dX8_wettest_65 ?_
      refine wg_icmp_le X 73 dX8_wettest_66 (by decide) (fun c13 => ?_) (fun c13 => ?_)
      · have h := if_t c13 h
        obtain ⟨v14, e15, h⟩ := lt_some h
        refine wg_iinc (lv' := [(5, .int v14), (0, .ref (ad 0)), (4, .int x4)]) X 2 dX8_wettest_73 rfl e15 (by decide) rfl ?_
        refine wg_goto X 45 dX8_wettest_76 (by decide) ?_
        refine wg_pick [1, 2, 0] (lv' := [(0, .ref (ad 0)), (4, .int x4), (5, .int v14)]) rfl ?_
        exact Kc x4 v14 (sm_inj h).symm
      · have h := if_f c13 h
        refine wg_iload X 2 dX8_wettest_69 rfl ?_
        refine wg_istore (lv' := [(4, .int x5), (0, .ref (ad 0)), (5, .int x5)]) X dX8_wettest_71 rfl (by decide) rfl ?_
        obtain ⟨v16, e17, h⟩ := lt_some h
        refine wg_iinc (lv' := [(5, .int v16), (4, .int x5), (0, .ref (ad 0))]) X 2 dX8_wettest_73 rfl e17 (by decide) rfl ?_
        refine wg_goto X 45 dX8_wettest_76 (by decide) ?_
        refine wg_pick [2, 1, 0] (lv' := [(0, .ref (ad 0)), (4, .int x5), (5, .int v16)]) rfl ?_
        exact Kc x5 v16 (sm_inj h).symm
set_option maxHeartbeats 4000000 in
set_option maxRecDepth 100000 in
theorem c_X8_wettest (l : Launch) (E : wg_Ev) (ad : Nat → Nat) (S : wg_Sh) (hS : wg_SC S) (N : Nat) (C : wg_C) (M : wg_M) (p1 : Int32) (p2 : Int32)  {r0 : Int32} {D0 : wg_C} (h : f_X8_wettest N S C p1 p2 = some (r0, D0)) : wg_Ci l yX8_wettest cX8_wettest 6 (some .int) 5 123 E ad S C M [.ref (ad 0), .int p1, .int p2] r0 D0 M := by
  refine wg_start (own := RX8) (by decide +kernel) rfl (Nat.le_of_ble_eq_true rfl) ?_
  intro p e s m below meth c X hr hnm
  refine wg_lv (lv' := [(0, .ref (ad 0)), (1, .int p1), (2, .int p2)]) rfl ?_
  unfold f_X8_wettest at h
  refine wg_iload_n X 1 dX8_wettest_0 rfl rfl ?_
  obtain ⟨r2, h1, h⟩ := bd_some h
  refine wg_callSi (As := [.int p1]) (rest := []) X (c_X8_isRoom l E ad S C M p1  h1) T_yX8_isRoom k_535 dX8_wettest_1 rfl rfl (Nat.le_of_ble_eq_true rfl) ⟨Nat.le_of_ble_eq_true rfl, Nat.le_of_ble_eq_true rfl⟩ ⟨Nat.zero_le _, Nat.zero_le _⟩ ?_
  refine wg_if_eq X 16 dX8_wettest_4 (by decide) (fun c3 => ?_) (fun c3 => ?_)
  · have h := if_t c3 h
    refine wg_bipush (v := -2) X dX8_wettest_16 (by decide) ?_
    exact wg_iret X ⟨congrArg Prod.fst (sm_inj h), congrArg Prod.snd (sm_inj h), rfl⟩ hr dX8_wettest_18
  · have h := if_f c3 h
    refine wg_iload_n X 2 dX8_wettest_7 rfl rfl ?_
    refine wg_if_lt X 16 dX8_wettest_8 (by decide) (fun c4 => ?_) (fun c4 => ?_)
    · have h := if_t c4 h
      refine wg_bipush (v := -2) X dX8_wettest_16 (by decide) ?_
      exact wg_iret X ⟨congrArg Prod.fst (sm_inj h), congrArg Prod.snd (sm_inj h), rfl⟩ hr dX8_wettest_18
    · have h := if_f c4 h
      refine wg_iload_n X 2 dX8_wettest_11 rfl rfl ?_
      refine wg_iconst (v := 1) X dX8_wettest_12 (by decide) ?_
      refine wg_icmp_le X 19 dX8_wettest_13 (by decide) (fun c5 => ?_) (fun c5 => ?_)
      · have h := if_t c5 h
        refine wg_aload_n X 0 dX8_wettest_19 rfl rfl ?_
        refine wg_iload_n X 1 dX8_wettest_20 rfl rfl ?_
        refine wg_aload_n X 0 dX8_wettest_21 rfl rfl ?_
        refine wg_getR (b := 1) X cl8 (SCi hS 0 8 rfl) 0 (by decide) dX8_wettest_22 k_472 rfl (SCr hS 0 0 1 rfl) ?_
        refine wg_getR (b := 2) X cl0 (SCi hS 1 0 rfl) 0 (by decide) dX8_wettest_25 k_141 rfl (SCr hS 1 0 2 rfl) ?_
        obtain ⟨r7, C8, h6, h⟩ := bd2_some h
        refine wg_callVi (As := [.int p1, .ref (ad 2)]) (rest := []) X (c_X8_flood l E ad S hS N C M p1 2 32 ⟨(SCi hS 2 10 rfl), (SCl hS 2 32 rfl)⟩ h6) T_yX8_flood k_766 cl8 (SCi hS 0 8 rfl) dX8_wettest_28 rfl rfl (Nat.le_of_ble_eq_true rfl) ⟨Nat.le_of_ble_eq_true rfl, Nat.le_of_ble_eq_true rfl⟩ ⟨Nat.zero_le _, Nat.zero_le _⟩ ?_
        refine wg_istore_n (lv' := [(3, .int r7), (0, .ref (ad 0)), (1, .int p1), (2, .int p2)]) X dX8_wettest_31 rfl rfl (by decide) rfl ?_
        refine wg_iload_n X 3 dX8_wettest_32 rfl rfl ?_
        refine wg_iconst (v := 1) X dX8_wettest_33 (by decide) ?_
        refine wg_icmp_ne X 39 dX8_wettest_34 (by decide) (fun c9 => ?_) (fun c9 => ?_)
        · have h := if_f c9 h
          refine wg_iconst (v := 0) X dX8_wettest_39 (by decide) ?_
          refine wg_istore (lv' := [(4, .int (0 : Int32)), (3, .int r7), (0, .ref (ad 0)), (1, .int p1), (2, .int p2)]) X dX8_wettest_40 rfl (by decide) rfl ?_
          refine wg_iconst (v := 1) X dX8_wettest_42 (by decide) ?_
          refine wg_istore (lv' := [(5, .int (1 : Int32)), (4, .int (0 : Int32)), (3, .int r7), (0, .ref (ad 0)), (1, .int p1), (2, .int p2)]) X dX8_wettest_43 rfl (by decide) rfl ?_
          obtain ⟨o20, h21, h⟩ := bd2_o h
          refine wg_pick [3, 1, 0] (lv' := [(0, .ref (ad 0)), (4, .int (0 : Int32)), (5, .int (1 : Int32))]) rfl ?_
          refine L_X8_wettest_l45 X hr hS r0 D0 M N  C8    N (0 : Int32) (1 : Int32) o20 h21 (fun v18 v19 e23 => ?_)
          · subst e23
            replace h := bd2_in h
            refine wg_iload X 1 dX8_wettest_79 rfl ?_
            exact wg_iret X ⟨congrArg Prod.fst (sm_inj h), congrArg Prod.snd (sm_inj h), rfl⟩ hr dX8_wettest_81
        · have h := if_t c9 h
          refine wg_iload_n X 0 dX8_wettest_37 rfl rfl ?_
          exact wg_iret X ⟨congrArg Prod.fst (sm_inj h), congrArg Prod.snd (sm_inj h), rfl⟩ hr dX8_wettest_38
      · have h := if_f c5 h
        refine wg_bipush (v := -2) X dX8_wettest_16 (by decide) ?_
        exact wg_iret X ⟨congrArg Prod.fst (sm_inj h), congrArg Prod.snd (sm_inj h), rfl⟩ hr dX8_wettest_18
-- WindowsGive.fillPrices(I)V (('c', 0), 'i')
def f_X8_fillPrices_j41l2 (N : Nat) (S : wg_Sh) (C : wg_C)  (x1 : Int32) (x2 : Int32) (s0 : Int32) : Option ((wg_C × Int32) ⊕ (wg_C × Int32)) :=
  if s0 = 0 then (
    ck (inb x2 8) <|
    lt_ (wg_up C 43 x2.toNatClampNeg (-1 : Int32)) fun C5 =>
    lt_ (x2 + (1 : Int32)) fun v7 =>
    some (.inl (C5, v7)))
  else (
    ck (inb x2 8) <|
    bd2 (f_X3_worth N S C (C 1 3) (2 : Int32) (4 + x2.toNatClampNeg) x1 2 32) fun r11 C12 =>
    ck (inb x2 8) <|
    lt_ (wg_up C12 43 x2.toNatClampNeg r11) fun C14 =>
    lt_ (x2 + (1 : Int32)) fun v16 =>
    some (.inl (C14, v16)))
def f_X8_fillPrices_l2 (N : Nat) (S : wg_Sh)  (x1 : Int32) (C : wg_C) (x2 : Int32) : Option ((wg_C × Int32) ⊕ (wg_C × Int32)) :=
  if (8 : Int32) ≤ x2 then (
    some (.inr (C, x2)))
  else (
    if (C 1 2) ≤ x2 then (
      f_X8_fillPrices_j41l2 N S C  x1 x2 (0 : Int32))
    else (
      ck (inb x2 8) <|
      bd (f_X1_passes C (4 + x2.toNatClampNeg) x1 (0 : Int32)) fun r20 =>
      if r20 = 0 then (
        f_X8_fillPrices_j41l2 N S C  x1 x2 (0 : Int32))
      else (
        f_X8_fillPrices_j41l2 N S C  x1 x2 (1 : Int32))))
def f_X8_fillPrices (N : Nat) (S : wg_Sh) (C : wg_C) (p1 : Int32) : Option wg_C :=
  bd2 (lp (fun o => f_X8_fillPrices_l2 N S  p1 o.1 o.2) N (C, (0 : Int32))) fun C22 v23 =>
  some C22
abbrev G_X8_fillPrices (p : Program) (l : Launch) (e : Env) (s : State) (m : MethodId) (args : Array Value) (below : List Frame) (meth : Method) (c : Code) (E : wg_Ev) (ad : Nat → Nat) (S : wg_Sh) (C0 : wg_C) (M0 : wg_M) (pc : Nat) (C : wg_C) (M : wg_M) (lv : List (Nat × Value)) (st : List Value) : Prop := wg_G p l e (wg_Rm 4 96) s m args below meth c (MQ below (wg_Qv E ad S C0 M0) args s 0 0 (wg_A E)) 4 E ad S 0 0 pc C M lv st
set_option maxHeartbeats 4000000 in
set_option maxRecDepth 100000 in
theorem J_X8_fillPrices_j41l2 {p : Program} {l : Launch} {e : Env} {s : State} {m : MethodId} {args : Array Value} {below : List Frame} {meth : Method} {c : Code} {E : wg_Ev} {ad : Nat → Nat} {S : wg_Sh} (X : wg_X p s m args meth c cX8_fillPrices 4 RX8 E) (hr : meth.sig.returnType = none) (hS : wg_SC S) (D0 : wg_C) (M : wg_M) (N : Nat)  (C : wg_C)  (x1 : Int32) (x2 : Int32) (s0 : Int32)  (y : ((wg_C × Int32) ⊕ (wg_C × Int32))) (Kc : ∀ (Dy : wg_C) (y2 : Int32), y = Sum.inl (Dy, y2) → G_X8_fillPrices p l e s m args below meth c E ad S D0 M 2 Dy M [(0, .ref (ad 0)), (1, .int x1), (2, .int y2)] []) (Ke : ∀ (Dy : wg_C) (y2 : Int32), y = Sum.inr ((Dy, y2)) → G_X8_fillPrices p l e s m args below meth c E ad S D0 M 94 Dy M [(0, .ref (ad 0)), (1, .int x1), (2, .int y2)] []) (h : f_X8_fillPrices_j41l2 N S C  x1 x2 s0 = some y) : G_X8_fillPrices p l e s m args below meth c E ad S D0 M 41 C M [(0, .ref (ad 0)), (1, .int x1), (2, .int x2)] [.int s0] := by
  unfold f_X8_fillPrices_j41l2 at h
  refine wg_istore_n (lv' := [(3, .int s0), (0, .ref (ad 0)), (1, .int x1), (2, .int x2)]) X dX8_fillPrices_41 rfl rfl (by decide) rfl ?_
  refine wg_aload_n X 1 dX8_fillPrices_42 rfl rfl ?_
  refine wg_getR (b := 43) X cl8 (SCi hS 0 8 rfl) 11 (by decide) dX8_fillPrices_43 k_483 rfl (SCr hS 0 11 43 rfl) ?_
  refine wg_iload_n X 3 dX8_fillPrices_46 rfl rfl ?_
  refine wg_iload_n X 0 dX8_fillPrices_47 rfl rfl ?_
  refine wg_if_eq X 86 dX8_fillPrices_48 (by decide) (fun c3 => ?_) (fun c3 => ?_)
  · have h := if_t c3 h
    refine wg_iconst (v := -1) X dX8_fillPrices_86 (by decide) ?_
    obtain ⟨z4, h⟩ := ck_some h
    obtain ⟨C5, e6, h⟩ := lt_some h
    refine wg_iaste X (SCi hS 43 10 rfl) (SCl hS 43 8 rfl) z4 dX8_fillPrices_87 e6 ?_
    obtain ⟨v7, e8, h⟩ := lt_some h
    refine wg_iinc (lv' := [(2, .int v7), (3, .int s0), (0, .ref (ad 0)), (1, .int x1)]) X 3 dX8_fillPrices_88 rfl e8 (by decide) rfl ?_
    refine wg_goto X 2 dX8_fillPrices_91 (by decide) ?_
    refine wg_pick [2, 3, 0] (lv' := [(0, .ref (ad 0)), (1, .int x1), (2, .int v7)]) rfl ?_
    exact Kc C5 v7 (sm_inj h).symm
  · have h := if_f c3 h
    refine wg_aload_n X 1 dX8_fillPrices_51 rfl rfl ?_
    refine wg_getR (b := 31) X cl8 (SCi hS 0 8 rfl) 5 (by decide) dX8_fillPrices_52 k_477 rfl (SCr hS 0 5 31 rfl) ?_
    refine wg_aload_n X 1 dX8_fillPrices_55 rfl rfl ?_
    refine wg_getR (b := 1) X cl8 (SCi hS 0 8 rfl) 0 (by decide) dX8_fillPrices_56 k_472 rfl (SCr hS 0 0 1 rfl) ?_
    refine wg_getC X cl0 (SCi hS 1 0 rfl) 3 (by decide) dX8_fillPrices_59 k_151 rfl ?_
    refine wg_iconst (v := 2) X dX8_fillPrices_62 (by decide) ?_
    refine wg_aload_n X 1 dX8_fillPrices_63 rfl rfl ?_
    refine wg_getR (b := 1) X cl8 (SCi hS 0 8 rfl) 0 (by decide) dX8_fillPrices_64 k_472 rfl (SCr hS 0 0 1 rfl) ?_
    refine wg_getR (b := 3) X cl0 (SCi hS 1 0 rfl) 1 (by decide) dX8_fillPrices_67 k_144 rfl (SCr hS 1 1 3 rfl) ?_
    refine wg_iload_n X 3 dX8_fillPrices_70 rfl rfl ?_
    obtain ⟨z9, h⟩ := ck_some h
    refine wg_aalS13 (b := 4 + x2.toNatClampNeg) X (SCi hS 3 13 rfl) (SCl hS 3 8 rfl) z9 (SCp hS (inb_lt z9)).1 dX8_fillPrices_71 ?_
    refine wg_iload_n X 2 dX8_fillPrices_72 rfl rfl ?_
    refine wg_aload_n X 1 dX8_fillPrices_73 rfl rfl ?_
    refine wg_getR (b := 1) X cl8 (SCi hS 0 8 rfl) 0 (by decide) dX8_fillPrices_74 k_472 rfl (SCr hS 0 0 1 rfl) ?_
    refine wg_getR (b := 2) X cl0 (SCi hS 1 0 rfl) 0 (by decide) dX8_fillPrices_77 k_141 rfl (SCr hS 1 0 2 rfl) ?_
    obtain ⟨r11, C12, h10, h⟩ := bd2_some h
    refine wg_callVi (As := [.int (C 1 3), .int (2 : Int32), .ref (ad (4 + x2.toNatClampNeg)), .int x1, .ref (ad 2)]) (rest := [.int x2, .ref (ad 43)]) X (c_X3_worth l E ad S hS N C M (C 1 3) (2 : Int32) (4 + x2.toNatClampNeg) x1 2 32 ((SCp hS (inb_lt z9)).2.1) ⟨(SCi hS 2 10 rfl), (SCl hS 2 32 rfl)⟩ h10) T_yX3_worth k_772 cl3 (SCi hS 31 3 rfl) dX8_fillPrices_80 rfl rfl (Nat.le_of_ble_eq_true rfl) ⟨Nat.le_of_ble_eq_true rfl, Nat.le_of_ble_eq_true rfl⟩ ⟨Nat.zero_le _, Nat.zero_le _⟩ ?_
    refine wg_goto X 87 dX8_fillPrices_83 (by decide) ?_
    obtain ⟨z13, h⟩ := ck_some h
    obtain ⟨C14, e15, h⟩ := lt_some h
    refine wg_iaste X (SCi hS 43 10 rfl) (SCl hS 43 8 rfl) z13 dX8_fillPrices_87 e15 ?_
    obtain ⟨v16, e17, h⟩ := lt_some h
    refine wg_iinc (lv' := [(2, .int v16), (3, .int s0), (0, .ref (ad 0)), (1, .int x1)]) X 3 dX8_fillPrices_88 rfl e17 (by decide) rfl ?_
    refine wg_goto X 2 dX8_fillPrices_91 (by decide) ?_
    refine wg_pick [2, 3, 0] (lv' := [(0, .ref (ad 0)), (1, .int x1), (2, .int v16)]) rfl ?_
    exact Kc C14 v16 (sm_inj h).symm
set_option maxHeartbeats 4000000 in
set_option maxRecDepth 100000 in
theorem L_X8_fillPrices_l2 {p : Program} {l : Launch} {e : Env} {s : State} {m : MethodId} {args : Array Value} {below : List Frame} {meth : Method} {c : Code} {E : wg_Ev} {ad : Nat → Nat} {S : wg_Sh} (X : wg_X p s m args meth c cX8_fillPrices 4 RX8 E) (hr : meth.sig.returnType = none) (hS : wg_SC S) (D0 : wg_C) (M : wg_M) (N : Nat)   (x1 : Int32)  : ∀ (n : Nat) (C : wg_C) (x2 : Int32) (o : (wg_C × Int32)), lp (fun o => f_X8_fillPrices_l2 N S  x1 o.1 o.2) n (C, x2) = some o → (∀ (Dy : wg_C) (y2 : Int32), o = (Dy, y2) → G_X8_fillPrices p l e s m args below meth c E ad S D0 M 94 Dy M [(0, .ref (ad 0)), (1, .int x1), (2, .int y2)] []) → G_X8_fillPrices p l e s m args below meth c E ad S D0 M 2 C M [(0, .ref (ad 0)), (1, .int x1), (2, .int x2)] [] := by
  intro n
  induction n with
  | zero => exact fun _ _ o h => (lp_zero h).elim
  | succ n ih =>
    intro C x2 o h K
    obtain ⟨o1, hb, h2⟩ := lp_some h
    replace hb : f_X8_fillPrices_l2 N S  x1 C x2 = some o1 := hb
    clear h
    have Kc : ∀ (Dy : wg_C) (y2 : Int32), o1 = Sum.inl (Dy, y2) → G_X8_fillPrices p l e s m args below meth c E ad S D0 M 2 Dy M [(0, .ref (ad 0)), (1, .int x1), (2, .int y2)] [] := fun Dy y2 e1 => by
      subst e1
      exact ih Dy y2 o h2 K
    have Ke : ∀ (Dy : wg_C) (y2 : Int32), o1 = Sum.inr ((Dy, y2)) → G_X8_fillPrices p l e s m args below meth c E ad S D0 M 94 Dy M [(0, .ref (ad 0)), (1, .int x1), (2, .int y2)] [] := fun Dy y2 e1 => by
      subst e1
      exact K Dy y2 (sm_inj (α := (wg_C × Int32)) h2).symm
    clear ih K h2
    unfold f_X8_fillPrices_l2 at hb
    have h := hb
    clear hb
    refine wg_iload_n X 2 dX8_fillPrices_2 rfl rfl ?_
    refine wg_bipush (v := 8) X dX8_fillPrices_3 (by decide) ?_
    refine wg_icmp_ge X 94 dX8_fillPrices_5 (by decide) (fun c1 => ?_) (fun c1 => ?_)
    · have h := if_t c1 h
      exact Ke C x2 (sm_inj h).symm
    · have h := if_f c1 h
      refine wg_iload_n X 2 dX8_fillPrices_8 rfl rfl ?_
      refine wg_aload_n X 0 dX8_fillPrices_9 rfl rfl ?_
      refine wg_getR (b := 1) X cl8 (SCi hS 0 8 rfl) 0 (by decide) dX8_fillPrices_10 k_472 rfl (SCr hS 0 0 1 rfl) ?_
      refine wg_getC X cl0 (SCi hS 1 0 rfl) 2 (by decide) dX8_fillPrices_13 k_147 rfl ?_
      refine wg_icmp_ge X 40 dX8_fillPrices_16 (by decide) (fun c2 => ?_) (fun c2 => ?_)
      · have h := if_t c2 h
        refine wg_iconst (v := 0) X dX8_fillPrices_40 (by decide) ?_
        exact J_X8_fillPrices_j41l2 X hr hS D0 M N  C  x1 x2 (0 : Int32)  _ Kc Ke h
      · have h := if_f c2 h
        refine wg_aload_n X 0 dX8_fillPrices_19 rfl rfl ?_
        refine wg_getR (b := 1) X cl8 (SCi hS 0 8 rfl) 0 (by decide) dX8_fillPrices_20 k_472 rfl (SCr hS 0 0 1 rfl) ?_
        refine wg_getR (b := 3) X cl0 (SCi hS 1 0 rfl) 1 (by decide) dX8_fillPrices_23 k_144 rfl (SCr hS 1 1 3 rfl) ?_
        refine wg_iload_n X 2 dX8_fillPrices_26 rfl rfl ?_
        obtain ⟨z18, h⟩ := ck_some h
        refine wg_aalS13 (b := 4 + x2.toNatClampNeg) X (SCi hS 3 13 rfl) (SCl hS 3 8 rfl) z18 (SCp hS (inb_lt z18)).1 dX8_fillPrices_27 ?_
        refine wg_iload_n X 1 dX8_fillPrices_28 rfl rfl ?_
        refine wg_iconst (v := 0) X dX8_fillPrices_29 (by decide) ?_
        obtain ⟨r20, h19, h⟩ := bd_some h
        refine wg_callVi (As := [.int x1, .int (0 : Int32)]) (rest := []) X (c_X1_passes l E ad S hS C M (4 + x2.toNatClampNeg) x1 (0 : Int32) ((SCp hS (inb_lt z18)).2.1) h19) T_yX1_passes k_561 cl1 ((SCp hS (inb_lt z18)).2.1) dX8_fillPrices_30 rfl rfl (Nat.le_of_ble_eq_true rfl) ⟨Nat.le_of_ble_eq_true rfl, Nat.le_of_ble_eq_true rfl⟩ ⟨Nat.zero_le _, Nat.zero_le _⟩ ?_
        refine wg_if_eq X 40 dX8_fillPrices_33 (by decide) (fun c21 => ?_) (fun c21 => ?_)
        · have h := if_t c21 h
          refine wg_iconst (v := 0) X dX8_fillPrices_40 (by decide) ?_
          exact J_X8_fillPrices_j41l2 X hr hS D0 M N  C  x1 x2 (0 : Int32)  _ Kc Ke h
        · have h := if_f c21 h
          refine wg_iconst (v := 1) X dX8_fillPrices_36 (by decide) ?_
          refine wg_goto X 41 dX8_fillPrices_37 (by decide) ?_
          exact J_X8_fillPrices_j41l2 X hr hS D0 M N  C  x1 x2 (1 : Int32)  _ Kc Ke h
set_option maxHeartbeats 4000000 in
set_option maxRecDepth 100000 in
theorem c_X8_fillPrices (l : Launch) (E : wg_Ev) (ad : Nat → Nat) (S : wg_Sh) (hS : wg_SC S) (N : Nat) (C : wg_C) (M : wg_M) (p1 : Int32)  {D0 : wg_C} (h : f_X8_fillPrices N S C p1 = some D0) : wg_Cv l yX8_fillPrices cX8_fillPrices 4 none 4 96 E ad S C M [.ref (ad 0), .int p1] D0 M := by
  refine wg_start (own := RX8) (by decide +kernel) rfl (Nat.le_of_ble_eq_true rfl) ?_
  intro p e s m below meth c X hr hnm
  refine wg_lv (lv' := [(0, .ref (ad 0)), (1, .int p1)]) rfl ?_
  unfold f_X8_fillPrices at h
  refine wg_iconst (v := 0) X dX8_fillPrices_0 (by decide) ?_
  refine wg_istore_n (lv' := [(2, .int (0 : Int32)), (0, .ref (ad 0)), (1, .int p1)]) X dX8_fillPrices_1 rfl rfl (by decide) rfl ?_
  obtain ⟨o24, h25, h⟩ := bd2_o h
  refine wg_pick [1, 2, 0] (lv' := [(0, .ref (ad 0)), (1, .int p1), (2, .int (0 : Int32))]) rfl ?_
  refine L_X8_fillPrices_l2 X hr hS D0 M N   p1  N C (0 : Int32) o24 h25 (fun C22 v23 e27 => ?_)
  · subst e27
    replace h := bd2_in h
    exact wg_vret X ⟨(sm_inj h), rfl⟩ hr dX8_fillPrices_94
-- WindowsGive.holds(II)Z ('i', 'i')
def f_X8_holds (p0 : Int32) (p1 : Int32) : Option Int32 :=
  if ((p0 >>> (((7 : Int32) - p1) &&& 31)) &&& (1 : Int32)) = (1 : Int32) then (
    some (1 : Int32))
  else (
    some (0 : Int32))
set_option maxHeartbeats 4000000 in
set_option maxRecDepth 100000 in
theorem c_X8_holds (l : Launch) (E : wg_Ev) (ad : Nat → Nat) (S : wg_Sh) (C : wg_C) (M : wg_M) (p0 : Int32) (p1 : Int32)  {r0 : Int32} (h : f_X8_holds p0 p1 = some r0) : wg_Ci l yX8_holds cX8_holds 2 (some .boolean) 0 0 E ad S C M [.int p0, .int p1] r0 C M := by
  refine wg_start (own := RX8) (by decide +kernel) rfl (Nat.le_of_ble_eq_true rfl) ?_
  intro p e s m below meth c X hr hnm
  refine wg_lv (lv' := [(0, .int p0), (1, .int p1)]) rfl ?_
  unfold f_X8_holds at h
  refine wg_iload_n X 0 dX8_holds_0 rfl rfl ?_
  refine wg_bipush (v := 7) X dX8_holds_1 (by decide) ?_
  refine wg_iload_n X 1 dX8_holds_3 rfl rfl ?_
  refine wg_isub X dX8_holds_4 ?_
  refine wg_ishr X dX8_holds_5 ?_
  refine wg_iconst (v := 1) X dX8_holds_6 (by decide) ?_
  refine wg_iand X dX8_holds_7 ?_
  refine wg_iconst (v := 1) X dX8_holds_8 (by decide) ?_
  refine wg_icmp_ne X 16 dX8_holds_9 (by decide) (fun c1 => ?_) (fun c1 => ?_)
  · have h := if_f c1 h
    refine wg_iconst (v := 0) X dX8_holds_16 (by decide) ?_
    exact wg_zret X ⟨(sm_inj h), rfl, rfl⟩ hr (by decide) dX8_holds_17
  · have h := if_t c1 h
    refine wg_iconst (v := 1) X dX8_holds_12 (by decide) ?_
    refine wg_goto X 17 dX8_holds_13 (by decide) ?_
    exact wg_zret X ⟨(sm_inj h), rfl, rfl⟩ hr (by decide) dX8_holds_17
-- WindowsGive.priceTogether(I)I (('c', 0), 'i')
def f_X8_priceTogether_l4 (N : Nat) (C : wg_C)  (x1 : Int32) (x2 : Int32) (x3 : Int32) : Option ((Int32 × Int32) ⊕ ((Int32 × Int32) ⊕ Int32)) :=
  if (8 : Int32) ≤ x3 then (
    some (.inr (.inl (x2, x3))))
  else (
    bd (f_X8_holds x1 x3) fun r3 =>
    if r3 = 0 then (
      lt_ (x3 + (1 : Int32)) fun v5 =>
      some (.inl (x2, v5)))
    else (
      ck (inb x3 8) <|
      if (C 43 x3.toNatClampNeg) = (-1 : Int32) then (
        some (.inr (.inr (-1 : Int32))))
      else (
        ck (inb x3 8) <|
        lt_ (x2 + (C 43 x3.toNatClampNeg)) fun v10 =>
        lt_ (x3 + (1 : Int32)) fun v12 =>
        some (.inl (v10, v12)))))
def f_X8_priceTogether (N : Nat) (C : wg_C) (p1 : Int32) : Option Int32 :=
  bs2 (lp (fun o => f_X8_priceTogether_l4 N C  p1 o.1 o.2) N ((0 : Int32), (0 : Int32))) (fun v14 v15 =>
    some v14)
    (fun q18 => some q18)
abbrev G_X8_priceTogether (p : Program) (l : Launch) (e : Env) (s : State) (m : MethodId) (args : Array Value) (below : List Frame) (meth : Method) (c : Code) (E : wg_Ev) (ad : Nat → Nat) (S : wg_Sh) (r0 : Int32) (C0 : wg_C) (M0 : wg_M) (pc : Nat) (C : wg_C) (M : wg_M) (lv : List (Nat × Value)) (st : List Value) : Prop := wg_G p l e (wg_Rm 1 21) s m args below meth c (MQ below (wg_Qi E ad S r0 C0 M0) args s 0 0 (wg_A E)) 4 E ad S 0 0 pc C M lv st
set_option maxHeartbeats 4000000 in
set_option maxRecDepth 100000 in
theorem L_X8_priceTogether_l4 {p : Program} {l : Launch} {e : Env} {s : State} {m : MethodId} {args : Array Value} {below : List Frame} {meth : Method} {c : Code} {E : wg_Ev} {ad : Nat → Nat} {S : wg_Sh} (X : wg_X p s m args meth c cX8_priceTogether 4 RX8 E) (hr : meth.sig.returnType = (some .int)) (hS : wg_SC S) (r0 : Int32) (M : wg_M) (N : Nat)  (C : wg_C)  (x1 : Int32)  : ∀ (n : Nat) (x2 : Int32) (x3 : Int32) (o : ((Int32 × Int32) ⊕ Int32)), lp (fun o => f_X8_priceTogether_l4 N C  x1 o.1 o.2) n (x2, x3) = some o → (∀ (y2 : Int32) (y3 : Int32), o = Sum.inl (y2, y3) → G_X8_priceTogether p l e s m args below meth c E ad S r0 C M 45 C M [(0, .ref (ad 0)), (1, .int x1), (2, .int y2), (3, .int y3)] []) → (∀ q : Int32, o = Sum.inr q → q = r0) → G_X8_priceTogether p l e s m args below meth c E ad S r0 C M 4 C M [(0, .ref (ad 0)), (1, .int x1), (2, .int x2), (3, .int x3)] [] := by
  intro n
  induction n with
  | zero => exact fun _ _ o h => (lp_zero h).elim
  | succ n ih =>
    intro x2 x3 o h K KR
    obtain ⟨o1, hb, h2⟩ := lp_some h
    replace hb : f_X8_priceTogether_l4 N C  x1 x2 x3 = some o1 := hb
    clear h
    have Kc : ∀ (y2 : Int32) (y3 : Int32), o1 = Sum.inl (y2, y3) → G_X8_priceTogether p l e s m args below meth c E ad S r0 C M 4 C M [(0, .ref (ad 0)), (1, .int x1), (2, .int y2), (3, .int y3)] [] := fun y2 y3 e1 => by
      subst e1
      exact ih y2 y3 o h2 K KR
    have Ke : ∀ (y2 : Int32) (y3 : Int32), o1 = Sum.inr (Sum.inl (y2, y3)) → G_X8_priceTogether p l e s m args below meth c E ad S r0 C M 45 C M [(0, .ref (ad 0)), (1, .int x1), (2, .int y2), (3, .int y3)] [] := fun y2 y3 e1 => by
      subst e1
      exact K y2 y3 (sm_inj (α := ((Int32 × Int32) ⊕ Int32)) h2).symm
    have Kr : ∀ q : Int32, o1 = Sum.inr (Sum.inr q) → q = r0 := fun q e1 => by
      subst e1
      exact KR q (sm_inj (α := ((Int32 × Int32) ⊕ Int32)) h2).symm
    clear ih K h2 KR
    unfold f_X8_priceTogether_l4 at hb
    have h := hb
    clear hb
    refine wg_iload_n X 3 dX8_priceTogether_4 rfl rfl ?_
    refine wg_bipush (v := 8) X dX8_priceTogether_5 (by decide) ?_
    refine wg_icmp_ge X 45 dX8_priceTogether_7 (by decide) (fun c1 => ?_) (fun c1 => ?_)
    · have h := if_t c1 h
      exact Ke x2 x3 (sm_inj h).symm
    · have h := if_f c1 h
      refine wg_iload_n X 1 dX8_priceTogether_10 rfl rfl ?_
      refine wg_iload_n X 3 dX8_priceTogether_11 rfl rfl ?_
      obtain ⟨r3, h2, h⟩ := bd_some h
      refine wg_callSi (As := [.int x1, .int x3]) (rest := []) X (c_X8_holds l E ad S C M x1 x3  h2) T_yX8_holds k_789 dX8_priceTogether_12 rfl rfl (Nat.le_of_ble_eq_true rfl) ⟨Nat.le_of_ble_eq_true rfl, Nat.le_of_ble_eq_true rfl⟩ ⟨Nat.zero_le _, Nat.zero_le _⟩ ?_
      refine wg_if_eq X 39 dX8_priceTogether_15 (by decide) (fun c4 => ?_) (fun c4 => ?_)
      · have h := if_t c4 h
        obtain ⟨v5, e6, h⟩ := lt_some h
        refine wg_iinc (lv' := [(3, .int v5), (0, .ref (ad 0)), (1, .int x1), (2, .int x2)]) X 3 dX8_priceTogether_39 rfl e6 (by decide) rfl ?_
        refine wg_goto X 4 dX8_priceTogether_42 (by decide) ?_
        refine wg_pick [1, 2, 3, 0] (lv' := [(0, .ref (ad 0)), (1, .int x1), (2, .int x2), (3, .int v5)]) rfl ?_
        exact Kc x2 v5 (sm_inj h).symm
      · have h := if_f c4 h
        refine wg_aload_n X 0 dX8_priceTogether_18 rfl rfl ?_
        refine wg_getR (b := 43) X cl8 (SCi hS 0 8 rfl) 11 (by decide) dX8_priceTogether_19 k_483 rfl (SCr hS 0 11 43 rfl) ?_
        refine wg_iload_n X 3 dX8_priceTogether_22 rfl rfl ?_
        obtain ⟨z7, h⟩ := ck_some h
        refine wg_iald X (SCi hS 43 10 rfl) (SCl hS 43 8 rfl) z7 dX8_priceTogether_23 ?_
        refine wg_iconst (v := -1) X dX8_priceTogether_24 (by decide) ?_
        refine wg_icmp_ne X 30 dX8_priceTogether_25 (by decide) (fun c8 => ?_) (fun c8 => ?_)
        · have h := if_f c8 h
          refine wg_iload_n X 2 dX8_priceTogether_30 rfl rfl ?_
          refine wg_aload_n X 0 dX8_priceTogether_31 rfl rfl ?_
          refine wg_getR (b := 43) X cl8 (SCi hS 0 8 rfl) 11 (by decide) dX8_priceTogether_32 k_483 rfl (SCr hS 0 11 43 rfl) ?_
          refine wg_iload_n X 3 dX8_priceTogether_35 rfl rfl ?_
          obtain ⟨z9, h⟩ := ck_some h
          refine wg_iald X (SCi hS 43 10 rfl) (SCl hS 43 8 rfl) z9 dX8_priceTogether_36 ?_
          refine wg_iadd X dX8_priceTogether_37 ?_
          obtain ⟨v10, e11, h⟩ := lt_some h
          refine wg_istore_n (lv' := [(2, .int v10), (0, .ref (ad 0)), (1, .int x1), (3, .int x3)]) X dX8_priceTogether_38 rfl e11 (by decide) rfl ?_
          obtain ⟨v12, e13, h⟩ := lt_some h
          refine wg_iinc (lv' := [(3, .int v12), (2, .int v10), (0, .ref (ad 0)), (1, .int x1)]) X 3 dX8_priceTogether_39 rfl e13 (by decide) rfl ?_
          refine wg_goto X 4 dX8_priceTogether_42 (by decide) ?_
          refine wg_pick [2, 3, 1, 0] (lv' := [(0, .ref (ad 0)), (1, .int x1), (2, .int v10), (3, .int v12)]) rfl ?_
          exact Kc v10 v12 (sm_inj h).symm
        · have h := if_t c8 h
          refine wg_iconst (v := -1) X dX8_priceTogether_28 (by decide) ?_
          have hq := Kr _ (sm_inj h).symm
          exact wg_iret X ⟨hq, rfl, rfl⟩ hr dX8_priceTogether_29
set_option maxHeartbeats 4000000 in
set_option maxRecDepth 100000 in
theorem c_X8_priceTogether (l : Launch) (E : wg_Ev) (ad : Nat → Nat) (S : wg_Sh) (hS : wg_SC S) (N : Nat) (C : wg_C) (M : wg_M) (p1 : Int32)  {r0 : Int32} (h : f_X8_priceTogether N C p1 = some r0) : wg_Ci l yX8_priceTogether cX8_priceTogether 4 (some .int) 1 21 E ad S C M [.ref (ad 0), .int p1] r0 C M := by
  refine wg_start (own := RX8) (by decide +kernel) rfl (Nat.le_of_ble_eq_true rfl) ?_
  intro p e s m below meth c X hr hnm
  refine wg_lv (lv' := [(0, .ref (ad 0)), (1, .int p1)]) rfl ?_
  unfold f_X8_priceTogether at h
  refine wg_iconst (v := 0) X dX8_priceTogether_0 (by decide) ?_
  refine wg_istore_n (lv' := [(2, .int (0 : Int32)), (0, .ref (ad 0)), (1, .int p1)]) X dX8_priceTogether_1 rfl rfl (by decide) rfl ?_
  refine wg_iconst (v := 0) X dX8_priceTogether_2 (by decide) ?_
  refine wg_istore_n (lv' := [(3, .int (0 : Int32)), (2, .int (0 : Int32)), (0, .ref (ad 0)), (1, .int p1)]) X dX8_priceTogether_3 rfl rfl (by decide) rfl ?_
  obtain ⟨o16, h17, h⟩ := bs2_o h
  refine wg_pick [2, 3, 1, 0] (lv' := [(0, .ref (ad 0)), (1, .int p1), (2, .int (0 : Int32)), (3, .int (0 : Int32))]) rfl ?_
  refine L_X8_priceTogether_l4 X hr hS r0 M N  C  p1  N (0 : Int32) (0 : Int32) o16 h17 (fun v14 v15 e19 => ?_) (fun q18 e19 => ?_)
  · subst e19
    replace h := bs2_in h
    refine wg_iload_n X 2 dX8_priceTogether_45 rfl rfl ?_
    exact wg_iret X ⟨(sm_inj h), rfl, rfl⟩ hr dX8_priceTogether_46
  · subst e19
    replace h := bs2_r h
    exact sm_inj h
-- WindowsGive.digitsOf(I)I ('i',)
def f_X8_digitsOf_l4 (N : Nat)  (x0 : Int32) (x1 : Int32) (x2 : Int32) : Option ((Int32 × Int32) ⊕ (Int32 × Int32)) :=
  if (8 : Int32) ≤ x2 then (
    some (.inr (x1, x2)))
  else (
    bd (f_X8_holds x0 x2) fun r3 =>
    if r3 = 0 then (
      lt_ (x2 + (1 : Int32)) fun v5 =>
      some (.inl (x1, v5)))
    else (
      lt_ (((x1 * (10 : Int32)) + x2) + (1 : Int32)) fun v7 =>
      lt_ (x2 + (1 : Int32)) fun v9 =>
      some (.inl (v7, v9))))
def f_X8_digitsOf (N : Nat) (p0 : Int32) : Option Int32 :=
  bd2 (lp (fun o => f_X8_digitsOf_l4 N  p0 o.1 o.2) N ((0 : Int32), (0 : Int32))) fun v11 v12 =>
  some v11
abbrev G_X8_digitsOf (p : Program) (l : Launch) (e : Env) (s : State) (m : MethodId) (args : Array Value) (below : List Frame) (meth : Method) (c : Code) (E : wg_Ev) (ad : Nat → Nat) (S : wg_Sh) (r0 : Int32) (C0 : wg_C) (M0 : wg_M) (pc : Nat) (C : wg_C) (M : wg_M) (lv : List (Nat × Value)) (st : List Value) : Prop := wg_G p l e (wg_Rm 1 21) s m args below meth c (MQ below (wg_Qi E ad S r0 C0 M0) args s 0 0 (wg_A E)) 3 E ad S 0 0 pc C M lv st
set_option maxHeartbeats 4000000 in
set_option maxRecDepth 100000 in
theorem L_X8_digitsOf_l4 {p : Program} {l : Launch} {e : Env} {s : State} {m : MethodId} {args : Array Value} {below : List Frame} {meth : Method} {c : Code} {E : wg_Ev} {ad : Nat → Nat} {S : wg_Sh} (X : wg_X p s m args meth c cX8_digitsOf 3 RX8 E) (hr : meth.sig.returnType = (some .int)) (r0 : Int32) (C : wg_C) (M : wg_M) (N : Nat)   (x0 : Int32)  : ∀ (n : Nat) (x1 : Int32) (x2 : Int32) (o : (Int32 × Int32)), lp (fun o => f_X8_digitsOf_l4 N  x0 o.1 o.2) n (x1, x2) = some o → (∀ (y1 : Int32) (y2 : Int32), o = (y1, y2) → G_X8_digitsOf p l e s m args below meth c E ad S r0 C M 33 C M [(0, .int x0), (1, .int y1), (2, .int y2)] []) → G_X8_digitsOf p l e s m args below meth c E ad S r0 C M 4 C M [(0, .int x0), (1, .int x1), (2, .int x2)] [] := by
  intro n
  induction n with
  | zero => exact fun _ _ o h => (lp_zero h).elim
  | succ n ih =>
    intro x1 x2 o h K
    obtain ⟨o1, hb, h2⟩ := lp_some h
    replace hb : f_X8_digitsOf_l4 N  x0 x1 x2 = some o1 := hb
    clear h
    have Kc : ∀ (y1 : Int32) (y2 : Int32), o1 = Sum.inl (y1, y2) → G_X8_digitsOf p l e s m args below meth c E ad S r0 C M 4 C M [(0, .int x0), (1, .int y1), (2, .int y2)] [] := fun y1 y2 e1 => by
      subst e1
      exact ih y1 y2 o h2 K
    have Ke : ∀ (y1 : Int32) (y2 : Int32), o1 = Sum.inr ((y1, y2)) → G_X8_digitsOf p l e s m args below meth c E ad S r0 C M 33 C M [(0, .int x0), (1, .int y1), (2, .int y2)] [] := fun y1 y2 e1 => by
      subst e1
      exact K y1 y2 (sm_inj (α := (Int32 × Int32)) h2).symm
    clear ih K h2
    unfold f_X8_digitsOf_l4 at hb
    have h := hb
    clear hb
    refine wg_iload_n X 2 dX8_digitsOf_4 rfl rfl ?_
    refine wg_bipush (v := 8) X dX8_digitsOf_5 (by decide) ?_
    refine wg_icmp_ge X 33 dX8_digitsOf_7 (by decide) (fun c1 => ?_) (fun c1 => ?_)
    · have h := if_t c1 h
      exact Ke x1 x2 (sm_inj h).symm
    · have h := if_f c1 h
      refine wg_iload_n X 0 dX8_digitsOf_10 rfl rfl ?_
      refine wg_iload_n X 2 dX8_digitsOf_11 rfl rfl ?_
      obtain ⟨r3, h2, h⟩ := bd_some h
      refine wg_callSi (As := [.int x0, .int x2]) (rest := []) X (c_X8_holds l E ad S C M x0 x2  h2) T_yX8_holds k_789 dX8_digitsOf_12 rfl rfl (Nat.le_of_ble_eq_true rfl) ⟨Nat.le_of_ble_eq_true rfl, Nat.le_of_ble_eq_true rfl⟩ ⟨Nat.zero_le _, Nat.zero_le _⟩ ?_
      refine wg_if_eq X 27 dX8_digitsOf_15 (by decide) (fun c4 => ?_) (fun c4 => ?_)
      · have h := if_t c4 h
        obtain ⟨v5, e6, h⟩ := lt_some h
        refine wg_iinc (lv' := [(2, .int v5), (0, .int x0), (1, .int x1)]) X 2 dX8_digitsOf_27 rfl e6 (by decide) rfl ?_
        refine wg_goto X 4 dX8_digitsOf_30 (by decide) ?_
        refine wg_pick [1, 2, 0] (lv' := [(0, .int x0), (1, .int x1), (2, .int v5)]) rfl ?_
        exact Kc x1 v5 (sm_inj h).symm
      · have h := if_f c4 h
        refine wg_iload_n X 1 dX8_digitsOf_18 rfl rfl ?_
        refine wg_bipush (v := 10) X dX8_digitsOf_19 (by decide) ?_
        refine wg_imul X dX8_digitsOf_21 ?_
        refine wg_iload_n X 2 dX8_digitsOf_22 rfl rfl ?_
        refine wg_iadd X dX8_digitsOf_23 ?_
        refine wg_iconst (v := 1) X dX8_digitsOf_24 (by decide) ?_
        refine wg_iadd X dX8_digitsOf_25 ?_
        obtain ⟨v7, e8, h⟩ := lt_some h
        refine wg_istore_n (lv' := [(1, .int v7), (0, .int x0), (2, .int x2)]) X dX8_digitsOf_26 rfl e8 (by decide) rfl ?_
        obtain ⟨v9, e10, h⟩ := lt_some h
        refine wg_iinc (lv' := [(2, .int v9), (1, .int v7), (0, .int x0)]) X 2 dX8_digitsOf_27 rfl e10 (by decide) rfl ?_
        refine wg_goto X 4 dX8_digitsOf_30 (by decide) ?_
        refine wg_pick [2, 1, 0] (lv' := [(0, .int x0), (1, .int v7), (2, .int v9)]) rfl ?_
        exact Kc v7 v9 (sm_inj h).symm
set_option maxHeartbeats 4000000 in
set_option maxRecDepth 100000 in
theorem c_X8_digitsOf (l : Launch) (E : wg_Ev) (ad : Nat → Nat) (S : wg_Sh) (N : Nat) (C : wg_C) (M : wg_M) (p0 : Int32)  {r0 : Int32} (h : f_X8_digitsOf N p0 = some r0) : wg_Ci l yX8_digitsOf cX8_digitsOf 3 (some .int) 1 21 E ad S C M [.int p0] r0 C M := by
  refine wg_start (own := RX8) (by decide +kernel) rfl (Nat.le_of_ble_eq_true rfl) ?_
  intro p e s m below meth c X hr hnm
  refine wg_lv (lv' := [(0, .int p0)]) rfl ?_
  unfold f_X8_digitsOf at h
  refine wg_iconst (v := 0) X dX8_digitsOf_0 (by decide) ?_
  refine wg_istore_n (lv' := [(1, .int (0 : Int32)), (0, .int p0)]) X dX8_digitsOf_1 rfl rfl (by decide) rfl ?_
  refine wg_iconst (v := 0) X dX8_digitsOf_2 (by decide) ?_
  refine wg_istore_n (lv' := [(2, .int (0 : Int32)), (1, .int (0 : Int32)), (0, .int p0)]) X dX8_digitsOf_3 rfl rfl (by decide) rfl ?_
  obtain ⟨o13, h14, h⟩ := bd2_o h
  refine wg_pick [2, 1, 0] (lv' := [(0, .int p0), (1, .int (0 : Int32)), (2, .int (0 : Int32))]) rfl ?_
  refine L_X8_digitsOf_l4 X hr r0 C M N   p0  N (0 : Int32) (0 : Int32) o13 h14 (fun v11 v12 e16 => ?_)
  · subst e16
    replace h := bd2_in h
    refine wg_iload_n X 1 dX8_digitsOf_33 rfl rfl ?_
    exact wg_iret X ⟨(sm_inj h), rfl, rfl⟩ hr dX8_digitsOf_34
-- WindowsGive.views(III)I (('c', 0), 'i', 'i', 'i')
def f_X8_views_j68l44 (N : Nat) (S : wg_Sh) (C : wg_C)  (x2 : Int32) (x3 : Int32) (x4 : Int32) (x5 : Int32) (x6 : Int32) (s0 : Int32) : Option ((Int32 × Int32 × Int32) ⊕ (Int32 × Int32 × Int32)) :=
  if s0 ≤ x4 then (
    lt_ (x6 + (-1 : Int32)) fun v15 =>
    some (.inl (x4, x5, v15)))
  else (
    lt_ (x6 + (-1 : Int32)) fun v17 =>
    some (.inl (s0, x6, v17)))
def f_X8_views_l44 (N : Nat) (S : wg_Sh) (C : wg_C)  (x2 : Int32) (x3 : Int32) (x4 : Int32) (x5 : Int32) (x6 : Int32) : Option ((Int32 × Int32 × Int32) ⊕ (Int32 × Int32 × Int32)) :=
  if x6 < 0 then (
    some (.inr (x4, x5, x6)))
  else (
    bd (f_J6_bitCount_0f7a4 x6) fun r12 =>
    if r12 = x2 then (
      bd (f_X8_priceTogether N C x6) fun r20 =>
      f_X8_views_j68l44 N S C  x2 x3 x4 x5 x6 r20)
    else (
      f_X8_views_j68l44 N S C  x2 x3 x4 x5 x6 (-1 : Int32)))
def f_X8_views (N : Nat) (S : wg_Sh) (C : wg_C) (p1 : Int32) (p2 : Int32) (p3 : Int32) : Option (Int32 × wg_C) :=
  bd (f_X8_isDay p1) fun r2 =>
  if r2 = 0 then (
    some ((-2 : Int32), C))
  else (
    if p2 < 0 then (
      some ((-2 : Int32), C))
    else (
      if (4 : Int32) < p2 then (
        some ((-2 : Int32), C))
      else (
        if p3 < 0 then (
          some ((-2 : Int32), C))
        else (
          if p3 ≤ (1 : Int32) then (
            bd (f_X8_fillPrices N S C p1) fun C9 =>
            bd3 (lp (fun o => f_X8_views_l44 N S C9  p2 p3 o.1 o.2.1 o.2.2) N ((-1 : Int32), (0 : Int32), (255 : Int32))) fun v21 v22 v23 =>
            if p3 = 0 then (
              some (v21, C9))
            else (
              if v21 = (-1 : Int32) then (
                some (v21, C9))
              else (
                bd (f_X8_digitsOf N v22) fun r31 =>
                some (r31, C9))))
          else (
            some ((-2 : Int32), C))))))
abbrev G_X8_views (p : Program) (l : Launch) (e : Env) (s : State) (m : MethodId) (args : Array Value) (below : List Frame) (meth : Method) (c : Code) (E : wg_Ev) (ad : Nat → Nat) (S : wg_Sh) (r0 : Int32) (C0 : wg_C) (M0 : wg_M) (pc : Nat) (C : wg_C) (M : wg_M) (lv : List (Nat × Value)) (st : List Value) : Prop := wg_G p l e (wg_Rm 5 119) s m args below meth c (MQ below (wg_Qi E ad S r0 C0 M0) args s 0 0 (wg_A E)) 8 E ad S 0 0 pc C M lv st
set_option maxHeartbeats 4000000 in
set_option maxRecDepth 100000 in
theorem J_X8_views_j68l44 {p : Program} {l : Launch} {e : Env} {s : State} {m : MethodId} {args : Array Value} {below : List Frame} {meth : Method} {c : Code} {E : wg_Ev} {ad : Nat → Nat} {S : wg_Sh} (X : wg_X p s m args meth c cX8_views 8 RX8 E) (hr : meth.sig.returnType = (some .int)) (hS : wg_SC S) (r0 : Int32) (D0 : wg_C) (M : wg_M) (N : Nat)  (C : wg_C)  (x2 : Int32) (x3 : Int32) (x4 : Int32) (x5 : Int32) (x6 : Int32) (s0 : Int32)  (y : ((Int32 × Int32 × Int32) ⊕ (Int32 × Int32 × Int32))) (Kc : ∀ (y4 : Int32) (y5 : Int32) (y6 : Int32), y = Sum.inl (y4, y5, y6) → G_X8_views p l e s m args below meth c E ad S r0 D0 M 44 C M [(0, .ref (ad 0)), (2, .int x2), (3, .int x3), (4, .int y4), (5, .int y5), (6, .int y6)] []) (Ke : ∀ (y4 : Int32) (y5 : Int32) (y6 : Int32), y = Sum.inr ((y4, y5, y6)) → G_X8_views p l e s m args below meth c E ad S r0 D0 M 91 C M [(0, .ref (ad 0)), (2, .int x2), (3, .int x3), (4, .int y4), (5, .int y5), (6, .int y6)] []) (h : f_X8_views_j68l44 N S C  x2 x3 x4 x5 x6 s0 = some y) : G_X8_views p l e s m args below meth c E ad S r0 D0 M 68 C M [(0, .ref (ad 0)), (2, .int x2), (3, .int x3), (4, .int x4), (5, .int x5), (6, .int x6)] [.int s0] := by
  unfold f_X8_views_j68l44 at h
  refine wg_istore (lv' := [(7, .int s0), (0, .ref (ad 0)), (2, .int x2), (3, .int x3), (4, .int x4), (5, .int x5), (6, .int x6)]) X dX8_views_68 rfl (by decide) rfl ?_
  refine wg_iload X 0 dX8_views_70 rfl ?_
  refine wg_iload X 4 dX8_views_72 rfl ?_
  refine wg_icmp_le X 85 dX8_views_74 (by decide) (fun c14 => ?_) (fun c14 => ?_)
  · have h := if_t c14 h
    obtain ⟨v15, e16, h⟩ := lt_some h
    refine wg_iinc (lv' := [(6, .int v15), (7, .int s0), (0, .ref (ad 0)), (2, .int x2), (3, .int x3), (4, .int x4), (5, .int x5)]) X 6 dX8_views_85 rfl e16 (by decide) rfl ?_
    refine wg_goto X 44 dX8_views_88 (by decide) ?_
    refine wg_pick [2, 3, 4, 5, 6, 0] (lv' := [(0, .ref (ad 0)), (2, .int x2), (3, .int x3), (4, .int x4), (5, .int x5), (6, .int v15)]) rfl ?_
    exact Kc x4 x5 v15 (sm_inj h).symm
  · have h := if_f c14 h
    refine wg_iload X 0 dX8_views_77 rfl ?_
    refine wg_istore (lv' := [(4, .int s0), (7, .int s0), (0, .ref (ad 0)), (2, .int x2), (3, .int x3), (5, .int x5), (6, .int x6)]) X dX8_views_79 rfl (by decide) rfl ?_
    refine wg_iload X 6 dX8_views_81 rfl ?_
    refine wg_istore (lv' := [(5, .int x6), (4, .int s0), (7, .int s0), (0, .ref (ad 0)), (2, .int x2), (3, .int x3), (6, .int x6)]) X dX8_views_83 rfl (by decide) rfl ?_
    obtain ⟨v17, e18, h⟩ := lt_some h
    refine wg_iinc (lv' := [(6, .int v17), (5, .int x6), (4, .int s0), (7, .int s0), (0, .ref (ad 0)), (2, .int x2), (3, .int x3)]) X 6 dX8_views_85 rfl e18 (by decide) rfl ?_
    refine wg_goto X 44 dX8_views_88 (by decide) ?_
    refine wg_pick [4, 5, 6, 2, 1, 0] (lv' := [(0, .ref (ad 0)), (2, .int x2), (3, .int x3), (4, .int s0), (5, .int x6), (6, .int v17)]) rfl ?_
    exact Kc s0 x6 v17 (sm_inj h).symm
set_option maxHeartbeats 4000000 in
set_option maxRecDepth 100000 in
theorem L_X8_views_l44 {p : Program} {l : Launch} {e : Env} {s : State} {m : MethodId} {args : Array Value} {below : List Frame} {meth : Method} {c : Code} {E : wg_Ev} {ad : Nat → Nat} {S : wg_Sh} (X : wg_X p s m args meth c cX8_views 8 RX8 E) (hr : meth.sig.returnType = (some .int)) (hS : wg_SC S) (r0 : Int32) (D0 : wg_C) (M : wg_M) (N : Nat)  (C : wg_C)  (x2 : Int32) (x3 : Int32)  : ∀ (n : Nat) (x4 : Int32) (x5 : Int32) (x6 : Int32) (o : (Int32 × Int32 × Int32)), lp (fun o => f_X8_views_l44 N S C  x2 x3 o.1 o.2.1 o.2.2) n (x4, x5, x6) = some o → (∀ (y4 : Int32) (y5 : Int32) (y6 : Int32), o = (y4, y5, y6) → G_X8_views p l e s m args below meth c E ad S r0 D0 M 91 C M [(0, .ref (ad 0)), (2, .int x2), (3, .int x3), (4, .int y4), (5, .int y5), (6, .int y6)] []) → G_X8_views p l e s m args below meth c E ad S r0 D0 M 44 C M [(0, .ref (ad 0)), (2, .int x2), (3, .int x3), (4, .int x4), (5, .int x5), (6, .int x6)] [] := by
  intro n
  induction n with
  | zero => exact fun _ _ _ o h => (lp_zero h).elim
  | succ n ih =>
    intro x4 x5 x6 o h K
    obtain ⟨o1, hb, h2⟩ := lp_some h
    replace hb : f_X8_views_l44 N S C  x2 x3 x4 x5 x6 = some o1 := hb
    clear h
    have Kc : ∀ (y4 : Int32) (y5 : Int32) (y6 : Int32), o1 = Sum.inl (y4, y5, y6) → G_X8_views p l e s m args below meth c E ad S r0 D0 M 44 C M [(0, .ref (ad 0)), (2, .int x2), (3, .int x3), (4, .int y4), (5, .int y5), (6, .int y6)] [] := fun y4 y5 y6 e1 => by
      subst e1
      exact ih y4 y5 y6 o h2 K
    have Ke : ∀ (y4 : Int32) (y5 : Int32) (y6 : Int32), o1 = Sum.inr ((y4, y5, y6)) → G_X8_views p l e s m args below meth c E ad S r0 D0 M 91 C M [(0, .ref (ad 0)), (2, .int x2), (3, .int x3), (4, .int y4), (5, .int y5), (6, .int y6)] [] := fun y4 y5 y6 e1 => by
      subst e1
      exact K y4 y5 y6 (sm_inj (α := (Int32 × Int32 × Int32)) h2).symm
    clear ih K h2
    unfold f_X8_views_l44 at hb
    have h := hb
    clear hb
    refine wg_iload X 5 dX8_views_44 rfl ?_
    refine wg_if_lt X 91 dX8_views_46 (by decide) (fun c10 => ?_) (fun c10 => ?_)
    · have h := if_t c10 h
      exact Ke x4 x5 x6 (sm_inj h).symm
    · have h := if_f c10 h
      refine wg_iload X 5 dX8_views_49 rfl ?_
      obtain ⟨r12, h11, h⟩ := bd_some h
      refine wg_callSi (As := [.int x6]) (rest := []) X (c_J6_bitCount_0f7a4 l E ad S C M x6  h11) T_yJ6_bitCount_0f7a4 k_693 dX8_views_51 rfl rfl (Nat.le_of_ble_eq_true rfl) ⟨Nat.le_of_ble_eq_true rfl, Nat.le_of_ble_eq_true rfl⟩ ⟨Nat.zero_le _, Nat.zero_le _⟩ ?_
      refine wg_iload_n X 1 dX8_views_54 rfl rfl ?_
      refine wg_icmp_ne X 67 dX8_views_55 (by decide) (fun c13 => ?_) (fun c13 => ?_)
      · have h := if_f c13 h
        refine wg_iconst (v := -1) X dX8_views_67 (by decide) ?_
        exact J_X8_views_j68l44 X hr hS r0 D0 M N  C  x2 x3 x4 x5 x6 (-1 : Int32)  _ Kc Ke h
      · have h := if_t c13 h
        refine wg_aload_n X 0 dX8_views_58 rfl rfl ?_
        refine wg_iload X 5 dX8_views_59 rfl ?_
        obtain ⟨r20, h19, h⟩ := bd_some h
        refine wg_callVi (As := [.int x6]) (rest := []) X (c_X8_priceTogether l E ad S hS N C M x6  h19) T_yX8_priceTogether k_785 cl8 (SCi hS 0 8 rfl) dX8_views_61 rfl rfl (Nat.le_of_ble_eq_true rfl) ⟨Nat.le_of_ble_eq_true rfl, Nat.le_of_ble_eq_true rfl⟩ ⟨Nat.zero_le _, Nat.zero_le _⟩ ?_
        refine wg_goto X 68 dX8_views_64 (by decide) ?_
        exact J_X8_views_j68l44 X hr hS r0 D0 M N  C  x2 x3 x4 x5 x6 r20  _ Kc Ke h
set_option maxHeartbeats 4000000 in
set_option maxRecDepth 100000 in
theorem c_X8_views (l : Launch) (E : wg_Ev) (ad : Nat → Nat) (S : wg_Sh) (hS : wg_SC S) (N : Nat) (C : wg_C) (M : wg_M) (p1 : Int32) (p2 : Int32) (p3 : Int32)  {r0 : Int32} {D0 : wg_C} (h : f_X8_views N S C p1 p2 p3 = some (r0, D0)) : wg_Ci l yX8_views cX8_views 8 (some .int) 5 119 E ad S C M [.ref (ad 0), .int p1, .int p2, .int p3] r0 D0 M := by
  refine wg_start (own := RX8) (by decide +kernel) rfl (Nat.le_of_ble_eq_true rfl) ?_
  intro p e s m below meth c X hr hnm
  refine wg_lv (lv' := [(0, .ref (ad 0)), (1, .int p1), (2, .int p2), (3, .int p3)]) rfl ?_
  unfold f_X8_views at h
  refine wg_iload_n X 1 dX8_views_0 rfl rfl ?_
  obtain ⟨r2, h1, h⟩ := bd_some h
  refine wg_callSi (As := [.int p1]) (rest := []) X (c_X8_isDay l E ad S C M p1  h1) T_yX8_isDay k_517 dX8_views_1 rfl rfl (Nat.le_of_ble_eq_true rfl) ⟨Nat.le_of_ble_eq_true rfl, Nat.le_of_ble_eq_true rfl⟩ ⟨Nat.zero_le _, Nat.zero_le _⟩ ?_
  refine wg_if_eq X 25 dX8_views_4 (by decide) (fun c3 => ?_) (fun c3 => ?_)
  · have h := if_t c3 h
    refine wg_bipush (v := -2) X dX8_views_25 (by decide) ?_
    exact wg_iret X ⟨congrArg Prod.fst (sm_inj h), congrArg Prod.snd (sm_inj h), rfl⟩ hr dX8_views_27
  · have h := if_f c3 h
    refine wg_iload_n X 2 dX8_views_7 rfl rfl ?_
    refine wg_if_lt X 25 dX8_views_8 (by decide) (fun c4 => ?_) (fun c4 => ?_)
    · have h := if_t c4 h
      refine wg_bipush (v := -2) X dX8_views_25 (by decide) ?_
      exact wg_iret X ⟨congrArg Prod.fst (sm_inj h), congrArg Prod.snd (sm_inj h), rfl⟩ hr dX8_views_27
    · have h := if_f c4 h
      refine wg_iload_n X 2 dX8_views_11 rfl rfl ?_
      refine wg_iconst (v := 4) X dX8_views_12 (by decide) ?_
      refine wg_icmp_gt X 25 dX8_views_13 (by decide) (fun c5 => ?_) (fun c5 => ?_)
      · have h := if_t c5 h
        refine wg_bipush (v := -2) X dX8_views_25 (by decide) ?_
        exact wg_iret X ⟨congrArg Prod.fst (sm_inj h), congrArg Prod.snd (sm_inj h), rfl⟩ hr dX8_views_27
      · have h := if_f c5 h
        refine wg_iload_n X 3 dX8_views_16 rfl rfl ?_
        refine wg_if_lt X 25 dX8_views_17 (by decide) (fun c6 => ?_) (fun c6 => ?_)
        · have h := if_t c6 h
          refine wg_bipush (v := -2) X dX8_views_25 (by decide) ?_
          exact wg_iret X ⟨congrArg Prod.fst (sm_inj h), congrArg Prod.snd (sm_inj h), rfl⟩ hr dX8_views_27
        · have h := if_f c6 h
          refine wg_iload_n X 3 dX8_views_20 rfl rfl ?_
          refine wg_iconst (v := 1) X dX8_views_21 (by decide) ?_
          refine wg_icmp_le X 28 dX8_views_22 (by decide) (fun c7 => ?_) (fun c7 => ?_)
          · have h := if_t c7 h
            refine wg_aload_n X 0 dX8_views_28 rfl rfl ?_
            refine wg_iload_n X 1 dX8_views_29 rfl rfl ?_
            obtain ⟨C9, h8, h⟩ := bd_some h
            refine wg_callVv (As := [.int p1]) (rest := []) X (c_X8_fillPrices l E ad S hS N C M p1  h8) T_yX8_fillPrices k_781 cl8 (SCi hS 0 8 rfl) dX8_views_30 rfl rfl (Nat.le_of_ble_eq_true rfl) ⟨Nat.le_of_ble_eq_true rfl, Nat.le_of_ble_eq_true rfl⟩ ⟨Nat.zero_le _, Nat.zero_le _⟩ ?_
            refine wg_iconst (v := -1) X dX8_views_33 (by decide) ?_
            refine wg_istore (lv' := [(4, .int (-1 : Int32)), (0, .ref (ad 0)), (1, .int p1), (2, .int p2), (3, .int p3)]) X dX8_views_34 rfl (by decide) rfl ?_
            refine wg_iconst (v := 0) X dX8_views_36 (by decide) ?_
            refine wg_istore (lv' := [(5, .int (0 : Int32)), (4, .int (-1 : Int32)), (0, .ref (ad 0)), (1, .int p1), (2, .int p2), (3, .int p3)]) X dX8_views_37 rfl (by decide) rfl ?_
            refine wg_sipush (v := 255) X dX8_views_39 (by decide) ?_
            refine wg_istore (lv' := [(6, .int (255 : Int32)), (5, .int (0 : Int32)), (4, .int (-1 : Int32)), (0, .ref (ad 0)), (1, .int p1), (2, .int p2), (3, .int p3)]) X dX8_views_42 rfl (by decide) rfl ?_
            obtain ⟨o24, h25, h⟩ := bd3_o h
            refine wg_pick [3, 5, 6, 2, 1, 0] (lv' := [(0, .ref (ad 0)), (2, .int p2), (3, .int p3), (4, .int (-1 : Int32)), (5, .int (0 : Int32)), (6, .int (255 : Int32))]) rfl ?_
            refine L_X8_views_l44 X hr hS r0 D0 M N  C9  p2 p3  N (-1 : Int32) (0 : Int32) (255 : Int32) o24 h25 (fun v21 v22 v23 e27 => ?_)
            · subst e27
              replace h := bd3_in h
              refine wg_iload_n X 2 dX8_views_91 rfl rfl ?_
              refine wg_if_eq X 101 dX8_views_92 (by decide) (fun c28 => ?_) (fun c28 => ?_)
              · have h := if_t c28 h
                refine wg_iload X 3 dX8_views_101 rfl ?_
                refine wg_goto X 111 dX8_views_103 (by decide) ?_
                exact wg_iret X ⟨congrArg Prod.fst (sm_inj h), congrArg Prod.snd (sm_inj h), rfl⟩ hr dX8_views_111
              · have h := if_f c28 h
                refine wg_iload X 3 dX8_views_95 rfl ?_
                refine wg_iconst (v := -1) X dX8_views_97 (by decide) ?_
                refine wg_icmp_ne X 106 dX8_views_98 (by decide) (fun c29 => ?_) (fun c29 => ?_)
                · have h := if_f c29 h
                  refine wg_iload X 4 dX8_views_106 rfl ?_
                  obtain ⟨r31, h30, h⟩ := bd_some h
                  refine wg_callSi (As := [.int v22]) (rest := []) X (c_X8_digitsOf l E ad S N C9 M v22  h30) T_yX8_digitsOf k_792 dX8_views_108 rfl rfl (Nat.le_of_ble_eq_true rfl) ⟨Nat.le_of_ble_eq_true rfl, Nat.le_of_ble_eq_true rfl⟩ ⟨Nat.zero_le _, Nat.zero_le _⟩ ?_
                  exact wg_iret X ⟨congrArg Prod.fst (sm_inj h), congrArg Prod.snd (sm_inj h), rfl⟩ hr dX8_views_111
                · have h := if_t c29 h
                  refine wg_iload X 3 dX8_views_101 rfl ?_
                  refine wg_goto X 111 dX8_views_103 (by decide) ?_
                  exact wg_iret X ⟨congrArg Prod.fst (sm_inj h), congrArg Prod.snd (sm_inj h), rfl⟩ hr dX8_views_111
          · have h := if_f c7 h
            refine wg_bipush (v := -2) X dX8_views_25 (by decide) ?_
            exact wg_iret X ⟨congrArg Prod.fst (sm_inj h), congrArg Prod.snd (sm_inj h), rfl⟩ hr dX8_views_27
-- WindowsGive.drawnWater(II)I (('c', 0), 'i', 'i')
def f_X8_drawnWater_l5 (N : Nat) (S : wg_Sh)  (x1 : Int32) (C : wg_C) (x3 : Int32) (x4 : Int32) : Option ((wg_C × Int32 × Int32) ⊕ (wg_C × Int32 × Int32)) :=
  if (32 : Int32) ≤ x4 then (
    some (.inr (C, x3, x4)))
  else (
    lt_ ((x3 * (1103515245 : Int32)) + (12345 : Int32)) fun v2 =>
    ck (inb x4 32) <|
    lt_ (wg_up C 42 x4.toNatClampNeg (((v2.toUInt32 >>> ((9 : Int32).toUInt32 &&& Int32.toUInt32 31)).toInt32) - ((v2.toUInt32 >>> ((9 : Int32).toUInt32 &&& Int32.toUInt32 31)).toInt32) / (10 : Int32) * (10 : Int32))) fun C5 =>
    lt_ (x4 + (1 : Int32)) fun v7 =>
    some (.inl (C5, v2, v7)))
def f_X8_drawnWater (N : Nat) (S : wg_Sh) (C : wg_C) (p1 : Int32) (p2 : Int32) : Option (Int32 × wg_C) :=
  bd3 (lp (fun o => f_X8_drawnWater_l5 N S  p1 o.1 o.2.1 o.2.2) N (C, p2, (0 : Int32))) fun C9 v10 v11 =>
  bd2 (f_X8_flood N S C9 p1 42 32) fun r17 C18 =>
  some (r17, C18)
abbrev G_X8_drawnWater (p : Program) (l : Launch) (e : Env) (s : State) (m : MethodId) (args : Array Value) (below : List Frame) (meth : Method) (c : Code) (E : wg_Ev) (ad : Nat → Nat) (S : wg_Sh) (r0 : Int32) (C0 : wg_C) (M0 : wg_M) (pc : Nat) (C : wg_C) (M : wg_M) (lv : List (Nat × Value)) (st : List Value) : Prop := wg_G p l e (wg_Rm 5 123) s m args below meth c (MQ below (wg_Qi E ad S r0 C0 M0) args s 0 0 (wg_A E)) 5 E ad S 0 0 pc C M lv st
set_option maxHeartbeats 4000000 in
set_option maxRecDepth 100000 in
theorem L_X8_drawnWater_l5 {p : Program} {l : Launch} {e : Env} {s : State} {m : MethodId} {args : Array Value} {below : List Frame} {meth : Method} {c : Code} {E : wg_Ev} {ad : Nat → Nat} {S : wg_Sh} (X : wg_X p s m args meth c cX8_drawnWater 5 RX8 E) (hr : meth.sig.returnType = (some .int)) (hS : wg_SC S) (r0 : Int32) (D0 : wg_C) (M : wg_M) (N : Nat)   (x1 : Int32)  : ∀ (n : Nat) (C : wg_C) (x3 : Int32) (x4 : Int32) (o : (wg_C × Int32 × Int32)), lp (fun o => f_X8_drawnWater_l5 N S  x1 o.1 o.2.1 o.2.2) n (C, x3, x4) = some o → (∀ (Dy : wg_C) (y3 : Int32) (y4 : Int32), o = (Dy, y3, y4) → G_X8_drawnWater p l e s m args below meth c E ad S r0 D0 M 42 Dy M [(0, .ref (ad 0)), (1, .int x1), (3, .int y3), (4, .int y4)] []) → G_X8_drawnWater p l e s m args below meth c E ad S r0 D0 M 5 C M [(0, .ref (ad 0)), (1, .int x1), (3, .int x3), (4, .int x4)] [] := by
  intro n
  induction n with
  | zero => exact fun _ _ _ o h => (lp_zero h).elim
  | succ n ih =>
    intro C x3 x4 o h K
    obtain ⟨o1, hb, h2⟩ := lp_some h
    replace hb : f_X8_drawnWater_l5 N S  x1 C x3 x4 = some o1 := hb
    clear h
    have Kc : ∀ (Dy : wg_C) (y3 : Int32) (y4 : Int32), o1 = Sum.inl (Dy, y3, y4) → G_X8_drawnWater p l e s m args below meth c E ad S r0 D0 M 5 Dy M [(0, .ref (ad 0)), (1, .int x1), (3, .int y3), (4, .int y4)] [] := fun Dy y3 y4 e1 => by
      subst e1
      exact ih Dy y3 y4 o h2 K
    have Ke : ∀ (Dy : wg_C) (y3 : Int32) (y4 : Int32), o1 = Sum.inr ((Dy, y3, y4)) → G_X8_drawnWater p l e s m args below meth c E ad S r0 D0 M 42 Dy M [(0, .ref (ad 0)), (1, .int x1), (3, .int y3), (4, .int y4)] [] := fun Dy y3 y4 e1 => by
      subst e1
      exact K Dy y3 y4 (sm_inj (α := (wg_C × Int32 × Int32)) h2).symm
    clear ih K h2
    unfold f_X8_drawnWater_l5 at hb
    have h := hb
    clear hb
    refine wg_iload X 3 dX8_drawnWater_5 rfl ?_
    refine wg_bipush (v := 32) X dX8_drawnWater_7 (by decide) ?_
    refine wg_icmp_ge X 42 dX8_drawnWater_9 (by decide) (fun c1 => ?_) (fun c1 => ?_)
    · have h := if_t c1 h
      exact Ke C x3 x4 (sm_inj h).symm
    · have h := if_f c1 h
      refine wg_iload_n X 2 dX8_drawnWater_12 rfl rfl ?_
      refine wg_ldcw (v := 1103515245) X dX8_drawnWater_13 k_803 ?_
      refine wg_imul X dX8_drawnWater_16 ?_
      refine wg_sipush (v := 12345) X dX8_drawnWater_17 (by decide) ?_
      refine wg_iadd X dX8_drawnWater_20 ?_
      obtain ⟨v2, e3, h⟩ := lt_some h
      refine wg_istore_n (lv' := [(3, .int v2), (0, .ref (ad 0)), (1, .int x1), (4, .int x4)]) X dX8_drawnWater_21 rfl e3 (by decide) rfl ?_
      refine wg_aload_n X 1 dX8_drawnWater_22 rfl rfl ?_
      refine wg_getR (b := 42) X cl8 (SCi hS 0 8 rfl) 10 (by decide) dX8_drawnWater_23 k_482 rfl (SCr hS 0 10 42 rfl) ?_
      refine wg_iload X 3 dX8_drawnWater_26 rfl ?_
      refine wg_iload_n X 0 dX8_drawnWater_28 rfl rfl ?_
      refine wg_bipush (v := 9) X dX8_drawnWater_29 (by decide) ?_
      refine wg_iushr X dX8_drawnWater_31 ?_
      refine wg_bipush (v := 10) X dX8_drawnWater_32 (by decide) ?_
      refine wg_irem X dX8_drawnWater_34 (by decide) ?_
      obtain ⟨z4, h⟩ := ck_some h
      obtain ⟨C5, e6, h⟩ := lt_some h
      refine wg_iaste X (SCi hS 42 10 rfl) (SCl hS 42 32 rfl) z4 dX8_drawnWater_35 e6 ?_
      obtain ⟨v7, e8, h⟩ := lt_some h
      refine wg_iinc (lv' := [(4, .int v7), (3, .int v2), (0, .ref (ad 0)), (1, .int x1)]) X 3 dX8_drawnWater_36 rfl e8 (by decide) rfl ?_
      refine wg_goto X 5 dX8_drawnWater_39 (by decide) ?_
      refine wg_pick [2, 3, 1, 0] (lv' := [(0, .ref (ad 0)), (1, .int x1), (3, .int v2), (4, .int v7)]) rfl ?_
      exact Kc C5 v2 v7 (sm_inj h).symm
set_option maxHeartbeats 4000000 in
set_option maxRecDepth 100000 in
theorem c_X8_drawnWater (l : Launch) (E : wg_Ev) (ad : Nat → Nat) (S : wg_Sh) (hS : wg_SC S) (N : Nat) (C : wg_C) (M : wg_M) (p1 : Int32) (p2 : Int32)  {r0 : Int32} {D0 : wg_C} (h : f_X8_drawnWater N S C p1 p2 = some (r0, D0)) : wg_Ci l yX8_drawnWater cX8_drawnWater 5 (some .int) 5 123 E ad S C M [.ref (ad 0), .int p1, .int p2] r0 D0 M := by
  refine wg_start (own := RX8) (by decide +kernel) rfl (Nat.le_of_ble_eq_true rfl) ?_
  intro p e s m below meth c X hr hnm
  refine wg_lv (lv' := [(0, .ref (ad 0)), (1, .int p1), (2, .int p2)]) rfl ?_
  unfold f_X8_drawnWater at h
  refine wg_iload_n X 2 dX8_drawnWater_0 rfl rfl ?_
  refine wg_istore_n (lv' := [(3, .int p2), (0, .ref (ad 0)), (1, .int p1), (2, .int p2)]) X dX8_drawnWater_1 rfl rfl (by decide) rfl ?_
  refine wg_iconst (v := 0) X dX8_drawnWater_2 (by decide) ?_
  refine wg_istore (lv' := [(4, .int (0 : Int32)), (3, .int p2), (0, .ref (ad 0)), (1, .int p1), (2, .int p2)]) X dX8_drawnWater_3 rfl (by decide) rfl ?_
  obtain ⟨o12, h13, h⟩ := bd3_o h
  refine wg_pick [2, 3, 1, 0] (lv' := [(0, .ref (ad 0)), (1, .int p1), (3, .int p2), (4, .int (0 : Int32))]) rfl ?_
  refine L_X8_drawnWater_l5 X hr hS r0 D0 M N   p1  N C p2 (0 : Int32) o12 h13 (fun C9 v10 v11 e15 => ?_)
  · subst e15
    replace h := bd3_in h
    refine wg_aload_n X 0 dX8_drawnWater_42 rfl rfl ?_
    refine wg_iload_n X 1 dX8_drawnWater_43 rfl rfl ?_
    refine wg_aload_n X 0 dX8_drawnWater_44 rfl rfl ?_
    refine wg_getR (b := 42) X cl8 (SCi hS 0 8 rfl) 10 (by decide) dX8_drawnWater_45 k_482 rfl (SCr hS 0 10 42 rfl) ?_
    obtain ⟨r17, C18, h16, h⟩ := bd2_some h
    refine wg_callVi (As := [.int p1, .ref (ad 42)]) (rest := []) X (c_X8_flood l E ad S hS N C9 M p1 42 32 ⟨(SCi hS 42 10 rfl), (SCl hS 42 32 rfl)⟩ h16) T_yX8_flood k_766 cl8 (SCi hS 0 8 rfl) dX8_drawnWater_48 rfl rfl (Nat.le_of_ble_eq_true rfl) ⟨Nat.le_of_ble_eq_true rfl, Nat.le_of_ble_eq_true rfl⟩ ⟨Nat.zero_le _, Nat.zero_le _⟩ ?_
    exact wg_iret X ⟨congrArg Prod.fst (sm_inj h), congrArg Prod.snd (sm_inj h), rfl⟩ hr dX8_drawnWater_51
-- WindowsGive.drawn(II)I (('c', 0), 'i', 'i')
def f_X8_drawn (N : Nat) (S : wg_Sh) (C : wg_C) (p1 : Int32) (p2 : Int32) : Option (Int32 × wg_C) :=
  bd (f_X8_isRoom p1) fun r2 =>
  if r2 = 0 then (
    some ((-2 : Int32), C))
  else (
    bd2 (f_X8_drawnWater N S C p1 p2) fun r5 C6 =>
    some (r5, C6))
set_option maxHeartbeats 4000000 in
set_option maxRecDepth 100000 in
theorem c_X8_drawn (l : Launch) (E : wg_Ev) (ad : Nat → Nat) (S : wg_Sh) (hS : wg_SC S) (N : Nat) (C : wg_C) (M : wg_M) (p1 : Int32) (p2 : Int32)  {r0 : Int32} {D0 : wg_C} (h : f_X8_drawn N S C p1 p2 = some (r0, D0)) : wg_Ci l yX8_drawn cX8_drawn 3 (some .int) 6 147 E ad S C M [.ref (ad 0), .int p1, .int p2] r0 D0 M := by
  refine wg_start (own := RX8) (by decide +kernel) rfl (Nat.le_of_ble_eq_true rfl) ?_
  intro p e s m below meth c X hr hnm
  refine wg_lv (lv' := [(0, .ref (ad 0)), (1, .int p1), (2, .int p2)]) rfl ?_
  unfold f_X8_drawn at h
  refine wg_iload_n X 1 dX8_drawn_0 rfl rfl ?_
  obtain ⟨r2, h1, h⟩ := bd_some h
  refine wg_callSi (As := [.int p1]) (rest := []) X (c_X8_isRoom l E ad S C M p1  h1) T_yX8_isRoom k_535 dX8_drawn_1 rfl rfl (Nat.le_of_ble_eq_true rfl) ⟨Nat.le_of_ble_eq_true rfl, Nat.le_of_ble_eq_true rfl⟩ ⟨Nat.zero_le _, Nat.zero_le _⟩ ?_
  refine wg_if_ne X 10 dX8_drawn_4 (by decide) (fun c3 => ?_) (fun c3 => ?_)
  · have h := if_f c3 h
    refine wg_aload_n X 0 dX8_drawn_10 rfl rfl ?_
    refine wg_iload_n X 1 dX8_drawn_11 rfl rfl ?_
    refine wg_iload_n X 2 dX8_drawn_12 rfl rfl ?_
    obtain ⟨r5, C6, h4, h⟩ := bd2_some h
    refine wg_callVi (As := [.int p1, .int p2]) (rest := []) X (c_X8_drawnWater l E ad S hS N C M p1 p2  h4) T_yX8_drawnWater k_799 cl8 (SCi hS 0 8 rfl) dX8_drawn_13 rfl rfl (Nat.le_of_ble_eq_true rfl) ⟨Nat.le_of_ble_eq_true rfl, Nat.le_of_ble_eq_true rfl⟩ ⟨Nat.zero_le _, Nat.zero_le _⟩ ?_
    exact wg_iret X ⟨congrArg Prod.fst (sm_inj h), congrArg Prod.snd (sm_inj h), rfl⟩ hr dX8_drawn_16
  · have h := if_t c3 h
    refine wg_bipush (v := -2) X dX8_drawn_7 (by decide) ?_
    exact wg_iret X ⟨congrArg Prod.fst (sm_inj h), congrArg Prod.snd (sm_inj h), rfl⟩ hr dX8_drawn_9
-- WindowsGive.commonDivisor(II)I ('i', 'i')
def f_X8_commonDivisor_l7 (N : Nat)   (x2 : Int32) (x3 : Int32) (x4 : Int32) : Option ((Int32 × Int32 × Int32) ⊕ (Int32 × Int32 × Int32)) :=
  if (64 : Int32) ≤ x4 then (
    some (.inr (x2, x3, x4)))
  else (
    if x3 = 0 then (
      some (.inr (x2, x3, x4)))
    else (
      ck (¬ x3 = 0) <|
      lt_ (x2 - x2 / x3 * x3) fun v4 =>
      lt_ (x4 + (1 : Int32)) fun v6 =>
      some (.inl (x3, v4, v6))))
def f_X8_commonDivisor (N : Nat) (p0 : Int32) (p1 : Int32) : Option Int32 :=
  bd3 (lp (fun o => f_X8_commonDivisor_l7 N   o.1 o.2.1 o.2.2) N (p0, p1, (0 : Int32))) fun v8 v9 v10 =>
  if (1 : Int32) ≤ v8 then (
    some v8)
  else (
    some (1 : Int32))
abbrev G_X8_commonDivisor (p : Program) (l : Launch) (e : Env) (s : State) (m : MethodId) (args : Array Value) (below : List Frame) (meth : Method) (c : Code) (E : wg_Ev) (ad : Nat → Nat) (S : wg_Sh) (r0 : Int32) (C0 : wg_C) (M0 : wg_M) (pc : Nat) (C : wg_C) (M : wg_M) (lv : List (Nat × Value)) (st : List Value) : Prop := wg_G p l e (wg_Rm 0 0) s m args below meth c (MQ below (wg_Qi E ad S r0 C0 M0) args s 0 0 (wg_A E)) 6 E ad S 0 0 pc C M lv st
set_option maxHeartbeats 4000000 in
set_option maxRecDepth 100000 in
theorem L_X8_commonDivisor_l7 {p : Program} {l : Launch} {e : Env} {s : State} {m : MethodId} {args : Array Value} {below : List Frame} {meth : Method} {c : Code} {E : wg_Ev} {ad : Nat → Nat} {S : wg_Sh} (X : wg_X p s m args meth c cX8_commonDivisor 6 RX8 E) (hr : meth.sig.returnType = (some .int)) (r0 : Int32) (C : wg_C) (M : wg_M) (N : Nat)     : ∀ (n : Nat) (x2 : Int32) (x3 : Int32) (x4 : Int32) (o : (Int32 × Int32 × Int32)), lp (fun o => f_X8_commonDivisor_l7 N   o.1 o.2.1 o.2.2) n (x2, x3, x4) = some o → (∀ (y2 : Int32) (y3 : Int32) (y4 : Int32), o = (y2, y3, y4) → G_X8_commonDivisor p l e s m args below meth c E ad S r0 C M 34 C M [(2, .int y2), (3, .int y3), (4, .int y4)] []) → G_X8_commonDivisor p l e s m args below meth c E ad S r0 C M 7 C M [(2, .int x2), (3, .int x3), (4, .int x4)] [] := by
  intro n
  induction n with
  | zero => exact fun _ _ _ o h => (lp_zero h).elim
  | succ n ih =>
    intro x2 x3 x4 o h K
    obtain ⟨o1, hb, h2⟩ := lp_some h
    replace hb : f_X8_commonDivisor_l7 N   x2 x3 x4 = some o1 := hb
    clear h
    have Kc : ∀ (y2 : Int32) (y3 : Int32) (y4 : Int32), o1 = Sum.inl (y2, y3, y4) → G_X8_commonDivisor p l e s m args below meth c E ad S r0 C M 7 C M [(2, .int y2), (3, .int y3), (4, .int y4)] [] := fun y2 y3 y4 e1 => by
      subst e1
      exact ih y2 y3 y4 o h2 K
    have Ke : ∀ (y2 : Int32) (y3 : Int32) (y4 : Int32), o1 = Sum.inr ((y2, y3, y4)) → G_X8_commonDivisor p l e s m args below meth c E ad S r0 C M 34 C M [(2, .int y2), (3, .int y3), (4, .int y4)] [] := fun y2 y3 y4 e1 => by
      subst e1
      exact K y2 y3 y4 (sm_inj (α := (Int32 × Int32 × Int32)) h2).symm
    clear ih K h2
    unfold f_X8_commonDivisor_l7 at hb
    have h := hb
    clear hb
    refine wg_iload X 2 dX8_commonDivisor_7 rfl ?_
    refine wg_bipush (v := 64) X dX8_commonDivisor_9 (by decide) ?_
    refine wg_icmp_ge X 34 dX8_commonDivisor_11 (by decide) (fun c1 => ?_) (fun c1 => ?_)
    · have h := if_t c1 h
      exact Ke x2 x3 x4 (sm_inj h).symm
    · have h := if_f c1 h
      refine wg_iload_n X 1 dX8_commonDivisor_14 rfl rfl ?_
      refine wg_if_eq X 34 dX8_commonDivisor_15 (by decide) (fun c2 => ?_) (fun c2 => ?_)
      · have h := if_t c2 h
        exact Ke x2 x3 x4 (sm_inj h).symm
      · have h := if_f c2 h
        refine wg_iload_n X 0 dX8_commonDivisor_18 rfl rfl ?_
        refine wg_iload_n X 1 dX8_commonDivisor_19 rfl rfl ?_
        obtain ⟨z3, h⟩ := ck_some h
        refine wg_irem X dX8_commonDivisor_20 z3 ?_
        obtain ⟨v4, e5, h⟩ := lt_some h
        refine wg_istore (lv' := [(5, .int v4), (2, .int x2), (3, .int x3), (4, .int x4)]) X dX8_commonDivisor_21 e5 (by decide) rfl ?_
        refine wg_iload_n X 2 dX8_commonDivisor_23 rfl rfl ?_
        refine wg_istore_n (lv' := [(2, .int x3), (5, .int v4), (3, .int x3), (4, .int x4)]) X dX8_commonDivisor_24 rfl rfl (by decide) rfl ?_
        refine wg_iload X 1 dX8_commonDivisor_25 rfl ?_
        refine wg_istore_n (lv' := [(3, .int v4), (2, .int x3), (5, .int v4), (4, .int x4)]) X dX8_commonDivisor_27 rfl rfl (by decide) rfl ?_
        obtain ⟨v6, e7, h⟩ := lt_some h
        refine wg_iinc (lv' := [(4, .int v6), (3, .int v4), (2, .int x3), (5, .int v4)]) X 3 dX8_commonDivisor_28 rfl e7 (by decide) rfl ?_
        refine wg_goto X 7 dX8_commonDivisor_31 (by decide) ?_
        refine wg_pick [2, 1, 0] (lv' := [(2, .int x3), (3, .int v4), (4, .int v6)]) rfl ?_
        exact Kc x3 v4 v6 (sm_inj h).symm
set_option maxHeartbeats 4000000 in
set_option maxRecDepth 100000 in
theorem c_X8_commonDivisor (l : Launch) (E : wg_Ev) (ad : Nat → Nat) (S : wg_Sh) (N : Nat) (C : wg_C) (M : wg_M) (p0 : Int32) (p1 : Int32)  {r0 : Int32} (h : f_X8_commonDivisor N p0 p1 = some r0) : wg_Ci l yX8_commonDivisor cX8_commonDivisor 6 (some .int) 0 0 E ad S C M [.int p0, .int p1] r0 C M := by
  refine wg_start (own := RX8) (by decide +kernel) rfl (Nat.le_of_ble_eq_true rfl) ?_
  intro p e s m below meth c X hr hnm
  refine wg_lv (lv' := [(0, .int p0), (1, .int p1)]) rfl ?_
  unfold f_X8_commonDivisor at h
  refine wg_iload_n X 0 dX8_commonDivisor_0 rfl rfl ?_
  refine wg_istore_n (lv' := [(2, .int p0), (0, .int p0), (1, .int p1)]) X dX8_commonDivisor_1 rfl rfl (by decide) rfl ?_
  refine wg_iload_n X 2 dX8_commonDivisor_2 rfl rfl ?_
  refine wg_istore_n (lv' := [(3, .int p1), (2, .int p0), (0, .int p0), (1, .int p1)]) X dX8_commonDivisor_3 rfl rfl (by decide) rfl ?_
  refine wg_iconst (v := 0) X dX8_commonDivisor_4 (by decide) ?_
  refine wg_istore (lv' := [(4, .int (0 : Int32)), (3, .int p1), (2, .int p0), (0, .int p0), (1, .int p1)]) X dX8_commonDivisor_5 rfl (by decide) rfl ?_
  obtain ⟨o11, h12, h⟩ := bd3_o h
  refine wg_pick [2, 1, 0] (lv' := [(2, .int p0), (3, .int p1), (4, .int (0 : Int32))]) rfl ?_
  refine L_X8_commonDivisor_l7 X hr r0 C M N     N p0 p1 (0 : Int32) o11 h12 (fun v8 v9 v10 e14 => ?_)
  · subst e14
    replace h := bd3_in h
    refine wg_iload_n X 0 dX8_commonDivisor_34 rfl rfl ?_
    refine wg_iconst (v := 1) X dX8_commonDivisor_35 (by decide) ?_
    refine wg_icmp_ge X 43 dX8_commonDivisor_36 (by decide) (fun c15 => ?_) (fun c15 => ?_)
    · have h := if_t c15 h
      refine wg_iload_n X 0 dX8_commonDivisor_43 rfl rfl ?_
      exact wg_iret X ⟨(sm_inj h), rfl, rfl⟩ hr dX8_commonDivisor_44
    · have h := if_f c15 h
      refine wg_iconst (v := 1) X dX8_commonDivisor_39 (by decide) ?_
      refine wg_goto X 44 dX8_commonDivisor_40 (by decide) ?_
      exact wg_iret X ⟨(sm_inj h), rfl, rfl⟩ hr dX8_commonDivisor_44
-- WindowsGive.chance(IIIII)J (('c', 0), 'i', 'i', 'i', 'i', 'i')
def f_X8_chance_l56 (N : Nat) (S : wg_Sh)  (x1 : Int32) (x2 : Int32) (x3 : Int32) (x4 : Int32) (x5 : Int32) (C : wg_C) (x6 : Int32) (x7 : Int32) : Option ((wg_C × Int32 × Int32) ⊕ (wg_C × Int32 × Int32)) :=
  if x3 ≤ x7 then (
    some (.inr (C, x6, x7)))
  else (
    bd2 (f_X8_drawnWater N S C x1 (x2 + x7)) fun r12 C13 =>
    if x4 < r12 then (
      lt_ (x7 + (1 : Int32)) fun v15 =>
      some (.inl (C13, x6, v15)))
    else (
      lt_ (x6 + (1 : Int32)) fun v17 =>
      lt_ (x7 + (1 : Int32)) fun v19 =>
      some (.inl (C13, v17, v19))))
def f_X8_chance (N : Nat) (S : wg_Sh) (C : wg_C) (p1 : Int32) (p2 : Int32) (p3 : Int32) (p4 : Int32) (p5 : Int32) : Option (Int64 × wg_C) :=
  bd (f_X8_isRoom p1) fun r2 =>
  if r2 = 0 then (
    some ((-4611686018427387904 : Int64), C))
  else (
    if p3 < (1 : Int32) then (
      some ((-4611686018427387904 : Int64), C))
    else (
      if p3 ≤ (20 : Int32) then (
        if p4 < 0 then (
          some ((-4611686018427387904 : Int64), C))
        else (
          if (99999 : Int32) < p4 then (
            some ((-4611686018427387904 : Int64), C))
          else (
            if p5 < 0 then (
              some ((-4611686018427387904 : Int64), C))
            else (
              if p5 ≤ (1 : Int32) then (
                bd3 (lp (fun o => f_X8_chance_l56 N S  p1 p2 p3 p4 p5 o.1 o.2.1 o.2.2) N (C, (0 : Int32), (0 : Int32))) fun C21 v22 v23 =>
                bd (f_X8_commonDivisor N p3 v22) fun r29 =>
                if p5 = 0 then (
                  ck (¬ r29 = 0) <|
                  some (((v22 / r29).toInt64), C21))
                else (
                  ck (¬ r29 = 0) <|
                  some (((p3 / r29).toInt64), C21)))
              else (
                some ((-4611686018427387904 : Int64), C))))))
      else (
        some ((-4611686018427387904 : Int64), C))))
abbrev G_X8_chance (p : Program) (l : Launch) (e : Env) (s : State) (m : MethodId) (args : Array Value) (below : List Frame) (meth : Method) (c : Code) (E : wg_Ev) (ad : Nat → Nat) (S : wg_Sh) (r0 : Int64) (C0 : wg_C) (M0 : wg_M) (pc : Nat) (C : wg_C) (M : wg_M) (lv : List (Nat × Value)) (st : List Value) : Prop := wg_G p l e (wg_Rm 6 147) s m args below meth c (MQ below (wg_Ql E ad S r0 C0 M0) args s 0 0 (wg_A E)) 8 E ad S 0 0 pc C M lv st
set_option maxHeartbeats 4000000 in
set_option maxRecDepth 100000 in
theorem L_X8_chance_l56 {p : Program} {l : Launch} {e : Env} {s : State} {m : MethodId} {args : Array Value} {below : List Frame} {meth : Method} {c : Code} {E : wg_Ev} {ad : Nat → Nat} {S : wg_Sh} (X : wg_X p s m args meth c cX8_chance 8 RX8 E) (hr : meth.sig.returnType = (some .long)) (hS : wg_SC S) (r0 : Int64) (D0 : wg_C) (M : wg_M) (N : Nat)   (x1 : Int32) (x2 : Int32) (x3 : Int32) (x4 : Int32) (x5 : Int32)  : ∀ (n : Nat) (C : wg_C) (x6 : Int32) (x7 : Int32) (o : (wg_C × Int32 × Int32)), lp (fun o => f_X8_chance_l56 N S  x1 x2 x3 x4 x5 o.1 o.2.1 o.2.2) n (C, x6, x7) = some o → (∀ (Dy : wg_C) (y6 : Int32) (y7 : Int32), o = (Dy, y6, y7) → G_X8_chance p l e s m args below meth c E ad S r0 D0 M 85 Dy M [(0, .ref (ad 0)), (1, .int x1), (2, .int x2), (3, .int x3), (4, .int x4), (5, .int x5), (6, .int y6), (7, .int y7)] []) → G_X8_chance p l e s m args below meth c E ad S r0 D0 M 56 C M [(0, .ref (ad 0)), (1, .int x1), (2, .int x2), (3, .int x3), (4, .int x4), (5, .int x5), (6, .int x6), (7, .int x7)] [] := by
  intro n
  induction n with
  | zero => exact fun _ _ _ o h => (lp_zero h).elim
  | succ n ih =>
    intro C x6 x7 o h K
    obtain ⟨o1, hb, h2⟩ := lp_some h
    replace hb : f_X8_chance_l56 N S  x1 x2 x3 x4 x5 C x6 x7 = some o1 := hb
    clear h
    have Kc : ∀ (Dy : wg_C) (y6 : Int32) (y7 : Int32), o1 = Sum.inl (Dy, y6, y7) → G_X8_chance p l e s m args below meth c E ad S r0 D0 M 56 Dy M [(0, .ref (ad 0)), (1, .int x1), (2, .int x2), (3, .int x3), (4, .int x4), (5, .int x5), (6, .int y6), (7, .int y7)] [] := fun Dy y6 y7 e1 => by
      subst e1
      exact ih Dy y6 y7 o h2 K
    have Ke : ∀ (Dy : wg_C) (y6 : Int32) (y7 : Int32), o1 = Sum.inr ((Dy, y6, y7)) → G_X8_chance p l e s m args below meth c E ad S r0 D0 M 85 Dy M [(0, .ref (ad 0)), (1, .int x1), (2, .int x2), (3, .int x3), (4, .int x4), (5, .int x5), (6, .int y6), (7, .int y7)] [] := fun Dy y6 y7 e1 => by
      subst e1
      exact K Dy y6 y7 (sm_inj (α := (wg_C × Int32 × Int32)) h2).symm
    clear ih K h2
    unfold f_X8_chance_l56 at hb
    have h := hb
    clear hb
    refine wg_iload X 7 dX8_chance_56 rfl ?_
    refine wg_iload_n X 3 dX8_chance_58 rfl rfl ?_
    refine wg_icmp_ge X 85 dX8_chance_59 (by decide) (fun c10 => ?_) (fun c10 => ?_)
    · have h := if_t c10 h
      exact Ke C x6 x7 (sm_inj h).symm
    · have h := if_f c10 h
      refine wg_aload_n X 0 dX8_chance_62 rfl rfl ?_
      refine wg_iload_n X 1 dX8_chance_63 rfl rfl ?_
      refine wg_iload_n X 2 dX8_chance_64 rfl rfl ?_
      refine wg_iload X 7 dX8_chance_65 rfl ?_
      refine wg_iadd X dX8_chance_67 ?_
      obtain ⟨r12, C13, h11, h⟩ := bd2_some h
      refine wg_callVi (As := [.int x1, .int (x2 + x7)]) (rest := []) X (c_X8_drawnWater l E ad S hS N C M x1 (x2 + x7)  h11) T_yX8_drawnWater k_799 cl8 (SCi hS 0 8 rfl) dX8_chance_68 rfl rfl (Nat.le_of_ble_eq_true rfl) ⟨Nat.le_of_ble_eq_true rfl, Nat.le_of_ble_eq_true rfl⟩ ⟨Nat.zero_le _, Nat.zero_le _⟩ ?_
      refine wg_iload X 4 dX8_chance_71 rfl ?_
      refine wg_icmp_gt X 79 dX8_chance_73 (by decide) (fun c14 => ?_) (fun c14 => ?_)
      · have h := if_t c14 h
        obtain ⟨v15, e16, h⟩ := lt_some h
        refine wg_iinc (lv' := [(7, .int v15), (0, .ref (ad 0)), (1, .int x1), (2, .int x2), (3, .int x3), (4, .int x4), (5, .int x5), (6, .int x6)]) X 7 dX8_chance_79 rfl e16 (by decide) rfl ?_
        refine wg_goto X 56 dX8_chance_82 (by decide) ?_
        refine wg_pick [1, 2, 3, 4, 5, 6, 7, 0] (lv' := [(0, .ref (ad 0)), (1, .int x1), (2, .int x2), (3, .int x3), (4, .int x4), (5, .int x5), (6, .int x6), (7, .int v15)]) rfl ?_
        exact Kc C13 x6 v15 (sm_inj h).symm
      · have h := if_f c14 h
        obtain ⟨v17, e18, h⟩ := lt_some h
        refine wg_iinc (lv' := [(6, .int v17), (0, .ref (ad 0)), (1, .int x1), (2, .int x2), (3, .int x3), (4, .int x4), (5, .int x5), (7, .int x7)]) X 6 dX8_chance_76 rfl e18 (by decide) rfl ?_
        obtain ⟨v19, e20, h⟩ := lt_some h
        refine wg_iinc (lv' := [(7, .int v19), (6, .int v17), (0, .ref (ad 0)), (1, .int x1), (2, .int x2), (3, .int x3), (4, .int x4), (5, .int x5)]) X 7 dX8_chance_79 rfl e20 (by decide) rfl ?_
        refine wg_goto X 56 dX8_chance_82 (by decide) ?_
        refine wg_pick [2, 3, 4, 5, 6, 7, 1, 0] (lv' := [(0, .ref (ad 0)), (1, .int x1), (2, .int x2), (3, .int x3), (4, .int x4), (5, .int x5), (6, .int v17), (7, .int v19)]) rfl ?_
        exact Kc C13 v17 v19 (sm_inj h).symm
set_option maxHeartbeats 4000000 in
set_option maxRecDepth 100000 in
theorem c_X8_chance (l : Launch) (E : wg_Ev) (ad : Nat → Nat) (S : wg_Sh) (hS : wg_SC S) (N : Nat) (C : wg_C) (M : wg_M) (p1 : Int32) (p2 : Int32) (p3 : Int32) (p4 : Int32) (p5 : Int32)  {r0 : Int64} {D0 : wg_C} (h : f_X8_chance N S C p1 p2 p3 p4 p5 = some (r0, D0)) : wg_Cl l yX8_chance cX8_chance 8 (some .long) 6 147 E ad S C M [.ref (ad 0), .int p1, .int p2, .int p3, .int p4, .int p5] r0 D0 M := by
  refine wg_start (own := RX8) (by decide +kernel) rfl (Nat.le_of_ble_eq_true rfl) ?_
  intro p e s m below meth c X hr hnm
  refine wg_lv (lv' := [(0, .ref (ad 0)), (1, .int p1), (2, .int p2), (3, .int p3), (4, .int p4), (5, .int p5)]) rfl ?_
  unfold f_X8_chance at h
  refine wg_iload_n X 1 dX8_chance_0 rfl rfl ?_
  obtain ⟨r2, h1, h⟩ := bd_some h
  refine wg_callSi (As := [.int p1]) (rest := []) X (c_X8_isRoom l E ad S C M p1  h1) T_yX8_isRoom k_535 dX8_chance_1 rfl rfl (Nat.le_of_ble_eq_true rfl) ⟨Nat.le_of_ble_eq_true rfl, Nat.le_of_ble_eq_true rfl⟩ ⟨Nat.zero_le _, Nat.zero_le _⟩ ?_
  refine wg_if_eq X 18 dX8_chance_4 (by decide) (fun c3 => ?_) (fun c3 => ?_)
  · have h := if_t c3 h
    refine wg_ldc2 (v := -4611686018427387904) X dX8_chance_18 k_808 ?_
    exact wg_lret X ⟨congrArg Prod.fst (sm_inj h), congrArg Prod.snd (sm_inj h), rfl⟩ hr dX8_chance_21
  · have h := if_f c3 h
    refine wg_iload_n X 3 dX8_chance_7 rfl rfl ?_
    refine wg_iconst (v := 1) X dX8_chance_8 (by decide) ?_
    refine wg_icmp_lt X 18 dX8_chance_9 (by decide) (fun c4 => ?_) (fun c4 => ?_)
    · have h := if_t c4 h
      refine wg_ldc2 (v := -4611686018427387904) X dX8_chance_18 k_808 ?_
      exact wg_lret X ⟨congrArg Prod.fst (sm_inj h), congrArg Prod.snd (sm_inj h), rfl⟩ hr dX8_chance_21
    · have h := if_f c4 h
      refine wg_iload_n X 3 dX8_chance_12 rfl rfl ?_
      refine wg_bipush (v := 20) X dX8_chance_13 (by decide) ?_
      refine wg_icmp_le X 22 dX8_chance_15 (by decide) (fun c5 => ?_) (fun c5 => ?_)
      · have h := if_t c5 h
        refine wg_iload X 4 dX8_chance_22 rfl ?_
        refine wg_if_lt X 46 dX8_chance_24 (by decide) (fun c6 => ?_) (fun c6 => ?_)
        · have h := if_t c6 h
          refine wg_ldc2 (v := -4611686018427387904) X dX8_chance_46 k_808 ?_
          exact wg_lret X ⟨congrArg Prod.fst (sm_inj h), congrArg Prod.snd (sm_inj h), rfl⟩ hr dX8_chance_49
        · have h := if_f c6 h
          refine wg_iload X 4 dX8_chance_27 rfl ?_
          refine wg_ldcw (v := 99999) X dX8_chance_29 k_809 ?_
          refine wg_icmp_gt X 46 dX8_chance_32 (by decide) (fun c7 => ?_) (fun c7 => ?_)
          · have h := if_t c7 h
            refine wg_ldc2 (v := -4611686018427387904) X dX8_chance_46 k_808 ?_
            exact wg_lret X ⟨congrArg Prod.fst (sm_inj h), congrArg Prod.snd (sm_inj h), rfl⟩ hr dX8_chance_49
          · have h := if_f c7 h
            refine wg_iload X 5 dX8_chance_35 rfl ?_
            refine wg_if_lt X 46 dX8_chance_37 (by decide) (fun c8 => ?_) (fun c8 => ?_)
            · have h := if_t c8 h
              refine wg_ldc2 (v := -4611686018427387904) X dX8_chance_46 k_808 ?_
              exact wg_lret X ⟨congrArg Prod.fst (sm_inj h), congrArg Prod.snd (sm_inj h), rfl⟩ hr dX8_chance_49
            · have h := if_f c8 h
              refine wg_iload X 5 dX8_chance_40 rfl ?_
              refine wg_iconst (v := 1) X dX8_chance_42 (by decide) ?_
              refine wg_icmp_le X 50 dX8_chance_43 (by decide) (fun c9 => ?_) (fun c9 => ?_)
              · have h := if_t c9 h
                refine wg_iconst (v := 0) X dX8_chance_50 (by decide) ?_
                refine wg_istore (lv' := [(6, .int (0 : Int32)), (0, .ref (ad 0)), (1, .int p1), (2, .int p2), (3, .int p3), (4, .int p4), (5, .int p5)]) X dX8_chance_51 rfl (by decide) rfl ?_
                refine wg_iconst (v := 0) X dX8_chance_53 (by decide) ?_
                refine wg_istore (lv' := [(7, .int (0 : Int32)), (6, .int (0 : Int32)), (0, .ref (ad 0)), (1, .int p1), (2, .int p2), (3, .int p3), (4, .int p4), (5, .int p5)]) X dX8_chance_54 rfl (by decide) rfl ?_
                obtain ⟨o24, h25, h⟩ := bd3_o h
                refine wg_pick [2, 3, 4, 5, 6, 7, 1, 0] (lv' := [(0, .ref (ad 0)), (1, .int p1), (2, .int p2), (3, .int p3), (4, .int p4), (5, .int p5), (6, .int (0 : Int32)), (7, .int (0 : Int32))]) rfl ?_
                refine L_X8_chance_l56 X hr hS r0 D0 M N   p1 p2 p3 p4 p5  N C (0 : Int32) (0 : Int32) o24 h25 (fun C21 v22 v23 e27 => ?_)
                · subst e27
                  replace h := bd3_in h
                  refine wg_iload_n X 3 dX8_chance_85 rfl rfl ?_
                  refine wg_iload X 6 dX8_chance_86 rfl ?_
                  obtain ⟨r29, h28, h⟩ := bd_some h
                  refine wg_callSi (As := [.int p3, .int v22]) (rest := []) X (c_X8_commonDivisor l E ad S N C21 M p3 v22  h28) T_yX8_commonDivisor k_810 dX8_chance_88 rfl rfl (Nat.le_of_ble_eq_true rfl) ⟨Nat.le_of_ble_eq_true rfl, Nat.le_of_ble_eq_true rfl⟩ ⟨Nat.zero_le _, Nat.zero_le _⟩ ?_
                  refine wg_istore (lv' := [(7, .int r29), (0, .ref (ad 0)), (1, .int p1), (2, .int p2), (3, .int p3), (4, .int p4), (5, .int p5), (6, .int v22)]) X dX8_chance_91 rfl (by decide) rfl ?_
                  refine wg_iload X 6 dX8_chance_93 rfl ?_
                  refine wg_if_ne X 103 dX8_chance_95 (by decide) (fun c30 => ?_) (fun c30 => ?_)
                  · have h := if_f c30 h
                    refine wg_iload_n X 4 dX8_chance_103 rfl rfl ?_
                    refine wg_iload X 0 dX8_chance_104 rfl ?_
                    obtain ⟨z31, h⟩ := ck_some h
                    refine wg_idiv X dX8_chance_106 z31 ?_
                    refine wg_i2l X dX8_chance_107 ?_
                    exact wg_lret X ⟨congrArg Prod.fst (sm_inj h), congrArg Prod.snd (sm_inj h), rfl⟩ hr dX8_chance_108
                  · have h := if_t c30 h
                    refine wg_iload X 7 dX8_chance_98 rfl ?_
                    refine wg_goto X 104 dX8_chance_100 (by decide) ?_
                    refine wg_iload X 0 dX8_chance_104 rfl ?_
                    obtain ⟨z32, h⟩ := ck_some h
                    refine wg_idiv X dX8_chance_106 z32 ?_
                    refine wg_i2l X dX8_chance_107 ?_
                    exact wg_lret X ⟨congrArg Prod.fst (sm_inj h), congrArg Prod.snd (sm_inj h), rfl⟩ hr dX8_chance_108
              · have h := if_f c9 h
                refine wg_ldc2 (v := -4611686018427387904) X dX8_chance_46 k_808 ?_
                exact wg_lret X ⟨congrArg Prod.fst (sm_inj h), congrArg Prod.snd (sm_inj h), rfl⟩ hr dX8_chance_49
      · have h := if_f c5 h
        refine wg_ldc2 (v := -4611686018427387904) X dX8_chance_18 k_808 ?_
        exact wg_lret X ⟨congrArg Prod.fst (sm_inj h), congrArg Prod.snd (sm_inj h), rfl⟩ hr dX8_chance_21
-- WindowsGive$House.become(LWindowsGive$House;)V (('c', 12), ('c', 1))
def f_X0_become_l17 (N : Nat)   (C : wg_C) (x2 : Int32) : Option ((wg_C × Int32) ⊕ (wg_C × Int32)) :=
  if (8 : Int32) ≤ x2 then (
    some (.inr (C, x2)))
  else (
    ck (inb x2 8) <|
    ck (inb x2 8) <|
    bd (f_X1_become C (15 + x2.toNatClampNeg) (4 + x2.toNatClampNeg)) fun C8 =>
    lt_ (x2 + (1 : Int32)) fun v9 =>
    some (.inl (C8, v9)))
def f_X0_become (N : Nat) (C : wg_C)  : Option wg_C :=
  ck (¬ (0 : Int32) < 0 ∧ ¬ (0 : Int32) < 0 ∧ ¬ (32 : Int32) < 0 ∧ (0 : Int32).toNatClampNeg + (32 : Int32).toNatClampNeg ≤ 32 ∧ (0 : Int32).toNatClampNeg + (32 : Int32).toNatClampNeg ≤ 32) <|
  lt_ (wg_cp C 2 13 (0 : Int32).toNatClampNeg (0 : Int32).toNatClampNeg (32 : Int32).toNatClampNeg) fun C2 =>
  bd2 (lp (fun o => f_X0_become_l17 N   o.1 o.2) N (C2, (0 : Int32))) fun C11 v12 =>
  lt_ (wg_up C11 12 2 (C11 1 2)) fun C17 =>
  lt_ (wg_up C17 12 3 (C17 1 3)) fun C19 =>
  some C19
abbrev G_X0_become (p : Program) (l : Launch) (e : Env) (s : State) (m : MethodId) (args : Array Value) (below : List Frame) (meth : Method) (c : Code) (E : wg_Ev) (ad : Nat → Nat) (S : wg_Sh) (C0 : wg_C) (M0 : wg_M) (pc : Nat) (C : wg_C) (M : wg_M) (lv : List (Nat × Value)) (st : List Value) : Prop := wg_G p l e (wg_Rm 1 21) s m args below meth c (MQ below (wg_Qv E ad S C0 M0) args s 0 0 (wg_A E)) 3 E ad S 0 0 pc C M lv st
set_option maxHeartbeats 4000000 in
set_option maxRecDepth 100000 in
theorem L_X0_become_l17 {p : Program} {l : Launch} {e : Env} {s : State} {m : MethodId} {args : Array Value} {below : List Frame} {meth : Method} {c : Code} {E : wg_Ev} {ad : Nat → Nat} {S : wg_Sh} (X : wg_X p s m args meth c cX0_become 3 RX0 E) (hr : meth.sig.returnType = none) (hS : wg_SC S) (D0 : wg_C) (M : wg_M) (N : Nat)     : ∀ (n : Nat) (C : wg_C) (x2 : Int32) (o : (wg_C × Int32)), lp (fun o => f_X0_become_l17 N   o.1 o.2) n (C, x2) = some o → (∀ (Dy : wg_C) (y2 : Int32), o = (Dy, y2) → G_X0_become p l e s m args below meth c E ad S D0 M 44 Dy M [(0, .ref (ad 12)), (1, .ref (ad 1)), (2, .int y2)] []) → G_X0_become p l e s m args below meth c E ad S D0 M 17 C M [(0, .ref (ad 12)), (1, .ref (ad 1)), (2, .int x2)] [] := by
  intro n
  induction n with
  | zero => exact fun _ _ o h => (lp_zero h).elim
  | succ n ih =>
    intro C x2 o h K
    obtain ⟨o1, hb, h2⟩ := lp_some h
    replace hb : f_X0_become_l17 N   C x2 = some o1 := hb
    clear h
    have Kc : ∀ (Dy : wg_C) (y2 : Int32), o1 = Sum.inl (Dy, y2) → G_X0_become p l e s m args below meth c E ad S D0 M 17 Dy M [(0, .ref (ad 12)), (1, .ref (ad 1)), (2, .int y2)] [] := fun Dy y2 e1 => by
      subst e1
      exact ih Dy y2 o h2 K
    have Ke : ∀ (Dy : wg_C) (y2 : Int32), o1 = Sum.inr ((Dy, y2)) → G_X0_become p l e s m args below meth c E ad S D0 M 44 Dy M [(0, .ref (ad 12)), (1, .ref (ad 1)), (2, .int y2)] [] := fun Dy y2 e1 => by
      subst e1
      exact K Dy y2 (sm_inj (α := (wg_C × Int32)) h2).symm
    clear ih K h2
    unfold f_X0_become_l17 at hb
    have h := hb
    clear hb
    refine wg_iload_n X 2 dX0_become_17 rfl rfl ?_
    refine wg_bipush (v := 8) X dX0_become_18 (by decide) ?_
    refine wg_icmp_ge X 44 dX0_become_20 (by decide) (fun c4 => ?_) (fun c4 => ?_)
    · have h := if_t c4 h
      exact Ke C x2 (sm_inj h).symm
    · have h := if_f c4 h
      refine wg_aload_n X 0 dX0_become_23 rfl rfl ?_
      refine wg_getR (b := 14) X cl0 (SCi hS 12 0 rfl) 1 (by decide) dX0_become_24 k_143 rfl (SCr hS 12 1 14 rfl) ?_
      refine wg_iload_n X 2 dX0_become_27 rfl rfl ?_
      obtain ⟨z5, h⟩ := ck_some h
      refine wg_aalS13 (b := 15 + x2.toNatClampNeg) X (SCi hS 14 13 rfl) (SCl hS 14 8 rfl) z5 (SCp hS (inb_lt z5)).2.2.1 dX0_become_28 ?_
      refine wg_aload_n X 1 dX0_become_29 rfl rfl ?_
      refine wg_getR (b := 3) X cl0 (SCi hS 1 0 rfl) 1 (by decide) dX0_become_30 k_143 rfl (SCr hS 1 1 3 rfl) ?_
      refine wg_iload_n X 2 dX0_become_33 rfl rfl ?_
      obtain ⟨z6, h⟩ := ck_some h
      refine wg_aalS13 (b := 4 + x2.toNatClampNeg) X (SCi hS 3 13 rfl) (SCl hS 3 8 rfl) z6 (SCp hS (inb_lt z6)).1 dX0_become_34 ?_
      obtain ⟨C8, h7, h⟩ := bd_some h
      refine wg_callVv (As := [.ref (ad (4 + x2.toNatClampNeg))]) (rest := []) X (c_X1_become l E ad S hS C M (15 + x2.toNatClampNeg) (4 + x2.toNatClampNeg) ((SCp hS (inb_lt z5)).2.2.2) ((SCp hS (inb_lt z6)).2.1) h7) T_yX1_become k_822 cl1 ((SCp hS (inb_lt z5)).2.2.2) dX0_become_35 rfl rfl (Nat.le_of_ble_eq_true rfl) ⟨Nat.le_of_ble_eq_true rfl, Nat.le_of_ble_eq_true rfl⟩ ⟨Nat.zero_le _, Nat.zero_le _⟩ ?_
      obtain ⟨v9, e10, h⟩ := lt_some h
      refine wg_iinc (lv' := [(2, .int v9), (0, .ref (ad 12)), (1, .ref (ad 1))]) X 2 dX0_become_38 rfl e10 (by decide) rfl ?_
      refine wg_goto X 17 dX0_become_41 (by decide) ?_
      refine wg_pick [1, 2, 0] (lv' := [(0, .ref (ad 12)), (1, .ref (ad 1)), (2, .int v9)]) rfl ?_
      exact Kc C8 v9 (sm_inj h).symm
set_option maxHeartbeats 4000000 in
set_option maxRecDepth 100000 in
theorem c_X0_become (l : Launch) (E : wg_Ev) (ad : Nat → Nat) (S : wg_Sh) (hS : wg_SC S) (N : Nat) (C : wg_C) (M : wg_M)   {D0 : wg_C} (h : f_X0_become N C  = some D0) : wg_Cv l yX0_become cX0_become 3 none 1 21 E ad S C M [.ref (ad 12), .ref (ad 1)] D0 M := by
  refine wg_start (own := RX0) (by decide +kernel) rfl (Nat.le_of_ble_eq_true rfl) ?_
  intro p e s m below meth c X hr hnm
  refine wg_lv (lv' := [(0, .ref (ad 12)), (1, .ref (ad 1))]) rfl ?_
  unfold f_X0_become at h
  refine wg_aload_n X 1 dX0_become_0 rfl rfl ?_
  refine wg_getR (b := 2) X cl0 (SCi hS 1 0 rfl) 0 (by decide) dX0_become_1 k_140 rfl (SCr hS 1 0 2 rfl) ?_
  refine wg_iconst (v := 0) X dX0_become_4 (by decide) ?_
  refine wg_aload_n X 0 dX0_become_5 rfl rfl ?_
  refine wg_getR (b := 13) X cl0 (SCi hS 12 0 rfl) 0 (by decide) dX0_become_6 k_140 rfl (SCr hS 12 0 13 rfl) ?_
  refine wg_iconst (v := 0) X dX0_become_9 (by decide) ?_
  refine wg_bipush (v := 32) X dX0_become_10 (by decide) ?_
  obtain ⟨z1, h⟩ := ck_some h
  obtain ⟨C2, e3, h⟩ := lt_some h
  refine wg_acopy X (SCi hS 2 10 rfl) (SCl hS 2 32 rfl) (SCi hS 13 10 rfl) (SCl hS 13 32 rfl) k_821 z1.1 z1.2.1 z1.2.2.1 z1.2.2.2.1 z1.2.2.2.2 ⟨Nat.le_of_ble_eq_true rfl, Nat.le_of_ble_eq_true rfl⟩ dX0_become_12 e3 ?_
  refine wg_iconst (v := 0) X dX0_become_15 (by decide) ?_
  refine wg_istore_n (lv' := [(2, .int (0 : Int32)), (0, .ref (ad 12)), (1, .ref (ad 1))]) X dX0_become_16 rfl rfl (by decide) rfl ?_
  obtain ⟨o13, h14, h⟩ := bd2_o h
  refine wg_pick [1, 2, 0] (lv' := [(0, .ref (ad 12)), (1, .ref (ad 1)), (2, .int (0 : Int32))]) rfl ?_
  refine L_X0_become_l17 X hr hS D0 M N     N C2 (0 : Int32) o13 h14 (fun C11 v12 e16 => ?_)
  · subst e16
    replace h := bd2_in h
    refine wg_aload_n X 0 dX0_become_44 rfl rfl ?_
    refine wg_aload_n X 1 dX0_become_45 rfl rfl ?_
    refine wg_getC X cl0 (SCi hS 1 0 rfl) 2 (by decide) dX0_become_46 k_146 rfl ?_
    obtain ⟨C17, e18, h⟩ := lt_some h
    refine wg_putCe X cl0 (SCi hS 12 0 rfl) 2 (by decide) dX0_become_49 k_146 rfl rfl rfl rfl e18 ?_
    refine wg_aload_n X 0 dX0_become_52 rfl rfl ?_
    refine wg_aload_n X 1 dX0_become_53 rfl rfl ?_
    refine wg_getC X cl0 (SCi hS 1 0 rfl) 3 (by decide) dX0_become_54 k_149 rfl ?_
    obtain ⟨C19, e20, h⟩ := lt_some h
    refine wg_putCe X cl0 (SCi hS 12 0 rfl) 3 (by decide) dX0_become_57 k_149 rfl rfl rfl rfl e20 ?_
    exact wg_vret X ⟨(sm_inj h), rfl⟩ hr dX0_become_60
-- WindowsGive.image()I (('c', 0),)
def f_X8_image (N : Nat) (C : wg_C)  : Option (Int32 × wg_C) :=
  bd (f_X0_become N C ) fun C2 =>
  lt_ (wg_up C2 0 2 (1 : Int32)) fun C3 =>
  some ((C3 12 2), C3)
set_option maxHeartbeats 4000000 in
set_option maxRecDepth 100000 in
theorem c_X8_image (l : Launch) (E : wg_Ev) (ad : Nat → Nat) (S : wg_Sh) (hS : wg_SC S) (N : Nat) (C : wg_C) (M : wg_M)   {r0 : Int32} {D0 : wg_C} (h : f_X8_image N C  = some (r0, D0)) : wg_Ci l yX8_image cX8_image 1 (some .int) 2 43 E ad S C M [.ref (ad 0)] r0 D0 M := by
  refine wg_start (own := RX8) (by decide +kernel) rfl (Nat.le_of_ble_eq_true rfl) ?_
  intro p e s m below meth c X hr hnm
  refine wg_lv (lv' := [(0, .ref (ad 0))]) rfl ?_
  unfold f_X8_image at h
  refine wg_aload_n X 0 dX8_image_0 rfl rfl ?_
  refine wg_getR (b := 12) X cl8 (SCi hS 0 8 rfl) 1 (by decide) dX8_image_1 k_473 rfl (SCr hS 0 1 12 rfl) ?_
  refine wg_aload_n X 0 dX8_image_4 rfl rfl ?_
  refine wg_getR (b := 1) X cl8 (SCi hS 0 8 rfl) 0 (by decide) dX8_image_5 k_472 rfl (SCr hS 0 0 1 rfl) ?_
  obtain ⟨C2, h1, h⟩ := bd_some h
  refine wg_callVv (As := [.ref (ad 1)]) (rest := []) X (c_X0_become l E ad S hS N C M   h1) T_yX0_become k_817 cl0 (SCi hS 12 0 rfl) dX8_image_8 rfl rfl (Nat.le_of_ble_eq_true rfl) ⟨Nat.le_of_ble_eq_true rfl, Nat.le_of_ble_eq_true rfl⟩ ⟨Nat.zero_le _, Nat.zero_le _⟩ ?_
  refine wg_aload_n X 0 dX8_image_11 rfl rfl ?_
  refine wg_iconst (v := 1) X dX8_image_12 (by decide) ?_
  obtain ⟨C3, e4, h⟩ := lt_some h
  refine wg_putCe X cl8 (SCi hS 0 8 rfl) 2 (by decide) dX8_image_13 k_474 rfl rfl (by decide) (by decide) e4 ?_
  refine wg_aload_n X 0 dX8_image_16 rfl rfl ?_
  refine wg_getR (b := 12) X cl8 (SCi hS 0 8 rfl) 1 (by decide) dX8_image_17 k_473 rfl (SCr hS 0 1 12 rfl) ?_
  refine wg_getC X cl0 (SCi hS 12 0 rfl) 2 (by decide) dX8_image_20 k_147 rfl ?_
  exact wg_iret X ⟨congrArg Prod.fst (sm_inj h), congrArg Prod.snd (sm_inj h), rfl⟩ hr dX8_image_23
-- WindowsGive$House.become(LWindowsGive$House;)V (('c', 1), ('c', 12))
def f_X0_become_i1_l17 (N : Nat)   (C : wg_C) (x2 : Int32) : Option ((wg_C × Int32) ⊕ (wg_C × Int32)) :=
  if (8 : Int32) ≤ x2 then (
    some (.inr (C, x2)))
  else (
    ck (inb x2 8) <|
    ck (inb x2 8) <|
    bd (f_X1_become C (4 + x2.toNatClampNeg) (15 + x2.toNatClampNeg)) fun C8 =>
    lt_ (x2 + (1 : Int32)) fun v9 =>
    some (.inl (C8, v9)))
def f_X0_become_i1 (N : Nat) (C : wg_C)  : Option wg_C :=
  ck (¬ (0 : Int32) < 0 ∧ ¬ (0 : Int32) < 0 ∧ ¬ (32 : Int32) < 0 ∧ (0 : Int32).toNatClampNeg + (32 : Int32).toNatClampNeg ≤ 32 ∧ (0 : Int32).toNatClampNeg + (32 : Int32).toNatClampNeg ≤ 32) <|
  lt_ (wg_cp C 13 2 (0 : Int32).toNatClampNeg (0 : Int32).toNatClampNeg (32 : Int32).toNatClampNeg) fun C2 =>
  bd2 (lp (fun o => f_X0_become_i1_l17 N   o.1 o.2) N (C2, (0 : Int32))) fun C11 v12 =>
  lt_ (wg_up C11 1 2 (C11 12 2)) fun C17 =>
  lt_ (wg_up C17 1 3 (C17 12 3)) fun C19 =>
  some C19
abbrev G_X0_become_i1 (p : Program) (l : Launch) (e : Env) (s : State) (m : MethodId) (args : Array Value) (below : List Frame) (meth : Method) (c : Code) (E : wg_Ev) (ad : Nat → Nat) (S : wg_Sh) (C0 : wg_C) (M0 : wg_M) (pc : Nat) (C : wg_C) (M : wg_M) (lv : List (Nat × Value)) (st : List Value) : Prop := wg_G p l e (wg_Rm 1 21) s m args below meth c (MQ below (wg_Qv E ad S C0 M0) args s 0 0 (wg_A E)) 3 E ad S 0 0 pc C M lv st
set_option maxHeartbeats 4000000 in
set_option maxRecDepth 100000 in
theorem L_X0_become_i1_l17 {p : Program} {l : Launch} {e : Env} {s : State} {m : MethodId} {args : Array Value} {below : List Frame} {meth : Method} {c : Code} {E : wg_Ev} {ad : Nat → Nat} {S : wg_Sh} (X : wg_X p s m args meth c cX0_become 3 RX0 E) (hr : meth.sig.returnType = none) (hS : wg_SC S) (D0 : wg_C) (M : wg_M) (N : Nat)     : ∀ (n : Nat) (C : wg_C) (x2 : Int32) (o : (wg_C × Int32)), lp (fun o => f_X0_become_i1_l17 N   o.1 o.2) n (C, x2) = some o → (∀ (Dy : wg_C) (y2 : Int32), o = (Dy, y2) → G_X0_become_i1 p l e s m args below meth c E ad S D0 M 44 Dy M [(0, .ref (ad 1)), (1, .ref (ad 12)), (2, .int y2)] []) → G_X0_become_i1 p l e s m args below meth c E ad S D0 M 17 C M [(0, .ref (ad 1)), (1, .ref (ad 12)), (2, .int x2)] [] := by
  intro n
  induction n with
  | zero => exact fun _ _ o h => (lp_zero h).elim
  | succ n ih =>
    intro C x2 o h K
    obtain ⟨o1, hb, h2⟩ := lp_some h
    replace hb : f_X0_become_i1_l17 N   C x2 = some o1 := hb
    clear h
    have Kc : ∀ (Dy : wg_C) (y2 : Int32), o1 = Sum.inl (Dy, y2) → G_X0_become_i1 p l e s m args below meth c E ad S D0 M 17 Dy M [(0, .ref (ad 1)), (1, .ref (ad 12)), (2, .int y2)] [] := fun Dy y2 e1 => by
      subst e1
      exact ih Dy y2 o h2 K
    have Ke : ∀ (Dy : wg_C) (y2 : Int32), o1 = Sum.inr ((Dy, y2)) → G_X0_become_i1 p l e s m args below meth c E ad S D0 M 44 Dy M [(0, .ref (ad 1)), (1, .ref (ad 12)), (2, .int y2)] [] := fun Dy y2 e1 => by
      subst e1
      exact K Dy y2 (sm_inj (α := (wg_C × Int32)) h2).symm
    clear ih K h2
    unfold f_X0_become_i1_l17 at hb
    have h := hb
    clear hb
    refine wg_iload_n X 2 dX0_become_17 rfl rfl ?_
    refine wg_bipush (v := 8) X dX0_become_18 (by decide) ?_
    refine wg_icmp_ge X 44 dX0_become_20 (by decide) (fun c4 => ?_) (fun c4 => ?_)
    · have h := if_t c4 h
      exact Ke C x2 (sm_inj h).symm
    · have h := if_f c4 h
      refine wg_aload_n X 0 dX0_become_23 rfl rfl ?_
      refine wg_getR (b := 3) X cl0 (SCi hS 1 0 rfl) 1 (by decide) dX0_become_24 k_143 rfl (SCr hS 1 1 3 rfl) ?_
      refine wg_iload_n X 2 dX0_become_27 rfl rfl ?_
      obtain ⟨z5, h⟩ := ck_some h
      refine wg_aalS13 (b := 4 + x2.toNatClampNeg) X (SCi hS 3 13 rfl) (SCl hS 3 8 rfl) z5 (SCp hS (inb_lt z5)).1 dX0_become_28 ?_
      refine wg_aload_n X 1 dX0_become_29 rfl rfl ?_
      refine wg_getR (b := 14) X cl0 (SCi hS 12 0 rfl) 1 (by decide) dX0_become_30 k_143 rfl (SCr hS 12 1 14 rfl) ?_
      refine wg_iload_n X 2 dX0_become_33 rfl rfl ?_
      obtain ⟨z6, h⟩ := ck_some h
      refine wg_aalS13 (b := 15 + x2.toNatClampNeg) X (SCi hS 14 13 rfl) (SCl hS 14 8 rfl) z6 (SCp hS (inb_lt z6)).2.2.1 dX0_become_34 ?_
      obtain ⟨C8, h7, h⟩ := bd_some h
      refine wg_callVv (As := [.ref (ad (15 + x2.toNatClampNeg))]) (rest := []) X (c_X1_become l E ad S hS C M (4 + x2.toNatClampNeg) (15 + x2.toNatClampNeg) ((SCp hS (inb_lt z5)).2.1) ((SCp hS (inb_lt z6)).2.2.2) h7) T_yX1_become k_822 cl1 ((SCp hS (inb_lt z5)).2.1) dX0_become_35 rfl rfl (Nat.le_of_ble_eq_true rfl) ⟨Nat.le_of_ble_eq_true rfl, Nat.le_of_ble_eq_true rfl⟩ ⟨Nat.zero_le _, Nat.zero_le _⟩ ?_
      obtain ⟨v9, e10, h⟩ := lt_some h
      refine wg_iinc (lv' := [(2, .int v9), (0, .ref (ad 1)), (1, .ref (ad 12))]) X 2 dX0_become_38 rfl e10 (by decide) rfl ?_
      refine wg_goto X 17 dX0_become_41 (by decide) ?_
      refine wg_pick [1, 2, 0] (lv' := [(0, .ref (ad 1)), (1, .ref (ad 12)), (2, .int v9)]) rfl ?_
      exact Kc C8 v9 (sm_inj h).symm
set_option maxHeartbeats 4000000 in
set_option maxRecDepth 100000 in
theorem c_X0_become_i1 (l : Launch) (E : wg_Ev) (ad : Nat → Nat) (S : wg_Sh) (hS : wg_SC S) (N : Nat) (C : wg_C) (M : wg_M)   {D0 : wg_C} (h : f_X0_become_i1 N C  = some D0) : wg_Cv l yX0_become cX0_become 3 none 1 21 E ad S C M [.ref (ad 1), .ref (ad 12)] D0 M := by
  refine wg_start (own := RX0) (by decide +kernel) rfl (Nat.le_of_ble_eq_true rfl) ?_
  intro p e s m below meth c X hr hnm
  refine wg_lv (lv' := [(0, .ref (ad 1)), (1, .ref (ad 12))]) rfl ?_
  unfold f_X0_become_i1 at h
  refine wg_aload_n X 1 dX0_become_0 rfl rfl ?_
  refine wg_getR (b := 13) X cl0 (SCi hS 12 0 rfl) 0 (by decide) dX0_become_1 k_140 rfl (SCr hS 12 0 13 rfl) ?_
  refine wg_iconst (v := 0) X dX0_become_4 (by decide) ?_
  refine wg_aload_n X 0 dX0_become_5 rfl rfl ?_
  refine wg_getR (b := 2) X cl0 (SCi hS 1 0 rfl) 0 (by decide) dX0_become_6 k_140 rfl (SCr hS 1 0 2 rfl) ?_
  refine wg_iconst (v := 0) X dX0_become_9 (by decide) ?_
  refine wg_bipush (v := 32) X dX0_become_10 (by decide) ?_
  obtain ⟨z1, h⟩ := ck_some h
  obtain ⟨C2, e3, h⟩ := lt_some h
  refine wg_acopy X (SCi hS 13 10 rfl) (SCl hS 13 32 rfl) (SCi hS 2 10 rfl) (SCl hS 2 32 rfl) k_821 z1.1 z1.2.1 z1.2.2.1 z1.2.2.2.1 z1.2.2.2.2 ⟨Nat.le_of_ble_eq_true rfl, Nat.le_of_ble_eq_true rfl⟩ dX0_become_12 e3 ?_
  refine wg_iconst (v := 0) X dX0_become_15 (by decide) ?_
  refine wg_istore_n (lv' := [(2, .int (0 : Int32)), (0, .ref (ad 1)), (1, .ref (ad 12))]) X dX0_become_16 rfl rfl (by decide) rfl ?_
  obtain ⟨o13, h14, h⟩ := bd2_o h
  refine wg_pick [1, 2, 0] (lv' := [(0, .ref (ad 1)), (1, .ref (ad 12)), (2, .int (0 : Int32))]) rfl ?_
  refine L_X0_become_i1_l17 X hr hS D0 M N     N C2 (0 : Int32) o13 h14 (fun C11 v12 e16 => ?_)
  · subst e16
    replace h := bd2_in h
    refine wg_aload_n X 0 dX0_become_44 rfl rfl ?_
    refine wg_aload_n X 1 dX0_become_45 rfl rfl ?_
    refine wg_getC X cl0 (SCi hS 12 0 rfl) 2 (by decide) dX0_become_46 k_146 rfl ?_
    obtain ⟨C17, e18, h⟩ := lt_some h
    refine wg_putCe X cl0 (SCi hS 1 0 rfl) 2 (by decide) dX0_become_49 k_146 rfl rfl rfl rfl e18 ?_
    refine wg_aload_n X 0 dX0_become_52 rfl rfl ?_
    refine wg_aload_n X 1 dX0_become_53 rfl rfl ?_
    refine wg_getC X cl0 (SCi hS 12 0 rfl) 3 (by decide) dX0_become_54 k_149 rfl ?_
    obtain ⟨C19, e20, h⟩ := lt_some h
    refine wg_putCe X cl0 (SCi hS 1 0 rfl) 3 (by decide) dX0_become_57 k_149 rfl rfl rfl rfl e20 ?_
    exact wg_vret X ⟨(sm_inj h), rfl⟩ hr dX0_become_60
-- WindowsGive.back()I (('c', 0),)
def f_X8_back (N : Nat) (C : wg_C)  : Option (Int32 × wg_C) :=
  if (C 0 2) = 0 then (
    some ((-3 : Int32), C))
  else (
    bd (f_X0_become_i1 N C ) fun C3 =>
    some ((C3 1 2), C3))
set_option maxHeartbeats 4000000 in
set_option maxRecDepth 100000 in
theorem c_X8_back (l : Launch) (E : wg_Ev) (ad : Nat → Nat) (S : wg_Sh) (hS : wg_SC S) (N : Nat) (C : wg_C) (M : wg_M)   {r0 : Int32} {D0 : wg_C} (h : f_X8_back N C  = some (r0, D0)) : wg_Ci l yX8_back cX8_back 1 (some .int) 2 43 E ad S C M [.ref (ad 0)] r0 D0 M := by
  refine wg_start (own := RX8) (by decide +kernel) rfl (Nat.le_of_ble_eq_true rfl) ?_
  intro p e s m below meth c X hr hnm
  refine wg_lv (lv' := [(0, .ref (ad 0))]) rfl ?_
  unfold f_X8_back at h
  refine wg_aload_n X 0 dX8_back_0 rfl rfl ?_
  refine wg_getC X cl8 (SCi hS 0 8 rfl) 2 (by decide) dX8_back_1 k_474 rfl ?_
  refine wg_if_ne X 10 dX8_back_4 (by decide) (fun c1 => ?_) (fun c1 => ?_)
  · have h := if_f c1 h
    refine wg_aload_n X 0 dX8_back_10 rfl rfl ?_
    refine wg_getR (b := 1) X cl8 (SCi hS 0 8 rfl) 0 (by decide) dX8_back_11 k_472 rfl (SCr hS 0 0 1 rfl) ?_
    refine wg_aload_n X 0 dX8_back_14 rfl rfl ?_
    refine wg_getR (b := 12) X cl8 (SCi hS 0 8 rfl) 1 (by decide) dX8_back_15 k_473 rfl (SCr hS 0 1 12 rfl) ?_
    obtain ⟨C3, h2, h⟩ := bd_some h
    refine wg_callVv (As := [.ref (ad 12)]) (rest := []) X (c_X0_become_i1 l E ad S hS N C M   h2) T_yX0_become k_817 cl0 (SCi hS 1 0 rfl) dX8_back_18 rfl rfl (Nat.le_of_ble_eq_true rfl) ⟨Nat.le_of_ble_eq_true rfl, Nat.le_of_ble_eq_true rfl⟩ ⟨Nat.zero_le _, Nat.zero_le _⟩ ?_
    refine wg_aload_n X 0 dX8_back_21 rfl rfl ?_
    refine wg_getR (b := 1) X cl8 (SCi hS 0 8 rfl) 0 (by decide) dX8_back_22 k_472 rfl (SCr hS 0 0 1 rfl) ?_
    refine wg_getC X cl0 (SCi hS 1 0 rfl) 2 (by decide) dX8_back_25 k_147 rfl ?_
    exact wg_iret X ⟨congrArg Prod.fst (sm_inj h), congrArg Prod.snd (sm_inj h), rfl⟩ hr dX8_back_28
  · have h := if_t c1 h
    refine wg_bipush (v := -3) X dX8_back_7 (by decide) ?_
    exact wg_iret X ⟨congrArg Prod.fst (sm_inj h), congrArg Prod.snd (sm_inj h), rfl⟩ hr dX8_back_9
-- WindowsGive$House.weatherTogether()I (('c', 1),)
def f_X0_weatherTogether_l4 (N : Nat) (C : wg_C)   (x1 : Int32) (x2 : Int32) : Option ((Int32 × Int32) ⊕ (Int32 × Int32)) :=
  if (32 : Int32) ≤ x2 then (
    some (.inr (x1, x2)))
  else (
    ck (inb x2 32) <|
    lt_ (x1 + (C 2 x2.toNatClampNeg)) fun v3 =>
    lt_ (x2 + (1 : Int32)) fun v5 =>
    some (.inl (v3, v5)))
def f_X0_weatherTogether (N : Nat) (C : wg_C)  : Option Int32 :=
  bd2 (lp (fun o => f_X0_weatherTogether_l4 N C   o.1 o.2) N ((0 : Int32), (0 : Int32))) fun v7 v8 =>
  some v7
abbrev G_X0_weatherTogether (p : Program) (l : Launch) (e : Env) (s : State) (m : MethodId) (args : Array Value) (below : List Frame) (meth : Method) (c : Code) (E : wg_Ev) (ad : Nat → Nat) (S : wg_Sh) (r0 : Int32) (C0 : wg_C) (M0 : wg_M) (pc : Nat) (C : wg_C) (M : wg_M) (lv : List (Nat × Value)) (st : List Value) : Prop := wg_G p l e (wg_Rm 0 0) s m args below meth c (MQ below (wg_Qi E ad S r0 C0 M0) args s 0 0 (wg_A E)) 3 E ad S 0 0 pc C M lv st
set_option maxHeartbeats 4000000 in
set_option maxRecDepth 100000 in
theorem L_X0_weatherTogether_l4 {p : Program} {l : Launch} {e : Env} {s : State} {m : MethodId} {args : Array Value} {below : List Frame} {meth : Method} {c : Code} {E : wg_Ev} {ad : Nat → Nat} {S : wg_Sh} (X : wg_X p s m args meth c cX0_weatherTogether 3 RX0 E) (hr : meth.sig.returnType = (some .int)) (hS : wg_SC S) (r0 : Int32) (M : wg_M) (N : Nat)  (C : wg_C)    : ∀ (n : Nat) (x1 : Int32) (x2 : Int32) (o : (Int32 × Int32)), lp (fun o => f_X0_weatherTogether_l4 N C   o.1 o.2) n (x1, x2) = some o → (∀ (y1 : Int32) (y2 : Int32), o = (y1, y2) → G_X0_weatherTogether p l e s m args below meth c E ad S r0 C M 25 C M [(0, .ref (ad 1)), (1, .int y1), (2, .int y2)] []) → G_X0_weatherTogether p l e s m args below meth c E ad S r0 C M 4 C M [(0, .ref (ad 1)), (1, .int x1), (2, .int x2)] [] := by
  intro n
  induction n with
  | zero => exact fun _ _ o h => (lp_zero h).elim
  | succ n ih =>
    intro x1 x2 o h K
    obtain ⟨o1, hb, h2⟩ := lp_some h
    replace hb : f_X0_weatherTogether_l4 N C   x1 x2 = some o1 := hb
    clear h
    have Kc : ∀ (y1 : Int32) (y2 : Int32), o1 = Sum.inl (y1, y2) → G_X0_weatherTogether p l e s m args below meth c E ad S r0 C M 4 C M [(0, .ref (ad 1)), (1, .int y1), (2, .int y2)] [] := fun y1 y2 e1 => by
      subst e1
      exact ih y1 y2 o h2 K
    have Ke : ∀ (y1 : Int32) (y2 : Int32), o1 = Sum.inr ((y1, y2)) → G_X0_weatherTogether p l e s m args below meth c E ad S r0 C M 25 C M [(0, .ref (ad 1)), (1, .int y1), (2, .int y2)] [] := fun y1 y2 e1 => by
      subst e1
      exact K y1 y2 (sm_inj (α := (Int32 × Int32)) h2).symm
    clear ih K h2
    unfold f_X0_weatherTogether_l4 at hb
    have h := hb
    clear hb
    refine wg_iload_n X 2 dX0_weatherTogether_4 rfl rfl ?_
    refine wg_bipush (v := 32) X dX0_weatherTogether_5 (by decide) ?_
    refine wg_icmp_ge X 25 dX0_weatherTogether_7 (by decide) (fun c1 => ?_) (fun c1 => ?_)
    · have h := if_t c1 h
      exact Ke x1 x2 (sm_inj h).symm
    · have h := if_f c1 h
      refine wg_iload_n X 1 dX0_weatherTogether_10 rfl rfl ?_
      refine wg_aload_n X 0 dX0_weatherTogether_11 rfl rfl ?_
      refine wg_getR (b := 2) X cl0 (SCi hS 1 0 rfl) 0 (by decide) dX0_weatherTogether_12 k_140 rfl (SCr hS 1 0 2 rfl) ?_
      refine wg_iload_n X 2 dX0_weatherTogether_15 rfl rfl ?_
      obtain ⟨z2, h⟩ := ck_some h
      refine wg_iald X (SCi hS 2 10 rfl) (SCl hS 2 32 rfl) z2 dX0_weatherTogether_16 ?_
      refine wg_iadd X dX0_weatherTogether_17 ?_
      obtain ⟨v3, e4, h⟩ := lt_some h
      refine wg_istore_n (lv' := [(1, .int v3), (0, .ref (ad 1)), (2, .int x2)]) X dX0_weatherTogether_18 rfl e4 (by decide) rfl ?_
      obtain ⟨v5, e6, h⟩ := lt_some h
      refine wg_iinc (lv' := [(2, .int v5), (1, .int v3), (0, .ref (ad 1))]) X 2 dX0_weatherTogether_19 rfl e6 (by decide) rfl ?_
      refine wg_goto X 4 dX0_weatherTogether_22 (by decide) ?_
      refine wg_pick [2, 1, 0] (lv' := [(0, .ref (ad 1)), (1, .int v3), (2, .int v5)]) rfl ?_
      exact Kc v3 v5 (sm_inj h).symm
set_option maxHeartbeats 4000000 in
set_option maxRecDepth 100000 in
theorem c_X0_weatherTogether (l : Launch) (E : wg_Ev) (ad : Nat → Nat) (S : wg_Sh) (hS : wg_SC S) (N : Nat) (C : wg_C) (M : wg_M)   {r0 : Int32} (h : f_X0_weatherTogether N C  = some r0) : wg_Ci l yX0_weatherTogether cX0_weatherTogether 3 (some .int) 0 0 E ad S C M [.ref (ad 1)] r0 C M := by
  refine wg_start (own := RX0) (by decide +kernel) rfl (Nat.le_of_ble_eq_true rfl) ?_
  intro p e s m below meth c X hr hnm
  refine wg_lv (lv' := [(0, .ref (ad 1))]) rfl ?_
  unfold f_X0_weatherTogether at h
  refine wg_iconst (v := 0) X dX0_weatherTogether_0 (by decide) ?_
  refine wg_istore_n (lv' := [(1, .int (0 : Int32)), (0, .ref (ad 1))]) X dX0_weatherTogether_1 rfl rfl (by decide) rfl ?_
  refine wg_iconst (v := 0) X dX0_weatherTogether_2 (by decide) ?_
  refine wg_istore_n (lv' := [(2, .int (0 : Int32)), (1, .int (0 : Int32)), (0, .ref (ad 1))]) X dX0_weatherTogether_3 rfl rfl (by decide) rfl ?_
  obtain ⟨o9, h10, h⟩ := bd2_o h
  refine wg_pick [2, 1, 0] (lv' := [(0, .ref (ad 1)), (1, .int (0 : Int32)), (2, .int (0 : Int32))]) rfl ?_
  refine L_X0_weatherTogether_l4 X hr hS r0 M N  C    N (0 : Int32) (0 : Int32) o9 h10 (fun v7 v8 e12 => ?_)
  · subst e12
    replace h := bd2_in h
    refine wg_iload_n X 1 dX0_weatherTogether_25 rfl rfl ?_
    exact wg_iret X ⟨(sm_inj h), rfl, rfl⟩ hr dX0_weatherTogether_26
-- WindowsGive.count(I)I (('c', 0), 'i')
def f_X8_count (N : Nat) (C : wg_C) (p1 : Int32) : Option Int32 :=
  if p1 = (0 : Int32) then (
    some (C 1 2))
  else
  if p1 = (1 : Int32) then (
    some (C 31 1))
  else
  if p1 = (2 : Int32) then (
    some (C 23 1))
  else
  if p1 = (3 : Int32) then (
    some (C 1 3))
  else
  if p1 = (4 : Int32) then (
    bd (f_X0_weatherTogether N C ) fun r7 =>
    some r7)
  else
  some (-2 : Int32)
set_option maxHeartbeats 4000000 in
set_option maxRecDepth 100000 in
theorem c_X8_count (l : Launch) (E : wg_Ev) (ad : Nat → Nat) (S : wg_Sh) (hS : wg_SC S) (N : Nat) (C : wg_C) (M : wg_M) (p1 : Int32)  {r0 : Int32} (h : f_X8_count N C p1 = some r0) : wg_Ci l yX8_count cX8_count 2 (some .int) 1 22 E ad S C M [.ref (ad 0), .int p1] r0 C M := by
  refine wg_start (own := RX8) (by decide +kernel) rfl (Nat.le_of_ble_eq_true rfl) ?_
  intro p e s m below meth c X hr hnm
  refine wg_lv (lv' := [(0, .ref (ad 0)), (1, .int p1)]) rfl ?_
  unfold f_X8_count at h
  refine wg_iload_n X 1 dX8_count_0 rfl rfl ?_
  by_cases c1 : p1 = (0 : Int32)
  · have h := if_t c1 h
    refine wg_tblIn (off := 35) X 36 dX8_count_1 c1 (by decide) (by decide) (by decide) (by decide) ?_
    refine wg_aload_n X 0 dX8_count_36 rfl rfl ?_
    refine wg_getR (b := 1) X cl8 (SCi hS 0 8 rfl) 0 (by decide) dX8_count_37 k_472 rfl (SCr hS 0 0 1 rfl) ?_
    refine wg_getC X cl0 (SCi hS 1 0 rfl) 2 (by decide) dX8_count_40 k_147 rfl ?_
    exact wg_iret X ⟨(sm_inj h), rfl, rfl⟩ hr dX8_count_43
  have h := if_f c1 h
  by_cases c2 : p1 = (1 : Int32)
  · have h := if_t c2 h
    refine wg_tblIn (off := 43) X 44 dX8_count_1 c2 (by decide) (by decide) (by decide) (by decide) ?_
    refine wg_aload_n X 0 dX8_count_44 rfl rfl ?_
    refine wg_getR (b := 31) X cl8 (SCi hS 0 8 rfl) 5 (by decide) dX8_count_45 k_477 rfl (SCr hS 0 5 31 rfl) ?_
    refine wg_getC X cl3 (SCi hS 31 3 rfl) 1 (by decide) dX8_count_48 k_230 rfl ?_
    exact wg_iret X ⟨(sm_inj h), rfl, rfl⟩ hr dX8_count_51
  have h := if_f c2 h
  by_cases c3 : p1 = (2 : Int32)
  · have h := if_t c3 h
    refine wg_tblIn (off := 51) X 52 dX8_count_1 c3 (by decide) (by decide) (by decide) (by decide) ?_
    refine wg_aload_n X 0 dX8_count_52 rfl rfl ?_
    refine wg_getR (b := 23) X cl8 (SCi hS 0 8 rfl) 3 (by decide) dX8_count_53 k_475 rfl (SCr hS 0 3 23 rfl) ?_
    refine wg_getC X cl5 (SCi hS 23 5 rfl) 1 (by decide) dX8_count_56 k_169 rfl ?_
    exact wg_iret X ⟨(sm_inj h), rfl, rfl⟩ hr dX8_count_59
  have h := if_f c3 h
  by_cases c4 : p1 = (3 : Int32)
  · have h := if_t c4 h
    refine wg_tblIn (off := 59) X 60 dX8_count_1 c4 (by decide) (by decide) (by decide) (by decide) ?_
    refine wg_aload_n X 0 dX8_count_60 rfl rfl ?_
    refine wg_getR (b := 1) X cl8 (SCi hS 0 8 rfl) 0 (by decide) dX8_count_61 k_472 rfl (SCr hS 0 0 1 rfl) ?_
    refine wg_getC X cl0 (SCi hS 1 0 rfl) 3 (by decide) dX8_count_64 k_151 rfl ?_
    exact wg_iret X ⟨(sm_inj h), rfl, rfl⟩ hr dX8_count_67
  have h := if_f c4 h
  by_cases c5 : p1 = (4 : Int32)
  · have h := if_t c5 h
    refine wg_tblIn (off := 67) X 68 dX8_count_1 c5 (by decide) (by decide) (by decide) (by decide) ?_
    refine wg_aload_n X 0 dX8_count_68 rfl rfl ?_
    refine wg_getR (b := 1) X cl8 (SCi hS 0 8 rfl) 0 (by decide) dX8_count_69 k_472 rfl (SCr hS 0 0 1 rfl) ?_
    obtain ⟨r7, h6, h⟩ := bd_some h
    refine wg_callVi (As := []) (rest := []) X (c_X0_weatherTogether l E ad S hS N C M   h6) T_yX0_weatherTogether k_831 cl0 (SCi hS 1 0 rfl) dX8_count_72 rfl rfl (Nat.le_of_ble_eq_true rfl) ⟨Nat.le_of_ble_eq_true rfl, Nat.le_of_ble_eq_true rfl⟩ ⟨Nat.zero_le _, Nat.zero_le _⟩ ?_
    exact wg_iret X ⟨(sm_inj h), rfl, rfl⟩ hr dX8_count_75
  have h := if_f c5 h
  refine wg_tblOut X 76 dX8_count_1 (wg_tout (0) (4) (fun k hk => by
      rcases (show k = 0 ∨ k = 1 ∨ k = 2 ∨ k = 3 ∨ k = 4 by omega) with rfl | rfl | rfl | rfl | rfl
      · exact fun q => c1 (q.trans (by decide))
      · exact fun q => c2 (q.trans (by decide))
      · exact fun q => c3 (q.trans (by decide))
      · exact fun q => c4 (q.trans (by decide))
      · exact fun q => c5 (q.trans (by decide))) (by decide) (by decide)) (by decide) ?_
  refine wg_bipush (v := -2) X dX8_count_76 (by decide) ?_
  exact wg_iret X ⟨(sm_inj h), rfl, rfl⟩ hr dX8_count_78
-- WindowsGive.isRowSort(I)Z ('i',)
def f_X8_isRowSort (p0 : Int32) : Option Int32 :=
  if p0 < 0 then (
    some (0 : Int32))
  else (
    if (2 : Int32) < p0 then (
      some (0 : Int32))
    else (
      some (1 : Int32)))
set_option maxHeartbeats 4000000 in
set_option maxRecDepth 100000 in
theorem c_X8_isRowSort (l : Launch) (E : wg_Ev) (ad : Nat → Nat) (S : wg_Sh) (C : wg_C) (M : wg_M) (p0 : Int32)  {r0 : Int32} (h : f_X8_isRowSort p0 = some r0) : wg_Ci l yX8_isRowSort cX8_isRowSort 1 (some .boolean) 0 0 E ad S C M [.int p0] r0 C M := by
  refine wg_start (own := RX8) (by decide +kernel) rfl (Nat.le_of_ble_eq_true rfl) ?_
  intro p e s m below meth c X hr hnm
  refine wg_lv (lv' := [(0, .int p0)]) rfl ?_
  unfold f_X8_isRowSort at h
  refine wg_iload_n X 0 dX8_isRowSort_0 rfl rfl ?_
  refine wg_if_lt X 13 dX8_isRowSort_1 (by decide) (fun c1 => ?_) (fun c1 => ?_)
  · have h := if_t c1 h
    refine wg_iconst (v := 0) X dX8_isRowSort_13 (by decide) ?_
    exact wg_zret X ⟨(sm_inj h), rfl, rfl⟩ hr (by decide) dX8_isRowSort_14
  · have h := if_f c1 h
    refine wg_iload_n X 0 dX8_isRowSort_4 rfl rfl ?_
    refine wg_iconst (v := 2) X dX8_isRowSort_5 (by decide) ?_
    refine wg_icmp_gt X 13 dX8_isRowSort_6 (by decide) (fun c2 => ?_) (fun c2 => ?_)
    · have h := if_t c2 h
      refine wg_iconst (v := 0) X dX8_isRowSort_13 (by decide) ?_
      exact wg_zret X ⟨(sm_inj h), rfl, rfl⟩ hr (by decide) dX8_isRowSort_14
    · have h := if_f c2 h
      refine wg_iconst (v := 1) X dX8_isRowSort_9 (by decide) ?_
      refine wg_goto X 14 dX8_isRowSort_10 (by decide) ?_
      exact wg_zret X ⟨(sm_inj h), rfl, rfl⟩ hr (by decide) dX8_isRowSort_14
-- WindowsGive.sheet(III)I (('c', 0), 'i', 'i', 'i')
def f_X8_sheet_j22 (N : Nat) (C : wg_C)  (x1 : Int32) (x2 : Int32) (x3 : Int32) : Option (Int32 × wg_C) :=
  if x2 = (-1 : Int32) then (
    ck (inb x1 4) <|
    bd (f_X4_become N C (44 + 2 * x1.toNatClampNeg) (-1 : Int32) (0 : Int32)) fun C13 =>
    some ((1 : Int32), C13))
  else (
    if x3 ≤ (40 : Int32) then (
      if 0 ≤ x3 then (
        ck (inb x1 4) <|
        bd (f_X4_become N C (44 + 2 * x1.toNatClampNeg) x2 x3) fun C10 =>
        some ((1 : Int32), C10))
      else (
        some ((-14 : Int32), C)))
    else (
      some ((-2 : Int32), C)))
def f_X8_sheet (N : Nat) (C : wg_C) (p1 : Int32) (p2 : Int32) (p3 : Int32) : Option (Int32 × wg_C) :=
  bd (f_X8_isSheet p1) fun r2 =>
  if r2 = 0 then (
    some ((-2 : Int32), C))
  else (
    if p2 = (-1 : Int32) then (
      f_X8_sheet_j22 N C  p1 p2 p3)
    else (
      bd (f_X8_isRowSort p2) fun r15 =>
      if r15 = 0 then (
        some ((-2 : Int32), C))
      else (
        f_X8_sheet_j22 N C  p1 p2 p3)))
abbrev G_X8_sheet (p : Program) (l : Launch) (e : Env) (s : State) (m : MethodId) (args : Array Value) (below : List Frame) (meth : Method) (c : Code) (E : wg_Ev) (ad : Nat → Nat) (S : wg_Sh) (r0 : Int32) (C0 : wg_C) (M0 : wg_M) (pc : Nat) (C : wg_C) (M : wg_M) (lv : List (Nat × Value)) (st : List Value) : Prop := wg_G p l e (wg_Rm 2 45) s m args below meth c (MQ below (wg_Qi E ad S r0 C0 M0) args s 0 0 (wg_A E)) 4 E ad S 0 0 pc C M lv st
set_option maxHeartbeats 4000000 in
set_option maxRecDepth 100000 in
theorem J_X8_sheet_j22 {p : Program} {l : Launch} {e : Env} {s : State} {m : MethodId} {args : Array Value} {below : List Frame} {meth : Method} {c : Code} {E : wg_Ev} {ad : Nat → Nat} {S : wg_Sh} (X : wg_X p s m args meth c cX8_sheet 4 RX8 E) (hr : meth.sig.returnType = (some .int)) (hS : wg_SC S) (r0 : Int32) (D0 : wg_C) (M : wg_M) (N : Nat)  (C : wg_C)  (x1 : Int32) (x2 : Int32) (x3 : Int32)   (h : f_X8_sheet_j22 N C  x1 x2 x3 = some (r0, D0)) : G_X8_sheet p l e s m args below meth c E ad S r0 D0 M 22 C M [(0, .ref (ad 0)), (1, .int x1), (2, .int x2), (3, .int x3)] [] := by
  unfold f_X8_sheet_j22 at h
  refine wg_iload_n X 2 dX8_sheet_22 rfl rfl ?_
  refine wg_iconst (v := -1) X dX8_sheet_23 (by decide) ?_
  refine wg_icmp_ne X 40 dX8_sheet_24 (by decide) (fun c5 => ?_) (fun c5 => ?_)
  · have h := if_f c5 h
    refine wg_iload_n X 3 dX8_sheet_40 rfl rfl ?_
    refine wg_bipush (v := 40) X dX8_sheet_41 (by decide) ?_
    refine wg_icmp_le X 49 dX8_sheet_43 (by decide) (fun c6 => ?_) (fun c6 => ?_)
    · have h := if_t c6 h
      refine wg_iload_n X 3 dX8_sheet_49 rfl rfl ?_
      refine wg_if_ge X 56 dX8_sheet_50 (by decide) (fun c7 => ?_) (fun c7 => ?_)
      · have h := if_t c7 h
        refine wg_aload_n X 0 dX8_sheet_56 rfl rfl ?_
        refine wg_getR (b := 39) X cl8 (SCi hS 0 8 rfl) 7 (by decide) dX8_sheet_57 k_479 rfl (SCr hS 0 7 39 rfl) ?_
        refine wg_iload_n X 1 dX8_sheet_60 rfl rfl ?_
        obtain ⟨z8, h⟩ := ck_some h
        refine wg_aalS14 (b := 44 + 2 * x1.toNatClampNeg) X (SCi hS 39 14 rfl) (SCl hS 39 4 rfl) z8 (SCs hS (inb_lt z8)).1 dX8_sheet_61 ?_
        refine wg_iload_n X 2 dX8_sheet_62 rfl rfl ?_
        refine wg_iload_n X 3 dX8_sheet_63 rfl rfl ?_
        obtain ⟨C10, h9, h⟩ := bd_some h
        refine wg_callVv (As := [.int x2, .int x3]) (rest := []) X (c_X4_become l E ad S hS N C M (44 + 2 * x1.toNatClampNeg) x2 x3 ((SCs hS (inb_lt z8)).2) h9) T_yX4_become k_753 cl4 ((SCs hS (inb_lt z8)).2.1) dX8_sheet_64 rfl rfl (Nat.le_of_ble_eq_true rfl) ⟨Nat.le_of_ble_eq_true rfl, Nat.le_of_ble_eq_true rfl⟩ ⟨Nat.zero_le _, Nat.zero_le _⟩ ?_
        refine wg_iconst (v := 1) X dX8_sheet_67 (by decide) ?_
        exact wg_iret X ⟨congrArg Prod.fst (sm_inj h), congrArg Prod.snd (sm_inj h), rfl⟩ hr dX8_sheet_68
      · have h := if_f c7 h
        refine wg_bipush (v := -14) X dX8_sheet_53 (by decide) ?_
        exact wg_iret X ⟨congrArg Prod.fst (sm_inj h), congrArg Prod.snd (sm_inj h), rfl⟩ hr dX8_sheet_55
    · have h := if_f c6 h
      refine wg_bipush (v := -2) X dX8_sheet_46 (by decide) ?_
      exact wg_iret X ⟨congrArg Prod.fst (sm_inj h), congrArg Prod.snd (sm_inj h), rfl⟩ hr dX8_sheet_48
  · have h := if_t c5 h
    refine wg_aload_n X 0 dX8_sheet_27 rfl rfl ?_
    refine wg_getR (b := 39) X cl8 (SCi hS 0 8 rfl) 7 (by decide) dX8_sheet_28 k_479 rfl (SCr hS 0 7 39 rfl) ?_
    refine wg_iload_n X 1 dX8_sheet_31 rfl rfl ?_
    obtain ⟨z11, h⟩ := ck_some h
    refine wg_aalS14 (b := 44 + 2 * x1.toNatClampNeg) X (SCi hS 39 14 rfl) (SCl hS 39 4 rfl) z11 (SCs hS (inb_lt z11)).1 dX8_sheet_32 ?_
    refine wg_iconst (v := -1) X dX8_sheet_33 (by decide) ?_
    refine wg_iconst (v := 0) X dX8_sheet_34 (by decide) ?_
    obtain ⟨C13, h12, h⟩ := bd_some h
    refine wg_callVv (As := [.int (-1 : Int32), .int (0 : Int32)]) (rest := []) X (c_X4_become l E ad S hS N C M (44 + 2 * x1.toNatClampNeg) (-1 : Int32) (0 : Int32) ((SCs hS (inb_lt z11)).2) h12) T_yX4_become k_753 cl4 ((SCs hS (inb_lt z11)).2.1) dX8_sheet_35 rfl rfl (Nat.le_of_ble_eq_true rfl) ⟨Nat.le_of_ble_eq_true rfl, Nat.le_of_ble_eq_true rfl⟩ ⟨Nat.zero_le _, Nat.zero_le _⟩ ?_
    refine wg_iconst (v := 1) X dX8_sheet_38 (by decide) ?_
    exact wg_iret X ⟨congrArg Prod.fst (sm_inj h), congrArg Prod.snd (sm_inj h), rfl⟩ hr dX8_sheet_39
set_option maxHeartbeats 4000000 in
set_option maxRecDepth 100000 in
theorem c_X8_sheet (l : Launch) (E : wg_Ev) (ad : Nat → Nat) (S : wg_Sh) (hS : wg_SC S) (N : Nat) (C : wg_C) (M : wg_M) (p1 : Int32) (p2 : Int32) (p3 : Int32)  {r0 : Int32} {D0 : wg_C} (h : f_X8_sheet N C p1 p2 p3 = some (r0, D0)) : wg_Ci l yX8_sheet cX8_sheet 4 (some .int) 2 45 E ad S C M [.ref (ad 0), .int p1, .int p2, .int p3] r0 D0 M := by
  refine wg_start (own := RX8) (by decide +kernel) rfl (Nat.le_of_ble_eq_true rfl) ?_
  intro p e s m below meth c X hr hnm
  refine wg_lv (lv' := [(0, .ref (ad 0)), (1, .int p1), (2, .int p2), (3, .int p3)]) rfl ?_
  unfold f_X8_sheet at h
  refine wg_iload_n X 1 dX8_sheet_0 rfl rfl ?_
  obtain ⟨r2, h1, h⟩ := bd_some h
  refine wg_callSi (As := [.int p1]) (rest := []) X (c_X8_isSheet l E ad S C M p1  h1) T_yX8_isSheet k_711 dX8_sheet_1 rfl rfl (Nat.le_of_ble_eq_true rfl) ⟨Nat.le_of_ble_eq_true rfl, Nat.le_of_ble_eq_true rfl⟩ ⟨Nat.zero_le _, Nat.zero_le _⟩ ?_
  refine wg_if_eq X 19 dX8_sheet_4 (by decide) (fun c3 => ?_) (fun c3 => ?_)
  · have h := if_t c3 h
    refine wg_bipush (v := -2) X dX8_sheet_19 (by decide) ?_
    exact wg_iret X ⟨congrArg Prod.fst (sm_inj h), congrArg Prod.snd (sm_inj h), rfl⟩ hr dX8_sheet_21
  · have h := if_f c3 h
    refine wg_iload_n X 2 dX8_sheet_7 rfl rfl ?_
    refine wg_iconst (v := -1) X dX8_sheet_8 (by decide) ?_
    refine wg_icmp_eq X 22 dX8_sheet_9 (by decide) (fun c4 => ?_) (fun c4 => ?_)
    · have h := if_t c4 h
      exact J_X8_sheet_j22 X hr hS r0 D0 M N  C  p1 p2 p3   h
    · have h := if_f c4 h
      refine wg_iload_n X 2 dX8_sheet_12 rfl rfl ?_
      obtain ⟨r15, h14, h⟩ := bd_some h
      refine wg_callSi (As := [.int p2]) (rest := []) X (c_X8_isRowSort l E ad S C M p2  h14) T_yX8_isRowSort k_839 dX8_sheet_13 rfl rfl (Nat.le_of_ble_eq_true rfl) ⟨Nat.le_of_ble_eq_true rfl, Nat.le_of_ble_eq_true rfl⟩ ⟨Nat.zero_le _, Nat.zero_le _⟩ ?_
      refine wg_if_ne X 22 dX8_sheet_16 (by decide) (fun c16 => ?_) (fun c16 => ?_)
      · have h := if_f c16 h
        exact J_X8_sheet_j22 X hr hS r0 D0 M N  C  p1 p2 p3   h
      · have h := if_t c16 h
        refine wg_bipush (v := -2) X dX8_sheet_19 (by decide) ?_
        exact wg_iret X ⟨congrArg Prod.fst (sm_inj h), congrArg Prod.snd (sm_inj h), rfl⟩ hr dX8_sheet_21
-- WindowsGive$Sheet.has(I)Z ('SH', 'i')
def f_X4_has (C : wg_C) (p0 : Nat) (p1 : Int32) : Option Int32 :=
  if p1 < 0 then (
    some (0 : Int32))
  else (
    if (C p0 2) ≤ p1 then (
      some (0 : Int32))
    else (
      some (1 : Int32)))
set_option maxHeartbeats 4000000 in
set_option maxRecDepth 100000 in
theorem c_X4_has (l : Launch) (E : wg_Ev) (ad : Nat → Nat) (S : wg_Sh) (hS : wg_SC S) (C : wg_C) (M : wg_M) (p0 : Nat) (p1 : Int32) (hp0 : wg_Sht S p0) {r0 : Int32} (h : f_X4_has C p0 p1 = some r0) : wg_Ci l yX4_has cX4_has 2 (some .boolean) 0 0 E ad S C M [.ref (ad p0), .int p1] r0 C M := by
  refine wg_start (own := RX4) (by decide +kernel) rfl (Nat.le_of_ble_eq_true rfl) ?_
  intro p e s m below meth c X hr hnm
  refine wg_lv (lv' := [(0, .ref (ad p0)), (1, .int p1)]) rfl ?_
  unfold f_X4_has at h
  refine wg_iload_n X 1 dX4_has_0 rfl rfl ?_
  refine wg_if_lt X 16 dX4_has_1 (by decide) (fun c1 => ?_) (fun c1 => ?_)
  · have h := if_t c1 h
    refine wg_iconst (v := 0) X dX4_has_16 (by decide) ?_
    exact wg_zret X ⟨(sm_inj h), rfl, rfl⟩ hr (by decide) dX4_has_17
  · have h := if_f c1 h
    refine wg_iload_n X 1 dX4_has_4 rfl rfl ?_
    refine wg_aload_n X 0 dX4_has_5 rfl rfl ?_
    refine wg_getC X cl4 hp0.1 2 (by decide) dX4_has_6 k_273 rfl ?_
    refine wg_icmp_ge X 16 dX4_has_9 (by decide) (fun c2 => ?_) (fun c2 => ?_)
    · have h := if_t c2 h
      refine wg_iconst (v := 0) X dX4_has_16 (by decide) ?_
      exact wg_zret X ⟨(sm_inj h), rfl, rfl⟩ hr (by decide) dX4_has_17
    · have h := if_f c2 h
      refine wg_iconst (v := 1) X dX4_has_12 (by decide) ?_
      refine wg_goto X 17 dX4_has_13 (by decide) ?_
      exact wg_zret X ⟨(sm_inj h), rfl, rfl⟩ hr (by decide) dX4_has_17
-- WindowsGive.cell(III)I (('c', 0), 'i', 'i', 'i')
def f_X8_cell (C : wg_C) (p1 : Int32) (p2 : Int32) (p3 : Int32) : Option (Int32 × wg_C) :=
  bd (f_X8_isSheet p1) fun r2 =>
  if r2 = 0 then (
    some ((-2 : Int32), C))
  else (
    ck (inb p1 4) <|
    bd (f_X4_isMissing C (44 + 2 * p1.toNatClampNeg)) fun r6 =>
    if r6 = 0 then (
      bd (f_X4_has C (44 + 2 * p1.toNatClampNeg) p2) fun r9 =>
      if r9 = 0 then (
        some ((-12 : Int32), C))
      else (
        bd (f_X4_put C (44 + 2 * p1.toNatClampNeg) p2 p3) fun C12 =>
        some ((1 : Int32), C12)))
    else (
      some ((-11 : Int32), C)))
set_option maxHeartbeats 4000000 in
set_option maxRecDepth 100000 in
theorem c_X8_cell (l : Launch) (E : wg_Ev) (ad : Nat → Nat) (S : wg_Sh) (hS : wg_SC S) (C : wg_C) (M : wg_M) (p1 : Int32) (p2 : Int32) (p3 : Int32)  {r0 : Int32} {D0 : wg_C} (h : f_X8_cell C p1 p2 p3 = some (r0, D0)) : wg_Ci l yX8_cell cX8_cell 5 (some .int) 1 22 E ad S C M [.ref (ad 0), .int p1, .int p2, .int p3] r0 D0 M := by
  refine wg_start (own := RX8) (by decide +kernel) rfl (Nat.le_of_ble_eq_true rfl) ?_
  intro p e s m below meth c X hr hnm
  refine wg_lv (lv' := [(0, .ref (ad 0)), (1, .int p1), (2, .int p2), (3, .int p3)]) rfl ?_
  unfold f_X8_cell at h
  refine wg_iload_n X 1 dX8_cell_0 rfl rfl ?_
  obtain ⟨r2, h1, h⟩ := bd_some h
  refine wg_callSi (As := [.int p1]) (rest := []) X (c_X8_isSheet l E ad S C M p1  h1) T_yX8_isSheet k_711 dX8_cell_1 rfl rfl (Nat.le_of_ble_eq_true rfl) ⟨Nat.le_of_ble_eq_true rfl, Nat.le_of_ble_eq_true rfl⟩ ⟨Nat.zero_le _, Nat.zero_le _⟩ ?_
  refine wg_if_ne X 10 dX8_cell_4 (by decide) (fun c3 => ?_) (fun c3 => ?_)
  · have h := if_f c3 h
    refine wg_aload_n X 0 dX8_cell_10 rfl rfl ?_
    refine wg_getR (b := 39) X cl8 (SCi hS 0 8 rfl) 7 (by decide) dX8_cell_11 k_479 rfl (SCr hS 0 7 39 rfl) ?_
    refine wg_iload_n X 1 dX8_cell_14 rfl rfl ?_
    obtain ⟨z4, h⟩ := ck_some h
    refine wg_aalS14 (b := 44 + 2 * p1.toNatClampNeg) X (SCi hS 39 14 rfl) (SCl hS 39 4 rfl) z4 (SCs hS (inb_lt z4)).1 dX8_cell_15 ?_
    refine wg_astore (lv' := [(4, .ref (ad (44 + 2 * p1.toNatClampNeg))), (0, .ref (ad 0)), (1, .int p1), (2, .int p2), (3, .int p3)]) X dX8_cell_16 rfl (by decide) rfl ?_
    refine wg_aload X 0 dX8_cell_18 rfl ?_
    obtain ⟨r6, h5, h⟩ := bd_some h
    refine wg_callVi (As := []) (rest := []) X (c_X4_isMissing l E ad S hS C M (44 + 2 * p1.toNatClampNeg) ((SCs hS (inb_lt z4)).2) h5) T_yX4_isMissing k_714 cl4 ((SCs hS (inb_lt z4)).2.1) dX8_cell_20 rfl rfl (Nat.le_of_ble_eq_true rfl) ⟨Nat.le_of_ble_eq_true rfl, Nat.le_of_ble_eq_true rfl⟩ ⟨Nat.zero_le _, Nat.zero_le _⟩ ?_
    refine wg_if_eq X 29 dX8_cell_23 (by decide) (fun c7 => ?_) (fun c7 => ?_)
    · have h := if_t c7 h
      refine wg_aload X 0 dX8_cell_29 rfl ?_
      refine wg_iload_n X 3 dX8_cell_31 rfl rfl ?_
      obtain ⟨r9, h8, h⟩ := bd_some h
      refine wg_callVi (As := [.int p2]) (rest := []) X (c_X4_has l E ad S hS C M (44 + 2 * p1.toNatClampNeg) p2 ((SCs hS (inb_lt z4)).2) h8) T_yX4_has k_846 cl4 ((SCs hS (inb_lt z4)).2.1) dX8_cell_32 rfl rfl (Nat.le_of_ble_eq_true rfl) ⟨Nat.le_of_ble_eq_true rfl, Nat.le_of_ble_eq_true rfl⟩ ⟨Nat.zero_le _, Nat.zero_le _⟩ ?_
      refine wg_if_ne X 41 dX8_cell_35 (by decide) (fun c10 => ?_) (fun c10 => ?_)
      · have h := if_f c10 h
        refine wg_aload X 0 dX8_cell_41 rfl ?_
        refine wg_iload_n X 3 dX8_cell_43 rfl rfl ?_
        refine wg_iload_n X 4 dX8_cell_44 rfl rfl ?_
        obtain ⟨C12, h11, h⟩ := bd_some h
        refine wg_callVv (As := [.int p2, .int p3]) (rest := []) X (c_X4_put l E ad S hS C M (44 + 2 * p1.toNatClampNeg) p2 p3 ((SCs hS (inb_lt z4)).2) h11) T_yX4_put k_758 cl4 ((SCs hS (inb_lt z4)).2.1) dX8_cell_45 rfl rfl (Nat.le_of_ble_eq_true rfl) ⟨Nat.le_of_ble_eq_true rfl, Nat.le_of_ble_eq_true rfl⟩ ⟨Nat.zero_le _, Nat.zero_le _⟩ ?_
        refine wg_iconst (v := 1) X dX8_cell_48 (by decide) ?_
        exact wg_iret X ⟨congrArg Prod.fst (sm_inj h), congrArg Prod.snd (sm_inj h), rfl⟩ hr dX8_cell_49
      · have h := if_t c10 h
        refine wg_bipush (v := -12) X dX8_cell_38 (by decide) ?_
        exact wg_iret X ⟨congrArg Prod.fst (sm_inj h), congrArg Prod.snd (sm_inj h), rfl⟩ hr dX8_cell_40
    · have h := if_f c7 h
      refine wg_bipush (v := -11) X dX8_cell_26 (by decide) ?_
      exact wg_iret X ⟨congrArg Prod.fst (sm_inj h), congrArg Prod.snd (sm_inj h), rfl⟩ hr dX8_cell_28
  · have h := if_t c3 h
    refine wg_bipush (v := -2) X dX8_cell_7 (by decide) ?_
    exact wg_iret X ⟨congrArg Prod.fst (sm_inj h), congrArg Prod.snd (sm_inj h), rfl⟩ hr dX8_cell_9
-- WindowsGive$Sheet.hasRun(II)Z ('SH', 'i', 'i')
def f_X4_hasRun (C : wg_C) (p0 : Nat) (p1 : Int32) (p2 : Int32) : Option Int32 :=
  if p1 < 0 then (
    some (0 : Int32))
  else (
    if p2 < 0 then (
      some (0 : Int32))
    else (
      if (C p0 2) < p1 then (
        some (0 : Int32))
      else (
        if ((C p0 2) - p1) < p2 then (
          some (0 : Int32))
        else (
          some (1 : Int32)))))
set_option maxHeartbeats 4000000 in
set_option maxRecDepth 100000 in
theorem c_X4_hasRun (l : Launch) (E : wg_Ev) (ad : Nat → Nat) (S : wg_Sh) (hS : wg_SC S) (C : wg_C) (M : wg_M) (p0 : Nat) (p1 : Int32) (p2 : Int32) (hp0 : wg_Sht S p0) {r0 : Int32} (h : f_X4_hasRun C p0 p1 p2 = some r0) : wg_Ci l yX4_hasRun cX4_hasRun 3 (some .boolean) 0 0 E ad S C M [.ref (ad p0), .int p1, .int p2] r0 C M := by
  refine wg_start (own := RX4) (by decide +kernel) rfl (Nat.le_of_ble_eq_true rfl) ?_
  intro p e s m below meth c X hr hnm
  refine wg_lv (lv' := [(0, .ref (ad p0)), (1, .int p1), (2, .int p2)]) rfl ?_
  unfold f_X4_hasRun at h
  refine wg_iload_n X 1 dX4_hasRun_0 rfl rfl ?_
  refine wg_if_lt X 30 dX4_hasRun_1 (by decide) (fun c1 => ?_) (fun c1 => ?_)
  · have h := if_t c1 h
    refine wg_iconst (v := 0) X dX4_hasRun_30 (by decide) ?_
    exact wg_zret X ⟨(sm_inj h), rfl, rfl⟩ hr (by decide) dX4_hasRun_31
  · have h := if_f c1 h
    refine wg_iload_n X 2 dX4_hasRun_4 rfl rfl ?_
    refine wg_if_lt X 30 dX4_hasRun_5 (by decide) (fun c2 => ?_) (fun c2 => ?_)
    · have h := if_t c2 h
      refine wg_iconst (v := 0) X dX4_hasRun_30 (by decide) ?_
      exact wg_zret X ⟨(sm_inj h), rfl, rfl⟩ hr (by decide) dX4_hasRun_31
    · have h := if_f c2 h
      refine wg_iload_n X 1 dX4_hasRun_8 rfl rfl ?_
      refine wg_aload_n X 0 dX4_hasRun_9 rfl rfl ?_
      refine wg_getC X cl4 hp0.1 2 (by decide) dX4_hasRun_10 k_273 rfl ?_
      refine wg_icmp_gt X 30 dX4_hasRun_13 (by decide) (fun c3 => ?_) (fun c3 => ?_)
      · have h := if_t c3 h
        refine wg_iconst (v := 0) X dX4_hasRun_30 (by decide) ?_
        exact wg_zret X ⟨(sm_inj h), rfl, rfl⟩ hr (by decide) dX4_hasRun_31
      · have h := if_f c3 h
        refine wg_iload_n X 2 dX4_hasRun_16 rfl rfl ?_
        refine wg_aload_n X 0 dX4_hasRun_17 rfl rfl ?_
        refine wg_getC X cl4 hp0.1 2 (by decide) dX4_hasRun_18 k_273 rfl ?_
        refine wg_iload_n X 1 dX4_hasRun_21 rfl rfl ?_
        refine wg_isub X dX4_hasRun_22 ?_
        refine wg_icmp_gt X 30 dX4_hasRun_23 (by decide) (fun c4 => ?_) (fun c4 => ?_)
        · have h := if_t c4 h
          refine wg_iconst (v := 0) X dX4_hasRun_30 (by decide) ?_
          exact wg_zret X ⟨(sm_inj h), rfl, rfl⟩ hr (by decide) dX4_hasRun_31
        · have h := if_f c4 h
          refine wg_iconst (v := 1) X dX4_hasRun_26 (by decide) ?_
          refine wg_goto X 31 dX4_hasRun_27 (by decide) ?_
          exact wg_zret X ⟨(sm_inj h), rfl, rfl⟩ hr (by decide) dX4_hasRun_31
-- WindowsGive.copy(IIIII)I (('c', 0), 'i', 'i', 'i', 'i', 'i')
def f_X8_copy (C : wg_C) (p1 : Int32) (p2 : Int32) (p3 : Int32) (p4 : Int32) (p5 : Int32) : Option (Int32 × wg_C) :=
  bd (f_X8_isSheet p1) fun r2 =>
  if r2 = 0 then (
    some ((-2 : Int32), C))
  else (
    bd (f_X8_isSheet p3) fun r5 =>
    if r5 = 0 then (
      some ((-2 : Int32), C))
    else (
      ck (inb p1 4) <|
      ck (inb p3 4) <|
      bd (f_X4_isMissing C (44 + 2 * p1.toNatClampNeg)) fun r10 =>
      if r10 = 0 then (
        bd (f_X4_isMissing C (44 + 2 * p3.toNatClampNeg)) fun r13 =>
        if r13 = 0 then (
          if (C (44 + 2 * p1.toNatClampNeg) 1) = (C (44 + 2 * p3.toNatClampNeg) 1) then (
            bd (f_X4_hasRun C (44 + 2 * p1.toNatClampNeg) p2 p5) fun r17 =>
            if r17 = 0 then (
              some ((-12 : Int32), C))
            else (
              bd (f_X4_hasRun C (44 + 2 * p3.toNatClampNeg) p4 p5) fun r20 =>
              if r20 = 0 then (
                some ((-12 : Int32), C))
              else (
                ck (¬ p2 < 0 ∧ ¬ p4 < 0 ∧ ¬ p5 < 0 ∧ p2.toNatClampNeg + p5.toNatClampNeg ≤ 40 ∧ p4.toNatClampNeg + p5.toNatClampNeg ≤ 40) <|
                lt_ (wg_cp C (44 + 2 * p1.toNatClampNeg + 1) (44 + 2 * p3.toNatClampNeg + 1) p2.toNatClampNeg p4.toNatClampNeg p5.toNatClampNeg) fun C23 =>
                some (p5, C23))))
          else (
            some ((-13 : Int32), C)))
        else (
          some ((-11 : Int32), C)))
      else (
        some ((-11 : Int32), C))))
set_option maxHeartbeats 4000000 in
set_option maxRecDepth 100000 in
theorem c_X8_copy (l : Launch) (E : wg_Ev) (ad : Nat → Nat) (S : wg_Sh) (hS : wg_SC S) (C : wg_C) (M : wg_M) (p1 : Int32) (p2 : Int32) (p3 : Int32) (p4 : Int32) (p5 : Int32)  {r0 : Int32} {D0 : wg_C} (h : f_X8_copy C p1 p2 p3 p4 p5 = some (r0, D0)) : wg_Ci l yX8_copy cX8_copy 8 (some .int) 1 22 E ad S C M [.ref (ad 0), .int p1, .int p2, .int p3, .int p4, .int p5] r0 D0 M := by
  refine wg_start (own := RX8) (by decide +kernel) rfl (Nat.le_of_ble_eq_true rfl) ?_
  intro p e s m below meth c X hr hnm
  refine wg_lv (lv' := [(0, .ref (ad 0)), (1, .int p1), (2, .int p2), (3, .int p3), (4, .int p4), (5, .int p5)]) rfl ?_
  unfold f_X8_copy at h
  refine wg_iload_n X 1 dX8_copy_0 rfl rfl ?_
  obtain ⟨r2, h1, h⟩ := bd_some h
  refine wg_callSi (As := [.int p1]) (rest := []) X (c_X8_isSheet l E ad S C M p1  h1) T_yX8_isSheet k_711 dX8_copy_1 rfl rfl (Nat.le_of_ble_eq_true rfl) ⟨Nat.le_of_ble_eq_true rfl, Nat.le_of_ble_eq_true rfl⟩ ⟨Nat.zero_le _, Nat.zero_le _⟩ ?_
  refine wg_if_eq X 14 dX8_copy_4 (by decide) (fun c3 => ?_) (fun c3 => ?_)
  · have h := if_t c3 h
    refine wg_bipush (v := -2) X dX8_copy_14 (by decide) ?_
    exact wg_iret X ⟨congrArg Prod.fst (sm_inj h), congrArg Prod.snd (sm_inj h), rfl⟩ hr dX8_copy_16
  · have h := if_f c3 h
    refine wg_iload_n X 3 dX8_copy_7 rfl rfl ?_
    obtain ⟨r5, h4, h⟩ := bd_some h
    refine wg_callSi (As := [.int p3]) (rest := []) X (c_X8_isSheet l E ad S C M p3  h4) T_yX8_isSheet k_711 dX8_copy_8 rfl rfl (Nat.le_of_ble_eq_true rfl) ⟨Nat.le_of_ble_eq_true rfl, Nat.le_of_ble_eq_true rfl⟩ ⟨Nat.zero_le _, Nat.zero_le _⟩ ?_
    refine wg_if_ne X 17 dX8_copy_11 (by decide) (fun c6 => ?_) (fun c6 => ?_)
    · have h := if_f c6 h
      refine wg_aload_n X 0 dX8_copy_17 rfl rfl ?_
      refine wg_getR (b := 39) X cl8 (SCi hS 0 8 rfl) 7 (by decide) dX8_copy_18 k_479 rfl (SCr hS 0 7 39 rfl) ?_
      refine wg_iload_n X 1 dX8_copy_21 rfl rfl ?_
      obtain ⟨z7, h⟩ := ck_some h
      refine wg_aalS14 (b := 44 + 2 * p1.toNatClampNeg) X (SCi hS 39 14 rfl) (SCl hS 39 4 rfl) z7 (SCs hS (inb_lt z7)).1 dX8_copy_22 ?_
      refine wg_astore (lv' := [(6, .ref (ad (44 + 2 * p1.toNatClampNeg))), (0, .ref (ad 0)), (1, .int p1), (2, .int p2), (3, .int p3), (4, .int p4), (5, .int p5)]) X dX8_copy_23 rfl (by decide) rfl ?_
      refine wg_aload_n X 1 dX8_copy_25 rfl rfl ?_
      refine wg_getR (b := 39) X cl8 (SCi hS 0 8 rfl) 7 (by decide) dX8_copy_26 k_479 rfl (SCr hS 0 7 39 rfl) ?_
      refine wg_iload_n X 4 dX8_copy_29 rfl rfl ?_
      obtain ⟨z8, h⟩ := ck_some h
      refine wg_aalS14 (b := 44 + 2 * p3.toNatClampNeg) X (SCi hS 39 14 rfl) (SCl hS 39 4 rfl) z8 (SCs hS (inb_lt z8)).1 dX8_copy_30 ?_
      refine wg_astore (lv' := [(7, .ref (ad (44 + 2 * p3.toNatClampNeg))), (6, .ref (ad (44 + 2 * p1.toNatClampNeg))), (0, .ref (ad 0)), (1, .int p1), (2, .int p2), (3, .int p3), (4, .int p4), (5, .int p5)]) X dX8_copy_31 rfl (by decide) rfl ?_
      refine wg_aload X 1 dX8_copy_33 rfl ?_
      obtain ⟨r10, h9, h⟩ := bd_some h
      refine wg_callVi (As := []) (rest := []) X (c_X4_isMissing l E ad S hS C M (44 + 2 * p1.toNatClampNeg) ((SCs hS (inb_lt z7)).2) h9) T_yX4_isMissing k_714 cl4 ((SCs hS (inb_lt z7)).2.1) dX8_copy_35 rfl rfl (Nat.le_of_ble_eq_true rfl) ⟨Nat.le_of_ble_eq_true rfl, Nat.le_of_ble_eq_true rfl⟩ ⟨Nat.zero_le _, Nat.zero_le _⟩ ?_
      refine wg_if_ne X 49 dX8_copy_38 (by decide) (fun c11 => ?_) (fun c11 => ?_)
      · have h := if_f c11 h
        refine wg_bipush (v := -11) X dX8_copy_49 (by decide) ?_
        exact wg_iret X ⟨congrArg Prod.fst (sm_inj h), congrArg Prod.snd (sm_inj h), rfl⟩ hr dX8_copy_51
      · have h := if_t c11 h
        refine wg_aload X 0 dX8_copy_41 rfl ?_
        obtain ⟨r13, h12, h⟩ := bd_some h
        refine wg_callVi (As := []) (rest := []) X (c_X4_isMissing l E ad S hS C M (44 + 2 * p3.toNatClampNeg) ((SCs hS (inb_lt z8)).2) h12) T_yX4_isMissing k_714 cl4 ((SCs hS (inb_lt z8)).2.1) dX8_copy_43 rfl rfl (Nat.le_of_ble_eq_true rfl) ⟨Nat.le_of_ble_eq_true rfl, Nat.le_of_ble_eq_true rfl⟩ ⟨Nat.zero_le _, Nat.zero_le _⟩ ?_
        refine wg_if_eq X 52 dX8_copy_46 (by decide) (fun c14 => ?_) (fun c14 => ?_)
        · have h := if_t c14 h
          refine wg_aload X 1 dX8_copy_52 rfl ?_
          refine wg_getC X cl4 (SCs hS (inb_lt z7)).2.1 1 (by decide) dX8_copy_54 k_272 rfl ?_
          refine wg_aload X 0 dX8_copy_57 rfl ?_
          refine wg_getC X cl4 (SCs hS (inb_lt z8)).2.1 1 (by decide) dX8_copy_59 k_272 rfl ?_
          refine wg_icmp_eq X 68 dX8_copy_62 (by decide) (fun c15 => ?_) (fun c15 => ?_)
          · have h := if_t c15 h
            refine wg_aload X 1 dX8_copy_68 rfl ?_
            refine wg_iload_n X 4 dX8_copy_70 rfl rfl ?_
            refine wg_iload X 7 dX8_copy_71 rfl ?_
            obtain ⟨r17, h16, h⟩ := bd_some h
            refine wg_callVi (As := [.int p2, .int p5]) (rest := []) X (c_X4_hasRun l E ad S hS C M (44 + 2 * p1.toNatClampNeg) p2 p5 ((SCs hS (inb_lt z7)).2) h16) T_yX4_hasRun k_854 cl4 ((SCs hS (inb_lt z7)).2.1) dX8_copy_73 rfl rfl (Nat.le_of_ble_eq_true rfl) ⟨Nat.le_of_ble_eq_true rfl, Nat.le_of_ble_eq_true rfl⟩ ⟨Nat.zero_le _, Nat.zero_le _⟩ ?_
            refine wg_if_eq X 91 dX8_copy_76 (by decide) (fun c18 => ?_) (fun c18 => ?_)
            · have h := if_t c18 h
              refine wg_bipush (v := -12) X dX8_copy_91 (by decide) ?_
              exact wg_iret X ⟨congrArg Prod.fst (sm_inj h), congrArg Prod.snd (sm_inj h), rfl⟩ hr dX8_copy_93
            · have h := if_f c18 h
              refine wg_aload X 0 dX8_copy_79 rfl ?_
              refine wg_iload X 6 dX8_copy_81 rfl ?_
              refine wg_iload X 7 dX8_copy_83 rfl ?_
              obtain ⟨r20, h19, h⟩ := bd_some h
              refine wg_callVi (As := [.int p4, .int p5]) (rest := []) X (c_X4_hasRun l E ad S hS C M (44 + 2 * p3.toNatClampNeg) p4 p5 ((SCs hS (inb_lt z8)).2) h19) T_yX4_hasRun k_854 cl4 ((SCs hS (inb_lt z8)).2.1) dX8_copy_85 rfl rfl (Nat.le_of_ble_eq_true rfl) ⟨Nat.le_of_ble_eq_true rfl, Nat.le_of_ble_eq_true rfl⟩ ⟨Nat.zero_le _, Nat.zero_le _⟩ ?_
              refine wg_if_ne X 94 dX8_copy_88 (by decide) (fun c21 => ?_) (fun c21 => ?_)
              · have h := if_f c21 h
                refine wg_aload X 1 dX8_copy_94 rfl ?_
                refine wg_getR (b := (44 + 2 * p1.toNatClampNeg + 1)) X cl4 (SCs hS (inb_lt z7)).2.1 0 (by decide) dX8_copy_96 k_270 rfl (SCs hS (inb_lt z7)).2.2.1 ?_
                refine wg_iload_n X 4 dX8_copy_99 rfl rfl ?_
                refine wg_aload X 0 dX8_copy_100 rfl ?_
                refine wg_getR (b := (44 + 2 * p3.toNatClampNeg + 1)) X cl4 (SCs hS (inb_lt z8)).2.1 0 (by decide) dX8_copy_102 k_270 rfl (SCs hS (inb_lt z8)).2.2.1 ?_
                refine wg_iload X 6 dX8_copy_105 rfl ?_
                refine wg_iload X 7 dX8_copy_107 rfl ?_
                obtain ⟨z22, h⟩ := ck_some h
                obtain ⟨C23, e24, h⟩ := lt_some h
                refine wg_acopy X (SCs hS (inb_lt z7)).2.2.2.1 (SCs hS (inb_lt z7)).2.2.2.2 (SCs hS (inb_lt z8)).2.2.2.1 (SCs hS (inb_lt z8)).2.2.2.2 k_858 z22.1 z22.2.1 z22.2.2.1 z22.2.2.2.1 z22.2.2.2.2 ⟨Nat.le_of_ble_eq_true rfl, Nat.le_of_ble_eq_true rfl⟩ dX8_copy_109 e24 ?_
                refine wg_iload X 7 dX8_copy_112 rfl ?_
                exact wg_iret X ⟨congrArg Prod.fst (sm_inj h), congrArg Prod.snd (sm_inj h), rfl⟩ hr dX8_copy_114
              · have h := if_t c21 h
                refine wg_bipush (v := -12) X dX8_copy_91 (by decide) ?_
                exact wg_iret X ⟨congrArg Prod.fst (sm_inj h), congrArg Prod.snd (sm_inj h), rfl⟩ hr dX8_copy_93
          · have h := if_f c15 h
            refine wg_bipush (v := -13) X dX8_copy_65 (by decide) ?_
            exact wg_iret X ⟨congrArg Prod.fst (sm_inj h), congrArg Prod.snd (sm_inj h), rfl⟩ hr dX8_copy_67
        · have h := if_f c14 h
          refine wg_bipush (v := -11) X dX8_copy_49 (by decide) ?_
          exact wg_iret X ⟨congrArg Prod.fst (sm_inj h), congrArg Prod.snd (sm_inj h), rfl⟩ hr dX8_copy_51
    · have h := if_t c6 h
      refine wg_bipush (v := -2) X dX8_copy_14 (by decide) ?_
      exact wg_iret X ⟨congrArg Prod.fst (sm_inj h), congrArg Prod.snd (sm_inj h), rfl⟩ hr dX8_copy_16
-- WindowsGive.weathers(IIII)I (('c', 0), 'i', 'i', 'i', 'i')
def f_X8_weathers_l74 (N : Nat)  (x3 : Int32) (x4 : Int32) (x5 : Nat) (C : wg_C) (x6 : Int32) (x7 : Int32) : Option ((wg_C × Int32 × Int32) ⊕ ((wg_C × Int32 × Int32) ⊕ (Int32 × wg_C))) :=
  if x4 ≤ x7 then (
    some (.inr (.inl (C, x6, x7))))
  else (
    lt_ (x3 + ((2 : Int32) * x7)) fun v17 =>
    bd (f_X4_has C x5 v17) fun r20 =>
    if r20 = 0 then (
      some (.inr (.inr ((-12 : Int32), C))))
    else (
      bd (f_X4_has C x5 (v17 + (1 : Int32))) fun r23 =>
      if r23 = 0 then (
        some (.inr (.inr ((-12 : Int32), C))))
      else (
        ck (inb v17 40) <|
        ck (inb (v17 + (1 : Int32)) 40) <|
        bd2 (f_X8_set C (0 : Int32) (C (x5 + 1) v17.toNatClampNeg) (C (x5 + 1) (v17 + (1 : Int32)).toNatClampNeg)) fun r28 C29 =>
        if r28 = (-100 : Int32) then (
          lt_ (x7 + (1 : Int32)) fun v31 =>
          some (.inl (C29, x6, v31)))
        else (
          lt_ (x6 + (1 : Int32)) fun v33 =>
          lt_ (x7 + (1 : Int32)) fun v35 =>
          some (.inl (C29, v33, v35))))))
def f_X8_weathers_j57 (N : Nat) (C : wg_C)  (x3 : Int32) (x4 : Int32) (x5 : Nat) : Option (Int32 × wg_C) :=
  bd (f_X4_isMissing C x5) fun r14 =>
  if r14 = 0 then (
    bs3 (lp (fun o => f_X8_weathers_l74 N  x3 x4 x5 o.1 o.2.1 o.2.2) N (C, (0 : Int32), (0 : Int32))) (fun C37 v38 v39 =>
      some (v38, C37))
      (fun q42 => some q42))
  else (
    some ((-11 : Int32), C))
def f_X8_weathers (N : Nat) (C : wg_C) (p1 : Int32) (p2 : Int32) (p3 : Int32) (p4 : Int32) : Option (Int32 × wg_C) :=
  bd (f_X8_isSheet p1) fun r2 =>
  if r2 = 0 then (
    some ((-2 : Int32), C))
  else (
    bd (f_X8_isRowSort p2) fun r5 =>
    if r5 = 0 then (
      some ((-2 : Int32), C))
    else (
      if p4 < 0 then (
        some ((-2 : Int32), C))
      else (
        if p4 ≤ (20 : Int32) then (
          ck (inb p1 4) <|
          bd (f_X4_isMissing C (44 + 2 * p1.toNatClampNeg)) fun r11 =>
          if r11 = 0 then (
            if (C (44 + 2 * p1.toNatClampNeg) 1) = p2 then (
              f_X8_weathers_j57 N C  p3 p4 (44 + 2 * p1.toNatClampNeg))
            else (
              some ((-13 : Int32), C)))
          else (
            f_X8_weathers_j57 N C  p3 p4 (44 + 2 * p1.toNatClampNeg)))
        else (
          some ((-2 : Int32), C)))))
abbrev G_X8_weathers (p : Program) (l : Launch) (e : Env) (s : State) (m : MethodId) (args : Array Value) (below : List Frame) (meth : Method) (c : Code) (E : wg_Ev) (ad : Nat → Nat) (S : wg_Sh) (r0 : Int32) (C0 : wg_C) (M0 : wg_M) (pc : Nat) (C : wg_C) (M : wg_M) (lv : List (Nat × Value)) (st : List Value) : Prop := wg_G p l e (wg_Rm 4 87) s m args below meth c (MQ below (wg_Qi E ad S r0 C0 M0) args s 0 0 (wg_A E)) 9 E ad S 0 0 pc C M lv st
set_option maxHeartbeats 4000000 in
set_option maxRecDepth 100000 in
theorem L_X8_weathers_l74 {p : Program} {l : Launch} {e : Env} {s : State} {m : MethodId} {args : Array Value} {below : List Frame} {meth : Method} {c : Code} {E : wg_Ev} {ad : Nat → Nat} {S : wg_Sh} (X : wg_X p s m args meth c cX8_weathers 9 RX8 E) (hr : meth.sig.returnType = (some .int)) (hS : wg_SC S) (r0 : Int32) (D0 : wg_C) (M : wg_M) (N : Nat)   (x3 : Int32) (x4 : Int32) (x5 : Nat) (hx5 : wg_Sht S x5) : ∀ (n : Nat) (C : wg_C) (x6 : Int32) (x7 : Int32) (o : ((wg_C × Int32 × Int32) ⊕ (Int32 × wg_C))), lp (fun o => f_X8_weathers_l74 N  x3 x4 x5 o.1 o.2.1 o.2.2) n (C, x6, x7) = some o → (∀ (Dy : wg_C) (y6 : Int32) (y7 : Int32), o = Sum.inl (Dy, y6, y7) → G_X8_weathers p l e s m args below meth c E ad S r0 D0 M 151 Dy M [(0, .ref (ad 0)), (3, .int x3), (4, .int x4), (5, .ref (ad x5)), (6, .int y6), (7, .int y7)] []) → (∀ q : (Int32 × wg_C), o = Sum.inr q → q = (r0, D0)) → G_X8_weathers p l e s m args below meth c E ad S r0 D0 M 74 C M [(0, .ref (ad 0)), (3, .int x3), (4, .int x4), (5, .ref (ad x5)), (6, .int x6), (7, .int x7)] [] := by
  intro n
  induction n with
  | zero => exact fun _ _ _ o h => (lp_zero h).elim
  | succ n ih =>
    intro C x6 x7 o h K KR
    obtain ⟨o1, hb, h2⟩ := lp_some h
    replace hb : f_X8_weathers_l74 N  x3 x4 x5 C x6 x7 = some o1 := hb
    clear h
    have Kc : ∀ (Dy : wg_C) (y6 : Int32) (y7 : Int32), o1 = Sum.inl (Dy, y6, y7) → G_X8_weathers p l e s m args below meth c E ad S r0 D0 M 74 Dy M [(0, .ref (ad 0)), (3, .int x3), (4, .int x4), (5, .ref (ad x5)), (6, .int y6), (7, .int y7)] [] := fun Dy y6 y7 e1 => by
      subst e1
      exact ih Dy y6 y7 o h2 K KR
    have Ke : ∀ (Dy : wg_C) (y6 : Int32) (y7 : Int32), o1 = Sum.inr (Sum.inl (Dy, y6, y7)) → G_X8_weathers p l e s m args below meth c E ad S r0 D0 M 151 Dy M [(0, .ref (ad 0)), (3, .int x3), (4, .int x4), (5, .ref (ad x5)), (6, .int y6), (7, .int y7)] [] := fun Dy y6 y7 e1 => by
      subst e1
      exact K Dy y6 y7 (sm_inj (α := ((wg_C × Int32 × Int32) ⊕ (Int32 × wg_C))) h2).symm
    have Kr : ∀ q : (Int32 × wg_C), o1 = Sum.inr (Sum.inr q) → q = (r0, D0) := fun q e1 => by
      subst e1
      exact KR q (sm_inj (α := ((wg_C × Int32 × Int32) ⊕ (Int32 × wg_C))) h2).symm
    clear ih K h2 KR
    unfold f_X8_weathers_l74 at hb
    have h := hb
    clear hb
    refine wg_iload X 5 dX8_weathers_74 rfl ?_
    refine wg_iload X 2 dX8_weathers_76 rfl ?_
    refine wg_icmp_ge X 151 dX8_weathers_78 (by decide) (fun c16 => ?_) (fun c16 => ?_)
    · have h := if_t c16 h
      exact Ke C x6 x7 (sm_inj h).symm
    · have h := if_f c16 h
      refine wg_iload_n X 1 dX8_weathers_81 rfl rfl ?_
      refine wg_iconst (v := 2) X dX8_weathers_82 (by decide) ?_
      refine wg_iload X 5 dX8_weathers_83 rfl ?_
      refine wg_imul X dX8_weathers_85 ?_
      refine wg_iadd X dX8_weathers_86 ?_
      obtain ⟨v17, e18, h⟩ := lt_some h
      refine wg_istore (lv' := [(8, .int v17), (0, .ref (ad 0)), (3, .int x3), (4, .int x4), (5, .ref (ad x5)), (6, .int x6), (7, .int x7)]) X dX8_weathers_87 e18 (by decide) rfl ?_
      refine wg_aload X 4 dX8_weathers_89 rfl ?_
      refine wg_iload X 0 dX8_weathers_91 rfl ?_
      obtain ⟨r20, h19, h⟩ := bd_some h
      refine wg_callVi (As := [.int v17]) (rest := []) X (c_X4_has l E ad S hS C M x5 v17 hx5 h19) T_yX4_has k_846 cl4 hx5.1 dX8_weathers_93 rfl rfl (Nat.le_of_ble_eq_true rfl) ⟨Nat.le_of_ble_eq_true rfl, Nat.le_of_ble_eq_true rfl⟩ ⟨Nat.zero_le _, Nat.zero_le _⟩ ?_
      refine wg_if_eq X 111 dX8_weathers_96 (by decide) (fun c21 => ?_) (fun c21 => ?_)
      · have h := if_t c21 h
        refine wg_bipush (v := -12) X dX8_weathers_111 (by decide) ?_
        have hq := Kr _ (sm_inj h).symm
        exact wg_iret X ⟨congrArg Prod.fst hq, congrArg Prod.snd hq, rfl⟩ hr dX8_weathers_113
      · have h := if_f c21 h
        refine wg_aload X 4 dX8_weathers_99 rfl ?_
        refine wg_iload X 0 dX8_weathers_101 rfl ?_
        refine wg_iconst (v := 1) X dX8_weathers_103 (by decide) ?_
        refine wg_iadd X dX8_weathers_104 ?_
        obtain ⟨r23, h22, h⟩ := bd_some h
        refine wg_callVi (As := [.int (v17 + (1 : Int32))]) (rest := []) X (c_X4_has l E ad S hS C M x5 (v17 + (1 : Int32)) hx5 h22) T_yX4_has k_846 cl4 hx5.1 dX8_weathers_105 rfl rfl (Nat.le_of_ble_eq_true rfl) ⟨Nat.le_of_ble_eq_true rfl, Nat.le_of_ble_eq_true rfl⟩ ⟨Nat.zero_le _, Nat.zero_le _⟩ ?_
        refine wg_if_ne X 114 dX8_weathers_108 (by decide) (fun c24 => ?_) (fun c24 => ?_)
        · have h := if_f c24 h
          refine wg_aload_n X 1 dX8_weathers_114 rfl rfl ?_
          refine wg_iconst (v := 0) X dX8_weathers_115 (by decide) ?_
          refine wg_aload X 4 dX8_weathers_116 rfl ?_
          refine wg_getR (b := (x5 + 1)) X cl4 hx5.1 0 (by decide) dX8_weathers_118 k_270 rfl hx5.2.1 ?_
          refine wg_iload X 0 dX8_weathers_121 rfl ?_
          obtain ⟨z25, h⟩ := ck_some h
          refine wg_iald X hx5.2.2.1 hx5.2.2.2 z25 dX8_weathers_123 ?_
          refine wg_aload X 4 dX8_weathers_124 rfl ?_
          refine wg_getR (b := (x5 + 1)) X cl4 hx5.1 0 (by decide) dX8_weathers_126 k_270 rfl hx5.2.1 ?_
          refine wg_iload X 0 dX8_weathers_129 rfl ?_
          refine wg_iconst (v := 1) X dX8_weathers_131 (by decide) ?_
          refine wg_iadd X dX8_weathers_132 ?_
          obtain ⟨z26, h⟩ := ck_some h
          refine wg_iald X hx5.2.2.1 hx5.2.2.2 z26 dX8_weathers_133 ?_
          obtain ⟨r28, C29, h27, h⟩ := bd2_some h
          refine wg_callVi (As := [.int (0 : Int32), .int (C (x5 + 1) v17.toNatClampNeg), .int (C (x5 + 1) (v17 + (1 : Int32)).toNatClampNeg)]) (rest := []) X (c_X8_set l E ad S hS C M (0 : Int32) (C (x5 + 1) v17.toNatClampNeg) (C (x5 + 1) (v17 + (1 : Int32)).toNatClampNeg)  h27) T_yX8_set k_863 cl8 (SCi hS 0 8 rfl) dX8_weathers_134 rfl rfl (Nat.le_of_ble_eq_true rfl) ⟨Nat.le_of_ble_eq_true rfl, Nat.le_of_ble_eq_true rfl⟩ ⟨Nat.zero_le _, Nat.zero_le _⟩ ?_
          refine wg_bipush (v := -100) X dX8_weathers_137 (by decide) ?_
          refine wg_icmp_eq X 145 dX8_weathers_139 (by decide) (fun c30 => ?_) (fun c30 => ?_)
          · have h := if_t c30 h
            obtain ⟨v31, e32, h⟩ := lt_some h
            refine wg_iinc (lv' := [(7, .int v31), (8, .int v17), (0, .ref (ad 0)), (3, .int x3), (4, .int x4), (5, .ref (ad x5)), (6, .int x6)]) X 6 dX8_weathers_145 rfl e32 (by decide) rfl ?_
            refine wg_goto X 74 dX8_weathers_148 (by decide) ?_
            refine wg_pick [2, 3, 4, 5, 6, 0] (lv' := [(0, .ref (ad 0)), (3, .int x3), (4, .int x4), (5, .ref (ad x5)), (6, .int x6), (7, .int v31)]) rfl ?_
            exact Kc C29 x6 v31 (sm_inj h).symm
          · have h := if_f c30 h
            obtain ⟨v33, e34, h⟩ := lt_some h
            refine wg_iinc (lv' := [(6, .int v33), (8, .int v17), (0, .ref (ad 0)), (3, .int x3), (4, .int x4), (5, .ref (ad x5)), (7, .int x7)]) X 5 dX8_weathers_142 rfl e34 (by decide) rfl ?_
            obtain ⟨v35, e36, h⟩ := lt_some h
            refine wg_iinc (lv' := [(7, .int v35), (6, .int v33), (8, .int v17), (0, .ref (ad 0)), (3, .int x3), (4, .int x4), (5, .ref (ad x5))]) X 6 dX8_weathers_145 rfl e36 (by decide) rfl ?_
            refine wg_goto X 74 dX8_weathers_148 (by decide) ?_
            refine wg_pick [3, 4, 5, 6, 1, 0] (lv' := [(0, .ref (ad 0)), (3, .int x3), (4, .int x4), (5, .ref (ad x5)), (6, .int v33), (7, .int v35)]) rfl ?_
            exact Kc C29 v33 v35 (sm_inj h).symm
        · have h := if_t c24 h
          refine wg_bipush (v := -12) X dX8_weathers_111 (by decide) ?_
          have hq := Kr _ (sm_inj h).symm
          exact wg_iret X ⟨congrArg Prod.fst hq, congrArg Prod.snd hq, rfl⟩ hr dX8_weathers_113
set_option maxHeartbeats 4000000 in
set_option maxRecDepth 100000 in
theorem J_X8_weathers_j57 {p : Program} {l : Launch} {e : Env} {s : State} {m : MethodId} {args : Array Value} {below : List Frame} {meth : Method} {c : Code} {E : wg_Ev} {ad : Nat → Nat} {S : wg_Sh} (X : wg_X p s m args meth c cX8_weathers 9 RX8 E) (hr : meth.sig.returnType = (some .int)) (hS : wg_SC S) (r0 : Int32) (D0 : wg_C) (M : wg_M) (N : Nat)  (C : wg_C)  (x3 : Int32) (x4 : Int32) (x5 : Nat) (hx5 : wg_Sht S x5)  (h : f_X8_weathers_j57 N C  x3 x4 x5 = some (r0, D0)) : G_X8_weathers p l e s m args below meth c E ad S r0 D0 M 57 C M [(0, .ref (ad 0)), (3, .int x3), (4, .int x4), (5, .ref (ad x5))] [] := by
  unfold f_X8_weathers_j57 at h
  refine wg_aload X 3 dX8_weathers_57 rfl ?_
  obtain ⟨r14, h13, h⟩ := bd_some h
  refine wg_callVi (As := []) (rest := []) X (c_X4_isMissing l E ad S hS C M x5 hx5 h13) T_yX4_isMissing k_714 cl4 hx5.1 dX8_weathers_59 rfl rfl (Nat.le_of_ble_eq_true rfl) ⟨Nat.le_of_ble_eq_true rfl, Nat.le_of_ble_eq_true rfl⟩ ⟨Nat.zero_le _, Nat.zero_le _⟩ ?_
  refine wg_if_eq X 68 dX8_weathers_62 (by decide) (fun c15 => ?_) (fun c15 => ?_)
  · have h := if_t c15 h
    refine wg_iconst (v := 0) X dX8_weathers_68 (by decide) ?_
    refine wg_istore (lv' := [(6, .int (0 : Int32)), (0, .ref (ad 0)), (3, .int x3), (4, .int x4), (5, .ref (ad x5))]) X dX8_weathers_69 rfl (by decide) rfl ?_
    refine wg_iconst (v := 0) X dX8_weathers_71 (by decide) ?_
    refine wg_istore (lv' := [(7, .int (0 : Int32)), (6, .int (0 : Int32)), (0, .ref (ad 0)), (3, .int x3), (4, .int x4), (5, .ref (ad x5))]) X dX8_weathers_72 rfl (by decide) rfl ?_
    obtain ⟨o40, h41, h⟩ := bs3_o h
    refine wg_pick [2, 3, 4, 5, 1, 0] (lv' := [(0, .ref (ad 0)), (3, .int x3), (4, .int x4), (5, .ref (ad x5)), (6, .int (0 : Int32)), (7, .int (0 : Int32))]) rfl ?_
    refine L_X8_weathers_l74 X hr hS r0 D0 M N   x3 x4 x5 hx5 N C (0 : Int32) (0 : Int32) o40 h41 (fun C37 v38 v39 e43 => ?_) (fun q42 e43 => ?_)
    · subst e43
      replace h := bs3_in h
      refine wg_iload X 4 dX8_weathers_151 rfl ?_
      exact wg_iret X ⟨congrArg Prod.fst (sm_inj h), congrArg Prod.snd (sm_inj h), rfl⟩ hr dX8_weathers_153
    · subst e43
      replace h := bs3_r h
      exact sm_inj h
  · have h := if_f c15 h
    refine wg_bipush (v := -11) X dX8_weathers_65 (by decide) ?_
    exact wg_iret X ⟨congrArg Prod.fst (sm_inj h), congrArg Prod.snd (sm_inj h), rfl⟩ hr dX8_weathers_67
set_option maxHeartbeats 4000000 in
set_option maxRecDepth 100000 in
theorem c_X8_weathers (l : Launch) (E : wg_Ev) (ad : Nat → Nat) (S : wg_Sh) (hS : wg_SC S) (N : Nat) (C : wg_C) (M : wg_M) (p1 : Int32) (p2 : Int32) (p3 : Int32) (p4 : Int32)  {r0 : Int32} {D0 : wg_C} (h : f_X8_weathers N C p1 p2 p3 p4 = some (r0, D0)) : wg_Ci l yX8_weathers cX8_weathers 9 (some .int) 4 87 E ad S C M [.ref (ad 0), .int p1, .int p2, .int p3, .int p4] r0 D0 M := by
  refine wg_start (own := RX8) (by decide +kernel) rfl (Nat.le_of_ble_eq_true rfl) ?_
  intro p e s m below meth c X hr hnm
  refine wg_lv (lv' := [(0, .ref (ad 0)), (1, .int p1), (2, .int p2), (3, .int p3), (4, .int p4)]) rfl ?_
  unfold f_X8_weathers at h
  refine wg_iload_n X 1 dX8_weathers_0 rfl rfl ?_
  obtain ⟨r2, h1, h⟩ := bd_some h
  refine wg_callSi (As := [.int p1]) (rest := []) X (c_X8_isSheet l E ad S C M p1  h1) T_yX8_isSheet k_711 dX8_weathers_1 rfl rfl (Nat.le_of_ble_eq_true rfl) ⟨Nat.le_of_ble_eq_true rfl, Nat.le_of_ble_eq_true rfl⟩ ⟨Nat.zero_le _, Nat.zero_le _⟩ ?_
  refine wg_if_eq X 26 dX8_weathers_4 (by decide) (fun c3 => ?_) (fun c3 => ?_)
  · have h := if_t c3 h
    refine wg_bipush (v := -2) X dX8_weathers_26 (by decide) ?_
    exact wg_iret X ⟨congrArg Prod.fst (sm_inj h), congrArg Prod.snd (sm_inj h), rfl⟩ hr dX8_weathers_28
  · have h := if_f c3 h
    refine wg_iload_n X 2 dX8_weathers_7 rfl rfl ?_
    obtain ⟨r5, h4, h⟩ := bd_some h
    refine wg_callSi (As := [.int p2]) (rest := []) X (c_X8_isRowSort l E ad S C M p2  h4) T_yX8_isRowSort k_839 dX8_weathers_8 rfl rfl (Nat.le_of_ble_eq_true rfl) ⟨Nat.le_of_ble_eq_true rfl, Nat.le_of_ble_eq_true rfl⟩ ⟨Nat.zero_le _, Nat.zero_le _⟩ ?_
    refine wg_if_eq X 26 dX8_weathers_11 (by decide) (fun c6 => ?_) (fun c6 => ?_)
    · have h := if_t c6 h
      refine wg_bipush (v := -2) X dX8_weathers_26 (by decide) ?_
      exact wg_iret X ⟨congrArg Prod.fst (sm_inj h), congrArg Prod.snd (sm_inj h), rfl⟩ hr dX8_weathers_28
    · have h := if_f c6 h
      refine wg_iload X 4 dX8_weathers_14 rfl ?_
      refine wg_if_lt X 26 dX8_weathers_16 (by decide) (fun c7 => ?_) (fun c7 => ?_)
      · have h := if_t c7 h
        refine wg_bipush (v := -2) X dX8_weathers_26 (by decide) ?_
        exact wg_iret X ⟨congrArg Prod.fst (sm_inj h), congrArg Prod.snd (sm_inj h), rfl⟩ hr dX8_weathers_28
      · have h := if_f c7 h
        refine wg_iload X 4 dX8_weathers_19 rfl ?_
        refine wg_bipush (v := 20) X dX8_weathers_21 (by decide) ?_
        refine wg_icmp_le X 29 dX8_weathers_23 (by decide) (fun c8 => ?_) (fun c8 => ?_)
        · have h := if_t c8 h
          refine wg_aload_n X 0 dX8_weathers_29 rfl rfl ?_
          refine wg_getR (b := 39) X cl8 (SCi hS 0 8 rfl) 7 (by decide) dX8_weathers_30 k_479 rfl (SCr hS 0 7 39 rfl) ?_
          refine wg_iload_n X 1 dX8_weathers_33 rfl rfl ?_
          obtain ⟨z9, h⟩ := ck_some h
          refine wg_aalS14 (b := 44 + 2 * p1.toNatClampNeg) X (SCi hS 39 14 rfl) (SCl hS 39 4 rfl) z9 (SCs hS (inb_lt z9)).1 dX8_weathers_34 ?_
          refine wg_astore (lv' := [(5, .ref (ad (44 + 2 * p1.toNatClampNeg))), (0, .ref (ad 0)), (1, .int p1), (2, .int p2), (3, .int p3), (4, .int p4)]) X dX8_weathers_35 rfl (by decide) rfl ?_
          refine wg_aload X 0 dX8_weathers_37 rfl ?_
          obtain ⟨r11, h10, h⟩ := bd_some h
          refine wg_callVi (As := []) (rest := []) X (c_X4_isMissing l E ad S hS C M (44 + 2 * p1.toNatClampNeg) ((SCs hS (inb_lt z9)).2) h10) T_yX4_isMissing k_714 cl4 ((SCs hS (inb_lt z9)).2.1) dX8_weathers_39 rfl rfl (Nat.le_of_ble_eq_true rfl) ⟨Nat.le_of_ble_eq_true rfl, Nat.le_of_ble_eq_true rfl⟩ ⟨Nat.zero_le _, Nat.zero_le _⟩ ?_
          refine wg_if_ne X 57 dX8_weathers_42 (by decide) (fun c12 => ?_) (fun c12 => ?_)
          · have h := if_f c12 h
            refine wg_pick [1, 4, 5, 0] (lv' := [(0, .ref (ad 0)), (3, .int p3), (4, .int p4), (5, .ref (ad (44 + 2 * p1.toNatClampNeg)))]) rfl ?_
            exact J_X8_weathers_j57 X hr hS r0 D0 M N  C  p3 p4 (44 + 2 * p1.toNatClampNeg) ((SCs hS (inb_lt z9)).2)  h
          · have h := if_t c12 h
            refine wg_aload X 0 dX8_weathers_45 rfl ?_
            refine wg_getC X cl4 (SCs hS (inb_lt z9)).2.1 1 (by decide) dX8_weathers_47 k_272 rfl ?_
            refine wg_iload_n X 3 dX8_weathers_50 rfl rfl ?_
            refine wg_icmp_eq X 57 dX8_weathers_51 (by decide) (fun c44 => ?_) (fun c44 => ?_)
            · have h := if_t c44 h
              refine wg_pick [1, 4, 5, 0] (lv' := [(0, .ref (ad 0)), (3, .int p3), (4, .int p4), (5, .ref (ad (44 + 2 * p1.toNatClampNeg)))]) rfl ?_
              exact J_X8_weathers_j57 X hr hS r0 D0 M N  C  p3 p4 (44 + 2 * p1.toNatClampNeg) ((SCs hS (inb_lt z9)).2)  h
            · have h := if_f c44 h
              refine wg_bipush (v := -13) X dX8_weathers_54 (by decide) ?_
              exact wg_iret X ⟨congrArg Prod.fst (sm_inj h), congrArg Prod.snd (sm_inj h), rfl⟩ hr dX8_weathers_56
        · have h := if_f c8 h
          refine wg_bipush (v := -2) X dX8_weathers_26 (by decide) ?_
          exact wg_iret X ⟨congrArg Prod.fst (sm_inj h), congrArg Prod.snd (sm_inj h), rfl⟩ hr dX8_weathers_28
-- WindowsGive.isUnder(II)Z ('i', 'i')
def f_X8_isUnder_l4 (N : Nat) (C : wg_C)  (x1 : Int32) (x2 : Int32) (x3 : Int32) : Option ((Int32 × Int32) ⊕ ((Int32 × Int32) ⊕ Int32)) :=
  if (6 : Int32) ≤ x3 then (
    some (.inr (.inl (x2, x3))))
  else (
    bd (f_X8_isKind x2) fun r3 =>
    if r3 = 0 then (
      some (.inr (.inl (x2, x3))))
    else (
      if x2 = x1 then (
        some (.inr (.inr (1 : Int32))))
      else (
        ck (inb x2 6) <|
        lt_ (wg_above.getD x2.toNatClampNeg 0) fun v7 =>
        lt_ (x3 + (1 : Int32)) fun v9 =>
        some (.inl (v7, v9)))))
def f_X8_isUnder (N : Nat) (C : wg_C) (p0 : Int32) (p1 : Int32) : Option Int32 :=
  bs2 (lp (fun o => f_X8_isUnder_l4 N C  p1 o.1 o.2) N (p0, (0 : Int32))) (fun v11 v12 =>
    some (0 : Int32))
    (fun q15 => some q15)
abbrev G_X8_isUnder (p : Program) (l : Launch) (e : Env) (s : State) (m : MethodId) (args : Array Value) (below : List Frame) (meth : Method) (c : Code) (E : wg_Ev) (ad : Nat → Nat) (S : wg_Sh) (r0 : Int32) (C0 : wg_C) (M0 : wg_M) (pc : Nat) (C : wg_C) (M : wg_M) (lv : List (Nat × Value)) (st : List Value) : Prop := wg_G p l e (wg_Rm 1 20) s m args below meth c (MQ below (wg_Qi E ad S r0 C0 M0) args s 0 0 (wg_A E)) 4 E ad S 0 0 pc C M lv st
set_option maxHeartbeats 4000000 in
set_option maxRecDepth 100000 in
theorem L_X8_isUnder_l4 {p : Program} {l : Launch} {e : Env} {s : State} {m : MethodId} {args : Array Value} {below : List Frame} {meth : Method} {c : Code} {E : wg_Ev} {ad : Nat → Nat} {S : wg_Sh} (X : wg_X p s m args meth c cX8_isUnder 4 RX8 E) (hr : meth.sig.returnType = (some .boolean)) (hS : wg_SC S) (r0 : Int32) (M : wg_M) (N : Nat)  (C : wg_C)  (x1 : Int32)  : ∀ (n : Nat) (x2 : Int32) (x3 : Int32) (o : ((Int32 × Int32) ⊕ Int32)), lp (fun o => f_X8_isUnder_l4 N C  x1 o.1 o.2) n (x2, x3) = some o → (∀ (y2 : Int32) (y3 : Int32), o = Sum.inl (y2, y3) → G_X8_isUnder p l e s m args below meth c E ad S r0 C M 38 C M [(1, .int x1), (2, .int y2), (3, .int y3)] []) → (∀ q : Int32, o = Sum.inr q → q = r0) → G_X8_isUnder p l e s m args below meth c E ad S r0 C M 4 C M [(1, .int x1), (2, .int x2), (3, .int x3)] [] := by
  intro n
  induction n with
  | zero => exact fun _ _ o h => (lp_zero h).elim
  | succ n ih =>
    intro x2 x3 o h K KR
    obtain ⟨o1, hb, h2⟩ := lp_some h
    replace hb : f_X8_isUnder_l4 N C  x1 x2 x3 = some o1 := hb
    clear h
    have Kc : ∀ (y2 : Int32) (y3 : Int32), o1 = Sum.inl (y2, y3) → G_X8_isUnder p l e s m args below meth c E ad S r0 C M 4 C M [(1, .int x1), (2, .int y2), (3, .int y3)] [] := fun y2 y3 e1 => by
      subst e1
      exact ih y2 y3 o h2 K KR
    have Ke : ∀ (y2 : Int32) (y3 : Int32), o1 = Sum.inr (Sum.inl (y2, y3)) → G_X8_isUnder p l e s m args below meth c E ad S r0 C M 38 C M [(1, .int x1), (2, .int y2), (3, .int y3)] [] := fun y2 y3 e1 => by
      subst e1
      exact K y2 y3 (sm_inj (α := ((Int32 × Int32) ⊕ Int32)) h2).symm
    have Kr : ∀ q : Int32, o1 = Sum.inr (Sum.inr q) → q = r0 := fun q e1 => by
      subst e1
      exact KR q (sm_inj (α := ((Int32 × Int32) ⊕ Int32)) h2).symm
    clear ih K h2 KR
    unfold f_X8_isUnder_l4 at hb
    have h := hb
    clear hb
    refine wg_iload_n X 2 dX8_isUnder_4 rfl rfl ?_
    refine wg_kab X dX8_isUnder_5 k_871 ?_
    refine wg_kabLen X dX8_isUnder_8 ?_
    refine wg_icmp_ge X 38 dX8_isUnder_9 (by decide) (fun c1 => ?_) (fun c1 => ?_)
    · have h := if_t c1 h
      exact Ke x2 x3 (sm_inj h).symm
    · have h := if_f c1 h
      refine wg_iload_n X 1 dX8_isUnder_12 rfl rfl ?_
      obtain ⟨r3, h2, h⟩ := bd_some h
      refine wg_callSi (As := [.int x2]) (rest := []) X (c_X8_isKind l E ad S C M x2  h2) T_yX8_isKind k_546 dX8_isUnder_13 rfl rfl (Nat.le_of_ble_eq_true rfl) ⟨Nat.le_of_ble_eq_true rfl, Nat.le_of_ble_eq_true rfl⟩ ⟨Nat.zero_le _, Nat.zero_le _⟩ ?_
      refine wg_if_eq X 38 dX8_isUnder_16 (by decide) (fun c4 => ?_) (fun c4 => ?_)
      · have h := if_t c4 h
        exact Ke x2 x3 (sm_inj h).symm
      · have h := if_f c4 h
        refine wg_iload_n X 1 dX8_isUnder_19 rfl rfl ?_
        refine wg_iload_n X 0 dX8_isUnder_20 rfl rfl ?_
        refine wg_icmp_ne X 26 dX8_isUnder_21 (by decide) (fun c5 => ?_) (fun c5 => ?_)
        · have h := if_f c5 h
          refine wg_kab X dX8_isUnder_26 k_871 ?_
          refine wg_iload_n X 1 dX8_isUnder_29 rfl rfl ?_
          obtain ⟨z6, h⟩ := ck_some h
          refine wg_kabLd X z6 dX8_isUnder_30 ?_
          obtain ⟨v7, e8, h⟩ := lt_some h
          refine wg_istore_n (lv' := [(2, .int v7), (1, .int x1), (3, .int x3)]) X dX8_isUnder_31 rfl e8 (by decide) rfl ?_
          obtain ⟨v9, e10, h⟩ := lt_some h
          refine wg_iinc (lv' := [(3, .int v9), (2, .int v7), (1, .int x1)]) X 2 dX8_isUnder_32 rfl e10 (by decide) rfl ?_
          refine wg_goto X 4 dX8_isUnder_35 (by decide) ?_
          refine wg_pick [2, 1, 0] (lv' := [(1, .int x1), (2, .int v7), (3, .int v9)]) rfl ?_
          exact Kc v7 v9 (sm_inj h).symm
        · have h := if_t c5 h
          refine wg_iconst (v := 1) X dX8_isUnder_24 (by decide) ?_
          have hq := Kr _ (sm_inj h).symm
          exact wg_zret X ⟨hq, rfl, rfl⟩ hr (by decide) dX8_isUnder_25
set_option maxHeartbeats 4000000 in
set_option maxRecDepth 100000 in
theorem c_X8_isUnder (l : Launch) (E : wg_Ev) (ad : Nat → Nat) (S : wg_Sh) (hS : wg_SC S) (N : Nat) (C : wg_C) (M : wg_M) (p0 : Int32) (p1 : Int32)  {r0 : Int32} (h : f_X8_isUnder N C p0 p1 = some r0) : wg_Ci l yX8_isUnder cX8_isUnder 4 (some .boolean) 1 20 E ad S C M [.int p0, .int p1] r0 C M := by
  refine wg_start (own := RX8) (by decide +kernel) rfl (Nat.le_of_ble_eq_true rfl) ?_
  intro p e s m below meth c X hr hnm
  refine wg_lv (lv' := [(0, .int p0), (1, .int p1)]) rfl ?_
  unfold f_X8_isUnder at h
  refine wg_iload_n X 0 dX8_isUnder_0 rfl rfl ?_
  refine wg_istore_n (lv' := [(2, .int p0), (0, .int p0), (1, .int p1)]) X dX8_isUnder_1 rfl rfl (by decide) rfl ?_
  refine wg_iconst (v := 0) X dX8_isUnder_2 (by decide) ?_
  refine wg_istore_n (lv' := [(3, .int (0 : Int32)), (2, .int p0), (0, .int p0), (1, .int p1)]) X dX8_isUnder_3 rfl rfl (by decide) rfl ?_
  obtain ⟨o13, h14, h⟩ := bs2_o h
  refine wg_pick [3, 1, 0] (lv' := [(1, .int p1), (2, .int p0), (3, .int (0 : Int32))]) rfl ?_
  refine L_X8_isUnder_l4 X hr hS r0 M N  C  p1  N p0 (0 : Int32) o13 h14 (fun v11 v12 e16 => ?_) (fun q15 e16 => ?_)
  · subst e16
    replace h := bs2_in h
    refine wg_iconst (v := 0) X dX8_isUnder_38 (by decide) ?_
    exact wg_zret X ⟨(sm_inj h), rfl, rfl⟩ hr (by decide) dX8_isUnder_39
  · subst e16
    replace h := bs2_r h
    exact sm_inj h
-- WindowsGive.taken(II)I (('c', 0), 'i', 'i')
def f_X8_taken (N : Nat) (C : wg_C) (p1 : Int32) (p2 : Int32) : Option Int32 :=
  bd (f_X8_isKind p2) fun r2 =>
  if r2 = 0 then (
    some (-2 : Int32))
  else (
    bd (f_X0_has C p1) fun r5 =>
    if r5 = 0 then (
      some (-11 : Int32))
    else (
      ck (inb p1 8) <|
      bd (f_X8_isUnder N C (C (4 + p1.toNatClampNeg) 1) p2) fun r9 =>
      if r9 = 0 then (
        some (-13 : Int32))
      else (
        some (C (4 + p1.toNatClampNeg) 2))))
set_option maxHeartbeats 4000000 in
set_option maxRecDepth 100000 in
theorem c_X8_taken (l : Launch) (E : wg_Ev) (ad : Nat → Nat) (S : wg_Sh) (hS : wg_SC S) (N : Nat) (C : wg_C) (M : wg_M) (p1 : Int32) (p2 : Int32)  {r0 : Int32} (h : f_X8_taken N C p1 p2 = some r0) : wg_Ci l yX8_taken cX8_taken 4 (some .int) 2 43 E ad S C M [.ref (ad 0), .int p1, .int p2] r0 C M := by
  refine wg_start (own := RX8) (by decide +kernel) rfl (Nat.le_of_ble_eq_true rfl) ?_
  intro p e s m below meth c X hr hnm
  refine wg_lv (lv' := [(0, .ref (ad 0)), (1, .int p1), (2, .int p2)]) rfl ?_
  unfold f_X8_taken at h
  refine wg_iload_n X 2 dX8_taken_0 rfl rfl ?_
  obtain ⟨r2, h1, h⟩ := bd_some h
  refine wg_callSi (As := [.int p2]) (rest := []) X (c_X8_isKind l E ad S C M p2  h1) T_yX8_isKind k_546 dX8_taken_1 rfl rfl (Nat.le_of_ble_eq_true rfl) ⟨Nat.le_of_ble_eq_true rfl, Nat.le_of_ble_eq_true rfl⟩ ⟨Nat.zero_le _, Nat.zero_le _⟩ ?_
  refine wg_if_ne X 10 dX8_taken_4 (by decide) (fun c3 => ?_) (fun c3 => ?_)
  · have h := if_f c3 h
    refine wg_aload_n X 0 dX8_taken_10 rfl rfl ?_
    refine wg_getR (b := 1) X cl8 (SCi hS 0 8 rfl) 0 (by decide) dX8_taken_11 k_472 rfl (SCr hS 0 0 1 rfl) ?_
    refine wg_iload_n X 1 dX8_taken_14 rfl rfl ?_
    obtain ⟨r5, h4, h⟩ := bd_some h
    refine wg_callVi (As := [.int p1]) (rest := []) X (c_X0_has l E ad S hS C M p1  h4) T_yX0_has k_520 cl0 (SCi hS 1 0 rfl) dX8_taken_15 rfl rfl (Nat.le_of_ble_eq_true rfl) ⟨Nat.le_of_ble_eq_true rfl, Nat.le_of_ble_eq_true rfl⟩ ⟨Nat.zero_le _, Nat.zero_le _⟩ ?_
    refine wg_if_ne X 24 dX8_taken_18 (by decide) (fun c6 => ?_) (fun c6 => ?_)
    · have h := if_f c6 h
      refine wg_aload_n X 0 dX8_taken_24 rfl rfl ?_
      refine wg_getR (b := 1) X cl8 (SCi hS 0 8 rfl) 0 (by decide) dX8_taken_25 k_472 rfl (SCr hS 0 0 1 rfl) ?_
      refine wg_getR (b := 3) X cl0 (SCi hS 1 0 rfl) 1 (by decide) dX8_taken_28 k_144 rfl (SCr hS 1 1 3 rfl) ?_
      refine wg_iload_n X 1 dX8_taken_31 rfl rfl ?_
      obtain ⟨z7, h⟩ := ck_some h
      refine wg_aalS13 (b := 4 + p1.toNatClampNeg) X (SCi hS 3 13 rfl) (SCl hS 3 8 rfl) z7 (SCp hS (inb_lt z7)).1 dX8_taken_32 ?_
      refine wg_astore_n (lv' := [(3, .ref (ad (4 + p1.toNatClampNeg))), (0, .ref (ad 0)), (1, .int p1), (2, .int p2)]) X dX8_taken_33 rfl rfl (by decide) rfl ?_
      refine wg_aload_n X 0 dX8_taken_34 rfl rfl ?_
      refine wg_getC X cl1 (SCp hS (inb_lt z7)).2.1 1 (by decide) dX8_taken_35 k_113 rfl ?_
      refine wg_iload_n X 3 dX8_taken_38 rfl rfl ?_
      obtain ⟨r9, h8, h⟩ := bd_some h
      refine wg_callSi (As := [.int (C (4 + p1.toNatClampNeg) 1), .int p2]) (rest := []) X (c_X8_isUnder l E ad S hS N C M (C (4 + p1.toNatClampNeg) 1) p2  h8) T_yX8_isUnder k_868 dX8_taken_39 rfl rfl (Nat.le_of_ble_eq_true rfl) ⟨Nat.le_of_ble_eq_true rfl, Nat.le_of_ble_eq_true rfl⟩ ⟨Nat.zero_le _, Nat.zero_le _⟩ ?_
      refine wg_if_eq X 52 dX8_taken_42 (by decide) (fun c10 => ?_) (fun c10 => ?_)
      · have h := if_t c10 h
        refine wg_bipush (v := -13) X dX8_taken_52 (by decide) ?_
        exact wg_iret X ⟨(sm_inj h), rfl, rfl⟩ hr dX8_taken_54
      · have h := if_f c10 h
        refine wg_aload_n X 0 dX8_taken_45 rfl rfl ?_
        refine wg_getC X cl1 (SCp hS (inb_lt z7)).2.1 2 (by decide) dX8_taken_46 k_116 rfl ?_
        refine wg_goto X 54 dX8_taken_49 (by decide) ?_
        exact wg_iret X ⟨(sm_inj h), rfl, rfl⟩ hr dX8_taken_54
    · have h := if_t c6 h
      refine wg_bipush (v := -11) X dX8_taken_21 (by decide) ?_
      exact wg_iret X ⟨(sm_inj h), rfl, rfl⟩ hr dX8_taken_23
  · have h := if_t c3 h
    refine wg_bipush (v := -2) X dX8_taken_7 (by decide) ?_
    exact wg_iret X ⟨(sm_inj h), rfl, rfl⟩ hr dX8_taken_9
-- WindowsGiveModel.in(JJJ)Z ('l', 'l', 'l')
def f_X9_in (p0 : Int64) (p1 : Int64) (p2 : Int64) : Option Int32 :=
  if (lg_cmp p0 p1) < 0 then (
    some (0 : Int32))
  else (
    if 0 < (lg_cmp p0 p2) then (
      some (0 : Int32))
    else (
      some (1 : Int32)))
set_option maxHeartbeats 4000000 in
set_option maxRecDepth 100000 in
theorem c_X9_in (l : Launch) (E : wg_Ev) (ad : Nat → Nat) (S : wg_Sh) (C : wg_C) (M : wg_M) (p0 : Int64) (p1 : Int64) (p2 : Int64)  {r0 : Int32} (h : f_X9_in p0 p1 p2 = some r0) : wg_Ci l yX9_in cX9_in 6 (some .boolean) 0 0 E ad S C M [.long p0, .long p1, .long p2] r0 C M := by
  refine wg_start (own := RX9) (by decide +kernel) rfl (Nat.le_of_ble_eq_true rfl) ?_
  intro p e s m below meth c X hr hnm
  refine wg_lv (lv' := [(0, .long p0), (2, .long p1), (4, .long p2)]) rfl ?_
  unfold f_X9_in at h
  refine wg_lload_n X 0 dX9_in_0 rfl rfl ?_
  refine wg_lload_n X 1 dX9_in_1 rfl rfl ?_
  refine wg_lcmp X dX9_in_2 ?_
  refine wg_if_lt X 17 dX9_in_3 (by decide) (fun c1 => ?_) (fun c1 => ?_)
  · have h := if_t c1 h
    refine wg_iconst (v := 0) X dX9_in_17 (by decide) ?_
    exact wg_zret X ⟨(sm_inj h), rfl, rfl⟩ hr (by decide) dX9_in_18
  · have h := if_f c1 h
    refine wg_lload_n X 0 dX9_in_6 rfl rfl ?_
    refine wg_lload X 2 dX9_in_7 rfl ?_
    refine wg_lcmp X dX9_in_9 ?_
    refine wg_if_gt X 17 dX9_in_10 (by decide) (fun c2 => ?_) (fun c2 => ?_)
    · have h := if_t c2 h
      refine wg_iconst (v := 0) X dX9_in_17 (by decide) ?_
      exact wg_zret X ⟨(sm_inj h), rfl, rfl⟩ hr (by decide) dX9_in_18
    · have h := if_f c2 h
      refine wg_iconst (v := 1) X dX9_in_13 (by decide) ?_
      refine wg_goto X 18 dX9_in_14 (by decide) ?_
      exact wg_zret X ⟨(sm_inj h), rfl, rfl⟩ hr (by decide) dX9_in_18
-- WindowsGiveModel.within(III)I ('i', 'i', 'i')
def f_X9_within (p0 : Int32) (p1 : Int32) (p2 : Int32) : Option Int32 :=
  if p1 ≤ p0 then (
    if p0 ≤ p2 then (
      some p0)
    else (
      some p2))
  else (
    some p1)
set_option maxHeartbeats 4000000 in
set_option maxRecDepth 100000 in
theorem c_X9_within (l : Launch) (E : wg_Ev) (ad : Nat → Nat) (S : wg_Sh) (C : wg_C) (M : wg_M) (p0 : Int32) (p1 : Int32) (p2 : Int32)  {r0 : Int32} (h : f_X9_within p0 p1 p2 = some r0) : wg_Ci l yX9_within cX9_within 3 (some .int) 0 0 E ad S C M [.int p0, .int p1, .int p2] r0 C M := by
  refine wg_start (own := RX9) (by decide +kernel) rfl (Nat.le_of_ble_eq_true rfl) ?_
  intro p e s m below meth c X hr hnm
  refine wg_lv (lv' := [(0, .int p0), (1, .int p1), (2, .int p2)]) rfl ?_
  unfold f_X9_within at h
  refine wg_iload_n X 0 dX9_within_0 rfl rfl ?_
  refine wg_iload_n X 1 dX9_within_1 rfl rfl ?_
  refine wg_icmp_ge X 9 dX9_within_2 (by decide) (fun c1 => ?_) (fun c1 => ?_)
  · have h := if_t c1 h
    refine wg_iload_n X 0 dX9_within_9 rfl rfl ?_
    refine wg_iload_n X 2 dX9_within_10 rfl rfl ?_
    refine wg_icmp_le X 18 dX9_within_11 (by decide) (fun c2 => ?_) (fun c2 => ?_)
    · have h := if_t c2 h
      refine wg_iload_n X 0 dX9_within_18 rfl rfl ?_
      exact wg_iret X ⟨(sm_inj h), rfl, rfl⟩ hr dX9_within_19
    · have h := if_f c2 h
      refine wg_iload_n X 2 dX9_within_14 rfl rfl ?_
      refine wg_goto X 19 dX9_within_15 (by decide) ?_
      exact wg_iret X ⟨(sm_inj h), rfl, rfl⟩ hr dX9_within_19
  · have h := if_f c1 h
    refine wg_iload_n X 1 dX9_within_5 rfl rfl ?_
    refine wg_goto X 19 dX9_within_6 (by decide) ?_
    exact wg_iret X ⟨(sm_inj h), rfl, rfl⟩ hr dX9_within_19
-- WindowsGiveModel.bitsOf(I)I ('i',)
def f_X9_bitsOf_l4 (N : Nat)   (x1 : Int32) (x2 : Int32) : Option ((Int32 × Int32) ⊕ (Int32 × Int32)) :=
  if x2 = 0 then (
    some (.inr (x1, x2)))
  else (
    lt_ (x1 + (1 : Int32)) fun v2 =>
    lt_ (x2 &&& (x2 - (1 : Int32))) fun v4 =>
    some (.inl (v2, v4)))
def f_X9_bitsOf (N : Nat) (p0 : Int32) : Option Int32 :=
  bd2 (lp (fun o => f_X9_bitsOf_l4 N   o.1 o.2) N ((0 : Int32), p0)) fun v6 v7 =>
  some v6
abbrev G_X9_bitsOf (p : Program) (l : Launch) (e : Env) (s : State) (m : MethodId) (args : Array Value) (below : List Frame) (meth : Method) (c : Code) (E : wg_Ev) (ad : Nat → Nat) (S : wg_Sh) (r0 : Int32) (C0 : wg_C) (M0 : wg_M) (pc : Nat) (C : wg_C) (M : wg_M) (lv : List (Nat × Value)) (st : List Value) : Prop := wg_G p l e (wg_Rm 0 0) s m args below meth c (MQ below (wg_Qi E ad S r0 C0 M0) args s 0 0 (wg_A E)) 3 E ad S 0 0 pc C M lv st
set_option maxHeartbeats 4000000 in
set_option maxRecDepth 100000 in
theorem L_X9_bitsOf_l4 {p : Program} {l : Launch} {e : Env} {s : State} {m : MethodId} {args : Array Value} {below : List Frame} {meth : Method} {c : Code} {E : wg_Ev} {ad : Nat → Nat} {S : wg_Sh} (X : wg_X p s m args meth c cX9_bitsOf 3 RX9 E) (hr : meth.sig.returnType = (some .int)) (r0 : Int32) (C : wg_C) (M : wg_M) (N : Nat)     : ∀ (n : Nat) (x1 : Int32) (x2 : Int32) (o : (Int32 × Int32)), lp (fun o => f_X9_bitsOf_l4 N   o.1 o.2) n (x1, x2) = some o → (∀ (y1 : Int32) (y2 : Int32), o = (y1, y2) → G_X9_bitsOf p l e s m args below meth c E ad S r0 C M 20 C M [(1, .int y1), (2, .int y2)] []) → G_X9_bitsOf p l e s m args below meth c E ad S r0 C M 4 C M [(1, .int x1), (2, .int x2)] [] := by
  intro n
  induction n with
  | zero => exact fun _ _ o h => (lp_zero h).elim
  | succ n ih =>
    intro x1 x2 o h K
    obtain ⟨o1, hb, h2⟩ := lp_some h
    replace hb : f_X9_bitsOf_l4 N   x1 x2 = some o1 := hb
    clear h
    have Kc : ∀ (y1 : Int32) (y2 : Int32), o1 = Sum.inl (y1, y2) → G_X9_bitsOf p l e s m args below meth c E ad S r0 C M 4 C M [(1, .int y1), (2, .int y2)] [] := fun y1 y2 e1 => by
      subst e1
      exact ih y1 y2 o h2 K
    have Ke : ∀ (y1 : Int32) (y2 : Int32), o1 = Sum.inr ((y1, y2)) → G_X9_bitsOf p l e s m args below meth c E ad S r0 C M 20 C M [(1, .int y1), (2, .int y2)] [] := fun y1 y2 e1 => by
      subst e1
      exact K y1 y2 (sm_inj (α := (Int32 × Int32)) h2).symm
    clear ih K h2
    unfold f_X9_bitsOf_l4 at hb
    have h := hb
    clear hb
    refine wg_iload_n X 1 dX9_bitsOf_4 rfl rfl ?_
    refine wg_if_eq X 20 dX9_bitsOf_5 (by decide) (fun c1 => ?_) (fun c1 => ?_)
    · have h := if_t c1 h
      exact Ke x1 x2 (sm_inj h).symm
    · have h := if_f c1 h
      obtain ⟨v2, e3, h⟩ := lt_some h
      refine wg_iinc (lv' := [(1, .int v2), (2, .int x2)]) X 0 dX9_bitsOf_8 rfl e3 (by decide) rfl ?_
      refine wg_iload_n X 1 dX9_bitsOf_11 rfl rfl ?_
      refine wg_iload_n X 1 dX9_bitsOf_12 rfl rfl ?_
      refine wg_iconst (v := 1) X dX9_bitsOf_13 (by decide) ?_
      refine wg_isub X dX9_bitsOf_14 ?_
      refine wg_iand X dX9_bitsOf_15 ?_
      obtain ⟨v4, e5, h⟩ := lt_some h
      refine wg_istore_n (lv' := [(2, .int v4), (1, .int v2)]) X dX9_bitsOf_16 rfl e5 (by decide) rfl ?_
      refine wg_goto X 4 dX9_bitsOf_17 (by decide) ?_
      refine wg_pick [1, 0] (lv' := [(1, .int v2), (2, .int v4)]) rfl ?_
      exact Kc v2 v4 (sm_inj h).symm
set_option maxHeartbeats 4000000 in
set_option maxRecDepth 100000 in
theorem c_X9_bitsOf (l : Launch) (E : wg_Ev) (ad : Nat → Nat) (S : wg_Sh) (N : Nat) (C : wg_C) (M : wg_M) (p0 : Int32)  {r0 : Int32} (h : f_X9_bitsOf N p0 = some r0) : wg_Ci l yX9_bitsOf cX9_bitsOf 3 (some .int) 0 0 E ad S C M [.int p0] r0 C M := by
  refine wg_start (own := RX9) (by decide +kernel) rfl (Nat.le_of_ble_eq_true rfl) ?_
  intro p e s m below meth c X hr hnm
  refine wg_lv (lv' := [(0, .int p0)]) rfl ?_
  unfold f_X9_bitsOf at h
  refine wg_iconst (v := 0) X dX9_bitsOf_0 (by decide) ?_
  refine wg_istore_n (lv' := [(1, .int (0 : Int32)), (0, .int p0)]) X dX9_bitsOf_1 rfl rfl (by decide) rfl ?_
  refine wg_iload_n X 1 dX9_bitsOf_2 rfl rfl ?_
  refine wg_istore_n (lv' := [(2, .int p0), (1, .int (0 : Int32)), (0, .int p0)]) X dX9_bitsOf_3 rfl rfl (by decide) rfl ?_
  obtain ⟨o8, h9, h⟩ := bd2_o h
  refine wg_pick [1, 0] (lv' := [(1, .int (0 : Int32)), (2, .int p0)]) rfl ?_
  refine L_X9_bitsOf_l4 X hr r0 C M N     N (0 : Int32) p0 o8 h9 (fun v6 v7 e11 => ?_)
  · subst e11
    replace h := bd2_in h
    refine wg_iload_n X 0 dX9_bitsOf_20 rfl rfl ?_
    exact wg_iret X ⟨(sm_inj h), rfl, rfl⟩ hr dX9_bitsOf_21
-- WindowsGiveModel.spell(IIIIIIIII)V (('c', 55), 'i', 'i', 'i', 'i', 'i', 'i', 'i', 'i', 'i')
def f_X9_spell (M : wg_M) (p1 : Int32) (p2 : Int32) (p3 : Int32) (p4 : Int32) (p5 : Int32) (p6 : Int32) (p7 : Int32) (p8 : Int32) (p9 : Int32) : Option wg_M :=
  ck (inb p1 960) <|
  lt_ (wg_sM M 56 p1.toNatClampNeg p2) fun M2 =>
  ck (inb (p1 + (1 : Int32)) 960) <|
  lt_ (wg_sM M2 56 (p1 + (1 : Int32)).toNatClampNeg p3) fun M5 =>
  ck (inb (p1 + (2 : Int32)) 960) <|
  lt_ (wg_sM M5 56 (p1 + (2 : Int32)).toNatClampNeg p4) fun M8 =>
  ck (inb (p1 + (3 : Int32)) 960) <|
  lt_ (wg_sM M8 56 (p1 + (3 : Int32)).toNatClampNeg p5) fun M11 =>
  ck (inb (p1 + (4 : Int32)) 960) <|
  lt_ (wg_sM M11 56 (p1 + (4 : Int32)).toNatClampNeg p6) fun M14 =>
  ck (inb (p1 + (5 : Int32)) 960) <|
  lt_ (wg_sM M14 56 (p1 + (5 : Int32)).toNatClampNeg p7) fun M17 =>
  ck (inb (p1 + (6 : Int32)) 960) <|
  lt_ (wg_sM M17 56 (p1 + (6 : Int32)).toNatClampNeg p8) fun M20 =>
  ck (inb (p1 + (7 : Int32)) 960) <|
  lt_ (wg_sM M20 56 (p1 + (7 : Int32)).toNatClampNeg p9) fun M23 =>
  some M23
set_option maxHeartbeats 4000000 in
set_option maxRecDepth 100000 in
theorem c_X9_spell (l : Launch) (E : wg_Ev) (ad : Nat → Nat) (S : wg_Sh) (hS : wg_SM S) (C : wg_C) (M : wg_M) (p1 : Int32) (p2 : Int32) (p3 : Int32) (p4 : Int32) (p5 : Int32) (p6 : Int32) (p7 : Int32) (p8 : Int32) (p9 : Int32)  {D0 : wg_M} (h : f_X9_spell M p1 p2 p3 p4 p5 p6 p7 p8 p9 = some D0) : wg_Cv l yX9_spell cX9_spell 10 none 0 0 E ad S C M [.ref (ad 55), .int p1, .int p2, .int p3, .int p4, .int p5, .int p6, .int p7, .int p8, .int p9] C D0 := by
  refine wg_start (own := RX9) (by decide +kernel) rfl (Nat.le_of_ble_eq_true rfl) ?_
  intro p e s m below meth c X hr hnm
  refine wg_lv (lv' := [(0, .ref (ad 55)), (1, .int p1), (2, .int p2), (3, .int p3), (4, .int p4), (5, .int p5), (6, .int p6), (7, .int p7), (8, .int p8), (9, .int p9)]) rfl ?_
  unfold f_X9_spell at h
  refine wg_aload_n X 0 dX9_spell_0 rfl rfl ?_
  refine wg_getR (b := 56) X cl9 (SMi hS 55 9 rfl) 1 (by decide) dX9_spell_1 k_883 rfl (SMr hS 1 56 rfl) ?_
  refine wg_iload_n X 1 dX9_spell_4 rfl rfl ?_
  refine wg_iload_n X 2 dX9_spell_5 rfl rfl ?_
  obtain ⟨z1, h⟩ := ck_some h
  obtain ⟨M2, e3, h⟩ := lt_some h
  refine wg_maste X (SMi hS 56 11 rfl) (SMl hS 56 960 rfl) z1 dX9_spell_6 e3 ?_
  refine wg_aload_n X 0 dX9_spell_7 rfl rfl ?_
  refine wg_getR (b := 56) X cl9 (SMi hS 55 9 rfl) 1 (by decide) dX9_spell_8 k_883 rfl (SMr hS 1 56 rfl) ?_
  refine wg_iload_n X 1 dX9_spell_11 rfl rfl ?_
  refine wg_iconst (v := 1) X dX9_spell_12 (by decide) ?_
  refine wg_iadd X dX9_spell_13 ?_
  refine wg_iload_n X 3 dX9_spell_14 rfl rfl ?_
  obtain ⟨z4, h⟩ := ck_some h
  obtain ⟨M5, e6, h⟩ := lt_some h
  refine wg_maste X (SMi hS 56 11 rfl) (SMl hS 56 960 rfl) z4 dX9_spell_15 e6 ?_
  refine wg_aload_n X 0 dX9_spell_16 rfl rfl ?_
  refine wg_getR (b := 56) X cl9 (SMi hS 55 9 rfl) 1 (by decide) dX9_spell_17 k_883 rfl (SMr hS 1 56 rfl) ?_
  refine wg_iload_n X 1 dX9_spell_20 rfl rfl ?_
  refine wg_iconst (v := 2) X dX9_spell_21 (by decide) ?_
  refine wg_iadd X dX9_spell_22 ?_
  refine wg_iload X 4 dX9_spell_23 rfl ?_
  obtain ⟨z7, h⟩ := ck_some h
  obtain ⟨M8, e9, h⟩ := lt_some h
  refine wg_maste X (SMi hS 56 11 rfl) (SMl hS 56 960 rfl) z7 dX9_spell_25 e9 ?_
  refine wg_aload_n X 0 dX9_spell_26 rfl rfl ?_
  refine wg_getR (b := 56) X cl9 (SMi hS 55 9 rfl) 1 (by decide) dX9_spell_27 k_883 rfl (SMr hS 1 56 rfl) ?_
  refine wg_iload_n X 1 dX9_spell_30 rfl rfl ?_
  refine wg_iconst (v := 3) X dX9_spell_31 (by decide) ?_
  refine wg_iadd X dX9_spell_32 ?_
  refine wg_iload X 5 dX9_spell_33 rfl ?_
  obtain ⟨z10, h⟩ := ck_some h
  obtain ⟨M11, e12, h⟩ := lt_some h
  refine wg_maste X (SMi hS 56 11 rfl) (SMl hS 56 960 rfl) z10 dX9_spell_35 e12 ?_
  refine wg_aload_n X 0 dX9_spell_36 rfl rfl ?_
  refine wg_getR (b := 56) X cl9 (SMi hS 55 9 rfl) 1 (by decide) dX9_spell_37 k_883 rfl (SMr hS 1 56 rfl) ?_
  refine wg_iload_n X 1 dX9_spell_40 rfl rfl ?_
  refine wg_iconst (v := 4) X dX9_spell_41 (by decide) ?_
  refine wg_iadd X dX9_spell_42 ?_
  refine wg_iload X 6 dX9_spell_43 rfl ?_
  obtain ⟨z13, h⟩ := ck_some h
  obtain ⟨M14, e15, h⟩ := lt_some h
  refine wg_maste X (SMi hS 56 11 rfl) (SMl hS 56 960 rfl) z13 dX9_spell_45 e15 ?_
  refine wg_aload_n X 0 dX9_spell_46 rfl rfl ?_
  refine wg_getR (b := 56) X cl9 (SMi hS 55 9 rfl) 1 (by decide) dX9_spell_47 k_883 rfl (SMr hS 1 56 rfl) ?_
  refine wg_iload_n X 1 dX9_spell_50 rfl rfl ?_
  refine wg_iconst (v := 5) X dX9_spell_51 (by decide) ?_
  refine wg_iadd X dX9_spell_52 ?_
  refine wg_iload X 7 dX9_spell_53 rfl ?_
  obtain ⟨z16, h⟩ := ck_some h
  obtain ⟨M17, e18, h⟩ := lt_some h
  refine wg_maste X (SMi hS 56 11 rfl) (SMl hS 56 960 rfl) z16 dX9_spell_55 e18 ?_
  refine wg_aload_n X 0 dX9_spell_56 rfl rfl ?_
  refine wg_getR (b := 56) X cl9 (SMi hS 55 9 rfl) 1 (by decide) dX9_spell_57 k_883 rfl (SMr hS 1 56 rfl) ?_
  refine wg_iload_n X 1 dX9_spell_60 rfl rfl ?_
  refine wg_bipush (v := 6) X dX9_spell_61 (by decide) ?_
  refine wg_iadd X dX9_spell_63 ?_
  refine wg_iload X 8 dX9_spell_64 rfl ?_
  obtain ⟨z19, h⟩ := ck_some h
  obtain ⟨M20, e21, h⟩ := lt_some h
  refine wg_maste X (SMi hS 56 11 rfl) (SMl hS 56 960 rfl) z19 dX9_spell_66 e21 ?_
  refine wg_aload_n X 0 dX9_spell_67 rfl rfl ?_
  refine wg_getR (b := 56) X cl9 (SMi hS 55 9 rfl) 1 (by decide) dX9_spell_68 k_883 rfl (SMr hS 1 56 rfl) ?_
  refine wg_iload_n X 1 dX9_spell_71 rfl rfl ?_
  refine wg_bipush (v := 7) X dX9_spell_72 (by decide) ?_
  refine wg_iadd X dX9_spell_74 ?_
  refine wg_iload X 9 dX9_spell_75 rfl ?_
  obtain ⟨z22, h⟩ := ck_some h
  obtain ⟨M23, e24, h⟩ := lt_some h
  refine wg_maste X (SMi hS 56 11 rfl) (SMl hS 56 960 rfl) z22 dX9_spell_77 e24 ?_
  exact wg_vret X ⟨rfl, (sm_inj h)⟩ hr dX9_spell_78
-- WindowsGiveModel.isPane(I)Z (('c', 55), 'i')
def f_X9_isPane (M : wg_M) (p1 : Int32) : Option Int32 :=
  bd (f_X9_in p1.toInt64 (0 : Int64) (((M.1 55 13) - (1 : Int32)).toInt64)) fun r2 =>
  ck (r2 = 0 ∨ r2 = 1) <|
  some r2
set_option maxHeartbeats 4000000 in
set_option maxRecDepth 100000 in
theorem c_X9_isPane (l : Launch) (E : wg_Ev) (ad : Nat → Nat) (S : wg_Sh) (hS : wg_SM S) (C : wg_C) (M : wg_M) (p1 : Int32)  {r0 : Int32} (h : f_X9_isPane M p1 = some r0) : wg_Ci l yX9_isPane cX9_isPane 2 (some .boolean) 1 25 E ad S C M [.ref (ad 55), .int p1] r0 C M := by
  refine wg_start (own := RX9) (by decide +kernel) rfl (Nat.le_of_ble_eq_true rfl) ?_
  intro p e s m below meth c X hr hnm
  refine wg_lv (lv' := [(0, .ref (ad 55)), (1, .int p1)]) rfl ?_
  unfold f_X9_isPane at h
  refine wg_iload_n X 1 dX9_isPane_0 rfl rfl ?_
  refine wg_i2l X dX9_isPane_1 ?_
  refine wg_lconst (v := 0) X dX9_isPane_2 (by decide) ?_
  refine wg_aload_n X 0 dX9_isPane_3 rfl rfl ?_
  refine wg_getM X cl9 (SMi hS 55 9 rfl) 13 (by decide) dX9_isPane_4 k_895 rfl ?_
  refine wg_iconst (v := 1) X dX9_isPane_7 (by decide) ?_
  refine wg_isub X dX9_isPane_8 ?_
  refine wg_i2l X dX9_isPane_9 ?_
  obtain ⟨r2, h1, h⟩ := bd_some h
  refine wg_callSi (As := [.long (p1.toInt64), .long (0 : Int64), .long (((M.1 55 13) - (1 : Int32)).toInt64)]) (rest := []) X (c_X9_in l E ad S C M p1.toInt64 (0 : Int64) (((M.1 55 13) - (1 : Int32)).toInt64)  h1) T_yX9_in k_1021 dX9_isPane_10 rfl rfl (Nat.le_of_ble_eq_true rfl) ⟨Nat.le_of_ble_eq_true rfl, Nat.le_of_ble_eq_true rfl⟩ ⟨Nat.zero_le _, Nat.zero_le _⟩ ?_
  obtain ⟨z3, h⟩ := ck_some h
  exact wg_zret X ⟨(sm_inj h), rfl, rfl⟩ hr z3 dX9_isPane_13
-- WindowsGiveModel.isDay(I)Z ('i',)
def f_X9_isDay (p0 : Int32) : Option Int32 :=
  bd (f_X9_in p0.toInt64 (0 : Int64) (31 : Int64)) fun r2 =>
  ck (r2 = 0 ∨ r2 = 1) <|
  some r2
set_option maxHeartbeats 4000000 in
set_option maxRecDepth 100000 in
theorem c_X9_isDay (l : Launch) (E : wg_Ev) (ad : Nat → Nat) (S : wg_Sh) (C : wg_C) (M : wg_M) (p0 : Int32)  {r0 : Int32} (h : f_X9_isDay p0 = some r0) : wg_Ci l yX9_isDay cX9_isDay 1 (some .boolean) 1 25 E ad S C M [.int p0] r0 C M := by
  refine wg_start (own := RX9) (by decide +kernel) rfl (Nat.le_of_ble_eq_true rfl) ?_
  intro p e s m below meth c X hr hnm
  refine wg_lv (lv' := [(0, .int p0)]) rfl ?_
  unfold f_X9_isDay at h
  refine wg_iload_n X 0 dX9_isDay_0 rfl rfl ?_
  refine wg_i2l X dX9_isDay_1 ?_
  refine wg_lconst (v := 0) X dX9_isDay_2 (by decide) ?_
  refine wg_ldc2 (v := 31) X dX9_isDay_3 k_1027 ?_
  obtain ⟨r2, h1, h⟩ := bd_some h
  refine wg_callSi (As := [.long (p0.toInt64), .long (0 : Int64), .long (31 : Int64)]) (rest := []) X (c_X9_in l E ad S C M p0.toInt64 (0 : Int64) (31 : Int64)  h1) T_yX9_in k_1021 dX9_isDay_6 rfl rfl (Nat.le_of_ble_eq_true rfl) ⟨Nat.le_of_ble_eq_true rfl, Nat.le_of_ble_eq_true rfl⟩ ⟨Nat.zero_le _, Nat.zero_le _⟩ ?_
  obtain ⟨z3, h⟩ := ck_some h
  exact wg_zret X ⟨(sm_inj h), rfl, rfl⟩ hr z3 dX9_isDay_9
-- WindowsGiveModel.isRoom(I)Z ('i',)
def f_X9_isRoom (p0 : Int32) : Option Int32 :=
  bd (f_X9_in p0.toInt64 (0 : Int64) (5 : Int64)) fun r2 =>
  ck (r2 = 0 ∨ r2 = 1) <|
  some r2
set_option maxHeartbeats 4000000 in
set_option maxRecDepth 100000 in
theorem c_X9_isRoom (l : Launch) (E : wg_Ev) (ad : Nat → Nat) (S : wg_Sh) (C : wg_C) (M : wg_M) (p0 : Int32)  {r0 : Int32} (h : f_X9_isRoom p0 = some r0) : wg_Ci l yX9_isRoom cX9_isRoom 1 (some .boolean) 1 25 E ad S C M [.int p0] r0 C M := by
  refine wg_start (own := RX9) (by decide +kernel) rfl (Nat.le_of_ble_eq_true rfl) ?_
  intro p e s m below meth c X hr hnm
  refine wg_lv (lv' := [(0, .int p0)]) rfl ?_
  unfold f_X9_isRoom at h
  refine wg_iload_n X 0 dX9_isRoom_0 rfl rfl ?_
  refine wg_i2l X dX9_isRoom_1 ?_
  refine wg_lconst (v := 0) X dX9_isRoom_2 (by decide) ?_
  refine wg_ldc2 (v := 5) X dX9_isRoom_3 k_1033 ?_
  obtain ⟨r2, h1, h⟩ := bd_some h
  refine wg_callSi (As := [.long (p0.toInt64), .long (0 : Int64), .long (5 : Int64)]) (rest := []) X (c_X9_in l E ad S C M p0.toInt64 (0 : Int64) (5 : Int64)  h1) T_yX9_in k_1021 dX9_isRoom_6 rfl rfl (Nat.le_of_ble_eq_true rfl) ⟨Nat.le_of_ble_eq_true rfl, Nat.le_of_ble_eq_true rfl⟩ ⟨Nat.zero_le _, Nat.zero_le _⟩ ?_
  obtain ⟨z3, h⟩ := ck_some h
  exact wg_zret X ⟨(sm_inj h), rfl, rfl⟩ hr z3 dX9_isRoom_9
-- WindowsGiveModel.isSpot(I)Z ('i',)
def f_X9_isSpot (p0 : Int32) : Option Int32 :=
  bd (f_X9_in p0.toInt64 (0 : Int64) (191 : Int64)) fun r2 =>
  ck (r2 = 0 ∨ r2 = 1) <|
  some r2
set_option maxHeartbeats 4000000 in
set_option maxRecDepth 100000 in
theorem c_X9_isSpot (l : Launch) (E : wg_Ev) (ad : Nat → Nat) (S : wg_Sh) (C : wg_C) (M : wg_M) (p0 : Int32)  {r0 : Int32} (h : f_X9_isSpot p0 = some r0) : wg_Ci l yX9_isSpot cX9_isSpot 1 (some .boolean) 1 25 E ad S C M [.int p0] r0 C M := by
  refine wg_start (own := RX9) (by decide +kernel) rfl (Nat.le_of_ble_eq_true rfl) ?_
  intro p e s m below meth c X hr hnm
  refine wg_lv (lv' := [(0, .int p0)]) rfl ?_
  unfold f_X9_isSpot at h
  refine wg_iload_n X 0 dX9_isSpot_0 rfl rfl ?_
  refine wg_i2l X dX9_isSpot_1 ?_
  refine wg_lconst (v := 0) X dX9_isSpot_2 (by decide) ?_
  refine wg_ldc2 (v := 191) X dX9_isSpot_3 k_1161 ?_
  obtain ⟨r2, h1, h⟩ := bd_some h
  refine wg_callSi (As := [.long (p0.toInt64), .long (0 : Int64), .long (191 : Int64)]) (rest := []) X (c_X9_in l E ad S C M p0.toInt64 (0 : Int64) (191 : Int64)  h1) T_yX9_in k_1021 dX9_isSpot_6 rfl rfl (Nat.le_of_ble_eq_true rfl) ⟨Nat.le_of_ble_eq_true rfl, Nat.le_of_ble_eq_true rfl⟩ ⟨Nat.zero_le _, Nat.zero_le _⟩ ?_
  obtain ⟨z3, h⟩ := ck_some h
  exact wg_zret X ⟨(sm_inj h), rfl, rfl⟩ hr z3 dX9_isSpot_9
-- WindowsGiveModel.isSort(I)Z ('i',)
def f_X9_isSort (p0 : Int32) : Option Int32 :=
  bd (f_X9_in p0.toInt64 (0 : Int64) (2 : Int64)) fun r2 =>
  ck (r2 = 0 ∨ r2 = 1) <|
  some r2
set_option maxHeartbeats 4000000 in
set_option maxRecDepth 100000 in
theorem c_X9_isSort (l : Launch) (E : wg_Ev) (ad : Nat → Nat) (S : wg_Sh) (C : wg_C) (M : wg_M) (p0 : Int32)  {r0 : Int32} (h : f_X9_isSort p0 = some r0) : wg_Ci l yX9_isSort cX9_isSort 1 (some .boolean) 1 25 E ad S C M [.int p0] r0 C M := by
  refine wg_start (own := RX9) (by decide +kernel) rfl (Nat.le_of_ble_eq_true rfl) ?_
  intro p e s m below meth c X hr hnm
  refine wg_lv (lv' := [(0, .int p0)]) rfl ?_
  unfold f_X9_isSort at h
  refine wg_iload_n X 0 dX9_isSort_0 rfl rfl ?_
  refine wg_i2l X dX9_isSort_1 ?_
  refine wg_lconst (v := 0) X dX9_isSort_2 (by decide) ?_
  refine wg_ldc2 (v := 2) X dX9_isSort_3 k_1061 ?_
  obtain ⟨r2, h1, h⟩ := bd_some h
  refine wg_callSi (As := [.long (p0.toInt64), .long (0 : Int64), .long (2 : Int64)]) (rest := []) X (c_X9_in l E ad S C M p0.toInt64 (0 : Int64) (2 : Int64)  h1) T_yX9_in k_1021 dX9_isSort_6 rfl rfl (Nat.le_of_ble_eq_true rfl) ⟨Nat.le_of_ble_eq_true rfl, Nat.le_of_ble_eq_true rfl⟩ ⟨Nat.zero_le _, Nat.zero_le _⟩ ?_
  obtain ⟨z3, h⟩ := ck_some h
  exact wg_zret X ⟨(sm_inj h), rfl, rfl⟩ hr z3 dX9_isSort_9
-- WindowsGiveModel.leads(I)I (('c', 55), 'i')
def f_X9_leads (M : wg_M) (p1 : Int32) : Option Int32 :=
  ck (inb p1 8) <|
  if (M.1 60 p1.toNatClampNeg) = (4 : Int32) then (
    ck (inb p1 8) <|
    some (M.1 63 p1.toNatClampNeg))
  else (
    ck (inb p1 8) <|
    some (M.1 64 p1.toNatClampNeg))
set_option maxHeartbeats 4000000 in
set_option maxRecDepth 100000 in
theorem c_X9_leads (l : Launch) (E : wg_Ev) (ad : Nat → Nat) (S : wg_Sh) (hS : wg_SM S) (C : wg_C) (M : wg_M) (p1 : Int32)  {r0 : Int32} (h : f_X9_leads M p1 = some r0) : wg_Ci l yX9_leads cX9_leads 2 (some .int) 0 0 E ad S C M [.ref (ad 55), .int p1] r0 C M := by
  refine wg_start (own := RX9) (by decide +kernel) rfl (Nat.le_of_ble_eq_true rfl) ?_
  intro p e s m below meth c X hr hnm
  refine wg_lv (lv' := [(0, .ref (ad 55)), (1, .int p1)]) rfl ?_
  unfold f_X9_leads at h
  refine wg_aload_n X 0 dX9_leads_0 rfl rfl ?_
  refine wg_getR (b := 60) X cl9 (SMi hS 55 9 rfl) 8 (by decide) dX9_leads_1 k_890 rfl (SMr hS 8 60 rfl) ?_
  refine wg_iload_n X 1 dX9_leads_4 rfl rfl ?_
  obtain ⟨z1, h⟩ := ck_some h
  refine wg_mald X (SMi hS 60 11 rfl) (SMl hS 60 8 rfl) z1 dX9_leads_5 ?_
  refine wg_iconst (v := 4) X dX9_leads_6 (by decide) ?_
  refine wg_icmp_ne X 19 dX9_leads_7 (by decide) (fun c2 => ?_) (fun c2 => ?_)
  · have h := if_f c2 h
    refine wg_aload_n X 0 dX9_leads_19 rfl rfl ?_
    refine wg_getR (b := 64) X cl9 (SMi hS 55 9 rfl) 12 (by decide) dX9_leads_20 k_894 rfl (SMr hS 12 64 rfl) ?_
    refine wg_iload_n X 1 dX9_leads_23 rfl rfl ?_
    obtain ⟨z3, h⟩ := ck_some h
    refine wg_mald X (SMi hS 64 11 rfl) (SMl hS 64 8 rfl) z3 dX9_leads_24 ?_
    exact wg_iret X ⟨(sm_inj h), rfl, rfl⟩ hr dX9_leads_25
  · have h := if_t c2 h
    refine wg_aload_n X 0 dX9_leads_10 rfl rfl ?_
    refine wg_getR (b := 63) X cl9 (SMi hS 55 9 rfl) 11 (by decide) dX9_leads_11 k_893 rfl (SMr hS 11 63 rfl) ?_
    refine wg_iload_n X 1 dX9_leads_14 rfl rfl ?_
    obtain ⟨z4, h⟩ := ck_some h
    refine wg_mald X (SMi hS 63 11 rfl) (SMl hS 63 8 rfl) z4 dX9_leads_15 ?_
    refine wg_goto X 25 dX9_leads_16 (by decide) ?_
    exact wg_iret X ⟨(sm_inj h), rfl, rfl⟩ hr dX9_leads_25
-- WindowsGiveModel.told(II)I (('c', 55), 'i', 'i')
def f_X9_told_j37 (M : wg_M)  (x1 : Int32) (x2 : Int32) : Option Int32 :=
  if (3 : Int32) ≤ x2 then (
    if x2 = (3 : Int32) then (
      ck (inb x1 8) <|
      some (M.1 63 x1.toNatClampNeg))
    else (
      if x2 = (4 : Int32) then (
        ck (inb x1 8) <|
        some (M.1 64 x1.toNatClampNeg))
      else (
        if x2 = (5 : Int32) then (
          ck (inb x1 8) <|
          some (M.1 60 x1.toNatClampNeg))
        else (
          bd (f_X9_leads M x1) fun r13 =>
          some r13))))
  else (
    if x2 = 0 then (
      ck (inb x1 32) <|
      some (M.1 59 x1.toNatClampNeg))
    else (
      if x2 = (1 : Int32) then (
        ck (inb x1 8) <|
        some (M.1 61 x1.toNatClampNeg))
      else (
        ck (inb x1 8) <|
        some (M.1 62 x1.toNatClampNeg))))
def f_X9_told (M : wg_M) (p1 : Int32) (p2 : Int32) : Option Int32 :=
  bd (f_X9_in p2.toInt64 (0 : Int64) (6 : Int64)) fun r2 =>
  if r2 = 0 then (
    some (-100 : Int32))
  else (
    if p2 = 0 then (
      bd (f_X9_isDay p1) fun r23 =>
      if r23 = 0 then (
        some (-100 : Int32))
      else (
        f_X9_told_j37 M  p1 p2))
    else (
      bd (f_X9_isPane M p1) fun r6 =>
      if r6 = 0 then (
        some (-100 : Int32))
      else (
        f_X9_told_j37 M  p1 p2)))
abbrev G_X9_told (p : Program) (l : Launch) (e : Env) (s : State) (m : MethodId) (args : Array Value) (below : List Frame) (meth : Method) (c : Code) (E : wg_Ev) (ad : Nat → Nat) (S : wg_Sh) (r0 : Int32) (C0 : wg_C) (M0 : wg_M) (pc : Nat) (C : wg_C) (M : wg_M) (lv : List (Nat × Value)) (st : List Value) : Prop := wg_G p l e (wg_Rm 2 46) s m args below meth c (MQ below (wg_Qi E ad S r0 C0 M0) args s 0 0 (wg_A E)) 3 E ad S 0 0 pc C M lv st
set_option maxHeartbeats 4000000 in
set_option maxRecDepth 100000 in
theorem J_X9_told_j37 {p : Program} {l : Launch} {e : Env} {s : State} {m : MethodId} {args : Array Value} {below : List Frame} {meth : Method} {c : Code} {E : wg_Ev} {ad : Nat → Nat} {S : wg_Sh} (X : wg_X p s m args meth c cX9_told 3 RX9 E) (hr : meth.sig.returnType = (some .int)) (hS : wg_SM S) (r0 : Int32) (C : wg_C)  (M : wg_M)  (x1 : Int32) (x2 : Int32)   (h : f_X9_told_j37 M  x1 x2 = some r0) : G_X9_told p l e s m args below meth c E ad S r0 C M 37 C M [(0, .ref (ad 55)), (1, .int x1), (2, .int x2)] [] := by
  unfold f_X9_told_j37 at h
  refine wg_iload_n X 2 dX9_told_37 rfl rfl ?_
  refine wg_iconst (v := 3) X dX9_told_38 (by decide) ?_
  refine wg_icmp_ge X 76 dX9_told_39 (by decide) (fun c8 => ?_) (fun c8 => ?_)
  · have h := if_t c8 h
    refine wg_iload_n X 2 dX9_told_76 rfl rfl ?_
    refine wg_iconst (v := 3) X dX9_told_77 (by decide) ?_
    refine wg_icmp_ne X 90 dX9_told_78 (by decide) (fun c9 => ?_) (fun c9 => ?_)
    · have h := if_f c9 h
      refine wg_iload_n X 2 dX9_told_90 rfl rfl ?_
      refine wg_iconst (v := 4) X dX9_told_91 (by decide) ?_
      refine wg_icmp_ne X 104 dX9_told_92 (by decide) (fun c10 => ?_) (fun c10 => ?_)
      · have h := if_f c10 h
        refine wg_iload_n X 2 dX9_told_104 rfl rfl ?_
        refine wg_iconst (v := 5) X dX9_told_105 (by decide) ?_
        refine wg_icmp_ne X 118 dX9_told_106 (by decide) (fun c11 => ?_) (fun c11 => ?_)
        · have h := if_f c11 h
          refine wg_aload_n X 0 dX9_told_118 rfl rfl ?_
          refine wg_iload_n X 1 dX9_told_119 rfl rfl ?_
          obtain ⟨r13, h12, h⟩ := bd_some h
          refine wg_callVi (As := [.int x1]) (rest := []) X (c_X9_leads l E ad S hS C M x1  h12) T_yX9_leads k_1040 cl9 (SMi hS 55 9 rfl) dX9_told_120 rfl rfl (Nat.le_of_ble_eq_true rfl) ⟨Nat.le_of_ble_eq_true rfl, Nat.le_of_ble_eq_true rfl⟩ ⟨Nat.zero_le _, Nat.zero_le _⟩ ?_
          exact wg_iret X ⟨(sm_inj h), rfl, rfl⟩ hr dX9_told_123
        · have h := if_t c11 h
          refine wg_aload_n X 0 dX9_told_109 rfl rfl ?_
          refine wg_getR (b := 60) X cl9 (SMi hS 55 9 rfl) 8 (by decide) dX9_told_110 k_890 rfl (SMr hS 8 60 rfl) ?_
          refine wg_iload_n X 1 dX9_told_113 rfl rfl ?_
          obtain ⟨z14, h⟩ := ck_some h
          refine wg_mald X (SMi hS 60 11 rfl) (SMl hS 60 8 rfl) z14 dX9_told_114 ?_
          refine wg_goto X 123 dX9_told_115 (by decide) ?_
          exact wg_iret X ⟨(sm_inj h), rfl, rfl⟩ hr dX9_told_123
      · have h := if_t c10 h
        refine wg_aload_n X 0 dX9_told_95 rfl rfl ?_
        refine wg_getR (b := 64) X cl9 (SMi hS 55 9 rfl) 12 (by decide) dX9_told_96 k_894 rfl (SMr hS 12 64 rfl) ?_
        refine wg_iload_n X 1 dX9_told_99 rfl rfl ?_
        obtain ⟨z15, h⟩ := ck_some h
        refine wg_mald X (SMi hS 64 11 rfl) (SMl hS 64 8 rfl) z15 dX9_told_100 ?_
        refine wg_goto X 123 dX9_told_101 (by decide) ?_
        exact wg_iret X ⟨(sm_inj h), rfl, rfl⟩ hr dX9_told_123
    · have h := if_t c9 h
      refine wg_aload_n X 0 dX9_told_81 rfl rfl ?_
      refine wg_getR (b := 63) X cl9 (SMi hS 55 9 rfl) 11 (by decide) dX9_told_82 k_893 rfl (SMr hS 11 63 rfl) ?_
      refine wg_iload_n X 1 dX9_told_85 rfl rfl ?_
      obtain ⟨z16, h⟩ := ck_some h
      refine wg_mald X (SMi hS 63 11 rfl) (SMl hS 63 8 rfl) z16 dX9_told_86 ?_
      refine wg_goto X 123 dX9_told_87 (by decide) ?_
      exact wg_iret X ⟨(sm_inj h), rfl, rfl⟩ hr dX9_told_123
  · have h := if_f c8 h
    refine wg_iload_n X 2 dX9_told_42 rfl rfl ?_
    refine wg_if_ne X 55 dX9_told_43 (by decide) (fun c17 => ?_) (fun c17 => ?_)
    · have h := if_f c17 h
      refine wg_iload_n X 2 dX9_told_55 rfl rfl ?_
      refine wg_iconst (v := 1) X dX9_told_56 (by decide) ?_
      refine wg_icmp_ne X 69 dX9_told_57 (by decide) (fun c18 => ?_) (fun c18 => ?_)
      · have h := if_f c18 h
        refine wg_aload_n X 0 dX9_told_69 rfl rfl ?_
        refine wg_getR (b := 62) X cl9 (SMi hS 55 9 rfl) 10 (by decide) dX9_told_70 k_892 rfl (SMr hS 10 62 rfl) ?_
        refine wg_iload_n X 1 dX9_told_73 rfl rfl ?_
        obtain ⟨z19, h⟩ := ck_some h
        refine wg_mald X (SMi hS 62 11 rfl) (SMl hS 62 8 rfl) z19 dX9_told_74 ?_
        exact wg_iret X ⟨(sm_inj h), rfl, rfl⟩ hr dX9_told_75
      · have h := if_t c18 h
        refine wg_aload_n X 0 dX9_told_60 rfl rfl ?_
        refine wg_getR (b := 61) X cl9 (SMi hS 55 9 rfl) 9 (by decide) dX9_told_61 k_891 rfl (SMr hS 9 61 rfl) ?_
        refine wg_iload_n X 1 dX9_told_64 rfl rfl ?_
        obtain ⟨z20, h⟩ := ck_some h
        refine wg_mald X (SMi hS 61 11 rfl) (SMl hS 61 8 rfl) z20 dX9_told_65 ?_
        refine wg_goto X 75 dX9_told_66 (by decide) ?_
        exact wg_iret X ⟨(sm_inj h), rfl, rfl⟩ hr dX9_told_75
    · have h := if_t c17 h
      refine wg_aload_n X 0 dX9_told_46 rfl rfl ?_
      refine wg_getR (b := 59) X cl9 (SMi hS 55 9 rfl) 7 (by decide) dX9_told_47 k_889 rfl (SMr hS 7 59 rfl) ?_
      refine wg_iload_n X 1 dX9_told_50 rfl rfl ?_
      obtain ⟨z21, h⟩ := ck_some h
      refine wg_mald X (SMi hS 59 11 rfl) (SMl hS 59 32 rfl) z21 dX9_told_51 ?_
      refine wg_goto X 75 dX9_told_52 (by decide) ?_
      exact wg_iret X ⟨(sm_inj h), rfl, rfl⟩ hr dX9_told_75
set_option maxHeartbeats 4000000 in
set_option maxRecDepth 100000 in
theorem c_X9_told (l : Launch) (E : wg_Ev) (ad : Nat → Nat) (S : wg_Sh) (hS : wg_SM S) (C : wg_C) (M : wg_M) (p1 : Int32) (p2 : Int32)  {r0 : Int32} (h : f_X9_told M p1 p2 = some r0) : wg_Ci l yX9_told cX9_told 3 (some .int) 2 46 E ad S C M [.ref (ad 55), .int p1, .int p2] r0 C M := by
  refine wg_start (own := RX9) (by decide +kernel) rfl (Nat.le_of_ble_eq_true rfl) ?_
  intro p e s m below meth c X hr hnm
  refine wg_lv (lv' := [(0, .ref (ad 55)), (1, .int p1), (2, .int p2)]) rfl ?_
  unfold f_X9_told at h
  refine wg_iload_n X 2 dX9_told_0 rfl rfl ?_
  refine wg_i2l X dX9_told_1 ?_
  refine wg_lconst (v := 0) X dX9_told_2 (by decide) ?_
  refine wg_ldc2 (v := 6) X dX9_told_3 k_1039 ?_
  obtain ⟨r2, h1, h⟩ := bd_some h
  refine wg_callSi (As := [.long (p2.toInt64), .long (0 : Int64), .long (6 : Int64)]) (rest := []) X (c_X9_in l E ad S C M p2.toInt64 (0 : Int64) (6 : Int64)  h1) T_yX9_in k_1021 dX9_told_6 rfl rfl (Nat.le_of_ble_eq_true rfl) ⟨Nat.le_of_ble_eq_true rfl, Nat.le_of_ble_eq_true rfl⟩ ⟨Nat.zero_le _, Nat.zero_le _⟩ ?_
  refine wg_if_eq X 34 dX9_told_9 (by decide) (fun c3 => ?_) (fun c3 => ?_)
  · have h := if_t c3 h
    refine wg_bipush (v := -100) X dX9_told_34 (by decide) ?_
    exact wg_iret X ⟨(sm_inj h), rfl, rfl⟩ hr dX9_told_36
  · have h := if_f c3 h
    refine wg_iload_n X 2 dX9_told_12 rfl rfl ?_
    refine wg_if_ne X 26 dX9_told_13 (by decide) (fun c4 => ?_) (fun c4 => ?_)
    · have h := if_f c4 h
      refine wg_aload_n X 0 dX9_told_26 rfl rfl ?_
      refine wg_iload_n X 1 dX9_told_27 rfl rfl ?_
      obtain ⟨r6, h5, h⟩ := bd_some h
      refine wg_callVi (As := [.int p1]) (rest := []) X (c_X9_isPane l E ad S hS C M p1  h5) T_yX9_isPane k_1028 cl9 (SMi hS 55 9 rfl) dX9_told_28 rfl rfl (Nat.le_of_ble_eq_true rfl) ⟨Nat.le_of_ble_eq_true rfl, Nat.le_of_ble_eq_true rfl⟩ ⟨Nat.zero_le _, Nat.zero_le _⟩ ?_
      refine wg_if_ne X 37 dX9_told_31 (by decide) (fun c7 => ?_) (fun c7 => ?_)
      · have h := if_f c7 h
        exact J_X9_told_j37 X hr hS r0 C  M  p1 p2   h
      · have h := if_t c7 h
        refine wg_bipush (v := -100) X dX9_told_34 (by decide) ?_
        exact wg_iret X ⟨(sm_inj h), rfl, rfl⟩ hr dX9_told_36
    · have h := if_t c4 h
      refine wg_iload_n X 1 dX9_told_16 rfl rfl ?_
      obtain ⟨r23, h22, h⟩ := bd_some h
      refine wg_callSi (As := [.int p1]) (rest := []) X (c_X9_isDay l E ad S C M p1  h22) T_yX9_isDay k_1024 dX9_told_17 rfl rfl (Nat.le_of_ble_eq_true rfl) ⟨Nat.le_of_ble_eq_true rfl, Nat.le_of_ble_eq_true rfl⟩ ⟨Nat.zero_le _, Nat.zero_le _⟩ ?_
      refine wg_if_eq X 34 dX9_told_20 (by decide) (fun c24 => ?_) (fun c24 => ?_)
      · have h := if_t c24 h
        refine wg_bipush (v := -100) X dX9_told_34 (by decide) ?_
        exact wg_iret X ⟨(sm_inj h), rfl, rfl⟩ hr dX9_told_36
      · have h := if_f c24 h
        refine wg_goto X 37 dX9_told_23 (by decide) ?_
        exact J_X9_told_j37 X hr hS r0 C  M  p1 p2   h
-- WindowsGiveModel.set(III)I (('c', 55), 'i', 'i', 'i')
def f_X9_set_j65 (M : wg_M)  (x1 : Int32) (x2 : Int32) (x3 : Int32) (s0 : Int64) (s1 : Int64) (s2 : Int64) : Option (Int32 × wg_M) :=
  bd (f_X9_in s2 s1 s0) fun r11 =>
  if r11 = 0 then (
    some ((-100 : Int32), M))
  else (
    bd (f_X9_told M x2 x1) fun r14 =>
    if x1 = 0 then (
      ck (inb x2 32) <|
      lt_ (wg_sM M 59 x2.toNatClampNeg x3) fun M32 =>
      some (r14, M32))
    else (
      if x1 = (1 : Int32) then (
        ck (inb x2 8) <|
        lt_ (wg_sM M 61 x2.toNatClampNeg x3) fun M29 =>
        some (r14, M29))
      else (
        if x1 = (2 : Int32) then (
          ck (inb x2 8) <|
          lt_ (wg_sM M 62 x2.toNatClampNeg x3) fun M26 =>
          some (r14, M26))
        else (
          if x1 = (3 : Int32) then (
            ck (inb x2 8) <|
            lt_ (wg_sM M 63 x2.toNatClampNeg x3) fun M23 =>
            some (r14, M23))
          else (
            ck (inb x2 8) <|
            lt_ (wg_sM M 64 x2.toNatClampNeg x3) fun M20 =>
            some (r14, M20))))))
def f_X9_set_j51 (M : wg_M)  (x1 : Int32) (x2 : Int32) (x3 : Int32) (s0 : Int64) (s1 : Int64) : Option (Int32 × wg_M) :=
  if x1 ≤ (2 : Int32) then (
    f_X9_set_j65 M  x1 x2 x3 (9 : Int64) s0 s1)
  else (
    f_X9_set_j65 M  x1 x2 x3 (5 : Int64) s0 s1)
def f_X9_set_j37 (M : wg_M)  (x1 : Int32) (x2 : Int32) (x3 : Int32) : Option (Int32 × wg_M) :=
  if x1 = (2 : Int32) then (
    f_X9_set_j51 M  x1 x2 x3 (-9 : Int64) x3.toInt64)
  else (
    f_X9_set_j51 M  x1 x2 x3 (0 : Int64) x3.toInt64)
def f_X9_set (M : wg_M) (p1 : Int32) (p2 : Int32) (p3 : Int32) : Option (Int32 × wg_M) :=
  bd (f_X9_in p1.toInt64 (0 : Int64) (4 : Int64)) fun r2 =>
  if r2 = 0 then (
    some ((-100 : Int32), M))
  else (
    if p1 = 0 then (
      bd (f_X9_isDay p2) fun r35 =>
      if r35 = 0 then (
        some ((-100 : Int32), M))
      else (
        f_X9_set_j37 M  p1 p2 p3))
    else (
      bd (f_X9_isPane M p2) fun r6 =>
      if r6 = 0 then (
        some ((-100 : Int32), M))
      else (
        f_X9_set_j37 M  p1 p2 p3)))
abbrev G_X9_set (p : Program) (l : Launch) (e : Env) (s : State) (m : MethodId) (args : Array Value) (below : List Frame) (meth : Method) (c : Code) (E : wg_Ev) (ad : Nat → Nat) (S : wg_Sh) (r0 : Int32) (C0 : wg_C) (M0 : wg_M) (pc : Nat) (C : wg_C) (M : wg_M) (lv : List (Nat × Value)) (st : List Value) : Prop := wg_G p l e (wg_Rm 3 68) s m args below meth c (MQ below (wg_Qi E ad S r0 C0 M0) args s 0 0 (wg_A E)) 5 E ad S 0 0 pc C M lv st
set_option maxHeartbeats 4000000 in
set_option maxRecDepth 100000 in
theorem J_X9_set_j65 {p : Program} {l : Launch} {e : Env} {s : State} {m : MethodId} {args : Array Value} {below : List Frame} {meth : Method} {c : Code} {E : wg_Ev} {ad : Nat → Nat} {S : wg_Sh} (X : wg_X p s m args meth c cX9_set 5 RX9 E) (hr : meth.sig.returnType = (some .int)) (hS : wg_SM S) (r0 : Int32) (D0 : wg_M) (C : wg_C)  (M : wg_M)  (x1 : Int32) (x2 : Int32) (x3 : Int32) (s0 : Int64) (s1 : Int64) (s2 : Int64)   (h : f_X9_set_j65 M  x1 x2 x3 s0 s1 s2 = some (r0, D0)) : G_X9_set p l e s m args below meth c E ad S r0 C D0 65 C M [(0, .ref (ad 55)), (1, .int x1), (2, .int x2), (3, .int x3)] [.long s0, .long s1, .long s2] := by
  unfold f_X9_set_j65 at h
  obtain ⟨r11, h10, h⟩ := bd_some h
  refine wg_callSi (As := [.long s2, .long s1, .long s0]) (rest := []) X (c_X9_in l E ad S C M s2 s1 s0  h10) T_yX9_in k_1021 dX9_set_65 rfl rfl (Nat.le_of_ble_eq_true rfl) ⟨Nat.le_of_ble_eq_true rfl, Nat.le_of_ble_eq_true rfl⟩ ⟨Nat.zero_le _, Nat.zero_le _⟩ ?_
  refine wg_if_ne X 74 dX9_set_68 (by decide) (fun c12 => ?_) (fun c12 => ?_)
  · have h := if_f c12 h
    refine wg_aload_n X 0 dX9_set_74 rfl rfl ?_
    refine wg_iload_n X 2 dX9_set_75 rfl rfl ?_
    refine wg_iload_n X 1 dX9_set_76 rfl rfl ?_
    obtain ⟨r14, h13, h⟩ := bd_some h
    refine wg_callVi (As := [.int x2, .int x1]) (rest := []) X (c_X9_told l E ad S hS C M x2 x1  h13) T_yX9_told k_1035 cl9 (SMi hS 55 9 rfl) dX9_set_77 rfl rfl (Nat.le_of_ble_eq_true rfl) ⟨Nat.le_of_ble_eq_true rfl, Nat.le_of_ble_eq_true rfl⟩ ⟨Nat.zero_le _, Nat.zero_le _⟩ ?_
    refine wg_istore (lv' := [(4, .int r14), (0, .ref (ad 55)), (1, .int x1), (2, .int x2), (3, .int x3)]) X dX9_set_80 rfl (by decide) rfl ?_
    refine wg_iload_n X 2 dX9_set_82 rfl rfl ?_
    refine wg_if_ne X 96 dX9_set_83 (by decide) (fun c15 => ?_) (fun c15 => ?_)
    · have h := if_f c15 h
      refine wg_iload_n X 2 dX9_set_96 rfl rfl ?_
      refine wg_iconst (v := 1) X dX9_set_97 (by decide) ?_
      refine wg_icmp_ne X 111 dX9_set_98 (by decide) (fun c16 => ?_) (fun c16 => ?_)
      · have h := if_f c16 h
        refine wg_iload_n X 2 dX9_set_111 rfl rfl ?_
        refine wg_iconst (v := 2) X dX9_set_112 (by decide) ?_
        refine wg_icmp_ne X 126 dX9_set_113 (by decide) (fun c17 => ?_) (fun c17 => ?_)
        · have h := if_f c17 h
          refine wg_iload_n X 2 dX9_set_126 rfl rfl ?_
          refine wg_iconst (v := 3) X dX9_set_127 (by decide) ?_
          refine wg_icmp_ne X 141 dX9_set_128 (by decide) (fun c18 => ?_) (fun c18 => ?_)
          · have h := if_f c18 h
            refine wg_aload_n X 1 dX9_set_141 rfl rfl ?_
            refine wg_getR (b := 64) X cl9 (SMi hS 55 9 rfl) 12 (by decide) dX9_set_142 k_894 rfl (SMr hS 12 64 rfl) ?_
            refine wg_iload_n X 3 dX9_set_145 rfl rfl ?_
            refine wg_iload_n X 4 dX9_set_146 rfl rfl ?_
            obtain ⟨z19, h⟩ := ck_some h
            obtain ⟨M20, e21, h⟩ := lt_some h
            refine wg_maste X (SMi hS 64 11 rfl) (SMl hS 64 8 rfl) z19 dX9_set_147 e21 ?_
            refine wg_iload X 0 dX9_set_148 rfl ?_
            exact wg_iret X ⟨congrArg Prod.fst (sm_inj h), rfl, congrArg Prod.snd (sm_inj h)⟩ hr dX9_set_150
          · have h := if_t c18 h
            refine wg_aload_n X 1 dX9_set_131 rfl rfl ?_
            refine wg_getR (b := 63) X cl9 (SMi hS 55 9 rfl) 11 (by decide) dX9_set_132 k_893 rfl (SMr hS 11 63 rfl) ?_
            refine wg_iload_n X 3 dX9_set_135 rfl rfl ?_
            refine wg_iload_n X 4 dX9_set_136 rfl rfl ?_
            obtain ⟨z22, h⟩ := ck_some h
            obtain ⟨M23, e24, h⟩ := lt_some h
            refine wg_maste X (SMi hS 63 11 rfl) (SMl hS 63 8 rfl) z22 dX9_set_137 e24 ?_
            refine wg_goto X 148 dX9_set_138 (by decide) ?_
            refine wg_iload X 0 dX9_set_148 rfl ?_
            exact wg_iret X ⟨congrArg Prod.fst (sm_inj h), rfl, congrArg Prod.snd (sm_inj h)⟩ hr dX9_set_150
        · have h := if_t c17 h
          refine wg_aload_n X 1 dX9_set_116 rfl rfl ?_
          refine wg_getR (b := 62) X cl9 (SMi hS 55 9 rfl) 10 (by decide) dX9_set_117 k_892 rfl (SMr hS 10 62 rfl) ?_
          refine wg_iload_n X 3 dX9_set_120 rfl rfl ?_
          refine wg_iload_n X 4 dX9_set_121 rfl rfl ?_
          obtain ⟨z25, h⟩ := ck_some h
          obtain ⟨M26, e27, h⟩ := lt_some h
          refine wg_maste X (SMi hS 62 11 rfl) (SMl hS 62 8 rfl) z25 dX9_set_122 e27 ?_
          refine wg_goto X 148 dX9_set_123 (by decide) ?_
          refine wg_iload X 0 dX9_set_148 rfl ?_
          exact wg_iret X ⟨congrArg Prod.fst (sm_inj h), rfl, congrArg Prod.snd (sm_inj h)⟩ hr dX9_set_150
      · have h := if_t c16 h
        refine wg_aload_n X 1 dX9_set_101 rfl rfl ?_
        refine wg_getR (b := 61) X cl9 (SMi hS 55 9 rfl) 9 (by decide) dX9_set_102 k_891 rfl (SMr hS 9 61 rfl) ?_
        refine wg_iload_n X 3 dX9_set_105 rfl rfl ?_
        refine wg_iload_n X 4 dX9_set_106 rfl rfl ?_
        obtain ⟨z28, h⟩ := ck_some h
        obtain ⟨M29, e30, h⟩ := lt_some h
        refine wg_maste X (SMi hS 61 11 rfl) (SMl hS 61 8 rfl) z28 dX9_set_107 e30 ?_
        refine wg_goto X 148 dX9_set_108 (by decide) ?_
        refine wg_iload X 0 dX9_set_148 rfl ?_
        exact wg_iret X ⟨congrArg Prod.fst (sm_inj h), rfl, congrArg Prod.snd (sm_inj h)⟩ hr dX9_set_150
    · have h := if_t c15 h
      refine wg_aload_n X 1 dX9_set_86 rfl rfl ?_
      refine wg_getR (b := 59) X cl9 (SMi hS 55 9 rfl) 7 (by decide) dX9_set_87 k_889 rfl (SMr hS 7 59 rfl) ?_
      refine wg_iload_n X 3 dX9_set_90 rfl rfl ?_
      refine wg_iload_n X 4 dX9_set_91 rfl rfl ?_
      obtain ⟨z31, h⟩ := ck_some h
      obtain ⟨M32, e33, h⟩ := lt_some h
      refine wg_maste X (SMi hS 59 11 rfl) (SMl hS 59 32 rfl) z31 dX9_set_92 e33 ?_
      refine wg_goto X 148 dX9_set_93 (by decide) ?_
      refine wg_iload X 0 dX9_set_148 rfl ?_
      exact wg_iret X ⟨congrArg Prod.fst (sm_inj h), rfl, congrArg Prod.snd (sm_inj h)⟩ hr dX9_set_150
  · have h := if_t c12 h
    refine wg_bipush (v := -100) X dX9_set_71 (by decide) ?_
    exact wg_iret X ⟨congrArg Prod.fst (sm_inj h), rfl, congrArg Prod.snd (sm_inj h)⟩ hr dX9_set_73
set_option maxHeartbeats 4000000 in
set_option maxRecDepth 100000 in
theorem J_X9_set_j51 {p : Program} {l : Launch} {e : Env} {s : State} {m : MethodId} {args : Array Value} {below : List Frame} {meth : Method} {c : Code} {E : wg_Ev} {ad : Nat → Nat} {S : wg_Sh} (X : wg_X p s m args meth c cX9_set 5 RX9 E) (hr : meth.sig.returnType = (some .int)) (hS : wg_SM S) (r0 : Int32) (D0 : wg_M) (C : wg_C)  (M : wg_M)  (x1 : Int32) (x2 : Int32) (x3 : Int32) (s0 : Int64) (s1 : Int64)   (h : f_X9_set_j51 M  x1 x2 x3 s0 s1 = some (r0, D0)) : G_X9_set p l e s m args below meth c E ad S r0 C D0 51 C M [(0, .ref (ad 55)), (1, .int x1), (2, .int x2), (3, .int x3)] [.long s0, .long s1] := by
  unfold f_X9_set_j51 at h
  refine wg_iload_n X 1 dX9_set_51 rfl rfl ?_
  refine wg_iconst (v := 2) X dX9_set_52 (by decide) ?_
  refine wg_icmp_le X 62 dX9_set_53 (by decide) (fun c9 => ?_) (fun c9 => ?_)
  · have h := if_t c9 h
    refine wg_ldc2 (v := 9) X dX9_set_62 k_1034 ?_
    exact J_X9_set_j65 X hr hS r0 D0 C  M  x1 x2 x3 (9 : Int64) s0 s1   h
  · have h := if_f c9 h
    refine wg_ldc2 (v := 5) X dX9_set_56 k_1033 ?_
    refine wg_goto X 65 dX9_set_59 (by decide) ?_
    exact J_X9_set_j65 X hr hS r0 D0 C  M  x1 x2 x3 (5 : Int64) s0 s1   h
set_option maxHeartbeats 4000000 in
set_option maxRecDepth 100000 in
theorem J_X9_set_j37 {p : Program} {l : Launch} {e : Env} {s : State} {m : MethodId} {args : Array Value} {below : List Frame} {meth : Method} {c : Code} {E : wg_Ev} {ad : Nat → Nat} {S : wg_Sh} (X : wg_X p s m args meth c cX9_set 5 RX9 E) (hr : meth.sig.returnType = (some .int)) (hS : wg_SM S) (r0 : Int32) (D0 : wg_M) (C : wg_C)  (M : wg_M)  (x1 : Int32) (x2 : Int32) (x3 : Int32)   (h : f_X9_set_j37 M  x1 x2 x3 = some (r0, D0)) : G_X9_set p l e s m args below meth c E ad S r0 C D0 37 C M [(0, .ref (ad 55)), (1, .int x1), (2, .int x2), (3, .int x3)] [] := by
  unfold f_X9_set_j37 at h
  refine wg_iload_n X 3 dX9_set_37 rfl rfl ?_
  refine wg_i2l X dX9_set_38 ?_
  refine wg_iload_n X 1 dX9_set_39 rfl rfl ?_
  refine wg_iconst (v := 2) X dX9_set_40 (by decide) ?_
  refine wg_icmp_ne X 50 dX9_set_41 (by decide) (fun c8 => ?_) (fun c8 => ?_)
  · have h := if_f c8 h
    refine wg_lconst (v := 0) X dX9_set_50 (by decide) ?_
    exact J_X9_set_j51 X hr hS r0 D0 C  M  x1 x2 x3 (0 : Int64) x3.toInt64   h
  · have h := if_t c8 h
    refine wg_ldc2 (v := -9) X dX9_set_44 k_1032 ?_
    refine wg_goto X 51 dX9_set_47 (by decide) ?_
    exact J_X9_set_j51 X hr hS r0 D0 C  M  x1 x2 x3 (-9 : Int64) x3.toInt64   h
set_option maxHeartbeats 4000000 in
set_option maxRecDepth 100000 in
theorem c_X9_set (l : Launch) (E : wg_Ev) (ad : Nat → Nat) (S : wg_Sh) (hS : wg_SM S) (C : wg_C) (M : wg_M) (p1 : Int32) (p2 : Int32) (p3 : Int32)  {r0 : Int32} {D0 : wg_M} (h : f_X9_set M p1 p2 p3 = some (r0, D0)) : wg_Ci l yX9_set cX9_set 5 (some .int) 3 68 E ad S C M [.ref (ad 55), .int p1, .int p2, .int p3] r0 C D0 := by
  refine wg_start (own := RX9) (by decide +kernel) rfl (Nat.le_of_ble_eq_true rfl) ?_
  intro p e s m below meth c X hr hnm
  refine wg_lv (lv' := [(0, .ref (ad 55)), (1, .int p1), (2, .int p2), (3, .int p3)]) rfl ?_
  unfold f_X9_set at h
  refine wg_iload_n X 1 dX9_set_0 rfl rfl ?_
  refine wg_i2l X dX9_set_1 ?_
  refine wg_lconst (v := 0) X dX9_set_2 (by decide) ?_
  refine wg_ldc2 (v := 4) X dX9_set_3 k_1020 ?_
  obtain ⟨r2, h1, h⟩ := bd_some h
  refine wg_callSi (As := [.long (p1.toInt64), .long (0 : Int64), .long (4 : Int64)]) (rest := []) X (c_X9_in l E ad S C M p1.toInt64 (0 : Int64) (4 : Int64)  h1) T_yX9_in k_1021 dX9_set_6 rfl rfl (Nat.le_of_ble_eq_true rfl) ⟨Nat.le_of_ble_eq_true rfl, Nat.le_of_ble_eq_true rfl⟩ ⟨Nat.zero_le _, Nat.zero_le _⟩ ?_
  refine wg_if_eq X 34 dX9_set_9 (by decide) (fun c3 => ?_) (fun c3 => ?_)
  · have h := if_t c3 h
    refine wg_bipush (v := -100) X dX9_set_34 (by decide) ?_
    exact wg_iret X ⟨congrArg Prod.fst (sm_inj h), rfl, congrArg Prod.snd (sm_inj h)⟩ hr dX9_set_36
  · have h := if_f c3 h
    refine wg_iload_n X 1 dX9_set_12 rfl rfl ?_
    refine wg_if_ne X 26 dX9_set_13 (by decide) (fun c4 => ?_) (fun c4 => ?_)
    · have h := if_f c4 h
      refine wg_aload_n X 0 dX9_set_26 rfl rfl ?_
      refine wg_iload_n X 2 dX9_set_27 rfl rfl ?_
      obtain ⟨r6, h5, h⟩ := bd_some h
      refine wg_callVi (As := [.int p2]) (rest := []) X (c_X9_isPane l E ad S hS C M p2  h5) T_yX9_isPane k_1028 cl9 (SMi hS 55 9 rfl) dX9_set_28 rfl rfl (Nat.le_of_ble_eq_true rfl) ⟨Nat.le_of_ble_eq_true rfl, Nat.le_of_ble_eq_true rfl⟩ ⟨Nat.zero_le _, Nat.zero_le _⟩ ?_
      refine wg_if_ne X 37 dX9_set_31 (by decide) (fun c7 => ?_) (fun c7 => ?_)
      · have h := if_f c7 h
        exact J_X9_set_j37 X hr hS r0 D0 C  M  p1 p2 p3   h
      · have h := if_t c7 h
        refine wg_bipush (v := -100) X dX9_set_34 (by decide) ?_
        exact wg_iret X ⟨congrArg Prod.fst (sm_inj h), rfl, congrArg Prod.snd (sm_inj h)⟩ hr dX9_set_36
    · have h := if_t c4 h
      refine wg_iload_n X 2 dX9_set_16 rfl rfl ?_
      obtain ⟨r35, h34, h⟩ := bd_some h
      refine wg_callSi (As := [.int p2]) (rest := []) X (c_X9_isDay l E ad S C M p2  h34) T_yX9_isDay k_1024 dX9_set_17 rfl rfl (Nat.le_of_ble_eq_true rfl) ⟨Nat.le_of_ble_eq_true rfl, Nat.le_of_ble_eq_true rfl⟩ ⟨Nat.zero_le _, Nat.zero_le _⟩ ?_
      refine wg_if_eq X 34 dX9_set_20 (by decide) (fun c36 => ?_) (fun c36 => ?_)
      · have h := if_t c36 h
        refine wg_bipush (v := -100) X dX9_set_34 (by decide) ?_
        exact wg_iret X ⟨congrArg Prod.fst (sm_inj h), rfl, congrArg Prod.snd (sm_inj h)⟩ hr dX9_set_36
      · have h := if_f c36 h
        refine wg_goto X 37 dX9_set_23 (by decide) ?_
        exact J_X9_set_j37 X hr hS r0 D0 C  M  p1 p2 p3   h
-- WindowsGiveModel.pane(III)I (('c', 55), 'i', 'i', 'i')
def f_X9_pane (M : wg_M) (p1 : Int32) (p2 : Int32) (p3 : Int32) : Option (Int32 × wg_M) :=
  bd (f_X9_in p1.toInt64 (0 : Int64) (5 : Int64)) fun r2 =>
  if r2 = 0 then (
    some ((-2 : Int32), M))
  else (
    bd (f_X9_in p2.toInt64 (0 : Int64) (918 : Int64)) fun r5 =>
    if r5 = 0 then (
      some ((-2 : Int32), M))
    else (
      if (18 : Int32) < (p2 - p2 / (100 : Int32) * (100 : Int32)) then (
        some ((-2 : Int32), M))
      else (
        bd (f_X9_in p3.toInt64 (0 : Int64) (55 : Int64)) fun r9 =>
        if r9 = 0 then (
          some ((-2 : Int32), M))
        else (
          bd (f_X9_isRoom (p3 - p3 / (10 : Int32) * (10 : Int32))) fun r12 =>
          if r12 = 0 then (
            some ((-2 : Int32), M))
          else (
            if (M.1 55 13) = (8 : Int32) then (
              some ((-4 : Int32), M))
            else (
              ck (inb (M.1 55 13) 8) <|
              lt_ (wg_sM M 60 (M.1 55 13).toNatClampNeg p1) fun M16 =>
              ck (inb (M16.1 55 13) 8) <|
              lt_ (wg_sM M16 61 (M16.1 55 13).toNatClampNeg (p2 / (100 : Int32))) fun M19 =>
              ck (inb (M19.1 55 13) 8) <|
              lt_ (wg_sM M19 62 (M19.1 55 13).toNatClampNeg ((p2 - p2 / (100 : Int32) * (100 : Int32)) - (9 : Int32))) fun M22 =>
              ck (inb (M22.1 55 13) 8) <|
              lt_ (wg_sM M22 63 (M22.1 55 13).toNatClampNeg (p3 / (10 : Int32))) fun M25 =>
              ck (inb (M25.1 55 13) 8) <|
              lt_ (wg_sM M25 64 (M25.1 55 13).toNatClampNeg (p3 - p3 / (10 : Int32) * (10 : Int32))) fun M28 =>
              lt_ (wg_sM M28 55 13 ((M28.1 55 13) + (1 : Int32))) fun M30 =>
              some (((M30.1 55 13) - (1 : Int32)), M30)))))))
set_option maxHeartbeats 4000000 in
set_option maxRecDepth 100000 in
theorem c_X9_pane (l : Launch) (E : wg_Ev) (ad : Nat → Nat) (S : wg_Sh) (hS : wg_SM S) (C : wg_C) (M : wg_M) (p1 : Int32) (p2 : Int32) (p3 : Int32)  {r0 : Int32} {D0 : wg_M} (h : f_X9_pane M p1 p2 p3 = some (r0, D0)) : wg_Ci l yX9_pane cX9_pane 4 (some .int) 2 45 E ad S C M [.ref (ad 55), .int p1, .int p2, .int p3] r0 C D0 := by
  refine wg_start (own := RX9) (by decide +kernel) rfl (Nat.le_of_ble_eq_true rfl) ?_
  intro p e s m below meth c X hr hnm
  refine wg_lv (lv' := [(0, .ref (ad 55)), (1, .int p1), (2, .int p2), (3, .int p3)]) rfl ?_
  unfold f_X9_pane at h
  refine wg_iload_n X 1 dX9_pane_0 rfl rfl ?_
  refine wg_i2l X dX9_pane_1 ?_
  refine wg_lconst (v := 0) X dX9_pane_2 (by decide) ?_
  refine wg_ldc2 (v := 5) X dX9_pane_3 k_1033 ?_
  obtain ⟨r2, h1, h⟩ := bd_some h
  refine wg_callSi (As := [.long (p1.toInt64), .long (0 : Int64), .long (5 : Int64)]) (rest := []) X (c_X9_in l E ad S C M p1.toInt64 (0 : Int64) (5 : Int64)  h1) T_yX9_in k_1021 dX9_pane_6 rfl rfl (Nat.le_of_ble_eq_true rfl) ⟨Nat.le_of_ble_eq_true rfl, Nat.le_of_ble_eq_true rfl⟩ ⟨Nat.zero_le _, Nat.zero_le _⟩ ?_
  refine wg_if_eq X 55 dX9_pane_9 (by decide) (fun c3 => ?_) (fun c3 => ?_)
  · have h := if_t c3 h
    refine wg_bipush (v := -2) X dX9_pane_55 (by decide) ?_
    exact wg_iret X ⟨congrArg Prod.fst (sm_inj h), rfl, congrArg Prod.snd (sm_inj h)⟩ hr dX9_pane_57
  · have h := if_f c3 h
    refine wg_iload_n X 2 dX9_pane_12 rfl rfl ?_
    refine wg_i2l X dX9_pane_13 ?_
    refine wg_lconst (v := 0) X dX9_pane_14 (by decide) ?_
    refine wg_ldc2 (v := 918) X dX9_pane_15 k_1048 ?_
    obtain ⟨r5, h4, h⟩ := bd_some h
    refine wg_callSi (As := [.long (p2.toInt64), .long (0 : Int64), .long (918 : Int64)]) (rest := []) X (c_X9_in l E ad S C M p2.toInt64 (0 : Int64) (918 : Int64)  h4) T_yX9_in k_1021 dX9_pane_18 rfl rfl (Nat.le_of_ble_eq_true rfl) ⟨Nat.le_of_ble_eq_true rfl, Nat.le_of_ble_eq_true rfl⟩ ⟨Nat.zero_le _, Nat.zero_le _⟩ ?_
    refine wg_if_eq X 55 dX9_pane_21 (by decide) (fun c6 => ?_) (fun c6 => ?_)
    · have h := if_t c6 h
      refine wg_bipush (v := -2) X dX9_pane_55 (by decide) ?_
      exact wg_iret X ⟨congrArg Prod.fst (sm_inj h), rfl, congrArg Prod.snd (sm_inj h)⟩ hr dX9_pane_57
    · have h := if_f c6 h
      refine wg_iload_n X 2 dX9_pane_24 rfl rfl ?_
      refine wg_bipush (v := 100) X dX9_pane_25 (by decide) ?_
      refine wg_irem X dX9_pane_27 (by decide) ?_
      refine wg_bipush (v := 18) X dX9_pane_28 (by decide) ?_
      refine wg_icmp_gt X 55 dX9_pane_30 (by decide) (fun c7 => ?_) (fun c7 => ?_)
      · have h := if_t c7 h
        refine wg_bipush (v := -2) X dX9_pane_55 (by decide) ?_
        exact wg_iret X ⟨congrArg Prod.fst (sm_inj h), rfl, congrArg Prod.snd (sm_inj h)⟩ hr dX9_pane_57
      · have h := if_f c7 h
        refine wg_iload_n X 3 dX9_pane_33 rfl rfl ?_
        refine wg_i2l X dX9_pane_34 ?_
        refine wg_lconst (v := 0) X dX9_pane_35 (by decide) ?_
        refine wg_ldc2 (v := 55) X dX9_pane_36 k_1049 ?_
        obtain ⟨r9, h8, h⟩ := bd_some h
        refine wg_callSi (As := [.long (p3.toInt64), .long (0 : Int64), .long (55 : Int64)]) (rest := []) X (c_X9_in l E ad S C M p3.toInt64 (0 : Int64) (55 : Int64)  h8) T_yX9_in k_1021 dX9_pane_39 rfl rfl (Nat.le_of_ble_eq_true rfl) ⟨Nat.le_of_ble_eq_true rfl, Nat.le_of_ble_eq_true rfl⟩ ⟨Nat.zero_le _, Nat.zero_le _⟩ ?_
        refine wg_if_eq X 55 dX9_pane_42 (by decide) (fun c10 => ?_) (fun c10 => ?_)
        · have h := if_t c10 h
          refine wg_bipush (v := -2) X dX9_pane_55 (by decide) ?_
          exact wg_iret X ⟨congrArg Prod.fst (sm_inj h), rfl, congrArg Prod.snd (sm_inj h)⟩ hr dX9_pane_57
        · have h := if_f c10 h
          refine wg_iload_n X 3 dX9_pane_45 rfl rfl ?_
          refine wg_bipush (v := 10) X dX9_pane_46 (by decide) ?_
          refine wg_irem X dX9_pane_48 (by decide) ?_
          obtain ⟨r12, h11, h⟩ := bd_some h
          refine wg_callSi (As := [.int (p3 - p3 / (10 : Int32) * (10 : Int32))]) (rest := []) X (c_X9_isRoom l E ad S C M (p3 - p3 / (10 : Int32) * (10 : Int32))  h11) T_yX9_isRoom k_1050 dX9_pane_49 rfl rfl (Nat.le_of_ble_eq_true rfl) ⟨Nat.le_of_ble_eq_true rfl, Nat.le_of_ble_eq_true rfl⟩ ⟨Nat.zero_le _, Nat.zero_le _⟩ ?_
          refine wg_if_ne X 58 dX9_pane_52 (by decide) (fun c13 => ?_) (fun c13 => ?_)
          · have h := if_f c13 h
            refine wg_aload_n X 0 dX9_pane_58 rfl rfl ?_
            refine wg_getM X cl9 (SMi hS 55 9 rfl) 13 (by decide) dX9_pane_59 k_895 rfl ?_
            refine wg_bipush (v := 8) X dX9_pane_62 (by decide) ?_
            refine wg_icmp_ne X 70 dX9_pane_64 (by decide) (fun c14 => ?_) (fun c14 => ?_)
            · have h := if_f c14 h
              refine wg_aload_n X 0 dX9_pane_70 rfl rfl ?_
              refine wg_getR (b := 60) X cl9 (SMi hS 55 9 rfl) 8 (by decide) dX9_pane_71 k_890 rfl (SMr hS 8 60 rfl) ?_
              refine wg_aload_n X 0 dX9_pane_74 rfl rfl ?_
              refine wg_getM X cl9 (SMi hS 55 9 rfl) 13 (by decide) dX9_pane_75 k_895 rfl ?_
              refine wg_iload_n X 1 dX9_pane_78 rfl rfl ?_
              obtain ⟨z15, h⟩ := ck_some h
              obtain ⟨M16, e17, h⟩ := lt_some h
              refine wg_maste X (SMi hS 60 11 rfl) (SMl hS 60 8 rfl) z15 dX9_pane_79 e17 ?_
              refine wg_aload_n X 0 dX9_pane_80 rfl rfl ?_
              refine wg_getR (b := 61) X cl9 (SMi hS 55 9 rfl) 9 (by decide) dX9_pane_81 k_891 rfl (SMr hS 9 61 rfl) ?_
              refine wg_aload_n X 0 dX9_pane_84 rfl rfl ?_
              refine wg_getM X cl9 (SMi hS 55 9 rfl) 13 (by decide) dX9_pane_85 k_895 rfl ?_
              refine wg_iload_n X 2 dX9_pane_88 rfl rfl ?_
              refine wg_bipush (v := 100) X dX9_pane_89 (by decide) ?_
              refine wg_idiv X dX9_pane_91 (by decide) ?_
              obtain ⟨z18, h⟩ := ck_some h
              obtain ⟨M19, e20, h⟩ := lt_some h
              refine wg_maste X (SMi hS 61 11 rfl) (SMl hS 61 8 rfl) z18 dX9_pane_92 e20 ?_
              refine wg_aload_n X 0 dX9_pane_93 rfl rfl ?_
              refine wg_getR (b := 62) X cl9 (SMi hS 55 9 rfl) 10 (by decide) dX9_pane_94 k_892 rfl (SMr hS 10 62 rfl) ?_
              refine wg_aload_n X 0 dX9_pane_97 rfl rfl ?_
              refine wg_getM X cl9 (SMi hS 55 9 rfl) 13 (by decide) dX9_pane_98 k_895 rfl ?_
              refine wg_iload_n X 2 dX9_pane_101 rfl rfl ?_
              refine wg_bipush (v := 100) X dX9_pane_102 (by decide) ?_
              refine wg_irem X dX9_pane_104 (by decide) ?_
              refine wg_bipush (v := 9) X dX9_pane_105 (by decide) ?_
              refine wg_isub X dX9_pane_107 ?_
              obtain ⟨z21, h⟩ := ck_some h
              obtain ⟨M22, e23, h⟩ := lt_some h
              refine wg_maste X (SMi hS 62 11 rfl) (SMl hS 62 8 rfl) z21 dX9_pane_108 e23 ?_
              refine wg_aload_n X 0 dX9_pane_109 rfl rfl ?_
              refine wg_getR (b := 63) X cl9 (SMi hS 55 9 rfl) 11 (by decide) dX9_pane_110 k_893 rfl (SMr hS 11 63 rfl) ?_
              refine wg_aload_n X 0 dX9_pane_113 rfl rfl ?_
              refine wg_getM X cl9 (SMi hS 55 9 rfl) 13 (by decide) dX9_pane_114 k_895 rfl ?_
              refine wg_iload_n X 3 dX9_pane_117 rfl rfl ?_
              refine wg_bipush (v := 10) X dX9_pane_118 (by decide) ?_
              refine wg_idiv X dX9_pane_120 (by decide) ?_
              obtain ⟨z24, h⟩ := ck_some h
              obtain ⟨M25, e26, h⟩ := lt_some h
              refine wg_maste X (SMi hS 63 11 rfl) (SMl hS 63 8 rfl) z24 dX9_pane_121 e26 ?_
              refine wg_aload_n X 0 dX9_pane_122 rfl rfl ?_
              refine wg_getR (b := 64) X cl9 (SMi hS 55 9 rfl) 12 (by decide) dX9_pane_123 k_894 rfl (SMr hS 12 64 rfl) ?_
              refine wg_aload_n X 0 dX9_pane_126 rfl rfl ?_
              refine wg_getM X cl9 (SMi hS 55 9 rfl) 13 (by decide) dX9_pane_127 k_895 rfl ?_
              refine wg_iload_n X 3 dX9_pane_130 rfl rfl ?_
              refine wg_bipush (v := 10) X dX9_pane_131 (by decide) ?_
              refine wg_irem X dX9_pane_133 (by decide) ?_
              obtain ⟨z27, h⟩ := ck_some h
              obtain ⟨M28, e29, h⟩ := lt_some h
              refine wg_maste X (SMi hS 64 11 rfl) (SMl hS 64 8 rfl) z27 dX9_pane_134 e29 ?_
              refine wg_aload_n X 0 dX9_pane_135 rfl rfl ?_
              refine wg_dup X dX9_pane_136 rfl ?_
              refine wg_getM X cl9 (SMi hS 55 9 rfl) 13 (by decide) dX9_pane_137 k_895 rfl ?_
              refine wg_iconst (v := 1) X dX9_pane_140 (by decide) ?_
              refine wg_iadd X dX9_pane_141 ?_
              obtain ⟨M30, e31, h⟩ := lt_some h
              refine wg_putMe X cl9 (SMi hS 55 9 rfl) 13 (by decide) dX9_pane_142 k_895 rfl rfl rfl rfl e31 ?_
              refine wg_aload_n X 0 dX9_pane_145 rfl rfl ?_
              refine wg_getM X cl9 (SMi hS 55 9 rfl) 13 (by decide) dX9_pane_146 k_895 rfl ?_
              refine wg_iconst (v := 1) X dX9_pane_149 (by decide) ?_
              refine wg_isub X dX9_pane_150 ?_
              exact wg_iret X ⟨congrArg Prod.fst (sm_inj h), rfl, congrArg Prod.snd (sm_inj h)⟩ hr dX9_pane_151
            · have h := if_t c14 h
              refine wg_bipush (v := -4) X dX9_pane_67 (by decide) ?_
              exact wg_iret X ⟨congrArg Prod.fst (sm_inj h), rfl, congrArg Prod.snd (sm_inj h)⟩ hr dX9_pane_69
          · have h := if_t c13 h
            refine wg_bipush (v := -2) X dX9_pane_55 (by decide) ?_
            exact wg_iret X ⟨congrArg Prod.fst (sm_inj h), rfl, congrArg Prod.snd (sm_inj h)⟩ hr dX9_pane_57
-- WindowsGiveModel.on(II)I (('c', 55), 'i', 'i')
def f_X9_on_j47 (M : wg_M)  (x1 : Int32) (x2 : Int32) : Option Int32 :=
  ck (inb x1 8) <|
  ck (inb x1 8) <|
  some ((x2 + (M.1 62 x1.toNatClampNeg)) - (M.1 61 x1.toNatClampNeg))
def f_X9_on (M : wg_M) (p1 : Int32) (p2 : Int32) : Option Int32 :=
  ck (inb p1 8) <|
  lt_ (M.1 60 p1.toNatClampNeg) fun v2 =>
  if v2 = (4 : Int32) then (
    some p2)
  else (
    if v2 = (5 : Int32) then (
      ck (inb p1 8) <|
      ck (inb p1 8) <|
      some (p2 + ((M.1 62 p1.toNatClampNeg) * ((M.1 61 p1.toNatClampNeg) + (1 : Int32)))))
    else (
      if v2 = (1 : Int32) then (
        f_X9_on_j47 M  p1 p2)
      else (
        if v2 = (3 : Int32) then (
          f_X9_on_j47 M  p1 p2)
        else (
          ck (inb p1 8) <|
          some (p2 + (M.1 62 p1.toNatClampNeg))))))
abbrev G_X9_on (p : Program) (l : Launch) (e : Env) (s : State) (m : MethodId) (args : Array Value) (below : List Frame) (meth : Method) (c : Code) (E : wg_Ev) (ad : Nat → Nat) (S : wg_Sh) (r0 : Int32) (C0 : wg_C) (M0 : wg_M) (pc : Nat) (C : wg_C) (M : wg_M) (lv : List (Nat × Value)) (st : List Value) : Prop := wg_G p l e (wg_Rm 0 0) s m args below meth c (MQ below (wg_Qi E ad S r0 C0 M0) args s 0 0 (wg_A E)) 4 E ad S 0 0 pc C M lv st
set_option maxHeartbeats 4000000 in
set_option maxRecDepth 100000 in
theorem J_X9_on_j47 {p : Program} {l : Launch} {e : Env} {s : State} {m : MethodId} {args : Array Value} {below : List Frame} {meth : Method} {c : Code} {E : wg_Ev} {ad : Nat → Nat} {S : wg_Sh} (X : wg_X p s m args meth c cX9_on 4 RX9 E) (hr : meth.sig.returnType = (some .int)) (hS : wg_SM S) (r0 : Int32) (C : wg_C)  (M : wg_M)  (x1 : Int32) (x2 : Int32)   (h : f_X9_on_j47 M  x1 x2 = some r0) : G_X9_on p l e s m args below meth c E ad S r0 C M 47 C M [(0, .ref (ad 55)), (1, .int x1), (2, .int x2)] [] := by
  unfold f_X9_on_j47 at h
  refine wg_iload_n X 2 dX9_on_47 rfl rfl ?_
  refine wg_aload_n X 0 dX9_on_48 rfl rfl ?_
  refine wg_getR (b := 62) X cl9 (SMi hS 55 9 rfl) 10 (by decide) dX9_on_49 k_892 rfl (SMr hS 10 62 rfl) ?_
  refine wg_iload_n X 1 dX9_on_52 rfl rfl ?_
  obtain ⟨z7, h⟩ := ck_some h
  refine wg_mald X (SMi hS 62 11 rfl) (SMl hS 62 8 rfl) z7 dX9_on_53 ?_
  refine wg_iadd X dX9_on_54 ?_
  refine wg_aload_n X 0 dX9_on_55 rfl rfl ?_
  refine wg_getR (b := 61) X cl9 (SMi hS 55 9 rfl) 9 (by decide) dX9_on_56 k_891 rfl (SMr hS 9 61 rfl) ?_
  refine wg_iload_n X 1 dX9_on_59 rfl rfl ?_
  obtain ⟨z8, h⟩ := ck_some h
  refine wg_mald X (SMi hS 61 11 rfl) (SMl hS 61 8 rfl) z8 dX9_on_60 ?_
  refine wg_isub X dX9_on_61 ?_
  refine wg_goto X 73 dX9_on_62 (by decide) ?_
  exact wg_iret X ⟨(sm_inj h), rfl, rfl⟩ hr dX9_on_73
set_option maxHeartbeats 4000000 in
set_option maxRecDepth 100000 in
theorem c_X9_on (l : Launch) (E : wg_Ev) (ad : Nat → Nat) (S : wg_Sh) (hS : wg_SM S) (C : wg_C) (M : wg_M) (p1 : Int32) (p2 : Int32)  {r0 : Int32} (h : f_X9_on M p1 p2 = some r0) : wg_Ci l yX9_on cX9_on 4 (some .int) 0 0 E ad S C M [.ref (ad 55), .int p1, .int p2] r0 C M := by
  refine wg_start (own := RX9) (by decide +kernel) rfl (Nat.le_of_ble_eq_true rfl) ?_
  intro p e s m below meth c X hr hnm
  refine wg_lv (lv' := [(0, .ref (ad 55)), (1, .int p1), (2, .int p2)]) rfl ?_
  unfold f_X9_on at h
  refine wg_aload_n X 0 dX9_on_0 rfl rfl ?_
  refine wg_getR (b := 60) X cl9 (SMi hS 55 9 rfl) 8 (by decide) dX9_on_1 k_890 rfl (SMr hS 8 60 rfl) ?_
  refine wg_iload_n X 1 dX9_on_4 rfl rfl ?_
  obtain ⟨z1, h⟩ := ck_some h
  refine wg_mald X (SMi hS 60 11 rfl) (SMl hS 60 8 rfl) z1 dX9_on_5 ?_
  obtain ⟨v2, e3, h⟩ := lt_some h
  refine wg_istore_n (lv' := [(3, .int v2), (0, .ref (ad 55)), (1, .int p1), (2, .int p2)]) X dX9_on_6 rfl e3 (by decide) rfl ?_
  refine wg_iload_n X 0 dX9_on_7 rfl rfl ?_
  refine wg_iconst (v := 4) X dX9_on_8 (by decide) ?_
  refine wg_icmp_ne X 14 dX9_on_9 (by decide) (fun c4 => ?_) (fun c4 => ?_)
  · have h := if_f c4 h
    refine wg_iload_n X 0 dX9_on_14 rfl rfl ?_
    refine wg_iconst (v := 5) X dX9_on_15 (by decide) ?_
    refine wg_icmp_ne X 37 dX9_on_16 (by decide) (fun c5 => ?_) (fun c5 => ?_)
    · have h := if_f c5 h
      refine wg_iload_n X 0 dX9_on_37 rfl rfl ?_
      refine wg_iconst (v := 1) X dX9_on_38 (by decide) ?_
      refine wg_icmp_eq X 47 dX9_on_39 (by decide) (fun c6 => ?_) (fun c6 => ?_)
      · have h := if_t c6 h
        refine wg_pick [1, 2, 3] (lv' := [(0, .ref (ad 55)), (1, .int p1), (2, .int p2)]) rfl ?_
        exact J_X9_on_j47 X hr hS r0 C  M  p1 p2   h
      · have h := if_f c6 h
        refine wg_iload_n X 0 dX9_on_42 rfl rfl ?_
        refine wg_iconst (v := 3) X dX9_on_43 (by decide) ?_
        refine wg_icmp_ne X 65 dX9_on_44 (by decide) (fun c9 => ?_) (fun c9 => ?_)
        · have h := if_f c9 h
          refine wg_iload_n X 3 dX9_on_65 rfl rfl ?_
          refine wg_aload_n X 1 dX9_on_66 rfl rfl ?_
          refine wg_getR (b := 62) X cl9 (SMi hS 55 9 rfl) 10 (by decide) dX9_on_67 k_892 rfl (SMr hS 10 62 rfl) ?_
          refine wg_iload_n X 2 dX9_on_70 rfl rfl ?_
          obtain ⟨z10, h⟩ := ck_some h
          refine wg_mald X (SMi hS 62 11 rfl) (SMl hS 62 8 rfl) z10 dX9_on_71 ?_
          refine wg_iadd X dX9_on_72 ?_
          exact wg_iret X ⟨(sm_inj h), rfl, rfl⟩ hr dX9_on_73
        · have h := if_t c9 h
          refine wg_pick [1, 2, 3] (lv' := [(0, .ref (ad 55)), (1, .int p1), (2, .int p2)]) rfl ?_
          exact J_X9_on_j47 X hr hS r0 C  M  p1 p2   h
    · have h := if_t c5 h
      refine wg_iload_n X 3 dX9_on_19 rfl rfl ?_
      refine wg_aload_n X 1 dX9_on_20 rfl rfl ?_
      refine wg_getR (b := 62) X cl9 (SMi hS 55 9 rfl) 10 (by decide) dX9_on_21 k_892 rfl (SMr hS 10 62 rfl) ?_
      refine wg_iload_n X 2 dX9_on_24 rfl rfl ?_
      obtain ⟨z11, h⟩ := ck_some h
      refine wg_mald X (SMi hS 62 11 rfl) (SMl hS 62 8 rfl) z11 dX9_on_25 ?_
      refine wg_aload_n X 1 dX9_on_26 rfl rfl ?_
      refine wg_getR (b := 61) X cl9 (SMi hS 55 9 rfl) 9 (by decide) dX9_on_27 k_891 rfl (SMr hS 9 61 rfl) ?_
      refine wg_iload_n X 2 dX9_on_30 rfl rfl ?_
      obtain ⟨z12, h⟩ := ck_some h
      refine wg_mald X (SMi hS 61 11 rfl) (SMl hS 61 8 rfl) z12 dX9_on_31 ?_
      refine wg_iconst (v := 1) X dX9_on_32 (by decide) ?_
      refine wg_iadd X dX9_on_33 ?_
      refine wg_imul X dX9_on_34 ?_
      refine wg_iadd X dX9_on_35 ?_
      exact wg_iret X ⟨(sm_inj h), rfl, rfl⟩ hr dX9_on_36
  · have h := if_t c4 h
    refine wg_iload_n X 3 dX9_on_12 rfl rfl ?_
    exact wg_iret X ⟨(sm_inj h), rfl, rfl⟩ hr dX9_on_13
-- WindowsGiveModel.passes(III)Z (('c', 55), 'i', 'i', 'i')
def f_X9_passes_j64 (M : wg_M)  (x3 : Int32) : Option Int32 :=
  if (2 : Int32) ≤ x3 then (
    some (0 : Int32))
  else (
    some (1 : Int32))
def f_X9_passes (M : wg_M) (p1 : Int32) (p2 : Int32) (p3 : Int32) : Option Int32 :=
  ck (inb p1 8) <|
  lt_ (M.1 60 p1.toNatClampNeg) fun v2 =>
  bd (f_X9_on M p1 p2) fun r5 =>
  bd (f_X9_isDay r5) fun r7 =>
  if r7 = 0 then (
    some (0 : Int32))
  else (
    if v2 = (5 : Int32) then (
      ck (inb p1 8) <|
      ck (¬ ((M.1 61 p1.toNatClampNeg) + (1 : Int32)) = 0) <|
      if (p2 - p2 / ((M.1 61 p1.toNatClampNeg) + (1 : Int32)) * ((M.1 61 p1.toNatClampNeg) + (1 : Int32))) = 0 then (
        some (1 : Int32))
      else (
        some (0 : Int32)))
    else (
      if v2 = (3 : Int32) then (
        some (1 : Int32))
      else (
        if v2 = 0 then (
          f_X9_passes_j64 M  p3)
        else (
          if v2 = (1 : Int32) then (
            f_X9_passes_j64 M  p3)
          else (
            if v2 = (2 : Int32) then (
              if p3 = (1 : Int32) then (
                some (1 : Int32))
              else (
                some (0 : Int32)))
            else (
              if p3 = 0 then (
                some (1 : Int32))
              else (
                some (0 : Int32))))))))
abbrev G_X9_passes (p : Program) (l : Launch) (e : Env) (s : State) (m : MethodId) (args : Array Value) (below : List Frame) (meth : Method) (c : Code) (E : wg_Ev) (ad : Nat → Nat) (S : wg_Sh) (r0 : Int32) (C0 : wg_C) (M0 : wg_M) (pc : Nat) (C : wg_C) (M : wg_M) (lv : List (Nat × Value)) (st : List Value) : Prop := wg_G p l e (wg_Rm 2 45) s m args below meth c (MQ below (wg_Qi E ad S r0 C0 M0) args s 0 0 (wg_A E)) 5 E ad S 0 0 pc C M lv st
set_option maxHeartbeats 4000000 in
set_option maxRecDepth 100000 in
theorem J_X9_passes_j64 {p : Program} {l : Launch} {e : Env} {s : State} {m : MethodId} {args : Array Value} {below : List Frame} {meth : Method} {c : Code} {E : wg_Ev} {ad : Nat → Nat} {S : wg_Sh} (X : wg_X p s m args meth c cX9_passes 5 RX9 E) (hr : meth.sig.returnType = (some .boolean)) (hS : wg_SM S) (r0 : Int32) (C : wg_C)  (M : wg_M)  (x3 : Int32)   (h : f_X9_passes_j64 M  x3 = some r0) : G_X9_passes p l e s m args below meth c E ad S r0 C M 64 C M [(3, .int x3)] [] := by
  unfold f_X9_passes_j64 at h
  refine wg_iload_n X 0 dX9_passes_64 rfl rfl ?_
  refine wg_iconst (v := 2) X dX9_passes_65 (by decide) ?_
  refine wg_icmp_ge X 94 dX9_passes_66 (by decide) (fun c12 => ?_) (fun c12 => ?_)
  · have h := if_t c12 h
    refine wg_iconst (v := 0) X dX9_passes_94 (by decide) ?_
    exact wg_zret X ⟨(sm_inj h), rfl, rfl⟩ hr (by decide) dX9_passes_95
  · have h := if_f c12 h
    refine wg_goto X 90 dX9_passes_69 (by decide) ?_
    refine wg_iconst (v := 1) X dX9_passes_90 (by decide) ?_
    refine wg_goto X 95 dX9_passes_91 (by decide) ?_
    exact wg_zret X ⟨(sm_inj h), rfl, rfl⟩ hr (by decide) dX9_passes_95
set_option maxHeartbeats 4000000 in
set_option maxRecDepth 100000 in
theorem c_X9_passes (l : Launch) (E : wg_Ev) (ad : Nat → Nat) (S : wg_Sh) (hS : wg_SM S) (C : wg_C) (M : wg_M) (p1 : Int32) (p2 : Int32) (p3 : Int32)  {r0 : Int32} (h : f_X9_passes M p1 p2 p3 = some r0) : wg_Ci l yX9_passes cX9_passes 5 (some .boolean) 2 45 E ad S C M [.ref (ad 55), .int p1, .int p2, .int p3] r0 C M := by
  refine wg_start (own := RX9) (by decide +kernel) rfl (Nat.le_of_ble_eq_true rfl) ?_
  intro p e s m below meth c X hr hnm
  refine wg_lv (lv' := [(0, .ref (ad 55)), (1, .int p1), (2, .int p2), (3, .int p3)]) rfl ?_
  unfold f_X9_passes at h
  refine wg_aload_n X 0 dX9_passes_0 rfl rfl ?_
  refine wg_getR (b := 60) X cl9 (SMi hS 55 9 rfl) 8 (by decide) dX9_passes_1 k_890 rfl (SMr hS 8 60 rfl) ?_
  refine wg_iload_n X 1 dX9_passes_4 rfl rfl ?_
  obtain ⟨z1, h⟩ := ck_some h
  refine wg_mald X (SMi hS 60 11 rfl) (SMl hS 60 8 rfl) z1 dX9_passes_5 ?_
  obtain ⟨v2, e3, h⟩ := lt_some h
  refine wg_istore (lv' := [(4, .int v2), (0, .ref (ad 55)), (1, .int p1), (2, .int p2), (3, .int p3)]) X dX9_passes_6 e3 (by decide) rfl ?_
  refine wg_aload_n X 1 dX9_passes_8 rfl rfl ?_
  refine wg_iload_n X 2 dX9_passes_9 rfl rfl ?_
  refine wg_iload_n X 3 dX9_passes_10 rfl rfl ?_
  obtain ⟨r5, h4, h⟩ := bd_some h
  refine wg_callVi (As := [.int p1, .int p2]) (rest := []) X (c_X9_on l E ad S hS C M p1 p2  h4) T_yX9_on k_1062 cl9 (SMi hS 55 9 rfl) dX9_passes_11 rfl rfl (Nat.le_of_ble_eq_true rfl) ⟨Nat.le_of_ble_eq_true rfl, Nat.le_of_ble_eq_true rfl⟩ ⟨Nat.zero_le _, Nat.zero_le _⟩ ?_
  obtain ⟨r7, h6, h⟩ := bd_some h
  refine wg_callSi (As := [.int r5]) (rest := []) X (c_X9_isDay l E ad S C M r5  h6) T_yX9_isDay k_1024 dX9_passes_14 rfl rfl (Nat.le_of_ble_eq_true rfl) ⟨Nat.le_of_ble_eq_true rfl, Nat.le_of_ble_eq_true rfl⟩ ⟨Nat.zero_le _, Nat.zero_le _⟩ ?_
  refine wg_if_ne X 22 dX9_passes_17 (by decide) (fun c8 => ?_) (fun c8 => ?_)
  · have h := if_f c8 h
    refine wg_iload X 0 dX9_passes_22 rfl ?_
    refine wg_iconst (v := 5) X dX9_passes_24 (by decide) ?_
    refine wg_icmp_ne X 47 dX9_passes_25 (by decide) (fun c9 => ?_) (fun c9 => ?_)
    · have h := if_f c9 h
      refine wg_iload X 0 dX9_passes_47 rfl ?_
      refine wg_iconst (v := 3) X dX9_passes_49 (by decide) ?_
      refine wg_icmp_eq X 90 dX9_passes_50 (by decide) (fun c10 => ?_) (fun c10 => ?_)
      · have h := if_t c10 h
        refine wg_iconst (v := 1) X dX9_passes_90 (by decide) ?_
        refine wg_goto X 95 dX9_passes_91 (by decide) ?_
        exact wg_zret X ⟨(sm_inj h), rfl, rfl⟩ hr (by decide) dX9_passes_95
      · have h := if_f c10 h
        refine wg_iload X 0 dX9_passes_53 rfl ?_
        refine wg_if_eq X 64 dX9_passes_55 (by decide) (fun c11 => ?_) (fun c11 => ?_)
        · have h := if_t c11 h
          refine wg_pick [4] (lv' := [(3, .int p3)]) rfl ?_
          exact J_X9_passes_j64 X hr hS r0 C  M  p3   h
        · have h := if_f c11 h
          refine wg_iload X 0 dX9_passes_58 rfl ?_
          refine wg_iconst (v := 1) X dX9_passes_60 (by decide) ?_
          refine wg_icmp_ne X 72 dX9_passes_61 (by decide) (fun c13 => ?_) (fun c13 => ?_)
          · have h := if_f c13 h
            refine wg_iload X 0 dX9_passes_72 rfl ?_
            refine wg_iconst (v := 2) X dX9_passes_74 (by decide) ?_
            refine wg_icmp_ne X 86 dX9_passes_75 (by decide) (fun c14 => ?_) (fun c14 => ?_)
            · have h := if_f c14 h
              refine wg_iload_n X 4 dX9_passes_86 rfl rfl ?_
              refine wg_if_ne X 94 dX9_passes_87 (by decide) (fun c15 => ?_) (fun c15 => ?_)
              · have h := if_f c15 h
                refine wg_iconst (v := 0) X dX9_passes_94 (by decide) ?_
                exact wg_zret X ⟨(sm_inj h), rfl, rfl⟩ hr (by decide) dX9_passes_95
              · have h := if_t c15 h
                refine wg_iconst (v := 1) X dX9_passes_90 (by decide) ?_
                refine wg_goto X 95 dX9_passes_91 (by decide) ?_
                exact wg_zret X ⟨(sm_inj h), rfl, rfl⟩ hr (by decide) dX9_passes_95
            · have h := if_t c14 h
              refine wg_iload_n X 4 dX9_passes_78 rfl rfl ?_
              refine wg_iconst (v := 1) X dX9_passes_79 (by decide) ?_
              refine wg_icmp_ne X 94 dX9_passes_80 (by decide) (fun c16 => ?_) (fun c16 => ?_)
              · have h := if_f c16 h
                refine wg_iconst (v := 0) X dX9_passes_94 (by decide) ?_
                exact wg_zret X ⟨(sm_inj h), rfl, rfl⟩ hr (by decide) dX9_passes_95
              · have h := if_t c16 h
                refine wg_goto X 90 dX9_passes_83 (by decide) ?_
                refine wg_iconst (v := 1) X dX9_passes_90 (by decide) ?_
                refine wg_goto X 95 dX9_passes_91 (by decide) ?_
                exact wg_zret X ⟨(sm_inj h), rfl, rfl⟩ hr (by decide) dX9_passes_95
          · have h := if_t c13 h
            refine wg_pick [4] (lv' := [(3, .int p3)]) rfl ?_
            exact J_X9_passes_j64 X hr hS r0 C  M  p3   h
    · have h := if_t c9 h
      refine wg_iload_n X 3 dX9_passes_28 rfl rfl ?_
      refine wg_aload_n X 1 dX9_passes_29 rfl rfl ?_
      refine wg_getR (b := 61) X cl9 (SMi hS 55 9 rfl) 9 (by decide) dX9_passes_30 k_891 rfl (SMr hS 9 61 rfl) ?_
      refine wg_iload_n X 2 dX9_passes_33 rfl rfl ?_
      obtain ⟨z17, h⟩ := ck_some h
      refine wg_mald X (SMi hS 61 11 rfl) (SMl hS 61 8 rfl) z17 dX9_passes_34 ?_
      refine wg_iconst (v := 1) X dX9_passes_35 (by decide) ?_
      refine wg_iadd X dX9_passes_36 ?_
      obtain ⟨z18, h⟩ := ck_some h
      refine wg_irem X dX9_passes_37 z18 ?_
      refine wg_if_ne X 45 dX9_passes_38 (by decide) (fun c19 => ?_) (fun c19 => ?_)
      · have h := if_f c19 h
        refine wg_iconst (v := 0) X dX9_passes_45 (by decide) ?_
        exact wg_zret X ⟨(sm_inj h), rfl, rfl⟩ hr (by decide) dX9_passes_46
      · have h := if_t c19 h
        refine wg_iconst (v := 1) X dX9_passes_41 (by decide) ?_
        refine wg_goto X 46 dX9_passes_42 (by decide) ?_
        exact wg_zret X ⟨(sm_inj h), rfl, rfl⟩ hr (by decide) dX9_passes_46
  · have h := if_t c8 h
    refine wg_iconst (v := 0) X dX9_passes_20 (by decide) ?_
    exact wg_zret X ⟨(sm_inj h), rfl, rfl⟩ hr (by decide) dX9_passes_21
-- WindowsGiveModel.gives(III)I (('c', 55), 'i', 'i', 'i')
def f_X9_gives_j31 (M : wg_M)  (x1 : Int32) (x2 : Int32) (x3 : Int32) : Option Int32 :=
  if x3 = (-1 : Int32) then (
    bd (f_X9_on M x1 x2) fun r13 =>
    some r13)
  else (
    bd (f_X9_passes M x1 x2 x3) fun r10 =>
    if r10 = 0 then (
      some (0 : Int32))
    else (
      some (1 : Int32)))
def f_X9_gives (M : wg_M) (p1 : Int32) (p2 : Int32) (p3 : Int32) : Option Int32 :=
  bd (f_X9_isPane M p1) fun r2 =>
  if r2 = 0 then (
    some (-1000 : Int32))
  else (
    bd (f_X9_isDay p2) fun r5 =>
    if r5 = 0 then (
      some (-1000 : Int32))
    else (
      if p3 = (-1 : Int32) then (
        f_X9_gives_j31 M  p1 p2 p3)
      else (
        bd (f_X9_isSort p3) fun r15 =>
        if r15 = 0 then (
          some (-1000 : Int32))
        else (
          f_X9_gives_j31 M  p1 p2 p3))))
abbrev G_X9_gives (p : Program) (l : Launch) (e : Env) (s : State) (m : MethodId) (args : Array Value) (below : List Frame) (meth : Method) (c : Code) (E : wg_Ev) (ad : Nat → Nat) (S : wg_Sh) (r0 : Int32) (C0 : wg_C) (M0 : wg_M) (pc : Nat) (C : wg_C) (M : wg_M) (lv : List (Nat × Value)) (st : List Value) : Prop := wg_G p l e (wg_Rm 3 69) s m args below meth c (MQ below (wg_Qi E ad S r0 C0 M0) args s 0 0 (wg_A E)) 4 E ad S 0 0 pc C M lv st
set_option maxHeartbeats 4000000 in
set_option maxRecDepth 100000 in
theorem J_X9_gives_j31 {p : Program} {l : Launch} {e : Env} {s : State} {m : MethodId} {args : Array Value} {below : List Frame} {meth : Method} {c : Code} {E : wg_Ev} {ad : Nat → Nat} {S : wg_Sh} (X : wg_X p s m args meth c cX9_gives 4 RX9 E) (hr : meth.sig.returnType = (some .int)) (hS : wg_SM S) (r0 : Int32) (C : wg_C)  (M : wg_M)  (x1 : Int32) (x2 : Int32) (x3 : Int32)   (h : f_X9_gives_j31 M  x1 x2 x3 = some r0) : G_X9_gives p l e s m args below meth c E ad S r0 C M 31 C M [(0, .ref (ad 55)), (1, .int x1), (2, .int x2), (3, .int x3)] [] := by
  unfold f_X9_gives_j31 at h
  refine wg_iload_n X 3 dX9_gives_31 rfl rfl ?_
  refine wg_iconst (v := -1) X dX9_gives_32 (by decide) ?_
  refine wg_icmp_ne X 45 dX9_gives_33 (by decide) (fun c8 => ?_) (fun c8 => ?_)
  · have h := if_f c8 h
    refine wg_aload_n X 0 dX9_gives_45 rfl rfl ?_
    refine wg_iload_n X 1 dX9_gives_46 rfl rfl ?_
    refine wg_iload_n X 2 dX9_gives_47 rfl rfl ?_
    refine wg_iload_n X 3 dX9_gives_48 rfl rfl ?_
    obtain ⟨r10, h9, h⟩ := bd_some h
    refine wg_callVi (As := [.int x1, .int x2, .int x3]) (rest := []) X (c_X9_passes l E ad S hS C M x1 x2 x3  h9) T_yX9_passes k_1066 cl9 (SMi hS 55 9 rfl) dX9_gives_49 rfl rfl (Nat.le_of_ble_eq_true rfl) ⟨Nat.le_of_ble_eq_true rfl, Nat.le_of_ble_eq_true rfl⟩ ⟨Nat.zero_le _, Nat.zero_le _⟩ ?_
    refine wg_if_eq X 59 dX9_gives_52 (by decide) (fun c11 => ?_) (fun c11 => ?_)
    · have h := if_t c11 h
      refine wg_iconst (v := 0) X dX9_gives_59 (by decide) ?_
      exact wg_iret X ⟨(sm_inj h), rfl, rfl⟩ hr dX9_gives_60
    · have h := if_f c11 h
      refine wg_iconst (v := 1) X dX9_gives_55 (by decide) ?_
      refine wg_goto X 60 dX9_gives_56 (by decide) ?_
      exact wg_iret X ⟨(sm_inj h), rfl, rfl⟩ hr dX9_gives_60
  · have h := if_t c8 h
    refine wg_aload_n X 0 dX9_gives_36 rfl rfl ?_
    refine wg_iload_n X 1 dX9_gives_37 rfl rfl ?_
    refine wg_iload_n X 2 dX9_gives_38 rfl rfl ?_
    obtain ⟨r13, h12, h⟩ := bd_some h
    refine wg_callVi (As := [.int x1, .int x2]) (rest := []) X (c_X9_on l E ad S hS C M x1 x2  h12) T_yX9_on k_1062 cl9 (SMi hS 55 9 rfl) dX9_gives_39 rfl rfl (Nat.le_of_ble_eq_true rfl) ⟨Nat.le_of_ble_eq_true rfl, Nat.le_of_ble_eq_true rfl⟩ ⟨Nat.zero_le _, Nat.zero_le _⟩ ?_
    refine wg_goto X 60 dX9_gives_42 (by decide) ?_
    exact wg_iret X ⟨(sm_inj h), rfl, rfl⟩ hr dX9_gives_60
set_option maxHeartbeats 4000000 in
set_option maxRecDepth 100000 in
theorem c_X9_gives (l : Launch) (E : wg_Ev) (ad : Nat → Nat) (S : wg_Sh) (hS : wg_SM S) (C : wg_C) (M : wg_M) (p1 : Int32) (p2 : Int32) (p3 : Int32)  {r0 : Int32} (h : f_X9_gives M p1 p2 p3 = some r0) : wg_Ci l yX9_gives cX9_gives 4 (some .int) 3 69 E ad S C M [.ref (ad 55), .int p1, .int p2, .int p3] r0 C M := by
  refine wg_start (own := RX9) (by decide +kernel) rfl (Nat.le_of_ble_eq_true rfl) ?_
  intro p e s m below meth c X hr hnm
  refine wg_lv (lv' := [(0, .ref (ad 55)), (1, .int p1), (2, .int p2), (3, .int p3)]) rfl ?_
  unfold f_X9_gives at h
  refine wg_aload_n X 0 dX9_gives_0 rfl rfl ?_
  refine wg_iload_n X 1 dX9_gives_1 rfl rfl ?_
  obtain ⟨r2, h1, h⟩ := bd_some h
  refine wg_callVi (As := [.int p1]) (rest := []) X (c_X9_isPane l E ad S hS C M p1  h1) T_yX9_isPane k_1028 cl9 (SMi hS 55 9 rfl) dX9_gives_2 rfl rfl (Nat.le_of_ble_eq_true rfl) ⟨Nat.le_of_ble_eq_true rfl, Nat.le_of_ble_eq_true rfl⟩ ⟨Nat.zero_le _, Nat.zero_le _⟩ ?_
  refine wg_if_eq X 27 dX9_gives_5 (by decide) (fun c3 => ?_) (fun c3 => ?_)
  · have h := if_t c3 h
    refine wg_sipush (v := -1000) X dX9_gives_27 (by decide) ?_
    exact wg_iret X ⟨(sm_inj h), rfl, rfl⟩ hr dX9_gives_30
  · have h := if_f c3 h
    refine wg_iload_n X 2 dX9_gives_8 rfl rfl ?_
    obtain ⟨r5, h4, h⟩ := bd_some h
    refine wg_callSi (As := [.int p2]) (rest := []) X (c_X9_isDay l E ad S C M p2  h4) T_yX9_isDay k_1024 dX9_gives_9 rfl rfl (Nat.le_of_ble_eq_true rfl) ⟨Nat.le_of_ble_eq_true rfl, Nat.le_of_ble_eq_true rfl⟩ ⟨Nat.zero_le _, Nat.zero_le _⟩ ?_
    refine wg_if_eq X 27 dX9_gives_12 (by decide) (fun c6 => ?_) (fun c6 => ?_)
    · have h := if_t c6 h
      refine wg_sipush (v := -1000) X dX9_gives_27 (by decide) ?_
      exact wg_iret X ⟨(sm_inj h), rfl, rfl⟩ hr dX9_gives_30
    · have h := if_f c6 h
      refine wg_iload_n X 3 dX9_gives_15 rfl rfl ?_
      refine wg_iconst (v := -1) X dX9_gives_16 (by decide) ?_
      refine wg_icmp_eq X 31 dX9_gives_17 (by decide) (fun c7 => ?_) (fun c7 => ?_)
      · have h := if_t c7 h
        exact J_X9_gives_j31 X hr hS r0 C  M  p1 p2 p3   h
      · have h := if_f c7 h
        refine wg_iload_n X 3 dX9_gives_20 rfl rfl ?_
        obtain ⟨r15, h14, h⟩ := bd_some h
        refine wg_callSi (As := [.int p3]) (rest := []) X (c_X9_isSort l E ad S C M p3  h14) T_yX9_isSort k_1058 dX9_gives_21 rfl rfl (Nat.le_of_ble_eq_true rfl) ⟨Nat.le_of_ble_eq_true rfl, Nat.le_of_ble_eq_true rfl⟩ ⟨Nat.zero_le _, Nat.zero_le _⟩ ?_
        refine wg_if_ne X 31 dX9_gives_24 (by decide) (fun c16 => ?_) (fun c16 => ?_)
        · have h := if_f c16 h
          exact J_X9_gives_j31 X hr hS r0 C  M  p1 p2 p3   h
        · have h := if_t c16 h
          refine wg_sipush (v := -1000) X dX9_gives_27 (by decide) ?_
          exact wg_iret X ⟨(sm_inj h), rfl, rfl⟩ hr dX9_gives_30
-- WindowsGiveModel.feed(I)I (('c', 55), 'i')
def f_X9_feed (M : wg_M) (p1 : Int32) : Option (Int32 × wg_M) :=
  bd (f_X9_in p1.toInt64 (0 : Int64) (255 : Int64)) fun r2 =>
  if r2 = 0 then (
    some ((-2 : Int32), M))
  else (
    if (M.1 55 6) = (160 : Int32) then (
      some ((-4 : Int32), M))
    else (
      ck (inb (M.1 55 6) 160) <|
      lt_ (wg_sM M 58 (M.1 55 6).toNatClampNeg p1) fun M6 =>
      lt_ (wg_sM M6 55 6 ((M6.1 55 6) + (1 : Int32))) fun M8 =>
      some ((M8.1 55 6), M8)))
set_option maxHeartbeats 4000000 in
set_option maxRecDepth 100000 in
theorem c_X9_feed (l : Launch) (E : wg_Ev) (ad : Nat → Nat) (S : wg_Sh) (hS : wg_SM S) (C : wg_C) (M : wg_M) (p1 : Int32)  {r0 : Int32} {D0 : wg_M} (h : f_X9_feed M p1 = some (r0, D0)) : wg_Ci l yX9_feed cX9_feed 2 (some .int) 1 25 E ad S C M [.ref (ad 55), .int p1] r0 C D0 := by
  refine wg_start (own := RX9) (by decide +kernel) rfl (Nat.le_of_ble_eq_true rfl) ?_
  intro p e s m below meth c X hr hnm
  refine wg_lv (lv' := [(0, .ref (ad 55)), (1, .int p1)]) rfl ?_
  unfold f_X9_feed at h
  refine wg_iload_n X 1 dX9_feed_0 rfl rfl ?_
  refine wg_i2l X dX9_feed_1 ?_
  refine wg_lconst (v := 0) X dX9_feed_2 (by decide) ?_
  refine wg_ldc2 (v := 255) X dX9_feed_3 k_1074 ?_
  obtain ⟨r2, h1, h⟩ := bd_some h
  refine wg_callSi (As := [.long (p1.toInt64), .long (0 : Int64), .long (255 : Int64)]) (rest := []) X (c_X9_in l E ad S C M p1.toInt64 (0 : Int64) (255 : Int64)  h1) T_yX9_in k_1021 dX9_feed_6 rfl rfl (Nat.le_of_ble_eq_true rfl) ⟨Nat.le_of_ble_eq_true rfl, Nat.le_of_ble_eq_true rfl⟩ ⟨Nat.zero_le _, Nat.zero_le _⟩ ?_
  refine wg_if_ne X 15 dX9_feed_9 (by decide) (fun c3 => ?_) (fun c3 => ?_)
  · have h := if_f c3 h
    refine wg_aload_n X 0 dX9_feed_15 rfl rfl ?_
    refine wg_getM X cl9 (SMi hS 55 9 rfl) 6 (by decide) dX9_feed_16 k_888 rfl ?_
    refine wg_sipush (v := 160) X dX9_feed_19 (by decide) ?_
    refine wg_icmp_ne X 28 dX9_feed_22 (by decide) (fun c4 => ?_) (fun c4 => ?_)
    · have h := if_f c4 h
      refine wg_aload_n X 0 dX9_feed_28 rfl rfl ?_
      refine wg_getR (b := 58) X cl9 (SMi hS 55 9 rfl) 5 (by decide) dX9_feed_29 k_887 rfl (SMr hS 5 58 rfl) ?_
      refine wg_aload_n X 0 dX9_feed_32 rfl rfl ?_
      refine wg_getM X cl9 (SMi hS 55 9 rfl) 6 (by decide) dX9_feed_33 k_888 rfl ?_
      refine wg_iload_n X 1 dX9_feed_36 rfl rfl ?_
      obtain ⟨z5, h⟩ := ck_some h
      obtain ⟨M6, e7, h⟩ := lt_some h
      refine wg_maste X (SMi hS 58 11 rfl) (SMl hS 58 160 rfl) z5 dX9_feed_37 e7 ?_
      refine wg_aload_n X 0 dX9_feed_38 rfl rfl ?_
      refine wg_dup X dX9_feed_39 rfl ?_
      refine wg_getM X cl9 (SMi hS 55 9 rfl) 6 (by decide) dX9_feed_40 k_888 rfl ?_
      refine wg_iconst (v := 1) X dX9_feed_43 (by decide) ?_
      refine wg_iadd X dX9_feed_44 ?_
      obtain ⟨M8, e9, h⟩ := lt_some h
      refine wg_putMe X cl9 (SMi hS 55 9 rfl) 6 (by decide) dX9_feed_45 k_888 rfl rfl rfl rfl e9 ?_
      refine wg_aload_n X 0 dX9_feed_48 rfl rfl ?_
      refine wg_getM X cl9 (SMi hS 55 9 rfl) 6 (by decide) dX9_feed_49 k_888 rfl ?_
      exact wg_iret X ⟨congrArg Prod.fst (sm_inj h), rfl, congrArg Prod.snd (sm_inj h)⟩ hr dX9_feed_52
    · have h := if_t c4 h
      refine wg_bipush (v := -4) X dX9_feed_25 (by decide) ?_
      exact wg_iret X ⟨congrArg Prod.fst (sm_inj h), rfl, congrArg Prod.snd (sm_inj h)⟩ hr dX9_feed_27
  · have h := if_t c3 h
    refine wg_bipush (v := -2) X dX9_feed_12 (by decide) ?_
    exact wg_iret X ⟨congrArg Prod.fst (sm_inj h), rfl, congrArg Prod.snd (sm_inj h)⟩ hr dX9_feed_14
-- WindowsGiveModel.byteAt(I)I (('c', 55), 'i')
def f_X9_byteAt (M : wg_M) (p1 : Int32) : Option Int32 :=
  if (M.1 55 22) ≤ p1 then (
    some (-1 : Int32))
  else (
    ck (inb ((M.1 55 21) + p1) 960) <|
    some (M.1 56 ((M.1 55 21) + p1).toNatClampNeg))
set_option maxHeartbeats 4000000 in
set_option maxRecDepth 100000 in
theorem c_X9_byteAt (l : Launch) (E : wg_Ev) (ad : Nat → Nat) (S : wg_Sh) (hS : wg_SM S) (C : wg_C) (M : wg_M) (p1 : Int32)  {r0 : Int32} (h : f_X9_byteAt M p1 = some r0) : wg_Ci l yX9_byteAt cX9_byteAt 2 (some .int) 0 0 E ad S C M [.ref (ad 55), .int p1] r0 C M := by
  refine wg_start (own := RX9) (by decide +kernel) rfl (Nat.le_of_ble_eq_true rfl) ?_
  intro p e s m below meth c X hr hnm
  refine wg_lv (lv' := [(0, .ref (ad 55)), (1, .int p1)]) rfl ?_
  unfold f_X9_byteAt at h
  refine wg_iload_n X 1 dX9_byteAt_0 rfl rfl ?_
  refine wg_aload_n X 0 dX9_byteAt_1 rfl rfl ?_
  refine wg_getM X cl9 (SMi hS 55 9 rfl) 22 (by decide) dX9_byteAt_2 k_904 rfl ?_
  refine wg_icmp_ge X 22 dX9_byteAt_5 (by decide) (fun c1 => ?_) (fun c1 => ?_)
  · have h := if_t c1 h
    refine wg_iconst (v := -1) X dX9_byteAt_22 (by decide) ?_
    exact wg_iret X ⟨(sm_inj h), rfl, rfl⟩ hr dX9_byteAt_23
  · have h := if_f c1 h
    refine wg_aload_n X 0 dX9_byteAt_8 rfl rfl ?_
    refine wg_getR (b := 56) X cl9 (SMi hS 55 9 rfl) 1 (by decide) dX9_byteAt_9 k_883 rfl (SMr hS 1 56 rfl) ?_
    refine wg_aload_n X 0 dX9_byteAt_12 rfl rfl ?_
    refine wg_getM X cl9 (SMi hS 55 9 rfl) 21 (by decide) dX9_byteAt_13 k_903 rfl ?_
    refine wg_iload_n X 1 dX9_byteAt_16 rfl rfl ?_
    refine wg_iadd X dX9_byteAt_17 ?_
    obtain ⟨z2, h⟩ := ck_some h
    refine wg_mald X (SMi hS 56 11 rfl) (SMl hS 56 960 rfl) z2 dX9_byteAt_18 ?_
    refine wg_goto X 23 dX9_byteAt_19 (by decide) ?_
    exact wg_iret X ⟨(sm_inj h), rfl, rfl⟩ hr dX9_byteAt_23
-- WindowsGiveModel.next()V (('c', 55),)
def f_X9_next_j26l0 (N : Nat) (M : wg_M)   : Option ((wg_M) ⊕ (wg_M)) :=
  lt_ (wg_sM M 55 23 ((M.1 55 23) + (1 : Int32))) fun M4 =>
  some (.inl M4)
def f_X9_next_l0 (N : Nat)   (M : wg_M)  : Option ((wg_M) ⊕ (wg_M)) :=
  bd (f_X9_byteAt M (M.1 55 23)) fun r2 =>
  if r2 = (32 : Int32) then (
    f_X9_next_j26l0 N M  )
  else (
    bd (f_X9_byteAt M (M.1 55 23)) fun r7 =>
    if r7 = (10 : Int32) then (
      f_X9_next_j26l0 N M  )
    else (
      some (.inr M)))
def f_X9_next_j300 (N : Nat) (M : wg_M)  (x1 : Int32) : Option wg_M :=
  lt_ (wg_sM M 55 24 (3 : Int32)) fun M28 =>
  lt_ (wg_sJ M28 55 x1.toInt64) fun M30 =>
  lt_ (wg_sM M30 55 23 ((M30.1 55 23) + (1 : Int32))) fun M32 =>
  some M32
def f_X9_next_j216l160 (N : Nat) (M : wg_M)  (x2 : Int32) (s0 : Int64) : Option ((wg_M × Int32) ⊕ (wg_M × Int32)) :=
  lt_ (wg_sJ M 55 s0) fun M51 =>
  lt_ (x2 + (1 : Int32)) fun v53 =>
  lt_ (wg_sM M51 55 23 ((M51.1 55 23) + (1 : Int32))) fun M55 =>
  some (.inl (M55, v53))
def f_X9_next_l160 (N : Nat)   (M : wg_M) (x2 : Int32) : Option ((wg_M × Int32) ⊕ (wg_M × Int32)) :=
  bd (f_X9_byteAt M (M.1 55 23)) fun r46 =>
  bd (f_X9_in r46.toInt64 (48 : Int64) (57 : Int64)) fun r48 =>
  if r48 = 0 then (
    some (.inr (M, x2)))
  else (
    if (4 : Int32) ≤ x2 then (
      f_X9_next_j216l160 N M  x2 (M.2 55))
    else (
      bd (f_X9_byteAt M (M.1 55 23)) fun r58 =>
      f_X9_next_j216l160 N M  x2 ((((10 : Int64) * (M.2 55)) + r58.toInt64) - (48 : Int64))))
def f_X9_next_l100 (N : Nat)   (M : wg_M)  : Option ((wg_M) ⊕ (wg_M)) :=
  bd (f_X9_byteAt M (M.1 55 23)) fun r73 =>
  bd (f_X9_in r73.toInt64 (97 : Int64) (122 : Int64)) fun r75 =>
  if r75 = 0 then (
    some (.inr M))
  else (
    lt_ (wg_sM M 55 23 ((M.1 55 23) + (1 : Int32))) fun M77 =>
    some (.inl M77))
def f_X9_next (N : Nat) (M : wg_M)  : Option wg_M :=
  bd (lp (fun o => f_X9_next_l0 N   o) N M) fun M9 =>
  lt_ (wg_sM M9 55 25 (M9.1 55 23)) fun M14 =>
  bd (f_X9_byteAt M14 (M14.1 55 23)) fun r17 =>
  lt_ (wg_sM M14 55 24 (4 : Int32)) fun M18 =>
  if 0 ≤ r17 then (
    bd (f_X9_in r17.toInt64 (97 : Int64) (122 : Int64)) fun r22 =>
    if r22 = 0 then (
      bd (f_X9_in r17.toInt64 (48 : Int64) (57 : Int64)) fun r25 =>
      if r25 = 0 then (
        if r17 = (40 : Int32) then (
          f_X9_next_j300 N M18  r17)
        else (
          if r17 = (41 : Int32) then (
            f_X9_next_j300 N M18  r17)
          else (
            if r17 = (59 : Int32) then (
              f_X9_next_j300 N M18  r17)
            else (
              if r17 = (43 : Int32) then (
                f_X9_next_j300 N M18  r17)
              else (
                if r17 = (45 : Int32) then (
                  f_X9_next_j300 N M18  r17)
                else (
                  if r17 = (42 : Int32) then (
                    f_X9_next_j300 N M18  r17)
                  else (
                    if r17 = (60 : Int32) then (
                      f_X9_next_j300 N M18  r17)
                    else (
                      if r17 = (61 : Int32) then (
                        f_X9_next_j300 N M18  r17)
                      else (
                        some M18)))))))))
      else (
        lt_ (wg_sM M18 55 24 (2 : Int32)) fun M41 =>
        lt_ (wg_sJ M41 55 (0 : Int64)) fun M43 =>
        bd2 (lp (fun o => f_X9_next_l160 N   o.1 o.2) N (M43, (0 : Int32))) fun M59 v60 =>
        if v60 ≤ (4 : Int32) then (
          lt_ (wg_sM M59 55 24 (2 : Int32)) fun M66 =>
          some M66)
        else (
          lt_ (wg_sM M59 55 24 (4 : Int32)) fun M68 =>
          some M68)))
    else (
      lt_ (wg_sM M18 55 24 (1 : Int32)) fun M70 =>
      bd (lp (fun o => f_X9_next_l100 N   o) N M70) fun M79 =>
      some M79))
  else (
    lt_ (wg_sM M18 55 24 (0 : Int32)) fun M84 =>
    lt_ (wg_sM M84 55 25 (M84.1 55 22)) fun M86 =>
    some M86)
abbrev G_X9_next (p : Program) (l : Launch) (e : Env) (s : State) (m : MethodId) (args : Array Value) (below : List Frame) (meth : Method) (c : Code) (E : wg_Ev) (ad : Nat → Nat) (S : wg_Sh) (C0 : wg_C) (M0 : wg_M) (pc : Nat) (C : wg_C) (M : wg_M) (lv : List (Nat × Value)) (st : List Value) : Prop := wg_G p l e (wg_Rm 1 25) s m args below meth c (MQ below (wg_Qv E ad S C0 M0) args s 0 0 (wg_A E)) 3 E ad S 0 0 pc C M lv st
set_option maxHeartbeats 4000000 in
set_option maxRecDepth 100000 in
theorem J_X9_next_j26l0 {p : Program} {l : Launch} {e : Env} {s : State} {m : MethodId} {args : Array Value} {below : List Frame} {meth : Method} {c : Code} {E : wg_Ev} {ad : Nat → Nat} {S : wg_Sh} (X : wg_X p s m args meth c cX9_next 3 RX9 E) (hr : meth.sig.returnType = none) (hS : wg_SM S) (D0 : wg_M) (C : wg_C) (N : Nat)  (M : wg_M)    (y : ((wg_M) ⊕ (wg_M))) (Kc : ∀ (Dy : wg_M), y = Sum.inl Dy → G_X9_next p l e s m args below meth c E ad S C D0 0 C Dy [(0, .ref (ad 55))] []) (Ke : ∀ (Dy : wg_M), y = Sum.inr (Dy) → G_X9_next p l e s m args below meth c E ad S C D0 39 C Dy [(0, .ref (ad 55))] []) (h : f_X9_next_j26l0 N M   = some y) : G_X9_next p l e s m args below meth c E ad S C D0 26 C M [(0, .ref (ad 55))] [] := by
  unfold f_X9_next_j26l0 at h
  refine wg_aload_n X 0 dX9_next_26 rfl rfl ?_
  refine wg_dup X dX9_next_27 rfl ?_
  refine wg_getM X cl9 (SMi hS 55 9 rfl) 23 (by decide) dX9_next_28 k_905 rfl ?_
  refine wg_iconst (v := 1) X dX9_next_31 (by decide) ?_
  refine wg_iadd X dX9_next_32 ?_
  obtain ⟨M4, e5, h⟩ := lt_some h
  refine wg_putMe X cl9 (SMi hS 55 9 rfl) 23 (by decide) dX9_next_33 k_905 rfl rfl rfl rfl e5 ?_
  refine wg_goto X 0 dX9_next_36 (by decide) ?_
  exact Kc M4 (sm_inj h).symm
set_option maxHeartbeats 4000000 in
set_option maxRecDepth 100000 in
theorem L_X9_next_l0 {p : Program} {l : Launch} {e : Env} {s : State} {m : MethodId} {args : Array Value} {below : List Frame} {meth : Method} {c : Code} {E : wg_Ev} {ad : Nat → Nat} {S : wg_Sh} (X : wg_X p s m args meth c cX9_next 3 RX9 E) (hr : meth.sig.returnType = none) (hS : wg_SM S) (D0 : wg_M) (C : wg_C) (N : Nat)     : ∀ (n : Nat) (M : wg_M) (o : (wg_M)), lp (fun o => f_X9_next_l0 N   o) n M = some o → (∀ (Dy : wg_M), o = Dy → G_X9_next p l e s m args below meth c E ad S C D0 39 C Dy [(0, .ref (ad 55))] []) → G_X9_next p l e s m args below meth c E ad S C D0 0 C M [(0, .ref (ad 55))] [] := by
  intro n
  induction n with
  | zero => exact fun _ o h => (lp_zero h).elim
  | succ n ih =>
    intro M o h K
    obtain ⟨o1, hb, h2⟩ := lp_some h
    replace hb : f_X9_next_l0 N   M = some o1 := hb
    clear h
    have Kc : ∀ (Dy : wg_M), o1 = Sum.inl Dy → G_X9_next p l e s m args below meth c E ad S C D0 0 C Dy [(0, .ref (ad 55))] [] := fun Dy e1 => by
      subst e1
      exact ih Dy o h2 K
    have Ke : ∀ (Dy : wg_M), o1 = Sum.inr (Dy) → G_X9_next p l e s m args below meth c E ad S C D0 39 C Dy [(0, .ref (ad 55))] [] := fun Dy e1 => by
      subst e1
      exact K Dy (sm_inj (α := (wg_M)) h2).symm
    clear ih K h2
    unfold f_X9_next_l0 at hb
    have h := hb
    clear hb
    refine wg_aload_n X 0 dX9_next_0 rfl rfl ?_
    refine wg_aload_n X 0 dX9_next_1 rfl rfl ?_
    refine wg_getM X cl9 (SMi hS 55 9 rfl) 23 (by decide) dX9_next_2 k_905 rfl ?_
    obtain ⟨r2, h1, h⟩ := bd_some h
    refine wg_callVi (As := [.int (M.1 55 23)]) (rest := []) X (c_X9_byteAt l E ad S hS C M (M.1 55 23)  h1) T_yX9_byteAt k_1087 cl9 (SMi hS 55 9 rfl) dX9_next_5 rfl rfl (Nat.le_of_ble_eq_true rfl) ⟨Nat.le_of_ble_eq_true rfl, Nat.le_of_ble_eq_true rfl⟩ ⟨Nat.zero_le _, Nat.zero_le _⟩ ?_
    refine wg_bipush (v := 32) X dX9_next_8 (by decide) ?_
    refine wg_icmp_eq X 26 dX9_next_10 (by decide) (fun c3 => ?_) (fun c3 => ?_)
    · have h := if_t c3 h
      exact J_X9_next_j26l0 X hr hS D0 C N  M    _ Kc Ke h
    · have h := if_f c3 h
      refine wg_aload_n X 0 dX9_next_13 rfl rfl ?_
      refine wg_aload_n X 0 dX9_next_14 rfl rfl ?_
      refine wg_getM X cl9 (SMi hS 55 9 rfl) 23 (by decide) dX9_next_15 k_905 rfl ?_
      obtain ⟨r7, h6, h⟩ := bd_some h
      refine wg_callVi (As := [.int (M.1 55 23)]) (rest := []) X (c_X9_byteAt l E ad S hS C M (M.1 55 23)  h6) T_yX9_byteAt k_1087 cl9 (SMi hS 55 9 rfl) dX9_next_18 rfl rfl (Nat.le_of_ble_eq_true rfl) ⟨Nat.le_of_ble_eq_true rfl, Nat.le_of_ble_eq_true rfl⟩ ⟨Nat.zero_le _, Nat.zero_le _⟩ ?_
      refine wg_bipush (v := 10) X dX9_next_21 (by decide) ?_
      refine wg_icmp_ne X 39 dX9_next_23 (by decide) (fun c8 => ?_) (fun c8 => ?_)
      · have h := if_f c8 h
        exact Ke M (sm_inj h).symm
      · have h := if_t c8 h
        exact J_X9_next_j26l0 X hr hS D0 C N  M    _ Kc Ke h
set_option maxHeartbeats 4000000 in
set_option maxRecDepth 100000 in
theorem J_X9_next_j300 {p : Program} {l : Launch} {e : Env} {s : State} {m : MethodId} {args : Array Value} {below : List Frame} {meth : Method} {c : Code} {E : wg_Ev} {ad : Nat → Nat} {S : wg_Sh} (X : wg_X p s m args meth c cX9_next 3 RX9 E) (hr : meth.sig.returnType = none) (hS : wg_SM S) (D0 : wg_M) (C : wg_C) (N : Nat)  (M : wg_M)  (x1 : Int32)   (h : f_X9_next_j300 N M  x1 = some D0) : G_X9_next p l e s m args below meth c E ad S C D0 300 C M [(0, .ref (ad 55)), (1, .int x1)] [] := by
  unfold f_X9_next_j300 at h
  refine wg_aload_n X 0 dX9_next_300 rfl rfl ?_
  refine wg_iconst (v := 3) X dX9_next_301 (by decide) ?_
  obtain ⟨M28, e29, h⟩ := lt_some h
  refine wg_putMe X cl9 (SMi hS 55 9 rfl) 24 (by decide) dX9_next_302 k_906 rfl rfl rfl rfl e29 ?_
  refine wg_aload_n X 0 dX9_next_305 rfl rfl ?_
  refine wg_iload_n X 1 dX9_next_306 rfl rfl ?_
  refine wg_i2l X dX9_next_307 ?_
  obtain ⟨M30, e31, h⟩ := lt_some h
  refine wg_putJe X cl9 (SMi hS 55 9 rfl) 26 (by decide) dX9_next_308 k_908 rfl rfl wg_Jonly rfl rfl e31 ?_
  refine wg_aload_n X 0 dX9_next_311 rfl rfl ?_
  refine wg_dup X dX9_next_312 rfl ?_
  refine wg_getM X cl9 (SMi hS 55 9 rfl) 23 (by decide) dX9_next_313 k_905 rfl ?_
  refine wg_iconst (v := 1) X dX9_next_316 (by decide) ?_
  refine wg_iadd X dX9_next_317 ?_
  obtain ⟨M32, e33, h⟩ := lt_some h
  refine wg_putMe X cl9 (SMi hS 55 9 rfl) 23 (by decide) dX9_next_318 k_905 rfl rfl rfl rfl e33 ?_
  exact wg_vret X ⟨rfl, (sm_inj h)⟩ hr dX9_next_321
set_option maxHeartbeats 4000000 in
set_option maxRecDepth 100000 in
theorem J_X9_next_j216l160 {p : Program} {l : Launch} {e : Env} {s : State} {m : MethodId} {args : Array Value} {below : List Frame} {meth : Method} {c : Code} {E : wg_Ev} {ad : Nat → Nat} {S : wg_Sh} (X : wg_X p s m args meth c cX9_next 3 RX9 E) (hr : meth.sig.returnType = none) (hS : wg_SM S) (D0 : wg_M) (C : wg_C) (N : Nat)  (M : wg_M)  (x2 : Int32) (s0 : Int64)  (y : ((wg_M × Int32) ⊕ (wg_M × Int32))) (Kc : ∀ (Dy : wg_M) (y2 : Int32), y = Sum.inl (Dy, y2) → G_X9_next p l e s m args below meth c E ad S C D0 160 C Dy [(0, .ref (ad 55)), (2, .int y2)] []) (Ke : ∀ (Dy : wg_M) (y2 : Int32), y = Sum.inr ((Dy, y2)) → G_X9_next p l e s m args below meth c E ad S C D0 235 C Dy [(0, .ref (ad 55)), (2, .int y2)] []) (h : f_X9_next_j216l160 N M  x2 s0 = some y) : G_X9_next p l e s m args below meth c E ad S C D0 216 C M [(0, .ref (ad 55)), (2, .int x2)] [.long s0, .ref (ad 55)] := by
  unfold f_X9_next_j216l160 at h
  obtain ⟨M51, e52, h⟩ := lt_some h
  refine wg_putJe X cl9 (SMi hS 55 9 rfl) 26 (by decide) dX9_next_216 k_908 rfl rfl wg_Jonly rfl rfl e52 ?_
  obtain ⟨v53, e54, h⟩ := lt_some h
  refine wg_iinc (lv' := [(2, .int v53), (0, .ref (ad 55))]) X 1 dX9_next_219 rfl e54 (by decide) rfl ?_
  refine wg_aload_n X 1 dX9_next_222 rfl rfl ?_
  refine wg_dup X dX9_next_223 rfl ?_
  refine wg_getM X cl9 (SMi hS 55 9 rfl) 23 (by decide) dX9_next_224 k_905 rfl ?_
  refine wg_iconst (v := 1) X dX9_next_227 (by decide) ?_
  refine wg_iadd X dX9_next_228 ?_
  obtain ⟨M55, e56, h⟩ := lt_some h
  refine wg_putMe X cl9 (SMi hS 55 9 rfl) 23 (by decide) dX9_next_229 k_905 rfl rfl rfl rfl e56 ?_
  refine wg_goto X 160 dX9_next_232 (by decide) ?_
  refine wg_pick [1, 0] (lv' := [(0, .ref (ad 55)), (2, .int v53)]) rfl ?_
  exact Kc M55 v53 (sm_inj h).symm
set_option maxHeartbeats 4000000 in
set_option maxRecDepth 100000 in
theorem L_X9_next_l160 {p : Program} {l : Launch} {e : Env} {s : State} {m : MethodId} {args : Array Value} {below : List Frame} {meth : Method} {c : Code} {E : wg_Ev} {ad : Nat → Nat} {S : wg_Sh} (X : wg_X p s m args meth c cX9_next 3 RX9 E) (hr : meth.sig.returnType = none) (hS : wg_SM S) (D0 : wg_M) (C : wg_C) (N : Nat)     : ∀ (n : Nat) (M : wg_M) (x2 : Int32) (o : (wg_M × Int32)), lp (fun o => f_X9_next_l160 N   o.1 o.2) n (M, x2) = some o → (∀ (Dy : wg_M) (y2 : Int32), o = (Dy, y2) → G_X9_next p l e s m args below meth c E ad S C D0 235 C Dy [(0, .ref (ad 55)), (2, .int y2)] []) → G_X9_next p l e s m args below meth c E ad S C D0 160 C M [(0, .ref (ad 55)), (2, .int x2)] [] := by
  intro n
  induction n with
  | zero => exact fun _ _ o h => (lp_zero h).elim
  | succ n ih =>
    intro M x2 o h K
    obtain ⟨o1, hb, h2⟩ := lp_some h
    replace hb : f_X9_next_l160 N   M x2 = some o1 := hb
    clear h
    have Kc : ∀ (Dy : wg_M) (y2 : Int32), o1 = Sum.inl (Dy, y2) → G_X9_next p l e s m args below meth c E ad S C D0 160 C Dy [(0, .ref (ad 55)), (2, .int y2)] [] := fun Dy y2 e1 => by
      subst e1
      exact ih Dy y2 o h2 K
    have Ke : ∀ (Dy : wg_M) (y2 : Int32), o1 = Sum.inr ((Dy, y2)) → G_X9_next p l e s m args below meth c E ad S C D0 235 C Dy [(0, .ref (ad 55)), (2, .int y2)] [] := fun Dy y2 e1 => by
      subst e1
      exact K Dy y2 (sm_inj (α := (wg_M × Int32)) h2).symm
    clear ih K h2
    unfold f_X9_next_l160 at hb
    have h := hb
    clear hb
    refine wg_aload_n X 0 dX9_next_160 rfl rfl ?_
    refine wg_aload_n X 0 dX9_next_161 rfl rfl ?_
    refine wg_getM X cl9 (SMi hS 55 9 rfl) 23 (by decide) dX9_next_162 k_905 rfl ?_
    obtain ⟨r46, h45, h⟩ := bd_some h
    refine wg_callVi (As := [.int (M.1 55 23)]) (rest := []) X (c_X9_byteAt l E ad S hS C M (M.1 55 23)  h45) T_yX9_byteAt k_1087 cl9 (SMi hS 55 9 rfl) dX9_next_165 rfl rfl (Nat.le_of_ble_eq_true rfl) ⟨Nat.le_of_ble_eq_true rfl, Nat.le_of_ble_eq_true rfl⟩ ⟨Nat.zero_le _, Nat.zero_le _⟩ ?_
    refine wg_i2l X dX9_next_168 ?_
    refine wg_ldc2 (v := 48) X dX9_next_169 k_1093 ?_
    refine wg_ldc2 (v := 57) X dX9_next_172 k_1094 ?_
    obtain ⟨r48, h47, h⟩ := bd_some h
    refine wg_callSi (As := [.long (r46.toInt64), .long (48 : Int64), .long (57 : Int64)]) (rest := []) X (c_X9_in l E ad S C M r46.toInt64 (48 : Int64) (57 : Int64)  h47) T_yX9_in k_1021 dX9_next_175 rfl rfl (Nat.le_of_ble_eq_true rfl) ⟨Nat.le_of_ble_eq_true rfl, Nat.le_of_ble_eq_true rfl⟩ ⟨Nat.zero_le _, Nat.zero_le _⟩ ?_
    refine wg_if_eq X 235 dX9_next_178 (by decide) (fun c49 => ?_) (fun c49 => ?_)
    · have h := if_t c49 h
      exact Ke M x2 (sm_inj h).symm
    · have h := if_f c49 h
      refine wg_aload_n X 0 dX9_next_181 rfl rfl ?_
      refine wg_iload_n X 1 dX9_next_182 rfl rfl ?_
      refine wg_iconst (v := 4) X dX9_next_183 (by decide) ?_
      refine wg_icmp_ge X 212 dX9_next_184 (by decide) (fun c50 => ?_) (fun c50 => ?_)
      · have h := if_t c50 h
        refine wg_aload_n X 0 dX9_next_212 rfl rfl ?_
        refine wg_getJ X cl9 (SMi hS 55 9 rfl) 26 (by decide) dX9_next_213 k_908 rfl ?_
        exact J_X9_next_j216l160 X hr hS D0 C N  M  x2 (M.2 55)  _ Kc Ke h
      · have h := if_f c50 h
        refine wg_ldc2 (v := 10) X dX9_next_187 k_1095 ?_
        refine wg_aload_n X 0 dX9_next_190 rfl rfl ?_
        refine wg_getJ X cl9 (SMi hS 55 9 rfl) 26 (by decide) dX9_next_191 k_908 rfl ?_
        refine wg_lmul X dX9_next_194 ?_
        refine wg_aload_n X 0 dX9_next_195 rfl rfl ?_
        refine wg_aload_n X 0 dX9_next_196 rfl rfl ?_
        refine wg_getM X cl9 (SMi hS 55 9 rfl) 23 (by decide) dX9_next_197 k_905 rfl ?_
        obtain ⟨r58, h57, h⟩ := bd_some h
        refine wg_callVi (As := [.int (M.1 55 23)]) (rest := [.long ((10 : Int64) * (M.2 55)), .ref (ad 55)]) X (c_X9_byteAt l E ad S hS C M (M.1 55 23)  h57) T_yX9_byteAt k_1087 cl9 (SMi hS 55 9 rfl) dX9_next_200 rfl rfl (Nat.le_of_ble_eq_true rfl) ⟨Nat.le_of_ble_eq_true rfl, Nat.le_of_ble_eq_true rfl⟩ ⟨Nat.zero_le _, Nat.zero_le _⟩ ?_
        refine wg_i2l X dX9_next_203 ?_
        refine wg_ladd X dX9_next_204 ?_
        refine wg_ldc2 (v := 48) X dX9_next_205 k_1093 ?_
        refine wg_lsub X dX9_next_208 ?_
        refine wg_goto X 216 dX9_next_209 (by decide) ?_
        exact J_X9_next_j216l160 X hr hS D0 C N  M  x2 ((((10 : Int64) * (M.2 55)) + r58.toInt64) - (48 : Int64))  _ Kc Ke h
set_option maxHeartbeats 4000000 in
set_option maxRecDepth 100000 in
theorem L_X9_next_l100 {p : Program} {l : Launch} {e : Env} {s : State} {m : MethodId} {args : Array Value} {below : List Frame} {meth : Method} {c : Code} {E : wg_Ev} {ad : Nat → Nat} {S : wg_Sh} (X : wg_X p s m args meth c cX9_next 3 RX9 E) (hr : meth.sig.returnType = none) (hS : wg_SM S) (D0 : wg_M) (C : wg_C) (N : Nat)     : ∀ (n : Nat) (M : wg_M) (o : (wg_M)), lp (fun o => f_X9_next_l100 N   o) n M = some o → (∀ (Dy : wg_M), o = Dy → G_X9_next p l e s m args below meth c E ad S C D0 321 C Dy [(0, .ref (ad 55))] []) → G_X9_next p l e s m args below meth c E ad S C D0 100 C M [(0, .ref (ad 55))] [] := by
  intro n
  induction n with
  | zero => exact fun _ o h => (lp_zero h).elim
  | succ n ih =>
    intro M o h K
    obtain ⟨o1, hb, h2⟩ := lp_some h
    replace hb : f_X9_next_l100 N   M = some o1 := hb
    clear h
    have Kc : ∀ (Dy : wg_M), o1 = Sum.inl Dy → G_X9_next p l e s m args below meth c E ad S C D0 100 C Dy [(0, .ref (ad 55))] [] := fun Dy e1 => by
      subst e1
      exact ih Dy o h2 K
    have Ke : ∀ (Dy : wg_M), o1 = Sum.inr (Dy) → G_X9_next p l e s m args below meth c E ad S C D0 321 C Dy [(0, .ref (ad 55))] [] := fun Dy e1 => by
      subst e1
      exact K Dy (sm_inj (α := (wg_M)) h2).symm
    clear ih K h2
    unfold f_X9_next_l100 at hb
    have h := hb
    clear hb
    refine wg_aload_n X 0 dX9_next_100 rfl rfl ?_
    refine wg_aload_n X 0 dX9_next_101 rfl rfl ?_
    refine wg_getM X cl9 (SMi hS 55 9 rfl) 23 (by decide) dX9_next_102 k_905 rfl ?_
    obtain ⟨r73, h72, h⟩ := bd_some h
    refine wg_callVi (As := [.int (M.1 55 23)]) (rest := []) X (c_X9_byteAt l E ad S hS C M (M.1 55 23)  h72) T_yX9_byteAt k_1087 cl9 (SMi hS 55 9 rfl) dX9_next_105 rfl rfl (Nat.le_of_ble_eq_true rfl) ⟨Nat.le_of_ble_eq_true rfl, Nat.le_of_ble_eq_true rfl⟩ ⟨Nat.zero_le _, Nat.zero_le _⟩ ?_
    refine wg_i2l X dX9_next_108 ?_
    refine wg_ldc2 (v := 97) X dX9_next_109 k_1091 ?_
    refine wg_ldc2 (v := 122) X dX9_next_112 k_1092 ?_
    obtain ⟨r75, h74, h⟩ := bd_some h
    refine wg_callSi (As := [.long (r73.toInt64), .long (97 : Int64), .long (122 : Int64)]) (rest := []) X (c_X9_in l E ad S C M r73.toInt64 (97 : Int64) (122 : Int64)  h74) T_yX9_in k_1021 dX9_next_115 rfl rfl (Nat.le_of_ble_eq_true rfl) ⟨Nat.le_of_ble_eq_true rfl, Nat.le_of_ble_eq_true rfl⟩ ⟨Nat.zero_le _, Nat.zero_le _⟩ ?_
    refine wg_if_eq X 321 dX9_next_118 (by decide) (fun c76 => ?_) (fun c76 => ?_)
    · have h := if_t c76 h
      exact Ke M (sm_inj h).symm
    · have h := if_f c76 h
      refine wg_aload_n X 0 dX9_next_121 rfl rfl ?_
      refine wg_dup X dX9_next_122 rfl ?_
      refine wg_getM X cl9 (SMi hS 55 9 rfl) 23 (by decide) dX9_next_123 k_905 rfl ?_
      refine wg_iconst (v := 1) X dX9_next_126 (by decide) ?_
      refine wg_iadd X dX9_next_127 ?_
      obtain ⟨M77, e78, h⟩ := lt_some h
      refine wg_putMe X cl9 (SMi hS 55 9 rfl) 23 (by decide) dX9_next_128 k_905 rfl rfl rfl rfl e78 ?_
      refine wg_goto X 100 dX9_next_131 (by decide) ?_
      exact Kc M77 (sm_inj h).symm
set_option maxHeartbeats 4000000 in
set_option maxRecDepth 100000 in
theorem c_X9_next (l : Launch) (E : wg_Ev) (ad : Nat → Nat) (S : wg_Sh) (hS : wg_SM S) (N : Nat) (C : wg_C) (M : wg_M)   {D0 : wg_M} (h : f_X9_next N M  = some D0) : wg_Cv l yX9_next cX9_next 3 none 1 25 E ad S C M [.ref (ad 55)] C D0 := by
  refine wg_start (own := RX9) (by decide +kernel) rfl (Nat.le_of_ble_eq_true rfl) ?_
  intro p e s m below meth c X hr hnm
  refine wg_lv (lv' := [(0, .ref (ad 55))]) rfl ?_
  unfold f_X9_next at h
  obtain ⟨o10, h11, h⟩ := bd_o h
  refine L_X9_next_l0 X hr hS D0 C N     N M o10 h11 (fun M9 e13 => ?_)
  · subst e13
    replace h := bd_in h
    refine wg_aload_n X 0 dX9_next_39 rfl rfl ?_
    refine wg_aload_n X 0 dX9_next_40 rfl rfl ?_
    refine wg_getM X cl9 (SMi hS 55 9 rfl) 23 (by decide) dX9_next_41 k_905 rfl ?_
    obtain ⟨M14, e15, h⟩ := lt_some h
    refine wg_putMe X cl9 (SMi hS 55 9 rfl) 25 (by decide) dX9_next_44 k_907 rfl rfl rfl rfl e15 ?_
    refine wg_aload_n X 0 dX9_next_47 rfl rfl ?_
    refine wg_aload_n X 0 dX9_next_48 rfl rfl ?_
    refine wg_getM X cl9 (SMi hS 55 9 rfl) 23 (by decide) dX9_next_49 k_905 rfl ?_
    obtain ⟨r17, h16, h⟩ := bd_some h
    refine wg_callVi (As := [.int (M14.1 55 23)]) (rest := []) X (c_X9_byteAt l E ad S hS C M14 (M14.1 55 23)  h16) T_yX9_byteAt k_1087 cl9 (SMi hS 55 9 rfl) dX9_next_52 rfl rfl (Nat.le_of_ble_eq_true rfl) ⟨Nat.le_of_ble_eq_true rfl, Nat.le_of_ble_eq_true rfl⟩ ⟨Nat.zero_le _, Nat.zero_le _⟩ ?_
    refine wg_istore_n (lv' := [(1, .int r17), (0, .ref (ad 55))]) X dX9_next_55 rfl rfl (by decide) rfl ?_
    refine wg_aload_n X 1 dX9_next_56 rfl rfl ?_
    refine wg_iconst (v := 4) X dX9_next_57 (by decide) ?_
    obtain ⟨M18, e19, h⟩ := lt_some h
    refine wg_putMe X cl9 (SMi hS 55 9 rfl) 24 (by decide) dX9_next_58 k_906 rfl rfl rfl rfl e19 ?_
    refine wg_iload_n X 0 dX9_next_61 rfl rfl ?_
    refine wg_if_ge X 81 dX9_next_62 (by decide) (fun c20 => ?_) (fun c20 => ?_)
    · have h := if_t c20 h
      refine wg_iload_n X 0 dX9_next_81 rfl rfl ?_
      refine wg_i2l X dX9_next_82 ?_
      refine wg_ldc2 (v := 97) X dX9_next_83 k_1091 ?_
      refine wg_ldc2 (v := 122) X dX9_next_86 k_1092 ?_
      obtain ⟨r22, h21, h⟩ := bd_some h
      refine wg_callSi (As := [.long (r17.toInt64), .long (97 : Int64), .long (122 : Int64)]) (rest := []) X (c_X9_in l E ad S C M18 r17.toInt64 (97 : Int64) (122 : Int64)  h21) T_yX9_in k_1021 dX9_next_89 rfl rfl (Nat.le_of_ble_eq_true rfl) ⟨Nat.le_of_ble_eq_true rfl, Nat.le_of_ble_eq_true rfl⟩ ⟨Nat.zero_le _, Nat.zero_le _⟩ ?_
      refine wg_if_eq X 134 dX9_next_92 (by decide) (fun c23 => ?_) (fun c23 => ?_)
      · have h := if_t c23 h
        refine wg_iload_n X 0 dX9_next_134 rfl rfl ?_
        refine wg_i2l X dX9_next_135 ?_
        refine wg_ldc2 (v := 48) X dX9_next_136 k_1093 ?_
        refine wg_ldc2 (v := 57) X dX9_next_139 k_1094 ?_
        obtain ⟨r25, h24, h⟩ := bd_some h
        refine wg_callSi (As := [.long (r17.toInt64), .long (48 : Int64), .long (57 : Int64)]) (rest := []) X (c_X9_in l E ad S C M18 r17.toInt64 (48 : Int64) (57 : Int64)  h24) T_yX9_in k_1021 dX9_next_142 rfl rfl (Nat.le_of_ble_eq_true rfl) ⟨Nat.le_of_ble_eq_true rfl, Nat.le_of_ble_eq_true rfl⟩ ⟨Nat.zero_le _, Nat.zero_le _⟩ ?_
        refine wg_if_eq X 252 dX9_next_145 (by decide) (fun c26 => ?_) (fun c26 => ?_)
        · have h := if_t c26 h
          refine wg_iload_n X 0 dX9_next_252 rfl rfl ?_
          refine wg_bipush (v := 40) X dX9_next_253 (by decide) ?_
          refine wg_icmp_eq X 300 dX9_next_255 (by decide) (fun c27 => ?_) (fun c27 => ?_)
          · have h := if_t c27 h
            refine wg_pick [1, 0] (lv' := [(0, .ref (ad 55)), (1, .int r17)]) rfl ?_
            exact J_X9_next_j300 X hr hS D0 C N  M18  r17   h
          · have h := if_f c27 h
            refine wg_iload_n X 0 dX9_next_258 rfl rfl ?_
            refine wg_bipush (v := 41) X dX9_next_259 (by decide) ?_
            refine wg_icmp_eq X 300 dX9_next_261 (by decide) (fun c34 => ?_) (fun c34 => ?_)
            · have h := if_t c34 h
              refine wg_pick [1, 0] (lv' := [(0, .ref (ad 55)), (1, .int r17)]) rfl ?_
              exact J_X9_next_j300 X hr hS D0 C N  M18  r17   h
            · have h := if_f c34 h
              refine wg_iload_n X 0 dX9_next_264 rfl rfl ?_
              refine wg_bipush (v := 59) X dX9_next_265 (by decide) ?_
              refine wg_icmp_eq X 300 dX9_next_267 (by decide) (fun c35 => ?_) (fun c35 => ?_)
              · have h := if_t c35 h
                refine wg_pick [1, 0] (lv' := [(0, .ref (ad 55)), (1, .int r17)]) rfl ?_
                exact J_X9_next_j300 X hr hS D0 C N  M18  r17   h
              · have h := if_f c35 h
                refine wg_iload_n X 0 dX9_next_270 rfl rfl ?_
                refine wg_bipush (v := 43) X dX9_next_271 (by decide) ?_
                refine wg_icmp_eq X 300 dX9_next_273 (by decide) (fun c36 => ?_) (fun c36 => ?_)
                · have h := if_t c36 h
                  refine wg_pick [1, 0] (lv' := [(0, .ref (ad 55)), (1, .int r17)]) rfl ?_
                  exact J_X9_next_j300 X hr hS D0 C N  M18  r17   h
                · have h := if_f c36 h
                  refine wg_iload_n X 0 dX9_next_276 rfl rfl ?_
                  refine wg_bipush (v := 45) X dX9_next_277 (by decide) ?_
                  refine wg_icmp_eq X 300 dX9_next_279 (by decide) (fun c37 => ?_) (fun c37 => ?_)
                  · have h := if_t c37 h
                    refine wg_pick [1, 0] (lv' := [(0, .ref (ad 55)), (1, .int r17)]) rfl ?_
                    exact J_X9_next_j300 X hr hS D0 C N  M18  r17   h
                  · have h := if_f c37 h
                    refine wg_iload_n X 0 dX9_next_282 rfl rfl ?_
                    refine wg_bipush (v := 42) X dX9_next_283 (by decide) ?_
                    refine wg_icmp_eq X 300 dX9_next_285 (by decide) (fun c38 => ?_) (fun c38 => ?_)
                    · have h := if_t c38 h
                      refine wg_pick [1, 0] (lv' := [(0, .ref (ad 55)), (1, .int r17)]) rfl ?_
                      exact J_X9_next_j300 X hr hS D0 C N  M18  r17   h
                    · have h := if_f c38 h
                      refine wg_iload_n X 0 dX9_next_288 rfl rfl ?_
                      refine wg_bipush (v := 60) X dX9_next_289 (by decide) ?_
                      refine wg_icmp_eq X 300 dX9_next_291 (by decide) (fun c39 => ?_) (fun c39 => ?_)
                      · have h := if_t c39 h
                        refine wg_pick [1, 0] (lv' := [(0, .ref (ad 55)), (1, .int r17)]) rfl ?_
                        exact J_X9_next_j300 X hr hS D0 C N  M18  r17   h
                      · have h := if_f c39 h
                        refine wg_iload_n X 0 dX9_next_294 rfl rfl ?_
                        refine wg_bipush (v := 61) X dX9_next_295 (by decide) ?_
                        refine wg_icmp_ne X 321 dX9_next_297 (by decide) (fun c40 => ?_) (fun c40 => ?_)
                        · have h := if_f c40 h
                          exact wg_vret X ⟨rfl, (sm_inj h)⟩ hr dX9_next_321
                        · have h := if_t c40 h
                          refine wg_pick [1, 0] (lv' := [(0, .ref (ad 55)), (1, .int r17)]) rfl ?_
                          exact J_X9_next_j300 X hr hS D0 C N  M18  r17   h
        · have h := if_f c26 h
          refine wg_aload_n X 1 dX9_next_148 rfl rfl ?_
          refine wg_iconst (v := 2) X dX9_next_149 (by decide) ?_
          obtain ⟨M41, e42, h⟩ := lt_some h
          refine wg_putMe X cl9 (SMi hS 55 9 rfl) 24 (by decide) dX9_next_150 k_906 rfl rfl rfl rfl e42 ?_
          refine wg_aload_n X 1 dX9_next_153 rfl rfl ?_
          refine wg_lconst (v := 0) X dX9_next_154 (by decide) ?_
          obtain ⟨M43, e44, h⟩ := lt_some h
          refine wg_putJe X cl9 (SMi hS 55 9 rfl) 26 (by decide) dX9_next_155 k_908 rfl rfl wg_Jonly rfl rfl e44 ?_
          refine wg_iconst (v := 0) X dX9_next_158 (by decide) ?_
          refine wg_istore_n (lv' := [(2, .int (0 : Int32)), (1, .int r17), (0, .ref (ad 55))]) X dX9_next_159 rfl rfl (by decide) rfl ?_
          obtain ⟨o61, h62, h⟩ := bd2_o h
          refine wg_pick [2, 0] (lv' := [(0, .ref (ad 55)), (2, .int (0 : Int32))]) rfl ?_
          refine L_X9_next_l160 X hr hS D0 C N     N M43 (0 : Int32) o61 h62 (fun M59 v60 e64 => ?_)
          · subst e64
            replace h := bd2_in h
            refine wg_aload_n X 0 dX9_next_235 rfl rfl ?_
            refine wg_iload_n X 1 dX9_next_236 rfl rfl ?_
            refine wg_iconst (v := 4) X dX9_next_237 (by decide) ?_
            refine wg_icmp_le X 245 dX9_next_238 (by decide) (fun c65 => ?_) (fun c65 => ?_)
            · have h := if_t c65 h
              refine wg_iconst (v := 2) X dX9_next_245 (by decide) ?_
              obtain ⟨M66, e67, h⟩ := lt_some h
              refine wg_putMe X cl9 (SMi hS 55 9 rfl) 24 (by decide) dX9_next_246 k_906 rfl rfl rfl rfl e67 ?_
              refine wg_goto X 321 dX9_next_249 (by decide) ?_
              exact wg_vret X ⟨rfl, (sm_inj h)⟩ hr dX9_next_321
            · have h := if_f c65 h
              refine wg_iconst (v := 4) X dX9_next_241 (by decide) ?_
              refine wg_goto X 246 dX9_next_242 (by decide) ?_
              obtain ⟨M68, e69, h⟩ := lt_some h
              refine wg_putMe X cl9 (SMi hS 55 9 rfl) 24 (by decide) dX9_next_246 k_906 rfl rfl rfl rfl e69 ?_
              refine wg_goto X 321 dX9_next_249 (by decide) ?_
              exact wg_vret X ⟨rfl, (sm_inj h)⟩ hr dX9_next_321
      · have h := if_f c23 h
        refine wg_aload_n X 1 dX9_next_95 rfl rfl ?_
        refine wg_iconst (v := 1) X dX9_next_96 (by decide) ?_
        obtain ⟨M70, e71, h⟩ := lt_some h
        refine wg_putMe X cl9 (SMi hS 55 9 rfl) 24 (by decide) dX9_next_97 k_906 rfl rfl rfl rfl e71 ?_
        obtain ⟨o80, h81, h⟩ := bd_o h
        refine wg_pick [1] (lv' := [(0, .ref (ad 55))]) rfl ?_
        refine L_X9_next_l100 X hr hS D0 C N     N M70 o80 h81 (fun M79 e83 => ?_)
        · subst e83
          replace h := bd_in h
          exact wg_vret X ⟨rfl, (sm_inj h)⟩ hr dX9_next_321
    · have h := if_f c20 h
      refine wg_aload_n X 1 dX9_next_65 rfl rfl ?_
      refine wg_iconst (v := 0) X dX9_next_66 (by decide) ?_
      obtain ⟨M84, e85, h⟩ := lt_some h
      refine wg_putMe X cl9 (SMi hS 55 9 rfl) 24 (by decide) dX9_next_67 k_906 rfl rfl rfl rfl e85 ?_
      refine wg_aload_n X 1 dX9_next_70 rfl rfl ?_
      refine wg_aload_n X 1 dX9_next_71 rfl rfl ?_
      refine wg_getM X cl9 (SMi hS 55 9 rfl) 22 (by decide) dX9_next_72 k_904 rfl ?_
      obtain ⟨M86, e87, h⟩ := lt_some h
      refine wg_putMe X cl9 (SMi hS 55 9 rfl) 25 (by decide) dX9_next_75 k_907 rfl rfl rfl rfl e87 ?_
      refine wg_goto X 321 dX9_next_78 (by decide) ?_
      exact wg_vret X ⟨rfl, (sm_inj h)⟩ hr dX9_next_321
-- WindowsGiveModel.fail()V (('c', 55),)
def f_X9_fail (M : wg_M)  : Option wg_M :=
  if (M.1 55 28) = 0 then (
    lt_ (wg_sM M 55 28 (1 : Int32)) fun M2 =>
    lt_ (wg_sM M2 55 29 (M2.1 55 25)) fun M4 =>
    some M4)
  else (
    some M)
set_option maxHeartbeats 4000000 in
set_option maxRecDepth 100000 in
theorem c_X9_fail (l : Launch) (E : wg_Ev) (ad : Nat → Nat) (S : wg_Sh) (hS : wg_SM S) (C : wg_C) (M : wg_M)   {D0 : wg_M} (h : f_X9_fail M  = some D0) : wg_Cv l yX9_fail cX9_fail 1 none 0 0 E ad S C M [.ref (ad 55)] C D0 := by
  refine wg_start (own := RX9) (by decide +kernel) rfl (Nat.le_of_ble_eq_true rfl) ?_
  intro p e s m below meth c X hr hnm
  refine wg_lv (lv' := [(0, .ref (ad 55))]) rfl ?_
  unfold f_X9_fail at h
  refine wg_aload_n X 0 dX9_fail_0 rfl rfl ?_
  refine wg_getM X cl9 (SMi hS 55 9 rfl) 28 (by decide) dX9_fail_1 k_910 rfl ?_
  refine wg_if_ne X 20 dX9_fail_4 (by decide) (fun c1 => ?_) (fun c1 => ?_)
  · have h := if_f c1 h
    exact wg_vret X ⟨rfl, (sm_inj h)⟩ hr dX9_fail_20
  · have h := if_t c1 h
    refine wg_aload_n X 0 dX9_fail_7 rfl rfl ?_
    refine wg_iconst (v := 1) X dX9_fail_8 (by decide) ?_
    obtain ⟨M2, e3, h⟩ := lt_some h
    refine wg_putMe X cl9 (SMi hS 55 9 rfl) 28 (by decide) dX9_fail_9 k_910 rfl rfl (by decide) (by decide) e3 ?_
    refine wg_aload_n X 0 dX9_fail_12 rfl rfl ?_
    refine wg_aload_n X 0 dX9_fail_13 rfl rfl ?_
    refine wg_getM X cl9 (SMi hS 55 9 rfl) 25 (by decide) dX9_fail_14 k_907 rfl ?_
    obtain ⟨M4, e5, h⟩ := lt_some h
    refine wg_putMe X cl9 (SMi hS 55 9 rfl) 29 (by decide) dX9_fail_17 k_911 rfl rfl rfl rfl e5 ?_
    exact wg_vret X ⟨rfl, (sm_inj h)⟩ hr dX9_fail_20
-- WindowsGiveModel.isLetter(II)Z (('c', 55), 'i', 'i')
def f_X9_isLetter (M : wg_M) (p1 : Int32) (p2 : Int32) : Option Int32 :=
  if (M.1 55 23) ≤ ((M.1 55 25) + p1) then (
    if p2 = 0 then (
      some (1 : Int32))
    else (
      some (0 : Int32)))
  else (
    bd (f_X9_byteAt M ((M.1 55 25) + p1)) fun r4 =>
    if r4 = p2 then (
      some (1 : Int32))
    else (
      some (0 : Int32)))
set_option maxHeartbeats 4000000 in
set_option maxRecDepth 100000 in
theorem c_X9_isLetter (l : Launch) (E : wg_Ev) (ad : Nat → Nat) (S : wg_Sh) (hS : wg_SM S) (C : wg_C) (M : wg_M) (p1 : Int32) (p2 : Int32)  {r0 : Int32} (h : f_X9_isLetter M p1 p2 = some r0) : wg_Ci l yX9_isLetter cX9_isLetter 3 (some .boolean) 1 21 E ad S C M [.ref (ad 55), .int p1, .int p2] r0 C M := by
  refine wg_start (own := RX9) (by decide +kernel) rfl (Nat.le_of_ble_eq_true rfl) ?_
  intro p e s m below meth c X hr hnm
  refine wg_lv (lv' := [(0, .ref (ad 55)), (1, .int p1), (2, .int p2)]) rfl ?_
  unfold f_X9_isLetter at h
  refine wg_aload_n X 0 dX9_isLetter_0 rfl rfl ?_
  refine wg_getM X cl9 (SMi hS 55 9 rfl) 25 (by decide) dX9_isLetter_1 k_907 rfl ?_
  refine wg_iload_n X 1 dX9_isLetter_4 rfl rfl ?_
  refine wg_iadd X dX9_isLetter_5 ?_
  refine wg_aload_n X 0 dX9_isLetter_6 rfl rfl ?_
  refine wg_getM X cl9 (SMi hS 55 9 rfl) 23 (by decide) dX9_isLetter_7 k_905 rfl ?_
  refine wg_icmp_ge X 35 dX9_isLetter_10 (by decide) (fun c1 => ?_) (fun c1 => ?_)
  · have h := if_t c1 h
    refine wg_iload_n X 2 dX9_isLetter_35 rfl rfl ?_
    refine wg_if_ne X 43 dX9_isLetter_36 (by decide) (fun c2 => ?_) (fun c2 => ?_)
    · have h := if_f c2 h
      refine wg_iconst (v := 0) X dX9_isLetter_43 (by decide) ?_
      exact wg_zret X ⟨(sm_inj h), rfl, rfl⟩ hr (by decide) dX9_isLetter_44
    · have h := if_t c2 h
      refine wg_iconst (v := 1) X dX9_isLetter_39 (by decide) ?_
      refine wg_goto X 44 dX9_isLetter_40 (by decide) ?_
      exact wg_zret X ⟨(sm_inj h), rfl, rfl⟩ hr (by decide) dX9_isLetter_44
  · have h := if_f c1 h
    refine wg_aload_n X 0 dX9_isLetter_13 rfl rfl ?_
    refine wg_aload_n X 0 dX9_isLetter_14 rfl rfl ?_
    refine wg_getM X cl9 (SMi hS 55 9 rfl) 25 (by decide) dX9_isLetter_15 k_907 rfl ?_
    refine wg_iload_n X 1 dX9_isLetter_18 rfl rfl ?_
    refine wg_iadd X dX9_isLetter_19 ?_
    obtain ⟨r4, h3, h⟩ := bd_some h
    refine wg_callVi (As := [.int ((M.1 55 25) + p1)]) (rest := []) X (c_X9_byteAt l E ad S hS C M ((M.1 55 25) + p1)  h3) T_yX9_byteAt k_1087 cl9 (SMi hS 55 9 rfl) dX9_isLetter_20 rfl rfl (Nat.le_of_ble_eq_true rfl) ⟨Nat.le_of_ble_eq_true rfl, Nat.le_of_ble_eq_true rfl⟩ ⟨Nat.zero_le _, Nat.zero_le _⟩ ?_
    refine wg_iload_n X 2 dX9_isLetter_23 rfl rfl ?_
    refine wg_icmp_ne X 31 dX9_isLetter_24 (by decide) (fun c5 => ?_) (fun c5 => ?_)
    · have h := if_f c5 h
      refine wg_iconst (v := 0) X dX9_isLetter_31 (by decide) ?_
      refine wg_goto X 44 dX9_isLetter_32 (by decide) ?_
      exact wg_zret X ⟨(sm_inj h), rfl, rfl⟩ hr (by decide) dX9_isLetter_44
    · have h := if_t c5 h
      refine wg_iconst (v := 1) X dX9_isLetter_27 (by decide) ?_
      refine wg_goto X 44 dX9_isLetter_28 (by decide) ?_
      exact wg_zret X ⟨(sm_inj h), rfl, rfl⟩ hr (by decide) dX9_isLetter_44
-- WindowsGiveModel.isWord(IIIIIIII)Z (('c', 55), 'i', 'i', 'i', 'i', 'i', 'i', 'i', 'i')
def f_X9_isWord (M : wg_M) (p1 : Int32) (p2 : Int32) (p3 : Int32) (p4 : Int32) (p5 : Int32) (p6 : Int32) (p7 : Int32) (p8 : Int32) : Option Int32 :=
  if (M.1 55 28) = 0 then (
    if (M.1 55 24) = (1 : Int32) then (
      if ((M.1 55 25) + (8 : Int32)) < (M.1 55 23) then (
        some (0 : Int32))
      else (
        bd (f_X9_isLetter M (0 : Int32) p1) fun r5 =>
        if r5 = 0 then (
          some (0 : Int32))
        else (
          bd (f_X9_isLetter M (1 : Int32) p2) fun r8 =>
          if r8 = 0 then (
            some (0 : Int32))
          else (
            bd (f_X9_isLetter M (2 : Int32) p3) fun r11 =>
            if r11 = 0 then (
              some (0 : Int32))
            else (
              bd (f_X9_isLetter M (3 : Int32) p4) fun r14 =>
              if r14 = 0 then (
                some (0 : Int32))
              else (
                bd (f_X9_isLetter M (4 : Int32) p5) fun r17 =>
                if r17 = 0 then (
                  some (0 : Int32))
                else (
                  bd (f_X9_isLetter M (5 : Int32) p6) fun r20 =>
                  if r20 = 0 then (
                    some (0 : Int32))
                  else (
                    bd (f_X9_isLetter M (6 : Int32) p7) fun r23 =>
                    if r23 = 0 then (
                      some (0 : Int32))
                    else (
                      bd (f_X9_isLetter M (7 : Int32) p8) fun r26 =>
                      if r26 = 0 then (
                        some (0 : Int32))
                      else (
                        some (1 : Int32)))))))))))
    else (
      some (0 : Int32)))
  else (
    some (0 : Int32))
set_option maxHeartbeats 4000000 in
set_option maxRecDepth 100000 in
theorem c_X9_isWord (l : Launch) (E : wg_Ev) (ad : Nat → Nat) (S : wg_Sh) (hS : wg_SM S) (C : wg_C) (M : wg_M) (p1 : Int32) (p2 : Int32) (p3 : Int32) (p4 : Int32) (p5 : Int32) (p6 : Int32) (p7 : Int32) (p8 : Int32)  {r0 : Int32} (h : f_X9_isWord M p1 p2 p3 p4 p5 p6 p7 p8 = some r0) : wg_Ci l yX9_isWord cX9_isWord 9 (some .boolean) 2 43 E ad S C M [.ref (ad 55), .int p1, .int p2, .int p3, .int p4, .int p5, .int p6, .int p7, .int p8] r0 C M := by
  refine wg_start (own := RX9) (by decide +kernel) rfl (Nat.le_of_ble_eq_true rfl) ?_
  intro p e s m below meth c X hr hnm
  refine wg_lv (lv' := [(0, .ref (ad 55)), (1, .int p1), (2, .int p2), (3, .int p3), (4, .int p4), (5, .int p5), (6, .int p6), (7, .int p7), (8, .int p8)]) rfl ?_
  unfold f_X9_isWord at h
  refine wg_aload_n X 0 dX9_isWord_0 rfl rfl ?_
  refine wg_getM X cl9 (SMi hS 55 9 rfl) 28 (by decide) dX9_isWord_1 k_910 rfl ?_
  refine wg_if_ne X 112 dX9_isWord_4 (by decide) (fun c1 => ?_) (fun c1 => ?_)
  · have h := if_f c1 h
    refine wg_iconst (v := 0) X dX9_isWord_112 (by decide) ?_
    exact wg_zret X ⟨(sm_inj h), rfl, rfl⟩ hr (by decide) dX9_isWord_113
  · have h := if_t c1 h
    refine wg_aload_n X 0 dX9_isWord_7 rfl rfl ?_
    refine wg_getM X cl9 (SMi hS 55 9 rfl) 24 (by decide) dX9_isWord_8 k_906 rfl ?_
    refine wg_iconst (v := 1) X dX9_isWord_11 (by decide) ?_
    refine wg_icmp_ne X 112 dX9_isWord_12 (by decide) (fun c2 => ?_) (fun c2 => ?_)
    · have h := if_f c2 h
      refine wg_iconst (v := 0) X dX9_isWord_112 (by decide) ?_
      exact wg_zret X ⟨(sm_inj h), rfl, rfl⟩ hr (by decide) dX9_isWord_113
    · have h := if_t c2 h
      refine wg_aload_n X 0 dX9_isWord_15 rfl rfl ?_
      refine wg_getM X cl9 (SMi hS 55 9 rfl) 23 (by decide) dX9_isWord_16 k_905 rfl ?_
      refine wg_aload_n X 0 dX9_isWord_19 rfl rfl ?_
      refine wg_getM X cl9 (SMi hS 55 9 rfl) 25 (by decide) dX9_isWord_20 k_907 rfl ?_
      refine wg_bipush (v := 8) X dX9_isWord_23 (by decide) ?_
      refine wg_iadd X dX9_isWord_25 ?_
      refine wg_icmp_gt X 112 dX9_isWord_26 (by decide) (fun c3 => ?_) (fun c3 => ?_)
      · have h := if_t c3 h
        refine wg_iconst (v := 0) X dX9_isWord_112 (by decide) ?_
        exact wg_zret X ⟨(sm_inj h), rfl, rfl⟩ hr (by decide) dX9_isWord_113
      · have h := if_f c3 h
        refine wg_aload_n X 0 dX9_isWord_29 rfl rfl ?_
        refine wg_iconst (v := 0) X dX9_isWord_30 (by decide) ?_
        refine wg_iload_n X 1 dX9_isWord_31 rfl rfl ?_
        obtain ⟨r5, h4, h⟩ := bd_some h
        refine wg_callVi (As := [.int (0 : Int32), .int p1]) (rest := []) X (c_X9_isLetter l E ad S hS C M (0 : Int32) p1  h4) T_yX9_isLetter k_1100 cl9 (SMi hS 55 9 rfl) dX9_isWord_32 rfl rfl (Nat.le_of_ble_eq_true rfl) ⟨Nat.le_of_ble_eq_true rfl, Nat.le_of_ble_eq_true rfl⟩ ⟨Nat.zero_le _, Nat.zero_le _⟩ ?_
        refine wg_if_eq X 112 dX9_isWord_35 (by decide) (fun c6 => ?_) (fun c6 => ?_)
        · have h := if_t c6 h
          refine wg_iconst (v := 0) X dX9_isWord_112 (by decide) ?_
          exact wg_zret X ⟨(sm_inj h), rfl, rfl⟩ hr (by decide) dX9_isWord_113
        · have h := if_f c6 h
          refine wg_aload_n X 0 dX9_isWord_38 rfl rfl ?_
          refine wg_iconst (v := 1) X dX9_isWord_39 (by decide) ?_
          refine wg_iload_n X 2 dX9_isWord_40 rfl rfl ?_
          obtain ⟨r8, h7, h⟩ := bd_some h
          refine wg_callVi (As := [.int (1 : Int32), .int p2]) (rest := []) X (c_X9_isLetter l E ad S hS C M (1 : Int32) p2  h7) T_yX9_isLetter k_1100 cl9 (SMi hS 55 9 rfl) dX9_isWord_41 rfl rfl (Nat.le_of_ble_eq_true rfl) ⟨Nat.le_of_ble_eq_true rfl, Nat.le_of_ble_eq_true rfl⟩ ⟨Nat.zero_le _, Nat.zero_le _⟩ ?_
          refine wg_if_eq X 112 dX9_isWord_44 (by decide) (fun c9 => ?_) (fun c9 => ?_)
          · have h := if_t c9 h
            refine wg_iconst (v := 0) X dX9_isWord_112 (by decide) ?_
            exact wg_zret X ⟨(sm_inj h), rfl, rfl⟩ hr (by decide) dX9_isWord_113
          · have h := if_f c9 h
            refine wg_aload_n X 0 dX9_isWord_47 rfl rfl ?_
            refine wg_iconst (v := 2) X dX9_isWord_48 (by decide) ?_
            refine wg_iload_n X 3 dX9_isWord_49 rfl rfl ?_
            obtain ⟨r11, h10, h⟩ := bd_some h
            refine wg_callVi (As := [.int (2 : Int32), .int p3]) (rest := []) X (c_X9_isLetter l E ad S hS C M (2 : Int32) p3  h10) T_yX9_isLetter k_1100 cl9 (SMi hS 55 9 rfl) dX9_isWord_50 rfl rfl (Nat.le_of_ble_eq_true rfl) ⟨Nat.le_of_ble_eq_true rfl, Nat.le_of_ble_eq_true rfl⟩ ⟨Nat.zero_le _, Nat.zero_le _⟩ ?_
            refine wg_if_eq X 112 dX9_isWord_53 (by decide) (fun c12 => ?_) (fun c12 => ?_)
            · have h := if_t c12 h
              refine wg_iconst (v := 0) X dX9_isWord_112 (by decide) ?_
              exact wg_zret X ⟨(sm_inj h), rfl, rfl⟩ hr (by decide) dX9_isWord_113
            · have h := if_f c12 h
              refine wg_aload_n X 0 dX9_isWord_56 rfl rfl ?_
              refine wg_iconst (v := 3) X dX9_isWord_57 (by decide) ?_
              refine wg_iload X 4 dX9_isWord_58 rfl ?_
              obtain ⟨r14, h13, h⟩ := bd_some h
              refine wg_callVi (As := [.int (3 : Int32), .int p4]) (rest := []) X (c_X9_isLetter l E ad S hS C M (3 : Int32) p4  h13) T_yX9_isLetter k_1100 cl9 (SMi hS 55 9 rfl) dX9_isWord_60 rfl rfl (Nat.le_of_ble_eq_true rfl) ⟨Nat.le_of_ble_eq_true rfl, Nat.le_of_ble_eq_true rfl⟩ ⟨Nat.zero_le _, Nat.zero_le _⟩ ?_
              refine wg_if_eq X 112 dX9_isWord_63 (by decide) (fun c15 => ?_) (fun c15 => ?_)
              · have h := if_t c15 h
                refine wg_iconst (v := 0) X dX9_isWord_112 (by decide) ?_
                exact wg_zret X ⟨(sm_inj h), rfl, rfl⟩ hr (by decide) dX9_isWord_113
              · have h := if_f c15 h
                refine wg_aload_n X 0 dX9_isWord_66 rfl rfl ?_
                refine wg_iconst (v := 4) X dX9_isWord_67 (by decide) ?_
                refine wg_iload X 5 dX9_isWord_68 rfl ?_
                obtain ⟨r17, h16, h⟩ := bd_some h
                refine wg_callVi (As := [.int (4 : Int32), .int p5]) (rest := []) X (c_X9_isLetter l E ad S hS C M (4 : Int32) p5  h16) T_yX9_isLetter k_1100 cl9 (SMi hS 55 9 rfl) dX9_isWord_70 rfl rfl (Nat.le_of_ble_eq_true rfl) ⟨Nat.le_of_ble_eq_true rfl, Nat.le_of_ble_eq_true rfl⟩ ⟨Nat.zero_le _, Nat.zero_le _⟩ ?_
                refine wg_if_eq X 112 dX9_isWord_73 (by decide) (fun c18 => ?_) (fun c18 => ?_)
                · have h := if_t c18 h
                  refine wg_iconst (v := 0) X dX9_isWord_112 (by decide) ?_
                  exact wg_zret X ⟨(sm_inj h), rfl, rfl⟩ hr (by decide) dX9_isWord_113
                · have h := if_f c18 h
                  refine wg_aload_n X 0 dX9_isWord_76 rfl rfl ?_
                  refine wg_iconst (v := 5) X dX9_isWord_77 (by decide) ?_
                  refine wg_iload X 6 dX9_isWord_78 rfl ?_
                  obtain ⟨r20, h19, h⟩ := bd_some h
                  refine wg_callVi (As := [.int (5 : Int32), .int p6]) (rest := []) X (c_X9_isLetter l E ad S hS C M (5 : Int32) p6  h19) T_yX9_isLetter k_1100 cl9 (SMi hS 55 9 rfl) dX9_isWord_80 rfl rfl (Nat.le_of_ble_eq_true rfl) ⟨Nat.le_of_ble_eq_true rfl, Nat.le_of_ble_eq_true rfl⟩ ⟨Nat.zero_le _, Nat.zero_le _⟩ ?_
                  refine wg_if_eq X 112 dX9_isWord_83 (by decide) (fun c21 => ?_) (fun c21 => ?_)
                  · have h := if_t c21 h
                    refine wg_iconst (v := 0) X dX9_isWord_112 (by decide) ?_
                    exact wg_zret X ⟨(sm_inj h), rfl, rfl⟩ hr (by decide) dX9_isWord_113
                  · have h := if_f c21 h
                    refine wg_aload_n X 0 dX9_isWord_86 rfl rfl ?_
                    refine wg_bipush (v := 6) X dX9_isWord_87 (by decide) ?_
                    refine wg_iload X 7 dX9_isWord_89 rfl ?_
                    obtain ⟨r23, h22, h⟩ := bd_some h
                    refine wg_callVi (As := [.int (6 : Int32), .int p7]) (rest := []) X (c_X9_isLetter l E ad S hS C M (6 : Int32) p7  h22) T_yX9_isLetter k_1100 cl9 (SMi hS 55 9 rfl) dX9_isWord_91 rfl rfl (Nat.le_of_ble_eq_true rfl) ⟨Nat.le_of_ble_eq_true rfl, Nat.le_of_ble_eq_true rfl⟩ ⟨Nat.zero_le _, Nat.zero_le _⟩ ?_
                    refine wg_if_eq X 112 dX9_isWord_94 (by decide) (fun c24 => ?_) (fun c24 => ?_)
                    · have h := if_t c24 h
                      refine wg_iconst (v := 0) X dX9_isWord_112 (by decide) ?_
                      exact wg_zret X ⟨(sm_inj h), rfl, rfl⟩ hr (by decide) dX9_isWord_113
                    · have h := if_f c24 h
                      refine wg_aload_n X 0 dX9_isWord_97 rfl rfl ?_
                      refine wg_bipush (v := 7) X dX9_isWord_98 (by decide) ?_
                      refine wg_iload X 8 dX9_isWord_100 rfl ?_
                      obtain ⟨r26, h25, h⟩ := bd_some h
                      refine wg_callVi (As := [.int (7 : Int32), .int p8]) (rest := []) X (c_X9_isLetter l E ad S hS C M (7 : Int32) p8  h25) T_yX9_isLetter k_1100 cl9 (SMi hS 55 9 rfl) dX9_isWord_102 rfl rfl (Nat.le_of_ble_eq_true rfl) ⟨Nat.le_of_ble_eq_true rfl, Nat.le_of_ble_eq_true rfl⟩ ⟨Nat.zero_le _, Nat.zero_le _⟩ ?_
                      refine wg_if_eq X 112 dX9_isWord_105 (by decide) (fun c27 => ?_) (fun c27 => ?_)
                      · have h := if_t c27 h
                        refine wg_iconst (v := 0) X dX9_isWord_112 (by decide) ?_
                        exact wg_zret X ⟨(sm_inj h), rfl, rfl⟩ hr (by decide) dX9_isWord_113
                      · have h := if_f c27 h
                        refine wg_iconst (v := 1) X dX9_isWord_108 (by decide) ?_
                        refine wg_goto X 113 dX9_isWord_109 (by decide) ?_
                        exact wg_zret X ⟨(sm_inj h), rfl, rfl⟩ hr (by decide) dX9_isWord_113
-- WindowsGiveModel.isSign(I)Z (('c', 55), 'i')
def f_X9_isSign (M : wg_M) (p1 : Int32) : Option Int32 :=
  if (M.1 55 28) = 0 then (
    if (M.1 55 24) = (3 : Int32) then (
      if (lg_cmp (M.2 55) p1.toInt64) = 0 then (
        some (1 : Int32))
      else (
        some (0 : Int32)))
    else (
      some (0 : Int32)))
  else (
    some (0 : Int32))
set_option maxHeartbeats 4000000 in
set_option maxRecDepth 100000 in
theorem c_X9_isSign (l : Launch) (E : wg_Ev) (ad : Nat → Nat) (S : wg_Sh) (hS : wg_SM S) (C : wg_C) (M : wg_M) (p1 : Int32)  {r0 : Int32} (h : f_X9_isSign M p1 = some r0) : wg_Ci l yX9_isSign cX9_isSign 2 (some .boolean) 0 0 E ad S C M [.ref (ad 55), .int p1] r0 C M := by
  refine wg_start (own := RX9) (by decide +kernel) rfl (Nat.le_of_ble_eq_true rfl) ?_
  intro p e s m below meth c X hr hnm
  refine wg_lv (lv' := [(0, .ref (ad 55)), (1, .int p1)]) rfl ?_
  unfold f_X9_isSign at h
  refine wg_aload_n X 0 dX9_isSign_0 rfl rfl ?_
  refine wg_getM X cl9 (SMi hS 55 9 rfl) 28 (by decide) dX9_isSign_1 k_910 rfl ?_
  refine wg_if_ne X 29 dX9_isSign_4 (by decide) (fun c1 => ?_) (fun c1 => ?_)
  · have h := if_f c1 h
    refine wg_iconst (v := 0) X dX9_isSign_29 (by decide) ?_
    exact wg_zret X ⟨(sm_inj h), rfl, rfl⟩ hr (by decide) dX9_isSign_30
  · have h := if_t c1 h
    refine wg_aload_n X 0 dX9_isSign_7 rfl rfl ?_
    refine wg_getM X cl9 (SMi hS 55 9 rfl) 24 (by decide) dX9_isSign_8 k_906 rfl ?_
    refine wg_iconst (v := 3) X dX9_isSign_11 (by decide) ?_
    refine wg_icmp_ne X 29 dX9_isSign_12 (by decide) (fun c2 => ?_) (fun c2 => ?_)
    · have h := if_f c2 h
      refine wg_iconst (v := 0) X dX9_isSign_29 (by decide) ?_
      exact wg_zret X ⟨(sm_inj h), rfl, rfl⟩ hr (by decide) dX9_isSign_30
    · have h := if_t c2 h
      refine wg_aload_n X 0 dX9_isSign_15 rfl rfl ?_
      refine wg_getJ X cl9 (SMi hS 55 9 rfl) 26 (by decide) dX9_isSign_16 k_908 rfl ?_
      refine wg_iload_n X 1 dX9_isSign_19 rfl rfl ?_
      refine wg_i2l X dX9_isSign_20 ?_
      refine wg_lcmp X dX9_isSign_21 ?_
      refine wg_if_ne X 29 dX9_isSign_22 (by decide) (fun c3 => ?_) (fun c3 => ?_)
      · have h := if_f c3 h
        refine wg_iconst (v := 0) X dX9_isSign_29 (by decide) ?_
        exact wg_zret X ⟨(sm_inj h), rfl, rfl⟩ hr (by decide) dX9_isSign_30
      · have h := if_t c3 h
        refine wg_iconst (v := 1) X dX9_isSign_25 (by decide) ?_
        refine wg_goto X 30 dX9_isSign_26 (by decide) ?_
        exact wg_zret X ⟨(sm_inj h), rfl, rfl⟩ hr (by decide) dX9_isSign_30
-- WindowsGiveModel.opens()Z (('c', 55),)
def f_X9_opens (N : Nat) (M : wg_M)  : Option (Int32 × wg_M) :=
  if (M.1 55 27) = (5 : Int32) then (
    bd (f_X9_fail M ) fun M7 =>
    some ((0 : Int32), M7))
  else (
    lt_ (wg_sM M 55 27 ((M.1 55 27) + (1 : Int32))) fun M2 =>
    bd (f_X9_next N M2 ) fun M5 =>
    some ((1 : Int32), M5))
set_option maxHeartbeats 4000000 in
set_option maxRecDepth 100000 in
theorem c_X9_opens (l : Launch) (E : wg_Ev) (ad : Nat → Nat) (S : wg_Sh) (hS : wg_SM S) (N : Nat) (C : wg_C) (M : wg_M)   {r0 : Int32} {D0 : wg_M} (h : f_X9_opens N M  = some (r0, D0)) : wg_Ci l yX9_opens cX9_opens 1 (some .boolean) 2 47 E ad S C M [.ref (ad 55)] r0 C D0 := by
  refine wg_start (own := RX9) (by decide +kernel) rfl (Nat.le_of_ble_eq_true rfl) ?_
  intro p e s m below meth c X hr hnm
  refine wg_lv (lv' := [(0, .ref (ad 55))]) rfl ?_
  unfold f_X9_opens at h
  refine wg_aload_n X 0 dX9_opens_0 rfl rfl ?_
  refine wg_getM X cl9 (SMi hS 55 9 rfl) 27 (by decide) dX9_opens_1 k_909 rfl ?_
  refine wg_iconst (v := 5) X dX9_opens_4 (by decide) ?_
  refine wg_icmp_ne X 14 dX9_opens_5 (by decide) (fun c1 => ?_) (fun c1 => ?_)
  · have h := if_f c1 h
    refine wg_aload_n X 0 dX9_opens_14 rfl rfl ?_
    refine wg_dup X dX9_opens_15 rfl ?_
    refine wg_getM X cl9 (SMi hS 55 9 rfl) 27 (by decide) dX9_opens_16 k_909 rfl ?_
    refine wg_iconst (v := 1) X dX9_opens_19 (by decide) ?_
    refine wg_iadd X dX9_opens_20 ?_
    obtain ⟨M2, e3, h⟩ := lt_some h
    refine wg_putMe X cl9 (SMi hS 55 9 rfl) 27 (by decide) dX9_opens_21 k_909 rfl rfl rfl rfl e3 ?_
    refine wg_aload_n X 0 dX9_opens_24 rfl rfl ?_
    obtain ⟨M5, h4, h⟩ := bd_some h
    refine wg_callVv (As := []) (rest := []) X (c_X9_next l E ad S hS N C M2   h4) T_yX9_next k_1083 cl9 (SMi hS 55 9 rfl) dX9_opens_25 rfl rfl (Nat.le_of_ble_eq_true rfl) ⟨Nat.le_of_ble_eq_true rfl, Nat.le_of_ble_eq_true rfl⟩ ⟨Nat.zero_le _, Nat.zero_le _⟩ ?_
    refine wg_iconst (v := 1) X dX9_opens_28 (by decide) ?_
    exact wg_zret X ⟨congrArg Prod.fst (sm_inj h), rfl, congrArg Prod.snd (sm_inj h)⟩ hr (by decide) dX9_opens_29
  · have h := if_t c1 h
    refine wg_aload_n X 0 dX9_opens_8 rfl rfl ?_
    obtain ⟨M7, h6, h⟩ := bd_some h
    refine wg_callVv (As := []) (rest := []) X (c_X9_fail l E ad S hS C M   h6) T_yX9_fail k_1108 cl9 (SMi hS 55 9 rfl) dX9_opens_9 rfl rfl (Nat.le_of_ble_eq_true rfl) ⟨Nat.le_of_ble_eq_true rfl, Nat.le_of_ble_eq_true rfl⟩ ⟨Nat.zero_le _, Nat.zero_le _⟩ ?_
    refine wg_iconst (v := 0) X dX9_opens_12 (by decide) ?_
    exact wg_zret X ⟨congrArg Prod.fst (sm_inj h), rfl, congrArg Prod.snd (sm_inj h)⟩ hr (by decide) dX9_opens_13
-- WindowsGiveModel.name()I (('c', 55),)
def f_X9_name (M : wg_M)  : Option (Int32 × wg_M) :=
  bd (f_X9_isWord M (100 : Int32) (97 : Int32) (121 : Int32) (0 : Int32) (0 : Int32) (0 : Int32) (0 : Int32) (0 : Int32)) fun r2 =>
  if r2 = 0 then (
    bd (f_X9_isWord M (115 : Int32) (104 : Int32) (105 : Int32) (102 : Int32) (116 : Int32) (0 : Int32) (0 : Int32) (0 : Int32)) fun r5 =>
    if r5 = 0 then (
      bd (f_X9_isWord M (110 : Int32) (117 : Int32) (109 : Int32) (98 : Int32) (101 : Int32) (114 : Int32) (0 : Int32) (0 : Int32)) fun r8 =>
      if r8 = 0 then (
        bd (f_X9_isWord M (119 : Int32) (101 : Int32) (97 : Int32) (116 : Int32) (104 : Int32) (101 : Int32) (114 : Int32) (0 : Int32)) fun r11 =>
        if r11 = 0 then (
          bd (f_X9_isWord M (119 : Int32) (105 : Int32) (110 : Int32) (100 : Int32) (111 : Int32) (119 : Int32) (0 : Int32) (0 : Int32)) fun r14 =>
          if r14 = 0 then (
            bd (f_X9_isWord M (114 : Int32) (111 : Int32) (111 : Int32) (109 : Int32) (0 : Int32) (0 : Int32) (0 : Int32) (0 : Int32)) fun r17 =>
            if r17 = 0 then (
              bd (f_X9_fail M ) fun M20 =>
              some ((0 : Int32), M20))
            else (
              some ((M.1 55 20), M)))
          else (
            some ((M.1 55 19), M)))
        else (
          some ((M.1 55 18), M)))
      else (
        some ((M.1 55 17), M)))
    else (
      some ((M.1 55 16), M)))
  else (
    some ((M.1 55 15), M))
set_option maxHeartbeats 4000000 in
set_option maxRecDepth 100000 in
theorem c_X9_name (l : Launch) (E : wg_Ev) (ad : Nat → Nat) (S : wg_Sh) (hS : wg_SM S) (C : wg_C) (M : wg_M)   {r0 : Int32} {D0 : wg_M} (h : f_X9_name M  = some (r0, D0)) : wg_Ci l yX9_name cX9_name 1 (some .int) 3 71 E ad S C M [.ref (ad 55)] r0 C D0 := by
  refine wg_start (own := RX9) (by decide +kernel) rfl (Nat.le_of_ble_eq_true rfl) ?_
  intro p e s m below meth c X hr hnm
  refine wg_lv (lv' := [(0, .ref (ad 55))]) rfl ?_
  unfold f_X9_name at h
  refine wg_aload_n X 0 dX9_name_0 rfl rfl ?_
  refine wg_bipush (v := 100) X dX9_name_1 (by decide) ?_
  refine wg_bipush (v := 97) X dX9_name_3 (by decide) ?_
  refine wg_bipush (v := 121) X dX9_name_5 (by decide) ?_
  refine wg_iconst (v := 0) X dX9_name_7 (by decide) ?_
  refine wg_iconst (v := 0) X dX9_name_8 (by decide) ?_
  refine wg_iconst (v := 0) X dX9_name_9 (by decide) ?_
  refine wg_iconst (v := 0) X dX9_name_10 (by decide) ?_
  refine wg_iconst (v := 0) X dX9_name_11 (by decide) ?_
  obtain ⟨r2, h1, h⟩ := bd_some h
  refine wg_callVi (As := [.int (100 : Int32), .int (97 : Int32), .int (121 : Int32), .int (0 : Int32), .int (0 : Int32), .int (0 : Int32), .int (0 : Int32), .int (0 : Int32)]) (rest := []) X (c_X9_isWord l E ad S hS C M (100 : Int32) (97 : Int32) (121 : Int32) (0 : Int32) (0 : Int32) (0 : Int32) (0 : Int32) (0 : Int32)  h1) T_yX9_isWord k_1096 cl9 (SMi hS 55 9 rfl) dX9_name_12 rfl rfl (Nat.le_of_ble_eq_true rfl) ⟨Nat.le_of_ble_eq_true rfl, Nat.le_of_ble_eq_true rfl⟩ ⟨Nat.zero_le _, Nat.zero_le _⟩ ?_
  refine wg_if_eq X 23 dX9_name_15 (by decide) (fun c3 => ?_) (fun c3 => ?_)
  · have h := if_t c3 h
    refine wg_aload_n X 0 dX9_name_23 rfl rfl ?_
    refine wg_bipush (v := 115) X dX9_name_24 (by decide) ?_
    refine wg_bipush (v := 104) X dX9_name_26 (by decide) ?_
    refine wg_bipush (v := 105) X dX9_name_28 (by decide) ?_
    refine wg_bipush (v := 102) X dX9_name_30 (by decide) ?_
    refine wg_bipush (v := 116) X dX9_name_32 (by decide) ?_
    refine wg_iconst (v := 0) X dX9_name_34 (by decide) ?_
    refine wg_iconst (v := 0) X dX9_name_35 (by decide) ?_
    refine wg_iconst (v := 0) X dX9_name_36 (by decide) ?_
    obtain ⟨r5, h4, h⟩ := bd_some h
    refine wg_callVi (As := [.int (115 : Int32), .int (104 : Int32), .int (105 : Int32), .int (102 : Int32), .int (116 : Int32), .int (0 : Int32), .int (0 : Int32), .int (0 : Int32)]) (rest := []) X (c_X9_isWord l E ad S hS C M (115 : Int32) (104 : Int32) (105 : Int32) (102 : Int32) (116 : Int32) (0 : Int32) (0 : Int32) (0 : Int32)  h4) T_yX9_isWord k_1096 cl9 (SMi hS 55 9 rfl) dX9_name_37 rfl rfl (Nat.le_of_ble_eq_true rfl) ⟨Nat.le_of_ble_eq_true rfl, Nat.le_of_ble_eq_true rfl⟩ ⟨Nat.zero_le _, Nat.zero_le _⟩ ?_
    refine wg_if_eq X 48 dX9_name_40 (by decide) (fun c6 => ?_) (fun c6 => ?_)
    · have h := if_t c6 h
      refine wg_aload_n X 0 dX9_name_48 rfl rfl ?_
      refine wg_bipush (v := 110) X dX9_name_49 (by decide) ?_
      refine wg_bipush (v := 117) X dX9_name_51 (by decide) ?_
      refine wg_bipush (v := 109) X dX9_name_53 (by decide) ?_
      refine wg_bipush (v := 98) X dX9_name_55 (by decide) ?_
      refine wg_bipush (v := 101) X dX9_name_57 (by decide) ?_
      refine wg_bipush (v := 114) X dX9_name_59 (by decide) ?_
      refine wg_iconst (v := 0) X dX9_name_61 (by decide) ?_
      refine wg_iconst (v := 0) X dX9_name_62 (by decide) ?_
      obtain ⟨r8, h7, h⟩ := bd_some h
      refine wg_callVi (As := [.int (110 : Int32), .int (117 : Int32), .int (109 : Int32), .int (98 : Int32), .int (101 : Int32), .int (114 : Int32), .int (0 : Int32), .int (0 : Int32)]) (rest := []) X (c_X9_isWord l E ad S hS C M (110 : Int32) (117 : Int32) (109 : Int32) (98 : Int32) (101 : Int32) (114 : Int32) (0 : Int32) (0 : Int32)  h7) T_yX9_isWord k_1096 cl9 (SMi hS 55 9 rfl) dX9_name_63 rfl rfl (Nat.le_of_ble_eq_true rfl) ⟨Nat.le_of_ble_eq_true rfl, Nat.le_of_ble_eq_true rfl⟩ ⟨Nat.zero_le _, Nat.zero_le _⟩ ?_
      refine wg_if_eq X 74 dX9_name_66 (by decide) (fun c9 => ?_) (fun c9 => ?_)
      · have h := if_t c9 h
        refine wg_aload_n X 0 dX9_name_74 rfl rfl ?_
        refine wg_bipush (v := 119) X dX9_name_75 (by decide) ?_
        refine wg_bipush (v := 101) X dX9_name_77 (by decide) ?_
        refine wg_bipush (v := 97) X dX9_name_79 (by decide) ?_
        refine wg_bipush (v := 116) X dX9_name_81 (by decide) ?_
        refine wg_bipush (v := 104) X dX9_name_83 (by decide) ?_
        refine wg_bipush (v := 101) X dX9_name_85 (by decide) ?_
        refine wg_bipush (v := 114) X dX9_name_87 (by decide) ?_
        refine wg_iconst (v := 0) X dX9_name_89 (by decide) ?_
        obtain ⟨r11, h10, h⟩ := bd_some h
        refine wg_callVi (As := [.int (119 : Int32), .int (101 : Int32), .int (97 : Int32), .int (116 : Int32), .int (104 : Int32), .int (101 : Int32), .int (114 : Int32), .int (0 : Int32)]) (rest := []) X (c_X9_isWord l E ad S hS C M (119 : Int32) (101 : Int32) (97 : Int32) (116 : Int32) (104 : Int32) (101 : Int32) (114 : Int32) (0 : Int32)  h10) T_yX9_isWord k_1096 cl9 (SMi hS 55 9 rfl) dX9_name_90 rfl rfl (Nat.le_of_ble_eq_true rfl) ⟨Nat.le_of_ble_eq_true rfl, Nat.le_of_ble_eq_true rfl⟩ ⟨Nat.zero_le _, Nat.zero_le _⟩ ?_
        refine wg_if_eq X 101 dX9_name_93 (by decide) (fun c12 => ?_) (fun c12 => ?_)
        · have h := if_t c12 h
          refine wg_aload_n X 0 dX9_name_101 rfl rfl ?_
          refine wg_bipush (v := 119) X dX9_name_102 (by decide) ?_
          refine wg_bipush (v := 105) X dX9_name_104 (by decide) ?_
          refine wg_bipush (v := 110) X dX9_name_106 (by decide) ?_
          refine wg_bipush (v := 100) X dX9_name_108 (by decide) ?_
          refine wg_bipush (v := 111) X dX9_name_110 (by decide) ?_
          refine wg_bipush (v := 119) X dX9_name_112 (by decide) ?_
          refine wg_iconst (v := 0) X dX9_name_114 (by decide) ?_
          refine wg_iconst (v := 0) X dX9_name_115 (by decide) ?_
          obtain ⟨r14, h13, h⟩ := bd_some h
          refine wg_callVi (As := [.int (119 : Int32), .int (105 : Int32), .int (110 : Int32), .int (100 : Int32), .int (111 : Int32), .int (119 : Int32), .int (0 : Int32), .int (0 : Int32)]) (rest := []) X (c_X9_isWord l E ad S hS C M (119 : Int32) (105 : Int32) (110 : Int32) (100 : Int32) (111 : Int32) (119 : Int32) (0 : Int32) (0 : Int32)  h13) T_yX9_isWord k_1096 cl9 (SMi hS 55 9 rfl) dX9_name_116 rfl rfl (Nat.le_of_ble_eq_true rfl) ⟨Nat.le_of_ble_eq_true rfl, Nat.le_of_ble_eq_true rfl⟩ ⟨Nat.zero_le _, Nat.zero_le _⟩ ?_
          refine wg_if_eq X 127 dX9_name_119 (by decide) (fun c15 => ?_) (fun c15 => ?_)
          · have h := if_t c15 h
            refine wg_aload_n X 0 dX9_name_127 rfl rfl ?_
            refine wg_bipush (v := 114) X dX9_name_128 (by decide) ?_
            refine wg_bipush (v := 111) X dX9_name_130 (by decide) ?_
            refine wg_bipush (v := 111) X dX9_name_132 (by decide) ?_
            refine wg_bipush (v := 109) X dX9_name_134 (by decide) ?_
            refine wg_iconst (v := 0) X dX9_name_136 (by decide) ?_
            refine wg_iconst (v := 0) X dX9_name_137 (by decide) ?_
            refine wg_iconst (v := 0) X dX9_name_138 (by decide) ?_
            refine wg_iconst (v := 0) X dX9_name_139 (by decide) ?_
            obtain ⟨r17, h16, h⟩ := bd_some h
            refine wg_callVi (As := [.int (114 : Int32), .int (111 : Int32), .int (111 : Int32), .int (109 : Int32), .int (0 : Int32), .int (0 : Int32), .int (0 : Int32), .int (0 : Int32)]) (rest := []) X (c_X9_isWord l E ad S hS C M (114 : Int32) (111 : Int32) (111 : Int32) (109 : Int32) (0 : Int32) (0 : Int32) (0 : Int32) (0 : Int32)  h16) T_yX9_isWord k_1096 cl9 (SMi hS 55 9 rfl) dX9_name_140 rfl rfl (Nat.le_of_ble_eq_true rfl) ⟨Nat.le_of_ble_eq_true rfl, Nat.le_of_ble_eq_true rfl⟩ ⟨Nat.zero_le _, Nat.zero_le _⟩ ?_
            refine wg_if_eq X 151 dX9_name_143 (by decide) (fun c18 => ?_) (fun c18 => ?_)
            · have h := if_t c18 h
              refine wg_aload_n X 0 dX9_name_151 rfl rfl ?_
              obtain ⟨M20, h19, h⟩ := bd_some h
              refine wg_callVv (As := []) (rest := []) X (c_X9_fail l E ad S hS C M   h19) T_yX9_fail k_1108 cl9 (SMi hS 55 9 rfl) dX9_name_152 rfl rfl (Nat.le_of_ble_eq_true rfl) ⟨Nat.le_of_ble_eq_true rfl, Nat.le_of_ble_eq_true rfl⟩ ⟨Nat.zero_le _, Nat.zero_le _⟩ ?_
              refine wg_iconst (v := 0) X dX9_name_155 (by decide) ?_
              exact wg_iret X ⟨congrArg Prod.fst (sm_inj h), rfl, congrArg Prod.snd (sm_inj h)⟩ hr dX9_name_156
            · have h := if_f c18 h
              refine wg_aload_n X 0 dX9_name_146 rfl rfl ?_
              refine wg_getM X cl9 (SMi hS 55 9 rfl) 20 (by decide) dX9_name_147 k_902 rfl ?_
              exact wg_iret X ⟨congrArg Prod.fst (sm_inj h), rfl, congrArg Prod.snd (sm_inj h)⟩ hr dX9_name_150
          · have h := if_f c15 h
            refine wg_aload_n X 0 dX9_name_122 rfl rfl ?_
            refine wg_getM X cl9 (SMi hS 55 9 rfl) 19 (by decide) dX9_name_123 k_901 rfl ?_
            exact wg_iret X ⟨congrArg Prod.fst (sm_inj h), rfl, congrArg Prod.snd (sm_inj h)⟩ hr dX9_name_126
        · have h := if_f c12 h
          refine wg_aload_n X 0 dX9_name_96 rfl rfl ?_
          refine wg_getM X cl9 (SMi hS 55 9 rfl) 18 (by decide) dX9_name_97 k_900 rfl ?_
          exact wg_iret X ⟨congrArg Prod.fst (sm_inj h), rfl, congrArg Prod.snd (sm_inj h)⟩ hr dX9_name_100
      · have h := if_f c9 h
        refine wg_aload_n X 0 dX9_name_69 rfl rfl ?_
        refine wg_getM X cl9 (SMi hS 55 9 rfl) 17 (by decide) dX9_name_70 k_899 rfl ?_
        exact wg_iret X ⟨congrArg Prod.fst (sm_inj h), rfl, congrArg Prod.snd (sm_inj h)⟩ hr dX9_name_73
    · have h := if_f c6 h
      refine wg_aload_n X 0 dX9_name_43 rfl rfl ?_
      refine wg_getM X cl9 (SMi hS 55 9 rfl) 16 (by decide) dX9_name_44 k_898 rfl ?_
      exact wg_iret X ⟨congrArg Prod.fst (sm_inj h), rfl, congrArg Prod.snd (sm_inj h)⟩ hr dX9_name_47
  · have h := if_f c3 h
    refine wg_aload_n X 0 dX9_name_18 rfl rfl ?_
    refine wg_getM X cl9 (SMi hS 55 9 rfl) 15 (by decide) dX9_name_19 k_897 rfl ?_
    exact wg_iret X ⟨congrArg Prod.fst (sm_inj h), rfl, congrArg Prod.snd (sm_inj h)⟩ hr dX9_name_22
-- WindowsGiveModel.force(I)I (('c', 55), 'i')
def f_X9_force (M : wg_M) (p1 : Int32) : Option (Int32 × wg_M) :=
  bd (f_X9_in p1.toInt64 (0 : Int64) (((M.1 55 3) - (1 : Int32)).toInt64)) fun r2 =>
  if r2 = 0 then (
    some ((-2 : Int32), M))
  else (
    lt_ (M.1 55 4) fun v4 =>
    lt_ (wg_sM M 55 4 p1) fun M6 =>
    some (v4, M6))
set_option maxHeartbeats 4000000 in
set_option maxRecDepth 100000 in
theorem c_X9_force (l : Launch) (E : wg_Ev) (ad : Nat → Nat) (S : wg_Sh) (hS : wg_SM S) (C : wg_C) (M : wg_M) (p1 : Int32)  {r0 : Int32} {D0 : wg_M} (h : f_X9_force M p1 = some (r0, D0)) : wg_Ci l yX9_force cX9_force 3 (some .int) 1 25 E ad S C M [.ref (ad 55), .int p1] r0 C D0 := by
  refine wg_start (own := RX9) (by decide +kernel) rfl (Nat.le_of_ble_eq_true rfl) ?_
  intro p e s m below meth c X hr hnm
  refine wg_lv (lv' := [(0, .ref (ad 55)), (1, .int p1)]) rfl ?_
  unfold f_X9_force at h
  refine wg_iload_n X 1 dX9_force_0 rfl rfl ?_
  refine wg_i2l X dX9_force_1 ?_
  refine wg_lconst (v := 0) X dX9_force_2 (by decide) ?_
  refine wg_aload_n X 0 dX9_force_3 rfl rfl ?_
  refine wg_getM X cl9 (SMi hS 55 9 rfl) 3 (by decide) dX9_force_4 k_885 rfl ?_
  refine wg_iconst (v := 1) X dX9_force_7 (by decide) ?_
  refine wg_isub X dX9_force_8 ?_
  refine wg_i2l X dX9_force_9 ?_
  obtain ⟨r2, h1, h⟩ := bd_some h
  refine wg_callSi (As := [.long (p1.toInt64), .long (0 : Int64), .long (((M.1 55 3) - (1 : Int32)).toInt64)]) (rest := []) X (c_X9_in l E ad S C M p1.toInt64 (0 : Int64) (((M.1 55 3) - (1 : Int32)).toInt64)  h1) T_yX9_in k_1021 dX9_force_10 rfl rfl (Nat.le_of_ble_eq_true rfl) ⟨Nat.le_of_ble_eq_true rfl, Nat.le_of_ble_eq_true rfl⟩ ⟨Nat.zero_le _, Nat.zero_le _⟩ ?_
  refine wg_if_ne X 19 dX9_force_13 (by decide) (fun c3 => ?_) (fun c3 => ?_)
  · have h := if_f c3 h
    refine wg_aload_n X 0 dX9_force_19 rfl rfl ?_
    refine wg_getM X cl9 (SMi hS 55 9 rfl) 4 (by decide) dX9_force_20 k_886 rfl ?_
    obtain ⟨v4, e5, h⟩ := lt_some h
    refine wg_istore_n (lv' := [(2, .int v4), (0, .ref (ad 55)), (1, .int p1)]) X dX9_force_23 rfl e5 (by decide) rfl ?_
    refine wg_aload_n X 1 dX9_force_24 rfl rfl ?_
    refine wg_iload_n X 2 dX9_force_25 rfl rfl ?_
    obtain ⟨M6, e7, h⟩ := lt_some h
    refine wg_putMe X cl9 (SMi hS 55 9 rfl) 4 (by decide) dX9_force_26 k_886 rfl rfl rfl rfl e7 ?_
    refine wg_iload_n X 0 dX9_force_29 rfl rfl ?_
    exact wg_iret X ⟨congrArg Prod.fst (sm_inj h), rfl, congrArg Prod.snd (sm_inj h)⟩ hr dX9_force_30
  · have h := if_t c3 h
    refine wg_bipush (v := -2) X dX9_force_16 (by decide) ?_
    exact wg_iret X ⟨congrArg Prod.fst (sm_inj h), rfl, congrArg Prod.snd (sm_inj h)⟩ hr dX9_force_18
-- WindowsGiveModel.eases(II)Z (('c', 55), 'i', 'i')
def f_X9_eases (M : wg_M) (p1 : Int32) (p2 : Int32) : Option (Int32 × wg_M) :=
  ck (inb p1 192) <|
  if p2 < (M.1 65 p1.toNatClampNeg) then (
    ck (inb p1 192) <|
    lt_ (wg_sM M 65 p1.toNatClampNeg p2) fun M4 =>
    some ((1 : Int32), M4))
  else (
    some ((0 : Int32), M))
set_option maxHeartbeats 4000000 in
set_option maxRecDepth 100000 in
theorem c_X9_eases (l : Launch) (E : wg_Ev) (ad : Nat → Nat) (S : wg_Sh) (hS : wg_SM S) (C : wg_C) (M : wg_M) (p1 : Int32) (p2 : Int32)  {r0 : Int32} {D0 : wg_M} (h : f_X9_eases M p1 p2 = some (r0, D0)) : wg_Ci l yX9_eases cX9_eases 3 (some .boolean) 0 0 E ad S C M [.ref (ad 55), .int p1, .int p2] r0 C D0 := by
  refine wg_start (own := RX9) (by decide +kernel) rfl (Nat.le_of_ble_eq_true rfl) ?_
  intro p e s m below meth c X hr hnm
  refine wg_lv (lv' := [(0, .ref (ad 55)), (1, .int p1), (2, .int p2)]) rfl ?_
  unfold f_X9_eases at h
  refine wg_iload_n X 2 dX9_eases_0 rfl rfl ?_
  refine wg_aload_n X 0 dX9_eases_1 rfl rfl ?_
  refine wg_getR (b := 65) X cl9 (SMi hS 55 9 rfl) 30 (by decide) dX9_eases_2 k_912 rfl (SMr hS 30 65 rfl) ?_
  refine wg_iload_n X 1 dX9_eases_5 rfl rfl ?_
  obtain ⟨z1, h⟩ := ck_some h
  refine wg_mald X (SMi hS 65 11 rfl) (SMl hS 65 192 rfl) z1 dX9_eases_6 ?_
  refine wg_icmp_lt X 12 dX9_eases_7 (by decide) (fun c2 => ?_) (fun c2 => ?_)
  · have h := if_t c2 h
    refine wg_aload_n X 0 dX9_eases_12 rfl rfl ?_
    refine wg_getR (b := 65) X cl9 (SMi hS 55 9 rfl) 30 (by decide) dX9_eases_13 k_912 rfl (SMr hS 30 65 rfl) ?_
    refine wg_iload_n X 1 dX9_eases_16 rfl rfl ?_
    refine wg_iload_n X 2 dX9_eases_17 rfl rfl ?_
    obtain ⟨z3, h⟩ := ck_some h
    obtain ⟨M4, e5, h⟩ := lt_some h
    refine wg_maste X (SMi hS 65 11 rfl) (SMl hS 65 192 rfl) z3 dX9_eases_18 e5 ?_
    refine wg_iconst (v := 1) X dX9_eases_19 (by decide) ?_
    exact wg_zret X ⟨congrArg Prod.fst (sm_inj h), rfl, congrArg Prod.snd (sm_inj h)⟩ hr (by decide) dX9_eases_20
  · have h := if_f c2 h
    refine wg_iconst (v := 0) X dX9_eases_10 (by decide) ?_
    exact wg_zret X ⟨congrArg Prod.fst (sm_inj h), rfl, congrArg Prod.snd (sm_inj h)⟩ hr (by decide) dX9_eases_11
-- WindowsGiveModel.goesOn(IIZ)Z (('c', 55), 'i', 'i', 'i')
def f_X9_goesOn_j140l47 (N : Nat) (M : wg_M)  (x1 : Int32) (x2 : Int32) (x3 : Int32) (x4 : Int32) (x5 : Int32) (x6 : Int32) (x7 : Int32) (s0 : Int32) (s1 : Int32) (s2 : Int32) : Option ((wg_M × Int32 × Int32) ⊕ (wg_M × Int32 × Int32)) :=
  bd2 (f_X9_eases M s2 (s1 + s0)) fun r26 M27 =>
  if r26 = 0 then (
    if x6 = 0 then (
      lt_ (x7 + (1 : Int32)) fun v32 =>
      some (.inl (M27, (0 : Int32), v32)))
    else (
      lt_ (x7 + (1 : Int32)) fun v34 =>
      some (.inl (M27, (1 : Int32), v34))))
  else (
    lt_ (x7 + (1 : Int32)) fun v29 =>
    some (.inl (M27, (1 : Int32), v29)))
def f_X9_goesOn_l47 (N : Nat)  (x1 : Int32) (x2 : Int32) (x3 : Int32) (x4 : Int32) (x5 : Int32) (M : wg_M) (x6 : Int32) (x7 : Int32) : Option ((wg_M × Int32 × Int32) ⊕ (wg_M × Int32 × Int32)) :=
  if (M.1 55 13) ≤ x7 then (
    some (.inr (M, x6, x7)))
  else (
    if (((M.1 55 14) >>> (x7 &&& 31)) &&& (1 : Int32)) = 0 then (
      ck (inb x7 8) <|
      if (M.1 63 x7.toNatClampNeg) = x4 then (
        bd (f_X9_passes M x7 x5 x2) fun r15 =>
        if r15 = 0 then (
          lt_ (x7 + (1 : Int32)) fun v17 =>
          some (.inl (M, x6, v17)))
        else (
          bd (f_X9_leads M x7) fun r20 =>
          bd (f_X9_on M x7 x5) fun r22 =>
          ck (inb x1 192) <|
          if x3 = 0 then (
            f_X9_goesOn_j140l47 N M  x1 x2 x3 x4 x5 x6 x7 (10000 : Int32) (M.1 65 x1.toNatClampNeg) (((32 : Int32) * r20) + r22))
          else (
            ck (inb (((32 : Int32) * x7) + x5) 256) <|
            f_X9_goesOn_j140l47 N M  x1 x2 x3 x4 x5 x6 x7 (M.1 66 (((32 : Int32) * x7) + x5).toNatClampNeg) (M.1 65 x1.toNatClampNeg) (((32 : Int32) * r20) + r22))))
      else (
        lt_ (x7 + (1 : Int32)) fun v12 =>
        some (.inl (M, x6, v12))))
    else (
      lt_ (x7 + (1 : Int32)) fun v8 =>
      some (.inl (M, x6, v8))))
def f_X9_goesOn_j42 (N : Nat) (M : wg_M)  (x1 : Int32) (x2 : Int32) (x3 : Int32) (x4 : Int32) (x5 : Int32) (s0 : Int32) : Option (Int32 × wg_M) :=
  bd3 (lp (fun o => f_X9_goesOn_l47 N  x1 x2 x3 x4 x5 o.1 o.2.1 o.2.2) N (M, s0, (0 : Int32))) fun M37 v38 v39 =>
  ck (v38 = 0 ∨ v38 = 1) <|
  some (v38, M37)
def f_X9_goesOn (N : Nat) (M : wg_M) (p1 : Int32) (p2 : Int32) (p3 : Int32) : Option (Int32 × wg_M) :=
  lt_ (p1 / (32 : Int32)) fun v1 =>
  lt_ (p1 - p1 / (32 : Int32) * (32 : Int32)) fun v3 =>
  if (31 : Int32) ≤ v3 then (
    f_X9_goesOn_j42 N M  p1 p2 p3 v1 v3 (0 : Int32))
  else (
    ck (inb p1 192) <|
    bd2 (f_X9_eases M (p1 + (1 : Int32)) ((M.1 65 p1.toNatClampNeg) + (1 : Int32))) fun r47 M48 =>
    if r47 = 0 then (
      f_X9_goesOn_j42 N M48  p1 p2 p3 v1 v3 (0 : Int32))
    else (
      f_X9_goesOn_j42 N M48  p1 p2 p3 v1 v3 (1 : Int32)))
abbrev G_X9_goesOn (p : Program) (l : Launch) (e : Env) (s : State) (m : MethodId) (args : Array Value) (below : List Frame) (meth : Method) (c : Code) (E : wg_Ev) (ad : Nat → Nat) (S : wg_Sh) (r0 : Int32) (C0 : wg_C) (M0 : wg_M) (pc : Nat) (C : wg_C) (M : wg_M) (lv : List (Nat × Value)) (st : List Value) : Prop := wg_G p l e (wg_Rm 3 69) s m args below meth c (MQ below (wg_Qi E ad S r0 C0 M0) args s 0 0 (wg_A E)) 8 E ad S 0 0 pc C M lv st
set_option maxHeartbeats 4000000 in
set_option maxRecDepth 100000 in
theorem J_X9_goesOn_j140l47 {p : Program} {l : Launch} {e : Env} {s : State} {m : MethodId} {args : Array Value} {below : List Frame} {meth : Method} {c : Code} {E : wg_Ev} {ad : Nat → Nat} {S : wg_Sh} (X : wg_X p s m args meth c cX9_goesOn 8 RX9 E) (hr : meth.sig.returnType = (some .boolean)) (hS : wg_SM S) (r0 : Int32) (D0 : wg_M) (C : wg_C) (N : Nat)  (M : wg_M)  (x1 : Int32) (x2 : Int32) (x3 : Int32) (x4 : Int32) (x5 : Int32) (x6 : Int32) (x7 : Int32) (s0 : Int32) (s1 : Int32) (s2 : Int32)  (y : ((wg_M × Int32 × Int32) ⊕ (wg_M × Int32 × Int32))) (Kc : ∀ (Dy : wg_M) (y6 : Int32) (y7 : Int32), y = Sum.inl (Dy, y6, y7) → G_X9_goesOn p l e s m args below meth c E ad S r0 C D0 47 C Dy [(0, .ref (ad 55)), (1, .int x1), (2, .int x2), (3, .int x3), (4, .int x4), (5, .int x5), (6, .int y6), (7, .int y7)] []) (Ke : ∀ (Dy : wg_M) (y6 : Int32) (y7 : Int32), y = Sum.inr ((Dy, y6, y7)) → G_X9_goesOn p l e s m args below meth c E ad S r0 C D0 165 C Dy [(0, .ref (ad 55)), (1, .int x1), (2, .int x2), (3, .int x3), (4, .int x4), (5, .int x5), (6, .int y6), (7, .int y7)] []) (h : f_X9_goesOn_j140l47 N M  x1 x2 x3 x4 x5 x6 x7 s0 s1 s2 = some y) : G_X9_goesOn p l e s m args below meth c E ad S r0 C D0 140 C M [(0, .ref (ad 55)), (1, .int x1), (2, .int x2), (3, .int x3), (4, .int x4), (5, .int x5), (6, .int x6), (7, .int x7)] [.int s0, .int s1, .int s2, .ref (ad 55)] := by
  unfold f_X9_goesOn_j140l47 at h
  refine wg_iadd X dX9_goesOn_140 ?_
  obtain ⟨r26, M27, h25, h⟩ := bd2_some h
  refine wg_callVi (As := [.int s2, .int (s1 + s0)]) (rest := []) X (c_X9_eases l E ad S hS C M s2 (s1 + s0)  h25) T_yX9_eases k_1178 cl9 (SMi hS 55 9 rfl) dX9_goesOn_141 rfl rfl (Nat.le_of_ble_eq_true rfl) ⟨Nat.le_of_ble_eq_true rfl, Nat.le_of_ble_eq_true rfl⟩ ⟨Nat.zero_le _, Nat.zero_le _⟩ ?_
  refine wg_if_ne X 152 dX9_goesOn_144 (by decide) (fun c28 => ?_) (fun c28 => ?_)
  · have h := if_f c28 h
    refine wg_iconst (v := 1) X dX9_goesOn_152 (by decide) ?_
    refine wg_goto X 157 dX9_goesOn_153 (by decide) ?_
    refine wg_istore (lv' := [(6, .int (1 : Int32)), (0, .ref (ad 55)), (1, .int x1), (2, .int x2), (3, .int x3), (4, .int x4), (5, .int x5), (7, .int x7)]) X dX9_goesOn_157 rfl (by decide) rfl ?_
    obtain ⟨v29, e30, h⟩ := lt_some h
    refine wg_iinc (lv' := [(7, .int v29), (6, .int (1 : Int32)), (0, .ref (ad 55)), (1, .int x1), (2, .int x2), (3, .int x3), (4, .int x4), (5, .int x5)]) X 7 dX9_goesOn_159 rfl e30 (by decide) rfl ?_
    refine wg_goto X 47 dX9_goesOn_162 (by decide) ?_
    refine wg_pick [2, 3, 4, 5, 6, 7, 1, 0] (lv' := [(0, .ref (ad 55)), (1, .int x1), (2, .int x2), (3, .int x3), (4, .int x4), (5, .int x5), (6, .int (1 : Int32)), (7, .int v29)]) rfl ?_
    exact Kc M27 (1 : Int32) v29 (sm_inj h).symm
  · have h := if_t c28 h
    refine wg_iload X 6 dX9_goesOn_147 rfl ?_
    refine wg_if_eq X 156 dX9_goesOn_149 (by decide) (fun c31 => ?_) (fun c31 => ?_)
    · have h := if_t c31 h
      refine wg_iconst (v := 0) X dX9_goesOn_156 (by decide) ?_
      refine wg_istore (lv' := [(6, .int (0 : Int32)), (0, .ref (ad 55)), (1, .int x1), (2, .int x2), (3, .int x3), (4, .int x4), (5, .int x5), (7, .int x7)]) X dX9_goesOn_157 rfl (by decide) rfl ?_
      obtain ⟨v32, e33, h⟩ := lt_some h
      refine wg_iinc (lv' := [(7, .int v32), (6, .int (0 : Int32)), (0, .ref (ad 55)), (1, .int x1), (2, .int x2), (3, .int x3), (4, .int x4), (5, .int x5)]) X 7 dX9_goesOn_159 rfl e33 (by decide) rfl ?_
      refine wg_goto X 47 dX9_goesOn_162 (by decide) ?_
      refine wg_pick [2, 3, 4, 5, 6, 7, 1, 0] (lv' := [(0, .ref (ad 55)), (1, .int x1), (2, .int x2), (3, .int x3), (4, .int x4), (5, .int x5), (6, .int (0 : Int32)), (7, .int v32)]) rfl ?_
      exact Kc M27 (0 : Int32) v32 (sm_inj h).symm
    · have h := if_f c31 h
      refine wg_iconst (v := 1) X dX9_goesOn_152 (by decide) ?_
      refine wg_goto X 157 dX9_goesOn_153 (by decide) ?_
      refine wg_istore (lv' := [(6, .int (1 : Int32)), (0, .ref (ad 55)), (1, .int x1), (2, .int x2), (3, .int x3), (4, .int x4), (5, .int x5), (7, .int x7)]) X dX9_goesOn_157 rfl (by decide) rfl ?_
      obtain ⟨v34, e35, h⟩ := lt_some h
      refine wg_iinc (lv' := [(7, .int v34), (6, .int (1 : Int32)), (0, .ref (ad 55)), (1, .int x1), (2, .int x2), (3, .int x3), (4, .int x4), (5, .int x5)]) X 7 dX9_goesOn_159 rfl e35 (by decide) rfl ?_
      refine wg_goto X 47 dX9_goesOn_162 (by decide) ?_
      refine wg_pick [2, 3, 4, 5, 6, 7, 1, 0] (lv' := [(0, .ref (ad 55)), (1, .int x1), (2, .int x2), (3, .int x3), (4, .int x4), (5, .int x5), (6, .int (1 : Int32)), (7, .int v34)]) rfl ?_
      exact Kc M27 (1 : Int32) v34 (sm_inj h).symm
set_option maxHeartbeats 4000000 in
set_option maxRecDepth 100000 in
theorem L_X9_goesOn_l47 {p : Program} {l : Launch} {e : Env} {s : State} {m : MethodId} {args : Array Value} {below : List Frame} {meth : Method} {c : Code} {E : wg_Ev} {ad : Nat → Nat} {S : wg_Sh} (X : wg_X p s m args meth c cX9_goesOn 8 RX9 E) (hr : meth.sig.returnType = (some .boolean)) (hS : wg_SM S) (r0 : Int32) (D0 : wg_M) (C : wg_C) (N : Nat)   (x1 : Int32) (x2 : Int32) (x3 : Int32) (x4 : Int32) (x5 : Int32)  : ∀ (n : Nat) (M : wg_M) (x6 : Int32) (x7 : Int32) (o : (wg_M × Int32 × Int32)), lp (fun o => f_X9_goesOn_l47 N  x1 x2 x3 x4 x5 o.1 o.2.1 o.2.2) n (M, x6, x7) = some o → (∀ (Dy : wg_M) (y6 : Int32) (y7 : Int32), o = (Dy, y6, y7) → G_X9_goesOn p l e s m args below meth c E ad S r0 C D0 165 C Dy [(0, .ref (ad 55)), (1, .int x1), (2, .int x2), (3, .int x3), (4, .int x4), (5, .int x5), (6, .int y6), (7, .int y7)] []) → G_X9_goesOn p l e s m args below meth c E ad S r0 C D0 47 C M [(0, .ref (ad 55)), (1, .int x1), (2, .int x2), (3, .int x3), (4, .int x4), (5, .int x5), (6, .int x6), (7, .int x7)] [] := by
  intro n
  induction n with
  | zero => exact fun _ _ _ o h => (lp_zero h).elim
  | succ n ih =>
    intro M x6 x7 o h K
    obtain ⟨o1, hb, h2⟩ := lp_some h
    replace hb : f_X9_goesOn_l47 N  x1 x2 x3 x4 x5 M x6 x7 = some o1 := hb
    clear h
    have Kc : ∀ (Dy : wg_M) (y6 : Int32) (y7 : Int32), o1 = Sum.inl (Dy, y6, y7) → G_X9_goesOn p l e s m args below meth c E ad S r0 C D0 47 C Dy [(0, .ref (ad 55)), (1, .int x1), (2, .int x2), (3, .int x3), (4, .int x4), (5, .int x5), (6, .int y6), (7, .int y7)] [] := fun Dy y6 y7 e1 => by
      subst e1
      exact ih Dy y6 y7 o h2 K
    have Ke : ∀ (Dy : wg_M) (y6 : Int32) (y7 : Int32), o1 = Sum.inr ((Dy, y6, y7)) → G_X9_goesOn p l e s m args below meth c E ad S r0 C D0 165 C Dy [(0, .ref (ad 55)), (1, .int x1), (2, .int x2), (3, .int x3), (4, .int x4), (5, .int x5), (6, .int y6), (7, .int y7)] [] := fun Dy y6 y7 e1 => by
      subst e1
      exact K Dy y6 y7 (sm_inj (α := (wg_M × Int32 × Int32)) h2).symm
    clear ih K h2
    unfold f_X9_goesOn_l47 at hb
    have h := hb
    clear hb
    refine wg_iload X 7 dX9_goesOn_47 rfl ?_
    refine wg_aload_n X 0 dX9_goesOn_49 rfl rfl ?_
    refine wg_getM X cl9 (SMi hS 55 9 rfl) 13 (by decide) dX9_goesOn_50 k_895 rfl ?_
    refine wg_icmp_ge X 165 dX9_goesOn_53 (by decide) (fun c6 => ?_) (fun c6 => ?_)
    · have h := if_t c6 h
      exact Ke M x6 x7 (sm_inj h).symm
    · have h := if_f c6 h
      refine wg_aload_n X 0 dX9_goesOn_56 rfl rfl ?_
      refine wg_getM X cl9 (SMi hS 55 9 rfl) 14 (by decide) dX9_goesOn_57 k_896 rfl ?_
      refine wg_iload X 7 dX9_goesOn_60 rfl ?_
      refine wg_ishr X dX9_goesOn_62 ?_
      refine wg_iconst (v := 1) X dX9_goesOn_63 (by decide) ?_
      refine wg_iand X dX9_goesOn_64 ?_
      refine wg_if_ne X 159 dX9_goesOn_65 (by decide) (fun c7 => ?_) (fun c7 => ?_)
      · have h := if_f c7 h
        obtain ⟨v8, e9, h⟩ := lt_some h
        refine wg_iinc (lv' := [(7, .int v8), (0, .ref (ad 55)), (1, .int x1), (2, .int x2), (3, .int x3), (4, .int x4), (5, .int x5), (6, .int x6)]) X 7 dX9_goesOn_159 rfl e9 (by decide) rfl ?_
        refine wg_goto X 47 dX9_goesOn_162 (by decide) ?_
        refine wg_pick [1, 2, 3, 4, 5, 6, 7, 0] (lv' := [(0, .ref (ad 55)), (1, .int x1), (2, .int x2), (3, .int x3), (4, .int x4), (5, .int x5), (6, .int x6), (7, .int v8)]) rfl ?_
        exact Kc M x6 v8 (sm_inj h).symm
      · have h := if_t c7 h
        refine wg_aload_n X 0 dX9_goesOn_68 rfl rfl ?_
        refine wg_getR (b := 63) X cl9 (SMi hS 55 9 rfl) 11 (by decide) dX9_goesOn_69 k_893 rfl (SMr hS 11 63 rfl) ?_
        refine wg_iload X 7 dX9_goesOn_72 rfl ?_
        obtain ⟨z10, h⟩ := ck_some h
        refine wg_mald X (SMi hS 63 11 rfl) (SMl hS 63 8 rfl) z10 dX9_goesOn_74 ?_
        refine wg_iload X 4 dX9_goesOn_75 rfl ?_
        refine wg_icmp_ne X 159 dX9_goesOn_77 (by decide) (fun c11 => ?_) (fun c11 => ?_)
        · have h := if_f c11 h
          obtain ⟨v12, e13, h⟩ := lt_some h
          refine wg_iinc (lv' := [(7, .int v12), (0, .ref (ad 55)), (1, .int x1), (2, .int x2), (3, .int x3), (4, .int x4), (5, .int x5), (6, .int x6)]) X 7 dX9_goesOn_159 rfl e13 (by decide) rfl ?_
          refine wg_goto X 47 dX9_goesOn_162 (by decide) ?_
          refine wg_pick [1, 2, 3, 4, 5, 6, 7, 0] (lv' := [(0, .ref (ad 55)), (1, .int x1), (2, .int x2), (3, .int x3), (4, .int x4), (5, .int x5), (6, .int x6), (7, .int v12)]) rfl ?_
          exact Kc M x6 v12 (sm_inj h).symm
        · have h := if_t c11 h
          refine wg_aload_n X 0 dX9_goesOn_80 rfl rfl ?_
          refine wg_iload X 7 dX9_goesOn_81 rfl ?_
          refine wg_iload X 5 dX9_goesOn_83 rfl ?_
          refine wg_iload_n X 2 dX9_goesOn_85 rfl rfl ?_
          obtain ⟨r15, h14, h⟩ := bd_some h
          refine wg_callVi (As := [.int x7, .int x5, .int x2]) (rest := []) X (c_X9_passes l E ad S hS C M x7 x5 x2  h14) T_yX9_passes k_1066 cl9 (SMi hS 55 9 rfl) dX9_goesOn_86 rfl rfl (Nat.le_of_ble_eq_true rfl) ⟨Nat.le_of_ble_eq_true rfl, Nat.le_of_ble_eq_true rfl⟩ ⟨Nat.zero_le _, Nat.zero_le _⟩ ?_
          refine wg_if_eq X 159 dX9_goesOn_89 (by decide) (fun c16 => ?_) (fun c16 => ?_)
          · have h := if_t c16 h
            obtain ⟨v17, e18, h⟩ := lt_some h
            refine wg_iinc (lv' := [(7, .int v17), (0, .ref (ad 55)), (1, .int x1), (2, .int x2), (3, .int x3), (4, .int x4), (5, .int x5), (6, .int x6)]) X 7 dX9_goesOn_159 rfl e18 (by decide) rfl ?_
            refine wg_goto X 47 dX9_goesOn_162 (by decide) ?_
            refine wg_pick [1, 2, 3, 4, 5, 6, 7, 0] (lv' := [(0, .ref (ad 55)), (1, .int x1), (2, .int x2), (3, .int x3), (4, .int x4), (5, .int x5), (6, .int x6), (7, .int v17)]) rfl ?_
            exact Kc M x6 v17 (sm_inj h).symm
          · have h := if_f c16 h
            refine wg_aload_n X 0 dX9_goesOn_92 rfl rfl ?_
            refine wg_bipush (v := 32) X dX9_goesOn_93 (by decide) ?_
            refine wg_aload_n X 0 dX9_goesOn_95 rfl rfl ?_
            refine wg_iload X 7 dX9_goesOn_96 rfl ?_
            obtain ⟨r20, h19, h⟩ := bd_some h
            refine wg_callVi (As := [.int x7]) (rest := [.int (32 : Int32), .ref (ad 55)]) X (c_X9_leads l E ad S hS C M x7  h19) T_yX9_leads k_1040 cl9 (SMi hS 55 9 rfl) dX9_goesOn_98 rfl rfl (Nat.le_of_ble_eq_true rfl) ⟨Nat.le_of_ble_eq_true rfl, Nat.le_of_ble_eq_true rfl⟩ ⟨Nat.zero_le _, Nat.zero_le _⟩ ?_
            refine wg_imul X dX9_goesOn_101 ?_
            refine wg_aload_n X 0 dX9_goesOn_102 rfl rfl ?_
            refine wg_iload X 7 dX9_goesOn_103 rfl ?_
            refine wg_iload X 5 dX9_goesOn_105 rfl ?_
            obtain ⟨r22, h21, h⟩ := bd_some h
            refine wg_callVi (As := [.int x7, .int x5]) (rest := [.int ((32 : Int32) * r20), .ref (ad 55)]) X (c_X9_on l E ad S hS C M x7 x5  h21) T_yX9_on k_1062 cl9 (SMi hS 55 9 rfl) dX9_goesOn_107 rfl rfl (Nat.le_of_ble_eq_true rfl) ⟨Nat.le_of_ble_eq_true rfl, Nat.le_of_ble_eq_true rfl⟩ ⟨Nat.zero_le _, Nat.zero_le _⟩ ?_
            refine wg_iadd X dX9_goesOn_110 ?_
            refine wg_aload_n X 0 dX9_goesOn_111 rfl rfl ?_
            refine wg_getR (b := 65) X cl9 (SMi hS 55 9 rfl) 30 (by decide) dX9_goesOn_112 k_912 rfl (SMr hS 30 65 rfl) ?_
            refine wg_iload_n X 1 dX9_goesOn_115 rfl rfl ?_
            obtain ⟨z23, h⟩ := ck_some h
            refine wg_mald X (SMi hS 65 11 rfl) (SMl hS 65 192 rfl) z23 dX9_goesOn_116 ?_
            refine wg_iload_n X 3 dX9_goesOn_117 rfl rfl ?_
            refine wg_if_eq X 137 dX9_goesOn_118 (by decide) (fun c24 => ?_) (fun c24 => ?_)
            · have h := if_t c24 h
              refine wg_sipush (v := 10000) X dX9_goesOn_137 (by decide) ?_
              exact J_X9_goesOn_j140l47 X hr hS r0 D0 C N  M  x1 x2 x3 x4 x5 x6 x7 (10000 : Int32) (M.1 65 x1.toNatClampNeg) (((32 : Int32) * r20) + r22)  _ Kc Ke h
            · have h := if_f c24 h
              refine wg_aload_n X 0 dX9_goesOn_121 rfl rfl ?_
              refine wg_getR (b := 66) X cl9 (SMi hS 55 9 rfl) 31 (by decide) dX9_goesOn_122 k_913 rfl (SMr hS 31 66 rfl) ?_
              refine wg_bipush (v := 32) X dX9_goesOn_125 (by decide) ?_
              refine wg_iload X 7 dX9_goesOn_127 rfl ?_
              refine wg_imul X dX9_goesOn_129 ?_
              refine wg_iload X 5 dX9_goesOn_130 rfl ?_
              refine wg_iadd X dX9_goesOn_132 ?_
              obtain ⟨z36, h⟩ := ck_some h
              refine wg_mald X (SMi hS 66 11 rfl) (SMl hS 66 256 rfl) z36 dX9_goesOn_133 ?_
              refine wg_goto X 140 dX9_goesOn_134 (by decide) ?_
              exact J_X9_goesOn_j140l47 X hr hS r0 D0 C N  M  x1 x2 x3 x4 x5 x6 x7 (M.1 66 (((32 : Int32) * x7) + x5).toNatClampNeg) (M.1 65 x1.toNatClampNeg) (((32 : Int32) * r20) + r22)  _ Kc Ke h
set_option maxHeartbeats 4000000 in
set_option maxRecDepth 100000 in
theorem J_X9_goesOn_j42 {p : Program} {l : Launch} {e : Env} {s : State} {m : MethodId} {args : Array Value} {below : List Frame} {meth : Method} {c : Code} {E : wg_Ev} {ad : Nat → Nat} {S : wg_Sh} (X : wg_X p s m args meth c cX9_goesOn 8 RX9 E) (hr : meth.sig.returnType = (some .boolean)) (hS : wg_SM S) (r0 : Int32) (D0 : wg_M) (C : wg_C) (N : Nat)  (M : wg_M)  (x1 : Int32) (x2 : Int32) (x3 : Int32) (x4 : Int32) (x5 : Int32) (s0 : Int32)   (h : f_X9_goesOn_j42 N M  x1 x2 x3 x4 x5 s0 = some (r0, D0)) : G_X9_goesOn p l e s m args below meth c E ad S r0 C D0 42 C M [(0, .ref (ad 55)), (1, .int x1), (2, .int x2), (3, .int x3), (4, .int x4), (5, .int x5)] [.int s0] := by
  unfold f_X9_goesOn_j42 at h
  refine wg_istore (lv' := [(6, .int s0), (0, .ref (ad 55)), (1, .int x1), (2, .int x2), (3, .int x3), (4, .int x4), (5, .int x5)]) X dX9_goesOn_42 rfl (by decide) rfl ?_
  refine wg_iconst (v := 0) X dX9_goesOn_44 (by decide) ?_
  refine wg_istore (lv' := [(7, .int (0 : Int32)), (6, .int s0), (0, .ref (ad 55)), (1, .int x1), (2, .int x2), (3, .int x3), (4, .int x4), (5, .int x5)]) X dX9_goesOn_45 rfl (by decide) rfl ?_
  obtain ⟨o40, h41, h⟩ := bd3_o h
  refine wg_pick [2, 3, 4, 5, 6, 7, 1, 0] (lv' := [(0, .ref (ad 55)), (1, .int x1), (2, .int x2), (3, .int x3), (4, .int x4), (5, .int x5), (6, .int s0), (7, .int (0 : Int32))]) rfl ?_
  refine L_X9_goesOn_l47 X hr hS r0 D0 C N   x1 x2 x3 x4 x5  N M s0 (0 : Int32) o40 h41 (fun M37 v38 v39 e43 => ?_)
  · subst e43
    replace h := bd3_in h
    refine wg_iload X 6 dX9_goesOn_165 rfl ?_
    obtain ⟨z44, h⟩ := ck_some h
    exact wg_zret X ⟨congrArg Prod.fst (sm_inj h), rfl, congrArg Prod.snd (sm_inj h)⟩ hr z44 dX9_goesOn_167
set_option maxHeartbeats 4000000 in
set_option maxRecDepth 100000 in
theorem c_X9_goesOn (l : Launch) (E : wg_Ev) (ad : Nat → Nat) (S : wg_Sh) (hS : wg_SM S) (N : Nat) (C : wg_C) (M : wg_M) (p1 : Int32) (p2 : Int32) (p3 : Int32)  {r0 : Int32} {D0 : wg_M} (h : f_X9_goesOn N M p1 p2 p3 = some (r0, D0)) : wg_Ci l yX9_goesOn cX9_goesOn 8 (some .boolean) 3 69 E ad S C M [.ref (ad 55), .int p1, .int p2, .int p3] r0 C D0 := by
  refine wg_start (own := RX9) (by decide +kernel) rfl (Nat.le_of_ble_eq_true rfl) ?_
  intro p e s m below meth c X hr hnm
  refine wg_lv (lv' := [(0, .ref (ad 55)), (1, .int p1), (2, .int p2), (3, .int p3)]) rfl ?_
  unfold f_X9_goesOn at h
  refine wg_iload_n X 1 dX9_goesOn_0 rfl rfl ?_
  refine wg_bipush (v := 32) X dX9_goesOn_1 (by decide) ?_
  refine wg_idiv X dX9_goesOn_3 (by decide) ?_
  obtain ⟨v1, e2, h⟩ := lt_some h
  refine wg_istore (lv' := [(4, .int v1), (0, .ref (ad 55)), (1, .int p1), (2, .int p2), (3, .int p3)]) X dX9_goesOn_4 e2 (by decide) rfl ?_
  refine wg_iload_n X 2 dX9_goesOn_6 rfl rfl ?_
  refine wg_bipush (v := 32) X dX9_goesOn_7 (by decide) ?_
  refine wg_irem X dX9_goesOn_9 (by decide) ?_
  obtain ⟨v3, e4, h⟩ := lt_some h
  refine wg_istore (lv' := [(5, .int v3), (4, .int v1), (0, .ref (ad 55)), (1, .int p1), (2, .int p2), (3, .int p3)]) X dX9_goesOn_10 e4 (by decide) rfl ?_
  refine wg_iload X 0 dX9_goesOn_12 rfl ?_
  refine wg_bipush (v := 31) X dX9_goesOn_14 (by decide) ?_
  refine wg_icmp_ge X 41 dX9_goesOn_16 (by decide) (fun c5 => ?_) (fun c5 => ?_)
  · have h := if_t c5 h
    refine wg_iconst (v := 0) X dX9_goesOn_41 (by decide) ?_
    refine wg_pick [2, 3, 4, 5, 1, 0] (lv' := [(0, .ref (ad 55)), (1, .int p1), (2, .int p2), (3, .int p3), (4, .int v1), (5, .int v3)]) rfl ?_
    exact J_X9_goesOn_j42 X hr hS r0 D0 C N  M  p1 p2 p3 v1 v3 (0 : Int32)   h
  · have h := if_f c5 h
    refine wg_aload_n X 2 dX9_goesOn_19 rfl rfl ?_
    refine wg_iload_n X 3 dX9_goesOn_20 rfl rfl ?_
    refine wg_iconst (v := 1) X dX9_goesOn_21 (by decide) ?_
    refine wg_iadd X dX9_goesOn_22 ?_
    refine wg_aload_n X 2 dX9_goesOn_23 rfl rfl ?_
    refine wg_getR (b := 65) X cl9 (SMi hS 55 9 rfl) 30 (by decide) dX9_goesOn_24 k_912 rfl (SMr hS 30 65 rfl) ?_
    refine wg_iload_n X 3 dX9_goesOn_27 rfl rfl ?_
    obtain ⟨z45, h⟩ := ck_some h
    refine wg_mald X (SMi hS 65 11 rfl) (SMl hS 65 192 rfl) z45 dX9_goesOn_28 ?_
    refine wg_iconst (v := 1) X dX9_goesOn_29 (by decide) ?_
    refine wg_iadd X dX9_goesOn_30 ?_
    obtain ⟨r47, M48, h46, h⟩ := bd2_some h
    refine wg_callVi (As := [.int (p1 + (1 : Int32)), .int ((M.1 65 p1.toNatClampNeg) + (1 : Int32))]) (rest := []) X (c_X9_eases l E ad S hS C M (p1 + (1 : Int32)) ((M.1 65 p1.toNatClampNeg) + (1 : Int32))  h46) T_yX9_eases k_1178 cl9 (SMi hS 55 9 rfl) dX9_goesOn_31 rfl rfl (Nat.le_of_ble_eq_true rfl) ⟨Nat.le_of_ble_eq_true rfl, Nat.le_of_ble_eq_true rfl⟩ ⟨Nat.zero_le _, Nat.zero_le _⟩ ?_
    refine wg_if_eq X 41 dX9_goesOn_34 (by decide) (fun c49 => ?_) (fun c49 => ?_)
    · have h := if_t c49 h
      refine wg_iconst (v := 0) X dX9_goesOn_41 (by decide) ?_
      refine wg_pick [2, 3, 4, 5, 1, 0] (lv' := [(0, .ref (ad 55)), (1, .int p1), (2, .int p2), (3, .int p3), (4, .int v1), (5, .int v3)]) rfl ?_
      exact J_X9_goesOn_j42 X hr hS r0 D0 C N  M48  p1 p2 p3 v1 v3 (0 : Int32)   h
    · have h := if_f c49 h
      refine wg_iconst (v := 1) X dX9_goesOn_37 (by decide) ?_
      refine wg_goto X 42 dX9_goesOn_38 (by decide) ?_
      refine wg_pick [2, 3, 4, 5, 1, 0] (lv' := [(0, .ref (ad 55)), (1, .int p1), (2, .int p2), (3, .int p3), (4, .int v1), (5, .int v3)]) rfl ?_
      exact J_X9_goesOn_j42 X hr hS r0 D0 C N  M48  p1 p2 p3 v1 v3 (1 : Int32)   h
-- WindowsGiveModel.shows(II)I (('c', 55), 'i', 'i')
def f_X9_shows (M : wg_M) (p1 : Int32) (p2 : Int32) : Option Int32 :=
  bd (f_X9_isDay p2) fun r2 =>
  if r2 = 0 then (
    some (-1 : Int32))
  else (
    bd (f_X9_passes M p1 p2 (0 : Int32)) fun r5 =>
    if r5 = 0 then (
      some (-1 : Int32))
    else (
      bd (f_X9_on M p1 p2) fun r8 =>
      ck (inb r8 32) <|
      some (M.1 59 r8.toNatClampNeg)))
set_option maxHeartbeats 4000000 in
set_option maxRecDepth 100000 in
theorem c_X9_shows (l : Launch) (E : wg_Ev) (ad : Nat → Nat) (S : wg_Sh) (hS : wg_SM S) (C : wg_C) (M : wg_M) (p1 : Int32) (p2 : Int32)  {r0 : Int32} (h : f_X9_shows M p1 p2 = some r0) : wg_Ci l yX9_shows cX9_shows 3 (some .int) 3 69 E ad S C M [.ref (ad 55), .int p1, .int p2] r0 C M := by
  refine wg_start (own := RX9) (by decide +kernel) rfl (Nat.le_of_ble_eq_true rfl) ?_
  intro p e s m below meth c X hr hnm
  refine wg_lv (lv' := [(0, .ref (ad 55)), (1, .int p1), (2, .int p2)]) rfl ?_
  unfold f_X9_shows at h
  refine wg_iload_n X 2 dX9_shows_0 rfl rfl ?_
  obtain ⟨r2, h1, h⟩ := bd_some h
  refine wg_callSi (As := [.int p2]) (rest := []) X (c_X9_isDay l E ad S C M p2  h1) T_yX9_isDay k_1024 dX9_shows_1 rfl rfl (Nat.le_of_ble_eq_true rfl) ⟨Nat.le_of_ble_eq_true rfl, Nat.le_of_ble_eq_true rfl⟩ ⟨Nat.zero_le _, Nat.zero_le _⟩ ?_
  refine wg_if_eq X 31 dX9_shows_4 (by decide) (fun c3 => ?_) (fun c3 => ?_)
  · have h := if_t c3 h
    refine wg_iconst (v := -1) X dX9_shows_31 (by decide) ?_
    exact wg_iret X ⟨(sm_inj h), rfl, rfl⟩ hr dX9_shows_32
  · have h := if_f c3 h
    refine wg_aload_n X 0 dX9_shows_7 rfl rfl ?_
    refine wg_iload_n X 1 dX9_shows_8 rfl rfl ?_
    refine wg_iload_n X 2 dX9_shows_9 rfl rfl ?_
    refine wg_iconst (v := 0) X dX9_shows_10 (by decide) ?_
    obtain ⟨r5, h4, h⟩ := bd_some h
    refine wg_callVi (As := [.int p1, .int p2, .int (0 : Int32)]) (rest := []) X (c_X9_passes l E ad S hS C M p1 p2 (0 : Int32)  h4) T_yX9_passes k_1066 cl9 (SMi hS 55 9 rfl) dX9_shows_11 rfl rfl (Nat.le_of_ble_eq_true rfl) ⟨Nat.le_of_ble_eq_true rfl, Nat.le_of_ble_eq_true rfl⟩ ⟨Nat.zero_le _, Nat.zero_le _⟩ ?_
    refine wg_if_eq X 31 dX9_shows_14 (by decide) (fun c6 => ?_) (fun c6 => ?_)
    · have h := if_t c6 h
      refine wg_iconst (v := -1) X dX9_shows_31 (by decide) ?_
      exact wg_iret X ⟨(sm_inj h), rfl, rfl⟩ hr dX9_shows_32
    · have h := if_f c6 h
      refine wg_aload_n X 0 dX9_shows_17 rfl rfl ?_
      refine wg_getR (b := 59) X cl9 (SMi hS 55 9 rfl) 7 (by decide) dX9_shows_18 k_889 rfl (SMr hS 7 59 rfl) ?_
      refine wg_aload_n X 0 dX9_shows_21 rfl rfl ?_
      refine wg_iload_n X 1 dX9_shows_22 rfl rfl ?_
      refine wg_iload_n X 2 dX9_shows_23 rfl rfl ?_
      obtain ⟨r8, h7, h⟩ := bd_some h
      refine wg_callVi (As := [.int p1, .int p2]) (rest := [.ref (ad 59)]) X (c_X9_on l E ad S hS C M p1 p2  h7) T_yX9_on k_1062 cl9 (SMi hS 55 9 rfl) dX9_shows_24 rfl rfl (Nat.le_of_ble_eq_true rfl) ⟨Nat.le_of_ble_eq_true rfl, Nat.le_of_ble_eq_true rfl⟩ ⟨Nat.zero_le _, Nat.zero_le _⟩ ?_
      obtain ⟨z9, h⟩ := ck_some h
      refine wg_mald X (SMi hS 59 11 rfl) (SMl hS 59 32 rfl) z9 dX9_shows_27 ?_
      refine wg_goto X 32 dX9_shows_28 (by decide) ?_
      exact wg_iret X ⟨(sm_inj h), rfl, rfl⟩ hr dX9_shows_32
-- WindowsGiveModel.wrongAt(III)I (('c', 55), 'i', 'i', 'i')
def f_X9_wrongAt_l3 (N : Nat) (M : wg_M)  (x1 : Int32) (x2 : Int32) (x3 : Int32) (x4 : Int32) : Option ((Int32) ⊕ ((Int32) ⊕ Int32)) :=
  ck (inb x1 4) <|
  if (M.1 73 x1.toNatClampNeg) ≤ x4 then (
    some (.inr (.inl x4)))
  else (
    bd (f_X9_shows M x2 (x3 + x4)) fun r4 =>
    ck (inb (((40 : Int32) * x1) + x4) 160) <|
    if r4 = (M.1 74 (((40 : Int32) * x1) + x4).toNatClampNeg) then (
      lt_ (x4 + (1 : Int32)) fun v7 =>
      some (.inl v7))
    else (
      some (.inr (.inr x4))))
def f_X9_wrongAt (N : Nat) (M : wg_M) (p1 : Int32) (p2 : Int32) (p3 : Int32) : Option Int32 :=
  bs1 (lp (fun o => f_X9_wrongAt_l3 N M  p1 p2 p3 o) N (0 : Int32)) (fun v9 =>
    some (-1 : Int32))
    (fun q12 => some q12)
abbrev G_X9_wrongAt (p : Program) (l : Launch) (e : Env) (s : State) (m : MethodId) (args : Array Value) (below : List Frame) (meth : Method) (c : Code) (E : wg_Ev) (ad : Nat → Nat) (S : wg_Sh) (r0 : Int32) (C0 : wg_C) (M0 : wg_M) (pc : Nat) (C : wg_C) (M : wg_M) (lv : List (Nat × Value)) (st : List Value) : Prop := wg_G p l e (wg_Rm 4 91) s m args below meth c (MQ below (wg_Qi E ad S r0 C0 M0) args s 0 0 (wg_A E)) 5 E ad S 0 0 pc C M lv st
set_option maxHeartbeats 4000000 in
set_option maxRecDepth 100000 in
theorem L_X9_wrongAt_l3 {p : Program} {l : Launch} {e : Env} {s : State} {m : MethodId} {args : Array Value} {below : List Frame} {meth : Method} {c : Code} {E : wg_Ev} {ad : Nat → Nat} {S : wg_Sh} (X : wg_X p s m args meth c cX9_wrongAt 5 RX9 E) (hr : meth.sig.returnType = (some .int)) (hS : wg_SM S) (r0 : Int32) (C : wg_C) (N : Nat)  (M : wg_M)  (x1 : Int32) (x2 : Int32) (x3 : Int32)  : ∀ (n : Nat) (x4 : Int32) (o : ((Int32) ⊕ Int32)), lp (fun o => f_X9_wrongAt_l3 N M  x1 x2 x3 o) n x4 = some o → (∀ (y4 : Int32), o = Sum.inl y4 → G_X9_wrongAt p l e s m args below meth c E ad S r0 C M 47 C M [(0, .ref (ad 55)), (1, .int x1), (2, .int x2), (3, .int x3), (4, .int y4)] []) → (∀ q : Int32, o = Sum.inr q → q = r0) → G_X9_wrongAt p l e s m args below meth c E ad S r0 C M 3 C M [(0, .ref (ad 55)), (1, .int x1), (2, .int x2), (3, .int x3), (4, .int x4)] [] := by
  intro n
  induction n with
  | zero => exact fun _ o h => (lp_zero h).elim
  | succ n ih =>
    intro x4 o h K KR
    obtain ⟨o1, hb, h2⟩ := lp_some h
    replace hb : f_X9_wrongAt_l3 N M  x1 x2 x3 x4 = some o1 := hb
    clear h
    have Kc : ∀ (y4 : Int32), o1 = Sum.inl y4 → G_X9_wrongAt p l e s m args below meth c E ad S r0 C M 3 C M [(0, .ref (ad 55)), (1, .int x1), (2, .int x2), (3, .int x3), (4, .int y4)] [] := fun y4 e1 => by
      subst e1
      exact ih y4 o h2 K KR
    have Ke : ∀ (y4 : Int32), o1 = Sum.inr (Sum.inl y4) → G_X9_wrongAt p l e s m args below meth c E ad S r0 C M 47 C M [(0, .ref (ad 55)), (1, .int x1), (2, .int x2), (3, .int x3), (4, .int y4)] [] := fun y4 e1 => by
      subst e1
      exact K y4 (sm_inj (α := ((Int32) ⊕ Int32)) h2).symm
    have Kr : ∀ q : Int32, o1 = Sum.inr (Sum.inr q) → q = r0 := fun q e1 => by
      subst e1
      exact KR q (sm_inj (α := ((Int32) ⊕ Int32)) h2).symm
    clear ih K h2 KR
    unfold f_X9_wrongAt_l3 at hb
    have h := hb
    clear hb
    refine wg_iload X 4 dX9_wrongAt_3 rfl ?_
    refine wg_aload_n X 0 dX9_wrongAt_5 rfl rfl ?_
    refine wg_getR (b := 73) X cl9 (SMi hS 55 9 rfl) 42 (by decide) dX9_wrongAt_6 k_924 rfl (SMr hS 42 73 rfl) ?_
    refine wg_iload_n X 1 dX9_wrongAt_9 rfl rfl ?_
    obtain ⟨z1, h⟩ := ck_some h
    refine wg_mald X (SMi hS 73 11 rfl) (SMl hS 73 4 rfl) z1 dX9_wrongAt_10 ?_
    refine wg_icmp_ge X 47 dX9_wrongAt_11 (by decide) (fun c2 => ?_) (fun c2 => ?_)
    · have h := if_t c2 h
      exact Ke x4 (sm_inj h).symm
    · have h := if_f c2 h
      refine wg_aload_n X 0 dX9_wrongAt_14 rfl rfl ?_
      refine wg_iload_n X 2 dX9_wrongAt_15 rfl rfl ?_
      refine wg_iload_n X 3 dX9_wrongAt_16 rfl rfl ?_
      refine wg_iload X 4 dX9_wrongAt_17 rfl ?_
      refine wg_iadd X dX9_wrongAt_19 ?_
      obtain ⟨r4, h3, h⟩ := bd_some h
      refine wg_callVi (As := [.int x2, .int (x3 + x4)]) (rest := []) X (c_X9_shows l E ad S hS C M x2 (x3 + x4)  h3) T_yX9_shows k_1225 cl9 (SMi hS 55 9 rfl) dX9_wrongAt_20 rfl rfl (Nat.le_of_ble_eq_true rfl) ⟨Nat.le_of_ble_eq_true rfl, Nat.le_of_ble_eq_true rfl⟩ ⟨Nat.zero_le _, Nat.zero_le _⟩ ?_
      refine wg_aload_n X 0 dX9_wrongAt_23 rfl rfl ?_
      refine wg_getR (b := 74) X cl9 (SMi hS 55 9 rfl) 43 (by decide) dX9_wrongAt_24 k_925 rfl (SMr hS 43 74 rfl) ?_
      refine wg_bipush (v := 40) X dX9_wrongAt_27 (by decide) ?_
      refine wg_iload_n X 1 dX9_wrongAt_29 rfl rfl ?_
      refine wg_imul X dX9_wrongAt_30 ?_
      refine wg_iload X 4 dX9_wrongAt_31 rfl ?_
      refine wg_iadd X dX9_wrongAt_33 ?_
      obtain ⟨z5, h⟩ := ck_some h
      refine wg_mald X (SMi hS 74 11 rfl) (SMl hS 74 160 rfl) z5 dX9_wrongAt_34 ?_
      refine wg_icmp_eq X 41 dX9_wrongAt_35 (by decide) (fun c6 => ?_) (fun c6 => ?_)
      · have h := if_t c6 h
        obtain ⟨v7, e8, h⟩ := lt_some h
        refine wg_iinc (lv' := [(4, .int v7), (0, .ref (ad 55)), (1, .int x1), (2, .int x2), (3, .int x3)]) X 4 dX9_wrongAt_41 rfl e8 (by decide) rfl ?_
        refine wg_goto X 3 dX9_wrongAt_44 (by decide) ?_
        refine wg_pick [1, 2, 3, 4, 0] (lv' := [(0, .ref (ad 55)), (1, .int x1), (2, .int x2), (3, .int x3), (4, .int v7)]) rfl ?_
        exact Kc v7 (sm_inj h).symm
      · have h := if_f c6 h
        refine wg_iload X 4 dX9_wrongAt_38 rfl ?_
        have hq := Kr _ (sm_inj h).symm
        exact wg_iret X ⟨hq, rfl, rfl⟩ hr dX9_wrongAt_40
set_option maxHeartbeats 4000000 in
set_option maxRecDepth 100000 in
theorem c_X9_wrongAt (l : Launch) (E : wg_Ev) (ad : Nat → Nat) (S : wg_Sh) (hS : wg_SM S) (N : Nat) (C : wg_C) (M : wg_M) (p1 : Int32) (p2 : Int32) (p3 : Int32)  {r0 : Int32} (h : f_X9_wrongAt N M p1 p2 p3 = some r0) : wg_Ci l yX9_wrongAt cX9_wrongAt 5 (some .int) 4 91 E ad S C M [.ref (ad 55), .int p1, .int p2, .int p3] r0 C M := by
  refine wg_start (own := RX9) (by decide +kernel) rfl (Nat.le_of_ble_eq_true rfl) ?_
  intro p e s m below meth c X hr hnm
  refine wg_lv (lv' := [(0, .ref (ad 55)), (1, .int p1), (2, .int p2), (3, .int p3)]) rfl ?_
  unfold f_X9_wrongAt at h
  refine wg_iconst (v := 0) X dX9_wrongAt_0 (by decide) ?_
  refine wg_istore (lv' := [(4, .int (0 : Int32)), (0, .ref (ad 55)), (1, .int p1), (2, .int p2), (3, .int p3)]) X dX9_wrongAt_1 rfl (by decide) rfl ?_
  obtain ⟨o10, h11, h⟩ := bs1_o h
  refine wg_pick [1, 2, 3, 4, 0] (lv' := [(0, .ref (ad 55)), (1, .int p1), (2, .int p2), (3, .int p3), (4, .int (0 : Int32))]) rfl ?_
  refine L_X9_wrongAt_l3 X hr hS r0 C N  M  p1 p2 p3  N (0 : Int32) o10 h11 (fun v9 e13 => ?_) (fun q12 e13 => ?_)
  · subst e13
    replace h := bs1_in h
    refine wg_iconst (v := -1) X dX9_wrongAt_47 (by decide) ?_
    exact wg_iret X ⟨(sm_inj h), rfl, rfl⟩ hr dX9_wrongAt_48
  · subst e13
    replace h := bs1_r h
    exact sm_inj h
-- WindowsGiveModel.isSheet(I)Z ('i',)
def f_X9_isSheet (p0 : Int32) : Option Int32 :=
  bd (f_X9_in p0.toInt64 (0 : Int64) (3 : Int64)) fun r2 =>
  ck (r2 = 0 ∨ r2 = 1) <|
  some r2
set_option maxHeartbeats 4000000 in
set_option maxRecDepth 100000 in
theorem c_X9_isSheet (l : Launch) (E : wg_Ev) (ad : Nat → Nat) (S : wg_Sh) (C : wg_C) (M : wg_M) (p0 : Int32)  {r0 : Int32} (h : f_X9_isSheet p0 = some r0) : wg_Ci l yX9_isSheet cX9_isSheet 1 (some .boolean) 1 25 E ad S C M [.int p0] r0 C M := by
  refine wg_start (own := RX9) (by decide +kernel) rfl (Nat.le_of_ble_eq_true rfl) ?_
  intro p e s m below meth c X hr hnm
  refine wg_lv (lv' := [(0, .int p0)]) rfl ?_
  unfold f_X9_isSheet at h
  refine wg_iload_n X 0 dX9_isSheet_0 rfl rfl ?_
  refine wg_i2l X dX9_isSheet_1 ?_
  refine wg_lconst (v := 0) X dX9_isSheet_2 (by decide) ?_
  refine wg_ldc2 (v := 3) X dX9_isSheet_3 k_1220 ?_
  obtain ⟨r2, h1, h⟩ := bd_some h
  refine wg_callSi (As := [.long (p0.toInt64), .long (0 : Int64), .long (3 : Int64)]) (rest := []) X (c_X9_in l E ad S C M p0.toInt64 (0 : Int64) (3 : Int64)  h1) T_yX9_in k_1021 dX9_isSheet_6 rfl rfl (Nat.le_of_ble_eq_true rfl) ⟨Nat.le_of_ble_eq_true rfl, Nat.le_of_ble_eq_true rfl⟩ ⟨Nat.zero_le _, Nat.zero_le _⟩ ?_
  obtain ⟨z3, h⟩ := ck_some h
  exact wg_zret X ⟨(sm_inj h), rfl, rfl⟩ hr z3 dX9_isSheet_9
-- WindowsGiveModel.seenBad(III)I (('c', 55), 'i', 'i', 'i')
def f_X9_seenBad (M : wg_M) (p1 : Int32) (p2 : Int32) (p3 : Int32) : Option Int32 :=
  bd (f_X9_isSheet p1) fun r2 =>
  if r2 = 0 then (
    some (-2 : Int32))
  else (
    bd (f_X9_isPane M p2) fun r5 =>
    if r5 = 0 then (
      some (-2 : Int32))
    else (
      bd (f_X9_isDay p3) fun r8 =>
      if r8 = 0 then (
        some (-2 : Int32))
      else (
        ck (inb p1 4) <|
        if (M.1 71 p1.toNatClampNeg) = 0 then (
          some (-11 : Int32))
        else (
          ck (inb p1 4) <|
          if (M.1 73 p1.toNatClampNeg) ≤ (10 : Int32) then (
            some (0 : Int32))
          else (
            some (-2 : Int32))))))
set_option maxHeartbeats 4000000 in
set_option maxRecDepth 100000 in
theorem c_X9_seenBad (l : Launch) (E : wg_Ev) (ad : Nat → Nat) (S : wg_Sh) (hS : wg_SM S) (C : wg_C) (M : wg_M) (p1 : Int32) (p2 : Int32) (p3 : Int32)  {r0 : Int32} (h : f_X9_seenBad M p1 p2 p3 = some r0) : wg_Ci l yX9_seenBad cX9_seenBad 4 (some .int) 2 46 E ad S C M [.ref (ad 55), .int p1, .int p2, .int p3] r0 C M := by
  refine wg_start (own := RX9) (by decide +kernel) rfl (Nat.le_of_ble_eq_true rfl) ?_
  intro p e s m below meth c X hr hnm
  refine wg_lv (lv' := [(0, .ref (ad 55)), (1, .int p1), (2, .int p2), (3, .int p3)]) rfl ?_
  unfold f_X9_seenBad at h
  refine wg_iload_n X 1 dX9_seenBad_0 rfl rfl ?_
  obtain ⟨r2, h1, h⟩ := bd_some h
  refine wg_callSi (As := [.int p1]) (rest := []) X (c_X9_isSheet l E ad S C M p1  h1) T_yX9_isSheet k_1217 dX9_seenBad_1 rfl rfl (Nat.le_of_ble_eq_true rfl) ⟨Nat.le_of_ble_eq_true rfl, Nat.le_of_ble_eq_true rfl⟩ ⟨Nat.zero_le _, Nat.zero_le _⟩ ?_
  refine wg_if_eq X 22 dX9_seenBad_4 (by decide) (fun c3 => ?_) (fun c3 => ?_)
  · have h := if_t c3 h
    refine wg_bipush (v := -2) X dX9_seenBad_22 (by decide) ?_
    exact wg_iret X ⟨(sm_inj h), rfl, rfl⟩ hr dX9_seenBad_24
  · have h := if_f c3 h
    refine wg_aload_n X 0 dX9_seenBad_7 rfl rfl ?_
    refine wg_iload_n X 2 dX9_seenBad_8 rfl rfl ?_
    obtain ⟨r5, h4, h⟩ := bd_some h
    refine wg_callVi (As := [.int p2]) (rest := []) X (c_X9_isPane l E ad S hS C M p2  h4) T_yX9_isPane k_1028 cl9 (SMi hS 55 9 rfl) dX9_seenBad_9 rfl rfl (Nat.le_of_ble_eq_true rfl) ⟨Nat.le_of_ble_eq_true rfl, Nat.le_of_ble_eq_true rfl⟩ ⟨Nat.zero_le _, Nat.zero_le _⟩ ?_
    refine wg_if_eq X 22 dX9_seenBad_12 (by decide) (fun c6 => ?_) (fun c6 => ?_)
    · have h := if_t c6 h
      refine wg_bipush (v := -2) X dX9_seenBad_22 (by decide) ?_
      exact wg_iret X ⟨(sm_inj h), rfl, rfl⟩ hr dX9_seenBad_24
    · have h := if_f c6 h
      refine wg_iload_n X 3 dX9_seenBad_15 rfl rfl ?_
      obtain ⟨r8, h7, h⟩ := bd_some h
      refine wg_callSi (As := [.int p3]) (rest := []) X (c_X9_isDay l E ad S C M p3  h7) T_yX9_isDay k_1024 dX9_seenBad_16 rfl rfl (Nat.le_of_ble_eq_true rfl) ⟨Nat.le_of_ble_eq_true rfl, Nat.le_of_ble_eq_true rfl⟩ ⟨Nat.zero_le _, Nat.zero_le _⟩ ?_
      refine wg_if_ne X 25 dX9_seenBad_19 (by decide) (fun c9 => ?_) (fun c9 => ?_)
      · have h := if_f c9 h
        refine wg_aload_n X 0 dX9_seenBad_25 rfl rfl ?_
        refine wg_getR (b := 71) X cl9 (SMi hS 55 9 rfl) 40 (by decide) dX9_seenBad_26 k_922 rfl (SMr hS 40 71 rfl) ?_
        refine wg_iload_n X 1 dX9_seenBad_29 rfl rfl ?_
        obtain ⟨z10, h⟩ := ck_some h
        refine wg_zald X (SMi hS 71 12 rfl) (SMl hS 71 4 rfl) z10 dX9_seenBad_30 ?_
        refine wg_if_ne X 37 dX9_seenBad_31 (by decide) (fun c11 => ?_) (fun c11 => ?_)
        · have h := if_f c11 h
          refine wg_aload_n X 0 dX9_seenBad_37 rfl rfl ?_
          refine wg_getR (b := 73) X cl9 (SMi hS 55 9 rfl) 42 (by decide) dX9_seenBad_38 k_924 rfl (SMr hS 42 73 rfl) ?_
          refine wg_iload_n X 1 dX9_seenBad_41 rfl rfl ?_
          obtain ⟨z12, h⟩ := ck_some h
          refine wg_mald X (SMi hS 73 11 rfl) (SMl hS 73 4 rfl) z12 dX9_seenBad_42 ?_
          refine wg_bipush (v := 10) X dX9_seenBad_43 (by decide) ?_
          refine wg_icmp_le X 53 dX9_seenBad_45 (by decide) (fun c13 => ?_) (fun c13 => ?_)
          · have h := if_t c13 h
            refine wg_iconst (v := 0) X dX9_seenBad_53 (by decide) ?_
            exact wg_iret X ⟨(sm_inj h), rfl, rfl⟩ hr dX9_seenBad_54
          · have h := if_f c13 h
            refine wg_bipush (v := -2) X dX9_seenBad_48 (by decide) ?_
            refine wg_goto X 54 dX9_seenBad_50 (by decide) ?_
            exact wg_iret X ⟨(sm_inj h), rfl, rfl⟩ hr dX9_seenBad_54
        · have h := if_t c11 h
          refine wg_bipush (v := -11) X dX9_seenBad_34 (by decide) ?_
          exact wg_iret X ⟨(sm_inj h), rfl, rfl⟩ hr dX9_seenBad_36
      · have h := if_t c9 h
        refine wg_bipush (v := -2) X dX9_seenBad_22 (by decide) ?_
        exact wg_iret X ⟨(sm_inj h), rfl, rfl⟩ hr dX9_seenBad_24
-- WindowsGiveModel.shiftsOf(III)I (('c', 55), 'i', 'i', 'i')
def f_X9_shiftsOf_j50l14 (N : Nat) (M : wg_M)  (x1 : Int32) (x2 : Int32) (x3 : Int32) (x4 : Int32) (x5 : Int32) (x6 : Int32) (s0 : Int32) (s1 : Int32) : Option ((wg_M × Int32 × Int32) ⊕ (wg_M × Int32 × Int32)) :=
  lt_ (s1 ||| (s0 <<< (x6 &&& 31))) fun v11 =>
  lt_ (x6 + (1 : Int32)) fun v13 =>
  some (.inl (M, v11, v13))
def f_X9_shiftsOf_l14 (N : Nat)  (x1 : Int32) (x2 : Int32) (x3 : Int32) (x4 : Int32) (M : wg_M) (x5 : Int32) (x6 : Int32) : Option ((wg_M × Int32 × Int32) ⊕ (wg_M × Int32 × Int32)) :=
  if (19 : Int32) ≤ x6 then (
    some (.inr (M, x5, x6)))
  else (
    ck (inb x2 8) <|
    lt_ (wg_sM M 62 x2.toNatClampNeg (x6 - (9 : Int32))) fun M6 =>
    bd (f_X9_wrongAt N M6 x1 x2 x3) fun r9 =>
    if r9 = (-1 : Int32) then (
      f_X9_shiftsOf_j50l14 N M6  x1 x2 x3 x4 x5 x6 (1 : Int32) x5)
    else (
      f_X9_shiftsOf_j50l14 N M6  x1 x2 x3 x4 x5 x6 (0 : Int32) x5))
def f_X9_shiftsOf (N : Nat) (M : wg_M) (p1 : Int32) (p2 : Int32) (p3 : Int32) : Option (Int32 × wg_M) :=
  ck (inb p2 8) <|
  lt_ (M.1 62 p2.toNatClampNeg) fun v2 =>
  bd3 (lp (fun o => f_X9_shiftsOf_l14 N  p1 p2 p3 v2 o.1 o.2.1 o.2.2) N (M, (0 : Int32), (0 : Int32))) fun M15 v16 v17 =>
  ck (inb p2 8) <|
  lt_ (wg_sM M15 62 p2.toNatClampNeg v2) fun M23 =>
  some (v16, M23)
abbrev G_X9_shiftsOf (p : Program) (l : Launch) (e : Env) (s : State) (m : MethodId) (args : Array Value) (below : List Frame) (meth : Method) (c : Code) (E : wg_Ev) (ad : Nat → Nat) (S : wg_Sh) (r0 : Int32) (C0 : wg_C) (M0 : wg_M) (pc : Nat) (C : wg_C) (M : wg_M) (lv : List (Nat × Value)) (st : List Value) : Prop := wg_G p l e (wg_Rm 5 115) s m args below meth c (MQ below (wg_Qi E ad S r0 C0 M0) args s 0 0 (wg_A E)) 7 E ad S 0 0 pc C M lv st
set_option maxHeartbeats 4000000 in
set_option maxRecDepth 100000 in
theorem J_X9_shiftsOf_j50l14 {p : Program} {l : Launch} {e : Env} {s : State} {m : MethodId} {args : Array Value} {below : List Frame} {meth : Method} {c : Code} {E : wg_Ev} {ad : Nat → Nat} {S : wg_Sh} (X : wg_X p s m args meth c cX9_shiftsOf 7 RX9 E) (hr : meth.sig.returnType = (some .int)) (hS : wg_SM S) (r0 : Int32) (D0 : wg_M) (C : wg_C) (N : Nat)  (M : wg_M)  (x1 : Int32) (x2 : Int32) (x3 : Int32) (x4 : Int32) (x5 : Int32) (x6 : Int32) (s0 : Int32) (s1 : Int32)  (y : ((wg_M × Int32 × Int32) ⊕ (wg_M × Int32 × Int32))) (Kc : ∀ (Dy : wg_M) (y5 : Int32) (y6 : Int32), y = Sum.inl (Dy, y5, y6) → G_X9_shiftsOf p l e s m args below meth c E ad S r0 C D0 14 C Dy [(0, .ref (ad 55)), (1, .int x1), (2, .int x2), (3, .int x3), (4, .int x4), (5, .int y5), (6, .int y6)] []) (Ke : ∀ (Dy : wg_M) (y5 : Int32) (y6 : Int32), y = Sum.inr ((Dy, y5, y6)) → G_X9_shiftsOf p l e s m args below meth c E ad S r0 C D0 62 C Dy [(0, .ref (ad 55)), (1, .int x1), (2, .int x2), (3, .int x3), (4, .int x4), (5, .int y5), (6, .int y6)] []) (h : f_X9_shiftsOf_j50l14 N M  x1 x2 x3 x4 x5 x6 s0 s1 = some y) : G_X9_shiftsOf p l e s m args below meth c E ad S r0 C D0 50 C M [(0, .ref (ad 55)), (1, .int x1), (2, .int x2), (3, .int x3), (4, .int x4), (5, .int x5), (6, .int x6)] [.int s0, .int s1] := by
  unfold f_X9_shiftsOf_j50l14 at h
  refine wg_iload X 6 dX9_shiftsOf_50 rfl ?_
  refine wg_ishl X dX9_shiftsOf_52 ?_
  refine wg_ior X dX9_shiftsOf_53 ?_
  obtain ⟨v11, e12, h⟩ := lt_some h
  refine wg_istore (lv' := [(5, .int v11), (0, .ref (ad 55)), (1, .int x1), (2, .int x2), (3, .int x3), (4, .int x4), (6, .int x6)]) X dX9_shiftsOf_54 e12 (by decide) rfl ?_
  obtain ⟨v13, e14, h⟩ := lt_some h
  refine wg_iinc (lv' := [(6, .int v13), (5, .int v11), (0, .ref (ad 55)), (1, .int x1), (2, .int x2), (3, .int x3), (4, .int x4)]) X 6 dX9_shiftsOf_56 rfl e14 (by decide) rfl ?_
  refine wg_goto X 14 dX9_shiftsOf_59 (by decide) ?_
  refine wg_pick [2, 3, 4, 5, 6, 1, 0] (lv' := [(0, .ref (ad 55)), (1, .int x1), (2, .int x2), (3, .int x3), (4, .int x4), (5, .int v11), (6, .int v13)]) rfl ?_
  exact Kc M v11 v13 (sm_inj h).symm
set_option maxHeartbeats 4000000 in
set_option maxRecDepth 100000 in
theorem L_X9_shiftsOf_l14 {p : Program} {l : Launch} {e : Env} {s : State} {m : MethodId} {args : Array Value} {below : List Frame} {meth : Method} {c : Code} {E : wg_Ev} {ad : Nat → Nat} {S : wg_Sh} (X : wg_X p s m args meth c cX9_shiftsOf 7 RX9 E) (hr : meth.sig.returnType = (some .int)) (hS : wg_SM S) (r0 : Int32) (D0 : wg_M) (C : wg_C) (N : Nat)   (x1 : Int32) (x2 : Int32) (x3 : Int32) (x4 : Int32)  : ∀ (n : Nat) (M : wg_M) (x5 : Int32) (x6 : Int32) (o : (wg_M × Int32 × Int32)), lp (fun o => f_X9_shiftsOf_l14 N  x1 x2 x3 x4 o.1 o.2.1 o.2.2) n (M, x5, x6) = some o → (∀ (Dy : wg_M) (y5 : Int32) (y6 : Int32), o = (Dy, y5, y6) → G_X9_shiftsOf p l e s m args below meth c E ad S r0 C D0 62 C Dy [(0, .ref (ad 55)), (1, .int x1), (2, .int x2), (3, .int x3), (4, .int x4), (5, .int y5), (6, .int y6)] []) → G_X9_shiftsOf p l e s m args below meth c E ad S r0 C D0 14 C M [(0, .ref (ad 55)), (1, .int x1), (2, .int x2), (3, .int x3), (4, .int x4), (5, .int x5), (6, .int x6)] [] := by
  intro n
  induction n with
  | zero => exact fun _ _ _ o h => (lp_zero h).elim
  | succ n ih =>
    intro M x5 x6 o h K
    obtain ⟨o1, hb, h2⟩ := lp_some h
    replace hb : f_X9_shiftsOf_l14 N  x1 x2 x3 x4 M x5 x6 = some o1 := hb
    clear h
    have Kc : ∀ (Dy : wg_M) (y5 : Int32) (y6 : Int32), o1 = Sum.inl (Dy, y5, y6) → G_X9_shiftsOf p l e s m args below meth c E ad S r0 C D0 14 C Dy [(0, .ref (ad 55)), (1, .int x1), (2, .int x2), (3, .int x3), (4, .int x4), (5, .int y5), (6, .int y6)] [] := fun Dy y5 y6 e1 => by
      subst e1
      exact ih Dy y5 y6 o h2 K
    have Ke : ∀ (Dy : wg_M) (y5 : Int32) (y6 : Int32), o1 = Sum.inr ((Dy, y5, y6)) → G_X9_shiftsOf p l e s m args below meth c E ad S r0 C D0 62 C Dy [(0, .ref (ad 55)), (1, .int x1), (2, .int x2), (3, .int x3), (4, .int x4), (5, .int y5), (6, .int y6)] [] := fun Dy y5 y6 e1 => by
      subst e1
      exact K Dy y5 y6 (sm_inj (α := (wg_M × Int32 × Int32)) h2).symm
    clear ih K h2
    unfold f_X9_shiftsOf_l14 at hb
    have h := hb
    clear hb
    refine wg_iload X 6 dX9_shiftsOf_14 rfl ?_
    refine wg_bipush (v := 19) X dX9_shiftsOf_16 (by decide) ?_
    refine wg_icmp_ge X 62 dX9_shiftsOf_18 (by decide) (fun c4 => ?_) (fun c4 => ?_)
    · have h := if_t c4 h
      exact Ke M x5 x6 (sm_inj h).symm
    · have h := if_f c4 h
      refine wg_aload_n X 0 dX9_shiftsOf_21 rfl rfl ?_
      refine wg_getR (b := 62) X cl9 (SMi hS 55 9 rfl) 10 (by decide) dX9_shiftsOf_22 k_892 rfl (SMr hS 10 62 rfl) ?_
      refine wg_iload_n X 2 dX9_shiftsOf_25 rfl rfl ?_
      refine wg_iload X 6 dX9_shiftsOf_26 rfl ?_
      refine wg_bipush (v := 9) X dX9_shiftsOf_28 (by decide) ?_
      refine wg_isub X dX9_shiftsOf_30 ?_
      obtain ⟨z5, h⟩ := ck_some h
      obtain ⟨M6, e7, h⟩ := lt_some h
      refine wg_maste X (SMi hS 62 11 rfl) (SMl hS 62 8 rfl) z5 dX9_shiftsOf_31 e7 ?_
      refine wg_iload X 5 dX9_shiftsOf_32 rfl ?_
      refine wg_aload_n X 0 dX9_shiftsOf_34 rfl rfl ?_
      refine wg_iload_n X 1 dX9_shiftsOf_35 rfl rfl ?_
      refine wg_iload_n X 2 dX9_shiftsOf_36 rfl rfl ?_
      refine wg_iload_n X 3 dX9_shiftsOf_37 rfl rfl ?_
      obtain ⟨r9, h8, h⟩ := bd_some h
      refine wg_callVi (As := [.int x1, .int x2, .int x3]) (rest := [.int x5]) X (c_X9_wrongAt l E ad S hS N C M6 x1 x2 x3  h8) T_yX9_wrongAt k_1221 cl9 (SMi hS 55 9 rfl) dX9_shiftsOf_38 rfl rfl (Nat.le_of_ble_eq_true rfl) ⟨Nat.le_of_ble_eq_true rfl, Nat.le_of_ble_eq_true rfl⟩ ⟨Nat.zero_le _, Nat.zero_le _⟩ ?_
      refine wg_iconst (v := -1) X dX9_shiftsOf_41 (by decide) ?_
      refine wg_icmp_ne X 49 dX9_shiftsOf_42 (by decide) (fun c10 => ?_) (fun c10 => ?_)
      · have h := if_f c10 h
        refine wg_iconst (v := 0) X dX9_shiftsOf_49 (by decide) ?_
        exact J_X9_shiftsOf_j50l14 X hr hS r0 D0 C N  M6  x1 x2 x3 x4 x5 x6 (0 : Int32) x5  _ Kc Ke h
      · have h := if_t c10 h
        refine wg_iconst (v := 1) X dX9_shiftsOf_45 (by decide) ?_
        refine wg_goto X 50 dX9_shiftsOf_46 (by decide) ?_
        exact J_X9_shiftsOf_j50l14 X hr hS r0 D0 C N  M6  x1 x2 x3 x4 x5 x6 (1 : Int32) x5  _ Kc Ke h
set_option maxHeartbeats 4000000 in
set_option maxRecDepth 100000 in
theorem c_X9_shiftsOf (l : Launch) (E : wg_Ev) (ad : Nat → Nat) (S : wg_Sh) (hS : wg_SM S) (N : Nat) (C : wg_C) (M : wg_M) (p1 : Int32) (p2 : Int32) (p3 : Int32)  {r0 : Int32} {D0 : wg_M} (h : f_X9_shiftsOf N M p1 p2 p3 = some (r0, D0)) : wg_Ci l yX9_shiftsOf cX9_shiftsOf 7 (some .int) 5 115 E ad S C M [.ref (ad 55), .int p1, .int p2, .int p3] r0 C D0 := by
  refine wg_start (own := RX9) (by decide +kernel) rfl (Nat.le_of_ble_eq_true rfl) ?_
  intro p e s m below meth c X hr hnm
  refine wg_lv (lv' := [(0, .ref (ad 55)), (1, .int p1), (2, .int p2), (3, .int p3)]) rfl ?_
  unfold f_X9_shiftsOf at h
  refine wg_aload_n X 0 dX9_shiftsOf_0 rfl rfl ?_
  refine wg_getR (b := 62) X cl9 (SMi hS 55 9 rfl) 10 (by decide) dX9_shiftsOf_1 k_892 rfl (SMr hS 10 62 rfl) ?_
  refine wg_iload_n X 2 dX9_shiftsOf_4 rfl rfl ?_
  obtain ⟨z1, h⟩ := ck_some h
  refine wg_mald X (SMi hS 62 11 rfl) (SMl hS 62 8 rfl) z1 dX9_shiftsOf_5 ?_
  obtain ⟨v2, e3, h⟩ := lt_some h
  refine wg_istore (lv' := [(4, .int v2), (0, .ref (ad 55)), (1, .int p1), (2, .int p2), (3, .int p3)]) X dX9_shiftsOf_6 e3 (by decide) rfl ?_
  refine wg_iconst (v := 0) X dX9_shiftsOf_8 (by decide) ?_
  refine wg_istore (lv' := [(5, .int (0 : Int32)), (4, .int v2), (0, .ref (ad 55)), (1, .int p1), (2, .int p2), (3, .int p3)]) X dX9_shiftsOf_9 rfl (by decide) rfl ?_
  refine wg_iconst (v := 0) X dX9_shiftsOf_11 (by decide) ?_
  refine wg_istore (lv' := [(6, .int (0 : Int32)), (5, .int (0 : Int32)), (4, .int v2), (0, .ref (ad 55)), (1, .int p1), (2, .int p2), (3, .int p3)]) X dX9_shiftsOf_12 rfl (by decide) rfl ?_
  obtain ⟨o18, h19, h⟩ := bd3_o h
  refine wg_pick [3, 4, 5, 6, 2, 1, 0] (lv' := [(0, .ref (ad 55)), (1, .int p1), (2, .int p2), (3, .int p3), (4, .int v2), (5, .int (0 : Int32)), (6, .int (0 : Int32))]) rfl ?_
  refine L_X9_shiftsOf_l14 X hr hS r0 D0 C N   p1 p2 p3 v2  N M (0 : Int32) (0 : Int32) o18 h19 (fun M15 v16 v17 e21 => ?_)
  · subst e21
    replace h := bd3_in h
    refine wg_aload_n X 0 dX9_shiftsOf_62 rfl rfl ?_
    refine wg_getR (b := 62) X cl9 (SMi hS 55 9 rfl) 10 (by decide) dX9_shiftsOf_63 k_892 rfl (SMr hS 10 62 rfl) ?_
    refine wg_iload_n X 2 dX9_shiftsOf_66 rfl rfl ?_
    refine wg_iload X 4 dX9_shiftsOf_67 rfl ?_
    obtain ⟨z22, h⟩ := ck_some h
    obtain ⟨M23, e24, h⟩ := lt_some h
    refine wg_maste X (SMi hS 62 11 rfl) (SMl hS 62 8 rfl) z22 dX9_shiftsOf_69 e24 ?_
    refine wg_iload X 5 dX9_shiftsOf_70 rfl ?_
    exact wg_iret X ⟨congrArg Prod.fst (sm_inj h), rfl, congrArg Prod.snd (sm_inj h)⟩ hr dX9_shiftsOf_72
-- WindowsGiveModel.seen(IIII)I (('c', 55), 'i', 'i', 'i', 'i')
def f_X9_seen_j108l76 (N : Nat) (M : wg_M)  (x1 : Int32) (x2 : Int32) (x3 : Int32) (x6 : Int32) (x7 : Int32) (x8 : Int32) (s0 : Int32) (s1 : Int32) : Option ((wg_M × Int32 × Int32) ⊕ (wg_M × Int32 × Int32)) :=
  lt_ (s1 ||| (s0 <<< (x8 &&& 31))) fun v18 =>
  lt_ (x8 + (1 : Int32)) fun v20 =>
  some (.inl (M, v18, v20))
def f_X9_seen_l76 (N : Nat)  (x1 : Int32) (x2 : Int32) (x3 : Int32) (x6 : Int32) (M : wg_M) (x7 : Int32) (x8 : Int32) : Option ((wg_M × Int32 × Int32) ⊕ (wg_M × Int32 × Int32)) :=
  if (5 : Int32) < x8 then (
    some (.inr (M, x7, x8)))
  else (
    ck (inb x2 8) <|
    lt_ (wg_sM M 60 x2.toNatClampNeg x8) fun M13 =>
    bd (f_X9_wrongAt N M13 x1 x2 x3) fun r16 =>
    if r16 = (-1 : Int32) then (
      f_X9_seen_j108l76 N M13  x1 x2 x3 x6 x7 x8 (1 : Int32) x7)
    else (
      f_X9_seen_j108l76 N M13  x1 x2 x3 x6 x7 x8 (0 : Int32) x7))
def f_X9_seen (N : Nat) (M : wg_M) (p1 : Int32) (p2 : Int32) (p3 : Int32) (p4 : Int32) : Option (Int32 × wg_M) :=
  bd (f_X9_in p4.toInt64 (0 : Int64) (2 : Int64)) fun r2 =>
  if r2 = 0 then (
    some ((-2 : Int32), M))
  else (
    bd (f_X9_seenBad M p1 p2 p3) fun r5 =>
    if r5 = 0 then (
      if (2 : Int32) ≤ p4 then (
        ck (inb p2 8) <|
        lt_ (M.1 60 p2.toNatClampNeg) fun v9 =>
        bd3 (lp (fun o => f_X9_seen_l76 N  p1 p2 p3 v9 o.1 o.2.1 o.2.2) N (M, (0 : Int32), (0 : Int32))) fun M22 v23 v24 =>
        ck (inb p2 8) <|
        lt_ (wg_sM M22 60 p2.toNatClampNeg v9) fun M30 =>
        some (v23, M30))
      else (
        if p4 = 0 then (
          bd (f_X9_wrongAt N M p1 p2 p3) fun r37 =>
          some (r37, M))
        else (
          bd2 (f_X9_shiftsOf N M p1 p2 p3) fun r34 M35 =>
          some (r34, M35))))
    else (
      some (r5, M)))
abbrev G_X9_seen (p : Program) (l : Launch) (e : Env) (s : State) (m : MethodId) (args : Array Value) (below : List Frame) (meth : Method) (c : Code) (E : wg_Ev) (ad : Nat → Nat) (S : wg_Sh) (r0 : Int32) (C0 : wg_C) (M0 : wg_M) (pc : Nat) (C : wg_C) (M : wg_M) (lv : List (Nat × Value)) (st : List Value) : Prop := wg_G p l e (wg_Rm 6 141) s m args below meth c (MQ below (wg_Qi E ad S r0 C0 M0) args s 0 0 (wg_A E)) 9 E ad S 0 0 pc C M lv st
set_option maxHeartbeats 4000000 in
set_option maxRecDepth 100000 in
theorem J_X9_seen_j108l76 {p : Program} {l : Launch} {e : Env} {s : State} {m : MethodId} {args : Array Value} {below : List Frame} {meth : Method} {c : Code} {E : wg_Ev} {ad : Nat → Nat} {S : wg_Sh} (X : wg_X p s m args meth c cX9_seen 9 RX9 E) (hr : meth.sig.returnType = (some .int)) (hS : wg_SM S) (r0 : Int32) (D0 : wg_M) (C : wg_C) (N : Nat)  (M : wg_M)  (x1 : Int32) (x2 : Int32) (x3 : Int32) (x6 : Int32) (x7 : Int32) (x8 : Int32) (s0 : Int32) (s1 : Int32)  (y : ((wg_M × Int32 × Int32) ⊕ (wg_M × Int32 × Int32))) (Kc : ∀ (Dy : wg_M) (y7 : Int32) (y8 : Int32), y = Sum.inl (Dy, y7, y8) → G_X9_seen p l e s m args below meth c E ad S r0 C D0 76 C Dy [(0, .ref (ad 55)), (1, .int x1), (2, .int x2), (3, .int x3), (6, .int x6), (7, .int y7), (8, .int y8)] []) (Ke : ∀ (Dy : wg_M) (y7 : Int32) (y8 : Int32), y = Sum.inr ((Dy, y7, y8)) → G_X9_seen p l e s m args below meth c E ad S r0 C D0 120 C Dy [(0, .ref (ad 55)), (1, .int x1), (2, .int x2), (3, .int x3), (6, .int x6), (7, .int y7), (8, .int y8)] []) (h : f_X9_seen_j108l76 N M  x1 x2 x3 x6 x7 x8 s0 s1 = some y) : G_X9_seen p l e s m args below meth c E ad S r0 C D0 108 C M [(0, .ref (ad 55)), (1, .int x1), (2, .int x2), (3, .int x3), (6, .int x6), (7, .int x7), (8, .int x8)] [.int s0, .int s1] := by
  unfold f_X9_seen_j108l76 at h
  refine wg_iload X 6 dX9_seen_108 rfl ?_
  refine wg_ishl X dX9_seen_110 ?_
  refine wg_ior X dX9_seen_111 ?_
  obtain ⟨v18, e19, h⟩ := lt_some h
  refine wg_istore (lv' := [(7, .int v18), (0, .ref (ad 55)), (1, .int x1), (2, .int x2), (3, .int x3), (6, .int x6), (8, .int x8)]) X dX9_seen_112 e19 (by decide) rfl ?_
  obtain ⟨v20, e21, h⟩ := lt_some h
  refine wg_iinc (lv' := [(8, .int v20), (7, .int v18), (0, .ref (ad 55)), (1, .int x1), (2, .int x2), (3, .int x3), (6, .int x6)]) X 6 dX9_seen_114 rfl e21 (by decide) rfl ?_
  refine wg_goto X 76 dX9_seen_117 (by decide) ?_
  refine wg_pick [2, 3, 4, 5, 6, 1, 0] (lv' := [(0, .ref (ad 55)), (1, .int x1), (2, .int x2), (3, .int x3), (6, .int x6), (7, .int v18), (8, .int v20)]) rfl ?_
  exact Kc M v18 v20 (sm_inj h).symm
set_option maxHeartbeats 4000000 in
set_option maxRecDepth 100000 in
theorem L_X9_seen_l76 {p : Program} {l : Launch} {e : Env} {s : State} {m : MethodId} {args : Array Value} {below : List Frame} {meth : Method} {c : Code} {E : wg_Ev} {ad : Nat → Nat} {S : wg_Sh} (X : wg_X p s m args meth c cX9_seen 9 RX9 E) (hr : meth.sig.returnType = (some .int)) (hS : wg_SM S) (r0 : Int32) (D0 : wg_M) (C : wg_C) (N : Nat)   (x1 : Int32) (x2 : Int32) (x3 : Int32) (x6 : Int32)  : ∀ (n : Nat) (M : wg_M) (x7 : Int32) (x8 : Int32) (o : (wg_M × Int32 × Int32)), lp (fun o => f_X9_seen_l76 N  x1 x2 x3 x6 o.1 o.2.1 o.2.2) n (M, x7, x8) = some o → (∀ (Dy : wg_M) (y7 : Int32) (y8 : Int32), o = (Dy, y7, y8) → G_X9_seen p l e s m args below meth c E ad S r0 C D0 120 C Dy [(0, .ref (ad 55)), (1, .int x1), (2, .int x2), (3, .int x3), (6, .int x6), (7, .int y7), (8, .int y8)] []) → G_X9_seen p l e s m args below meth c E ad S r0 C D0 76 C M [(0, .ref (ad 55)), (1, .int x1), (2, .int x2), (3, .int x3), (6, .int x6), (7, .int x7), (8, .int x8)] [] := by
  intro n
  induction n with
  | zero => exact fun _ _ _ o h => (lp_zero h).elim
  | succ n ih =>
    intro M x7 x8 o h K
    obtain ⟨o1, hb, h2⟩ := lp_some h
    replace hb : f_X9_seen_l76 N  x1 x2 x3 x6 M x7 x8 = some o1 := hb
    clear h
    have Kc : ∀ (Dy : wg_M) (y7 : Int32) (y8 : Int32), o1 = Sum.inl (Dy, y7, y8) → G_X9_seen p l e s m args below meth c E ad S r0 C D0 76 C Dy [(0, .ref (ad 55)), (1, .int x1), (2, .int x2), (3, .int x3), (6, .int x6), (7, .int y7), (8, .int y8)] [] := fun Dy y7 y8 e1 => by
      subst e1
      exact ih Dy y7 y8 o h2 K
    have Ke : ∀ (Dy : wg_M) (y7 : Int32) (y8 : Int32), o1 = Sum.inr ((Dy, y7, y8)) → G_X9_seen p l e s m args below meth c E ad S r0 C D0 120 C Dy [(0, .ref (ad 55)), (1, .int x1), (2, .int x2), (3, .int x3), (6, .int x6), (7, .int y7), (8, .int y8)] [] := fun Dy y7 y8 e1 => by
      subst e1
      exact K Dy y7 y8 (sm_inj (α := (wg_M × Int32 × Int32)) h2).symm
    clear ih K h2
    unfold f_X9_seen_l76 at hb
    have h := hb
    clear hb
    refine wg_iload X 6 dX9_seen_76 rfl ?_
    refine wg_iconst (v := 5) X dX9_seen_78 (by decide) ?_
    refine wg_icmp_gt X 120 dX9_seen_79 (by decide) (fun c11 => ?_) (fun c11 => ?_)
    · have h := if_t c11 h
      exact Ke M x7 x8 (sm_inj h).symm
    · have h := if_f c11 h
      refine wg_aload_n X 0 dX9_seen_82 rfl rfl ?_
      refine wg_getR (b := 60) X cl9 (SMi hS 55 9 rfl) 8 (by decide) dX9_seen_83 k_890 rfl (SMr hS 8 60 rfl) ?_
      refine wg_iload_n X 2 dX9_seen_86 rfl rfl ?_
      refine wg_iload X 6 dX9_seen_87 rfl ?_
      obtain ⟨z12, h⟩ := ck_some h
      obtain ⟨M13, e14, h⟩ := lt_some h
      refine wg_maste X (SMi hS 60 11 rfl) (SMl hS 60 8 rfl) z12 dX9_seen_89 e14 ?_
      refine wg_iload X 5 dX9_seen_90 rfl ?_
      refine wg_aload_n X 0 dX9_seen_92 rfl rfl ?_
      refine wg_iload_n X 1 dX9_seen_93 rfl rfl ?_
      refine wg_iload_n X 2 dX9_seen_94 rfl rfl ?_
      refine wg_iload_n X 3 dX9_seen_95 rfl rfl ?_
      obtain ⟨r16, h15, h⟩ := bd_some h
      refine wg_callVi (As := [.int x1, .int x2, .int x3]) (rest := [.int x7]) X (c_X9_wrongAt l E ad S hS N C M13 x1 x2 x3  h15) T_yX9_wrongAt k_1221 cl9 (SMi hS 55 9 rfl) dX9_seen_96 rfl rfl (Nat.le_of_ble_eq_true rfl) ⟨Nat.le_of_ble_eq_true rfl, Nat.le_of_ble_eq_true rfl⟩ ⟨Nat.zero_le _, Nat.zero_le _⟩ ?_
      refine wg_iconst (v := -1) X dX9_seen_99 (by decide) ?_
      refine wg_icmp_ne X 107 dX9_seen_100 (by decide) (fun c17 => ?_) (fun c17 => ?_)
      · have h := if_f c17 h
        refine wg_iconst (v := 0) X dX9_seen_107 (by decide) ?_
        exact J_X9_seen_j108l76 X hr hS r0 D0 C N  M13  x1 x2 x3 x6 x7 x8 (0 : Int32) x7  _ Kc Ke h
      · have h := if_t c17 h
        refine wg_iconst (v := 1) X dX9_seen_103 (by decide) ?_
        refine wg_goto X 108 dX9_seen_104 (by decide) ?_
        exact J_X9_seen_j108l76 X hr hS r0 D0 C N  M13  x1 x2 x3 x6 x7 x8 (1 : Int32) x7  _ Kc Ke h
set_option maxHeartbeats 4000000 in
set_option maxRecDepth 100000 in
theorem c_X9_seen (l : Launch) (E : wg_Ev) (ad : Nat → Nat) (S : wg_Sh) (hS : wg_SM S) (N : Nat) (C : wg_C) (M : wg_M) (p1 : Int32) (p2 : Int32) (p3 : Int32) (p4 : Int32)  {r0 : Int32} {D0 : wg_M} (h : f_X9_seen N M p1 p2 p3 p4 = some (r0, D0)) : wg_Ci l yX9_seen cX9_seen 9 (some .int) 6 141 E ad S C M [.ref (ad 55), .int p1, .int p2, .int p3, .int p4] r0 C D0 := by
  refine wg_start (own := RX9) (by decide +kernel) rfl (Nat.le_of_ble_eq_true rfl) ?_
  intro p e s m below meth c X hr hnm
  refine wg_lv (lv' := [(0, .ref (ad 55)), (1, .int p1), (2, .int p2), (3, .int p3), (4, .int p4)]) rfl ?_
  unfold f_X9_seen at h
  refine wg_iload X 4 dX9_seen_0 rfl ?_
  refine wg_i2l X dX9_seen_2 ?_
  refine wg_lconst (v := 0) X dX9_seen_3 (by decide) ?_
  refine wg_ldc2 (v := 2) X dX9_seen_4 k_1061 ?_
  obtain ⟨r2, h1, h⟩ := bd_some h
  refine wg_callSi (As := [.long (p4.toInt64), .long (0 : Int64), .long (2 : Int64)]) (rest := []) X (c_X9_in l E ad S C M p4.toInt64 (0 : Int64) (2 : Int64)  h1) T_yX9_in k_1021 dX9_seen_7 rfl rfl (Nat.le_of_ble_eq_true rfl) ⟨Nat.le_of_ble_eq_true rfl, Nat.le_of_ble_eq_true rfl⟩ ⟨Nat.zero_le _, Nat.zero_le _⟩ ?_
  refine wg_if_ne X 16 dX9_seen_10 (by decide) (fun c3 => ?_) (fun c3 => ?_)
  · have h := if_f c3 h
    refine wg_aload_n X 0 dX9_seen_16 rfl rfl ?_
    refine wg_iload_n X 1 dX9_seen_17 rfl rfl ?_
    refine wg_iload_n X 2 dX9_seen_18 rfl rfl ?_
    refine wg_iload_n X 3 dX9_seen_19 rfl rfl ?_
    obtain ⟨r5, h4, h⟩ := bd_some h
    refine wg_callVi (As := [.int p1, .int p2, .int p3]) (rest := []) X (c_X9_seenBad l E ad S hS C M p1 p2 p3  h4) T_yX9_seenBad k_1213 cl9 (SMi hS 55 9 rfl) dX9_seen_20 rfl rfl (Nat.le_of_ble_eq_true rfl) ⟨Nat.le_of_ble_eq_true rfl, Nat.le_of_ble_eq_true rfl⟩ ⟨Nat.zero_le _, Nat.zero_le _⟩ ?_
    refine wg_istore (lv' := [(5, .int r5), (0, .ref (ad 55)), (1, .int p1), (2, .int p2), (3, .int p3), (4, .int p4)]) X dX9_seen_23 rfl (by decide) rfl ?_
    refine wg_iload X 0 dX9_seen_25 rfl ?_
    refine wg_if_eq X 33 dX9_seen_27 (by decide) (fun c6 => ?_) (fun c6 => ?_)
    · have h := if_t c6 h
      refine wg_iload X 5 dX9_seen_33 rfl ?_
      refine wg_iconst (v := 2) X dX9_seen_35 (by decide) ?_
      refine wg_icmp_ge X 62 dX9_seen_36 (by decide) (fun c7 => ?_) (fun c7 => ?_)
      · have h := if_t c7 h
        refine wg_aload_n X 1 dX9_seen_62 rfl rfl ?_
        refine wg_getR (b := 60) X cl9 (SMi hS 55 9 rfl) 8 (by decide) dX9_seen_63 k_890 rfl (SMr hS 8 60 rfl) ?_
        refine wg_iload_n X 3 dX9_seen_66 rfl rfl ?_
        obtain ⟨z8, h⟩ := ck_some h
        refine wg_mald X (SMi hS 60 11 rfl) (SMl hS 60 8 rfl) z8 dX9_seen_67 ?_
        obtain ⟨v9, e10, h⟩ := lt_some h
        refine wg_istore (lv' := [(6, .int v9), (5, .int r5), (0, .ref (ad 55)), (1, .int p1), (2, .int p2), (3, .int p3), (4, .int p4)]) X dX9_seen_68 e10 (by decide) rfl ?_
        refine wg_iconst (v := 0) X dX9_seen_70 (by decide) ?_
        refine wg_istore (lv' := [(7, .int (0 : Int32)), (6, .int v9), (5, .int r5), (0, .ref (ad 55)), (1, .int p1), (2, .int p2), (3, .int p3), (4, .int p4)]) X dX9_seen_71 rfl (by decide) rfl ?_
        refine wg_iconst (v := 0) X dX9_seen_73 (by decide) ?_
        refine wg_istore (lv' := [(8, .int (0 : Int32)), (7, .int (0 : Int32)), (6, .int v9), (5, .int r5), (0, .ref (ad 55)), (1, .int p1), (2, .int p2), (3, .int p3), (4, .int p4)]) X dX9_seen_74 rfl (by decide) rfl ?_
        obtain ⟨o25, h26, h⟩ := bd3_o h
        refine wg_pick [4, 5, 6, 7, 2, 1, 0] (lv' := [(0, .ref (ad 55)), (1, .int p1), (2, .int p2), (3, .int p3), (6, .int v9), (7, .int (0 : Int32)), (8, .int (0 : Int32))]) rfl ?_
        refine L_X9_seen_l76 X hr hS r0 D0 C N   p1 p2 p3 v9  N M (0 : Int32) (0 : Int32) o25 h26 (fun M22 v23 v24 e28 => ?_)
        · subst e28
          replace h := bd3_in h
          refine wg_aload_n X 0 dX9_seen_120 rfl rfl ?_
          refine wg_getR (b := 60) X cl9 (SMi hS 55 9 rfl) 8 (by decide) dX9_seen_121 k_890 rfl (SMr hS 8 60 rfl) ?_
          refine wg_iload_n X 2 dX9_seen_124 rfl rfl ?_
          refine wg_iload X 4 dX9_seen_125 rfl ?_
          obtain ⟨z29, h⟩ := ck_some h
          obtain ⟨M30, e31, h⟩ := lt_some h
          refine wg_maste X (SMi hS 60 11 rfl) (SMl hS 60 8 rfl) z29 dX9_seen_127 e31 ?_
          refine wg_iload X 5 dX9_seen_128 rfl ?_
          exact wg_iret X ⟨congrArg Prod.fst (sm_inj h), rfl, congrArg Prod.snd (sm_inj h)⟩ hr dX9_seen_130
      · have h := if_f c7 h
        refine wg_iload X 5 dX9_seen_39 rfl ?_
        refine wg_if_ne X 54 dX9_seen_41 (by decide) (fun c32 => ?_) (fun c32 => ?_)
        · have h := if_f c32 h
          refine wg_aload_n X 1 dX9_seen_54 rfl rfl ?_
          refine wg_iload_n X 2 dX9_seen_55 rfl rfl ?_
          refine wg_iload_n X 3 dX9_seen_56 rfl rfl ?_
          refine wg_iload_n X 4 dX9_seen_57 rfl rfl ?_
          obtain ⟨r34, M35, h33, h⟩ := bd2_some h
          refine wg_callVi (As := [.int p1, .int p2, .int p3]) (rest := []) X (c_X9_shiftsOf l E ad S hS N C M p1 p2 p3  h33) T_yX9_shiftsOf k_1229 cl9 (SMi hS 55 9 rfl) dX9_seen_58 rfl rfl (Nat.le_of_ble_eq_true rfl) ⟨Nat.le_of_ble_eq_true rfl, Nat.le_of_ble_eq_true rfl⟩ ⟨Nat.zero_le _, Nat.zero_le _⟩ ?_
          exact wg_iret X ⟨congrArg Prod.fst (sm_inj h), rfl, congrArg Prod.snd (sm_inj h)⟩ hr dX9_seen_61
        · have h := if_t c32 h
          refine wg_aload_n X 1 dX9_seen_44 rfl rfl ?_
          refine wg_iload_n X 2 dX9_seen_45 rfl rfl ?_
          refine wg_iload_n X 3 dX9_seen_46 rfl rfl ?_
          refine wg_iload_n X 4 dX9_seen_47 rfl rfl ?_
          obtain ⟨r37, h36, h⟩ := bd_some h
          refine wg_callVi (As := [.int p1, .int p2, .int p3]) (rest := []) X (c_X9_wrongAt l E ad S hS N C M p1 p2 p3  h36) T_yX9_wrongAt k_1221 cl9 (SMi hS 55 9 rfl) dX9_seen_48 rfl rfl (Nat.le_of_ble_eq_true rfl) ⟨Nat.le_of_ble_eq_true rfl, Nat.le_of_ble_eq_true rfl⟩ ⟨Nat.zero_le _, Nat.zero_le _⟩ ?_
          refine wg_goto X 61 dX9_seen_51 (by decide) ?_
          exact wg_iret X ⟨congrArg Prod.fst (sm_inj h), rfl, congrArg Prod.snd (sm_inj h)⟩ hr dX9_seen_61
    · have h := if_f c6 h
      refine wg_iload X 0 dX9_seen_30 rfl ?_
      exact wg_iret X ⟨congrArg Prod.fst (sm_inj h), rfl, congrArg Prod.snd (sm_inj h)⟩ hr dX9_seen_32
  · have h := if_t c3 h
    refine wg_bipush (v := -2) X dX9_seen_13 (by decide) ?_
    exact wg_iret X ⟨congrArg Prod.fst (sm_inj h), rfl, congrArg Prod.snd (sm_inj h)⟩ hr dX9_seen_15
-- WindowsGiveModel.unlikeOn(III)I (('c', 55), 'i', 'i', 'i')
def f_X9_unlikeOn_l14 (N : Nat)  (x1 : Int32) (x2 : Int32) (x3 : Int32) (x4 : Int32) (M : wg_M) (x5 : Int32) (x6 : Int32) : Option ((wg_M × Int32 × Int32) ⊕ (wg_M × Int32 × Int32)) :=
  if (19 : Int32) ≤ x6 then (
    some (.inr (M, x5, x6)))
  else (
    if ((x3 >>> (x6 &&& 31)) &&& (1 : Int32)) = (1 : Int32) then (
      ck (inb x1 8) <|
      lt_ (wg_sM M 62 x1.toNatClampNeg (x6 - (9 : Int32))) fun M9 =>
      bd (f_X9_shows M9 x1 x2) fun r12 =>
      lt_ (x5 ||| ((1 : Int32) <<< ((r12 + (1 : Int32)) &&& 31))) fun v13 =>
      lt_ (x6 + (1 : Int32)) fun v15 =>
      some (.inl (M9, v13, v15)))
    else (
      lt_ (x6 + (1 : Int32)) fun v6 =>
      some (.inl (M, x5, v6))))
def f_X9_unlikeOn (N : Nat) (M : wg_M) (p1 : Int32) (p2 : Int32) (p3 : Int32) : Option (Int32 × wg_M) :=
  ck (inb p1 8) <|
  lt_ (M.1 62 p1.toNatClampNeg) fun v2 =>
  bd3 (lp (fun o => f_X9_unlikeOn_l14 N  p1 p2 p3 v2 o.1 o.2.1 o.2.2) N (M, (0 : Int32), (0 : Int32))) fun M17 v18 v19 =>
  ck (inb p1 8) <|
  lt_ (wg_sM M17 62 p1.toNatClampNeg v2) fun M25 =>
  bd (f_X9_bitsOf N v18) fun r28 =>
  some (r28, M25)
abbrev G_X9_unlikeOn (p : Program) (l : Launch) (e : Env) (s : State) (m : MethodId) (args : Array Value) (below : List Frame) (meth : Method) (c : Code) (E : wg_Ev) (ad : Nat → Nat) (S : wg_Sh) (r0 : Int32) (C0 : wg_C) (M0 : wg_M) (pc : Nat) (C : wg_C) (M : wg_M) (lv : List (Nat × Value)) (st : List Value) : Prop := wg_G p l e (wg_Rm 4 91) s m args below meth c (MQ below (wg_Qi E ad S r0 C0 M0) args s 0 0 (wg_A E)) 7 E ad S 0 0 pc C M lv st
set_option maxHeartbeats 4000000 in
set_option maxRecDepth 100000 in
theorem L_X9_unlikeOn_l14 {p : Program} {l : Launch} {e : Env} {s : State} {m : MethodId} {args : Array Value} {below : List Frame} {meth : Method} {c : Code} {E : wg_Ev} {ad : Nat → Nat} {S : wg_Sh} (X : wg_X p s m args meth c cX9_unlikeOn 7 RX9 E) (hr : meth.sig.returnType = (some .int)) (hS : wg_SM S) (r0 : Int32) (D0 : wg_M) (C : wg_C) (N : Nat)   (x1 : Int32) (x2 : Int32) (x3 : Int32) (x4 : Int32)  : ∀ (n : Nat) (M : wg_M) (x5 : Int32) (x6 : Int32) (o : (wg_M × Int32 × Int32)), lp (fun o => f_X9_unlikeOn_l14 N  x1 x2 x3 x4 o.1 o.2.1 o.2.2) n (M, x5, x6) = some o → (∀ (Dy : wg_M) (y5 : Int32) (y6 : Int32), o = (Dy, y5, y6) → G_X9_unlikeOn p l e s m args below meth c E ad S r0 C D0 63 C Dy [(0, .ref (ad 55)), (1, .int x1), (2, .int x2), (3, .int x3), (4, .int x4), (5, .int y5), (6, .int y6)] []) → G_X9_unlikeOn p l e s m args below meth c E ad S r0 C D0 14 C M [(0, .ref (ad 55)), (1, .int x1), (2, .int x2), (3, .int x3), (4, .int x4), (5, .int x5), (6, .int x6)] [] := by
  intro n
  induction n with
  | zero => exact fun _ _ _ o h => (lp_zero h).elim
  | succ n ih =>
    intro M x5 x6 o h K
    obtain ⟨o1, hb, h2⟩ := lp_some h
    replace hb : f_X9_unlikeOn_l14 N  x1 x2 x3 x4 M x5 x6 = some o1 := hb
    clear h
    have Kc : ∀ (Dy : wg_M) (y5 : Int32) (y6 : Int32), o1 = Sum.inl (Dy, y5, y6) → G_X9_unlikeOn p l e s m args below meth c E ad S r0 C D0 14 C Dy [(0, .ref (ad 55)), (1, .int x1), (2, .int x2), (3, .int x3), (4, .int x4), (5, .int y5), (6, .int y6)] [] := fun Dy y5 y6 e1 => by
      subst e1
      exact ih Dy y5 y6 o h2 K
    have Ke : ∀ (Dy : wg_M) (y5 : Int32) (y6 : Int32), o1 = Sum.inr ((Dy, y5, y6)) → G_X9_unlikeOn p l e s m args below meth c E ad S r0 C D0 63 C Dy [(0, .ref (ad 55)), (1, .int x1), (2, .int x2), (3, .int x3), (4, .int x4), (5, .int y5), (6, .int y6)] [] := fun Dy y5 y6 e1 => by
      subst e1
      exact K Dy y5 y6 (sm_inj (α := (wg_M × Int32 × Int32)) h2).symm
    clear ih K h2
    unfold f_X9_unlikeOn_l14 at hb
    have h := hb
    clear hb
    refine wg_iload X 6 dX9_unlikeOn_14 rfl ?_
    refine wg_bipush (v := 19) X dX9_unlikeOn_16 (by decide) ?_
    refine wg_icmp_ge X 63 dX9_unlikeOn_18 (by decide) (fun c4 => ?_) (fun c4 => ?_)
    · have h := if_t c4 h
      exact Ke M x5 x6 (sm_inj h).symm
    · have h := if_f c4 h
      refine wg_iload_n X 3 dX9_unlikeOn_21 rfl rfl ?_
      refine wg_iload X 6 dX9_unlikeOn_22 rfl ?_
      refine wg_ishr X dX9_unlikeOn_24 ?_
      refine wg_iconst (v := 1) X dX9_unlikeOn_25 (by decide) ?_
      refine wg_iand X dX9_unlikeOn_26 ?_
      refine wg_iconst (v := 1) X dX9_unlikeOn_27 (by decide) ?_
      refine wg_icmp_ne X 57 dX9_unlikeOn_28 (by decide) (fun c5 => ?_) (fun c5 => ?_)
      · have h := if_f c5 h
        obtain ⟨v6, e7, h⟩ := lt_some h
        refine wg_iinc (lv' := [(6, .int v6), (0, .ref (ad 55)), (1, .int x1), (2, .int x2), (3, .int x3), (4, .int x4), (5, .int x5)]) X 6 dX9_unlikeOn_57 rfl e7 (by decide) rfl ?_
        refine wg_goto X 14 dX9_unlikeOn_60 (by decide) ?_
        refine wg_pick [1, 2, 3, 4, 5, 6, 0] (lv' := [(0, .ref (ad 55)), (1, .int x1), (2, .int x2), (3, .int x3), (4, .int x4), (5, .int x5), (6, .int v6)]) rfl ?_
        exact Kc M x5 v6 (sm_inj h).symm
      · have h := if_t c5 h
        refine wg_aload_n X 0 dX9_unlikeOn_31 rfl rfl ?_
        refine wg_getR (b := 62) X cl9 (SMi hS 55 9 rfl) 10 (by decide) dX9_unlikeOn_32 k_892 rfl (SMr hS 10 62 rfl) ?_
        refine wg_iload_n X 1 dX9_unlikeOn_35 rfl rfl ?_
        refine wg_iload X 6 dX9_unlikeOn_36 rfl ?_
        refine wg_bipush (v := 9) X dX9_unlikeOn_38 (by decide) ?_
        refine wg_isub X dX9_unlikeOn_40 ?_
        obtain ⟨z8, h⟩ := ck_some h
        obtain ⟨M9, e10, h⟩ := lt_some h
        refine wg_maste X (SMi hS 62 11 rfl) (SMl hS 62 8 rfl) z8 dX9_unlikeOn_41 e10 ?_
        refine wg_iload X 5 dX9_unlikeOn_42 rfl ?_
        refine wg_iconst (v := 1) X dX9_unlikeOn_44 (by decide) ?_
        refine wg_aload_n X 0 dX9_unlikeOn_45 rfl rfl ?_
        refine wg_iload_n X 1 dX9_unlikeOn_46 rfl rfl ?_
        refine wg_iload_n X 2 dX9_unlikeOn_47 rfl rfl ?_
        obtain ⟨r12, h11, h⟩ := bd_some h
        refine wg_callVi (As := [.int x1, .int x2]) (rest := [.int (1 : Int32), .int x5]) X (c_X9_shows l E ad S hS C M9 x1 x2  h11) T_yX9_shows k_1225 cl9 (SMi hS 55 9 rfl) dX9_unlikeOn_48 rfl rfl (Nat.le_of_ble_eq_true rfl) ⟨Nat.le_of_ble_eq_true rfl, Nat.le_of_ble_eq_true rfl⟩ ⟨Nat.zero_le _, Nat.zero_le _⟩ ?_
        refine wg_iconst (v := 1) X dX9_unlikeOn_51 (by decide) ?_
        refine wg_iadd X dX9_unlikeOn_52 ?_
        refine wg_ishl X dX9_unlikeOn_53 ?_
        refine wg_ior X dX9_unlikeOn_54 ?_
        obtain ⟨v13, e14, h⟩ := lt_some h
        refine wg_istore (lv' := [(5, .int v13), (0, .ref (ad 55)), (1, .int x1), (2, .int x2), (3, .int x3), (4, .int x4), (6, .int x6)]) X dX9_unlikeOn_55 e14 (by decide) rfl ?_
        obtain ⟨v15, e16, h⟩ := lt_some h
        refine wg_iinc (lv' := [(6, .int v15), (5, .int v13), (0, .ref (ad 55)), (1, .int x1), (2, .int x2), (3, .int x3), (4, .int x4)]) X 6 dX9_unlikeOn_57 rfl e16 (by decide) rfl ?_
        refine wg_goto X 14 dX9_unlikeOn_60 (by decide) ?_
        refine wg_pick [2, 3, 4, 5, 6, 1, 0] (lv' := [(0, .ref (ad 55)), (1, .int x1), (2, .int x2), (3, .int x3), (4, .int x4), (5, .int v13), (6, .int v15)]) rfl ?_
        exact Kc M9 v13 v15 (sm_inj h).symm
set_option maxHeartbeats 4000000 in
set_option maxRecDepth 100000 in
theorem c_X9_unlikeOn (l : Launch) (E : wg_Ev) (ad : Nat → Nat) (S : wg_Sh) (hS : wg_SM S) (N : Nat) (C : wg_C) (M : wg_M) (p1 : Int32) (p2 : Int32) (p3 : Int32)  {r0 : Int32} {D0 : wg_M} (h : f_X9_unlikeOn N M p1 p2 p3 = some (r0, D0)) : wg_Ci l yX9_unlikeOn cX9_unlikeOn 7 (some .int) 4 91 E ad S C M [.ref (ad 55), .int p1, .int p2, .int p3] r0 C D0 := by
  refine wg_start (own := RX9) (by decide +kernel) rfl (Nat.le_of_ble_eq_true rfl) ?_
  intro p e s m below meth c X hr hnm
  refine wg_lv (lv' := [(0, .ref (ad 55)), (1, .int p1), (2, .int p2), (3, .int p3)]) rfl ?_
  unfold f_X9_unlikeOn at h
  refine wg_aload_n X 0 dX9_unlikeOn_0 rfl rfl ?_
  refine wg_getR (b := 62) X cl9 (SMi hS 55 9 rfl) 10 (by decide) dX9_unlikeOn_1 k_892 rfl (SMr hS 10 62 rfl) ?_
  refine wg_iload_n X 1 dX9_unlikeOn_4 rfl rfl ?_
  obtain ⟨z1, h⟩ := ck_some h
  refine wg_mald X (SMi hS 62 11 rfl) (SMl hS 62 8 rfl) z1 dX9_unlikeOn_5 ?_
  obtain ⟨v2, e3, h⟩ := lt_some h
  refine wg_istore (lv' := [(4, .int v2), (0, .ref (ad 55)), (1, .int p1), (2, .int p2), (3, .int p3)]) X dX9_unlikeOn_6 e3 (by decide) rfl ?_
  refine wg_iconst (v := 0) X dX9_unlikeOn_8 (by decide) ?_
  refine wg_istore (lv' := [(5, .int (0 : Int32)), (4, .int v2), (0, .ref (ad 55)), (1, .int p1), (2, .int p2), (3, .int p3)]) X dX9_unlikeOn_9 rfl (by decide) rfl ?_
  refine wg_iconst (v := 0) X dX9_unlikeOn_11 (by decide) ?_
  refine wg_istore (lv' := [(6, .int (0 : Int32)), (5, .int (0 : Int32)), (4, .int v2), (0, .ref (ad 55)), (1, .int p1), (2, .int p2), (3, .int p3)]) X dX9_unlikeOn_12 rfl (by decide) rfl ?_
  obtain ⟨o20, h21, h⟩ := bd3_o h
  refine wg_pick [3, 4, 5, 6, 2, 1, 0] (lv' := [(0, .ref (ad 55)), (1, .int p1), (2, .int p2), (3, .int p3), (4, .int v2), (5, .int (0 : Int32)), (6, .int (0 : Int32))]) rfl ?_
  refine L_X9_unlikeOn_l14 X hr hS r0 D0 C N   p1 p2 p3 v2  N M (0 : Int32) (0 : Int32) o20 h21 (fun M17 v18 v19 e23 => ?_)
  · subst e23
    replace h := bd3_in h
    refine wg_aload_n X 0 dX9_unlikeOn_63 rfl rfl ?_
    refine wg_getR (b := 62) X cl9 (SMi hS 55 9 rfl) 10 (by decide) dX9_unlikeOn_64 k_892 rfl (SMr hS 10 62 rfl) ?_
    refine wg_iload_n X 1 dX9_unlikeOn_67 rfl rfl ?_
    refine wg_iload X 4 dX9_unlikeOn_68 rfl ?_
    obtain ⟨z24, h⟩ := ck_some h
    obtain ⟨M25, e26, h⟩ := lt_some h
    refine wg_maste X (SMi hS 62 11 rfl) (SMl hS 62 8 rfl) z24 dX9_unlikeOn_70 e26 ?_
    refine wg_iload X 5 dX9_unlikeOn_71 rfl ?_
    obtain ⟨r28, h27, h⟩ := bd_some h
    refine wg_callSi (As := [.int v18]) (rest := []) X (c_X9_bitsOf l E ad S N C M25 v18  h27) T_yX9_bitsOf k_1206 dX9_unlikeOn_73 rfl rfl (Nat.le_of_ble_eq_true rfl) ⟨Nat.le_of_ble_eq_true rfl, Nat.le_of_ble_eq_true rfl⟩ ⟨Nat.zero_le _, Nat.zero_le _⟩ ?_
    exact wg_iret X ⟨congrArg Prod.fst (sm_inj h), rfl, congrArg Prod.snd (sm_inj h)⟩ hr dX9_unlikeOn_76
-- WindowsGiveModel.lookNext(IIII)I (('c', 55), 'i', 'i', 'i', 'i')
def f_X9_lookNext_l49 (N : Nat)  (x2 : Int32) (x4 : Int32) (x6 : Int32) (M : wg_M) (x7 : Int32) (x8 : Int32) (x9 : Int32) : Option ((wg_M × Int32 × Int32 × Int32) ⊕ (wg_M × Int32 × Int32 × Int32)) :=
  if (32 : Int32) ≤ x9 then (
    some (.inr (M, x7, x8, x9)))
  else (
    bd2 (f_X9_unlikeOn N M x2 x9 x6) fun r12 M13 =>
    if r12 ≤ x8 then (
      lt_ (x9 + (1 : Int32)) fun v15 =>
      some (.inl (M13, x7, x8, v15)))
    else (
      lt_ (x9 + (1 : Int32)) fun v17 =>
      some (.inl (M13, x9, r12, v17))))
def f_X9_lookNext (N : Nat) (M : wg_M) (p1 : Int32) (p2 : Int32) (p3 : Int32) (p4 : Int32) : Option (Int32 × wg_M) :=
  bd (f_X9_in p4.toInt64 (0 : Int64) (1 : Int64)) fun r2 =>
  if r2 = 0 then (
    some ((-2 : Int32), M))
  else (
    bd (f_X9_seenBad M p1 p2 p3) fun r5 =>
    if r5 = 0 then (
      bd2 (f_X9_shiftsOf N M p1 p2 p3) fun r8 M9 =>
      bd4 (lp (fun o => f_X9_lookNext_l49 N  p2 p4 r8 o.1 o.2.1 o.2.2.1 o.2.2.2) N (M9, (0 : Int32), (0 : Int32), (0 : Int32))) fun M19 v20 v21 v22 =>
      if p4 = 0 then (
        some (v20, M19))
      else (
        some (v21, M19)))
    else (
      some (r5, M)))
abbrev G_X9_lookNext (p : Program) (l : Launch) (e : Env) (s : State) (m : MethodId) (args : Array Value) (below : List Frame) (meth : Method) (c : Code) (E : wg_Ev) (ad : Nat → Nat) (S : wg_Sh) (r0 : Int32) (C0 : wg_C) (M0 : wg_M) (pc : Nat) (C : wg_C) (M : wg_M) (lv : List (Nat × Value)) (st : List Value) : Prop := wg_G p l e (wg_Rm 6 141) s m args below meth c (MQ below (wg_Qi E ad S r0 C0 M0) args s 0 0 (wg_A E)) 11 E ad S 0 0 pc C M lv st
set_option maxHeartbeats 4000000 in
set_option maxRecDepth 100000 in
theorem L_X9_lookNext_l49 {p : Program} {l : Launch} {e : Env} {s : State} {m : MethodId} {args : Array Value} {below : List Frame} {meth : Method} {c : Code} {E : wg_Ev} {ad : Nat → Nat} {S : wg_Sh} (X : wg_X p s m args meth c cX9_lookNext 11 RX9 E) (hr : meth.sig.returnType = (some .int)) (hS : wg_SM S) (r0 : Int32) (D0 : wg_M) (C : wg_C) (N : Nat)   (x2 : Int32) (x4 : Int32) (x6 : Int32)  : ∀ (n : Nat) (M : wg_M) (x7 : Int32) (x8 : Int32) (x9 : Int32) (o : (wg_M × Int32 × Int32 × Int32)), lp (fun o => f_X9_lookNext_l49 N  x2 x4 x6 o.1 o.2.1 o.2.2.1 o.2.2.2) n (M, x7, x8, x9) = some o → (∀ (Dy : wg_M) (y7 : Int32) (y8 : Int32) (y9 : Int32), o = (Dy, y7, y8, y9) → G_X9_lookNext p l e s m args below meth c E ad S r0 C D0 88 C Dy [(0, .ref (ad 55)), (2, .int x2), (4, .int x4), (6, .int x6), (7, .int y7), (8, .int y8), (9, .int y9)] []) → G_X9_lookNext p l e s m args below meth c E ad S r0 C D0 49 C M [(0, .ref (ad 55)), (2, .int x2), (4, .int x4), (6, .int x6), (7, .int x7), (8, .int x8), (9, .int x9)] [] := by
  intro n
  induction n with
  | zero => exact fun _ _ _ _ o h => (lp_zero h).elim
  | succ n ih =>
    intro M x7 x8 x9 o h K
    obtain ⟨o1, hb, h2⟩ := lp_some h
    replace hb : f_X9_lookNext_l49 N  x2 x4 x6 M x7 x8 x9 = some o1 := hb
    clear h
    have Kc : ∀ (Dy : wg_M) (y7 : Int32) (y8 : Int32) (y9 : Int32), o1 = Sum.inl (Dy, y7, y8, y9) → G_X9_lookNext p l e s m args below meth c E ad S r0 C D0 49 C Dy [(0, .ref (ad 55)), (2, .int x2), (4, .int x4), (6, .int x6), (7, .int y7), (8, .int y8), (9, .int y9)] [] := fun Dy y7 y8 y9 e1 => by
      subst e1
      exact ih Dy y7 y8 y9 o h2 K
    have Ke : ∀ (Dy : wg_M) (y7 : Int32) (y8 : Int32) (y9 : Int32), o1 = Sum.inr ((Dy, y7, y8, y9)) → G_X9_lookNext p l e s m args below meth c E ad S r0 C D0 88 C Dy [(0, .ref (ad 55)), (2, .int x2), (4, .int x4), (6, .int x6), (7, .int y7), (8, .int y8), (9, .int y9)] [] := fun Dy y7 y8 y9 e1 => by
      subst e1
      exact K Dy y7 y8 y9 (sm_inj (α := (wg_M × Int32 × Int32 × Int32)) h2).symm
    clear ih K h2
    unfold f_X9_lookNext_l49 at hb
    have h := hb
    clear hb
    refine wg_iload X 6 dX9_lookNext_49 rfl ?_
    refine wg_bipush (v := 32) X dX9_lookNext_51 (by decide) ?_
    refine wg_icmp_ge X 88 dX9_lookNext_53 (by decide) (fun c10 => ?_) (fun c10 => ?_)
    · have h := if_t c10 h
      exact Ke M x7 x8 x9 (sm_inj h).symm
    · have h := if_f c10 h
      refine wg_aload_n X 0 dX9_lookNext_56 rfl rfl ?_
      refine wg_iload_n X 1 dX9_lookNext_57 rfl rfl ?_
      refine wg_iload X 6 dX9_lookNext_58 rfl ?_
      refine wg_iload X 3 dX9_lookNext_60 rfl ?_
      obtain ⟨r12, M13, h11, h⟩ := bd2_some h
      refine wg_callVi (As := [.int x2, .int x9, .int x6]) (rest := []) X (c_X9_unlikeOn l E ad S hS N C M x2 x9 x6  h11) T_yX9_unlikeOn k_1237 cl9 (SMi hS 55 9 rfl) dX9_lookNext_62 rfl rfl (Nat.le_of_ble_eq_true rfl) ⟨Nat.le_of_ble_eq_true rfl, Nat.le_of_ble_eq_true rfl⟩ ⟨Nat.zero_le _, Nat.zero_le _⟩ ?_
      refine wg_istore (lv' := [(10, .int r12), (0, .ref (ad 55)), (2, .int x2), (4, .int x4), (6, .int x6), (7, .int x7), (8, .int x8), (9, .int x9)]) X dX9_lookNext_65 rfl (by decide) rfl ?_
      refine wg_iload X 0 dX9_lookNext_67 rfl ?_
      refine wg_iload X 6 dX9_lookNext_69 rfl ?_
      refine wg_icmp_le X 82 dX9_lookNext_71 (by decide) (fun c14 => ?_) (fun c14 => ?_)
      · have h := if_t c14 h
        obtain ⟨v15, e16, h⟩ := lt_some h
        refine wg_iinc (lv' := [(9, .int v15), (10, .int r12), (0, .ref (ad 55)), (2, .int x2), (4, .int x4), (6, .int x6), (7, .int x7), (8, .int x8)]) X 7 dX9_lookNext_82 rfl e16 (by decide) rfl ?_
        refine wg_goto X 49 dX9_lookNext_85 (by decide) ?_
        refine wg_pick [2, 3, 4, 5, 6, 7, 0] (lv' := [(0, .ref (ad 55)), (2, .int x2), (4, .int x4), (6, .int x6), (7, .int x7), (8, .int x8), (9, .int v15)]) rfl ?_
        exact Kc M13 x7 x8 v15 (sm_inj h).symm
      · have h := if_f c14 h
        refine wg_iload X 7 dX9_lookNext_74 rfl ?_
        refine wg_istore (lv' := [(7, .int x9), (10, .int r12), (0, .ref (ad 55)), (2, .int x2), (4, .int x4), (6, .int x6), (8, .int x8), (9, .int x9)]) X dX9_lookNext_76 rfl (by decide) rfl ?_
        refine wg_iload X 1 dX9_lookNext_78 rfl ?_
        refine wg_istore (lv' := [(8, .int r12), (7, .int x9), (10, .int r12), (0, .ref (ad 55)), (2, .int x2), (4, .int x4), (6, .int x6), (9, .int x9)]) X dX9_lookNext_80 rfl (by decide) rfl ?_
        obtain ⟨v17, e18, h⟩ := lt_some h
        refine wg_iinc (lv' := [(9, .int v17), (8, .int r12), (7, .int x9), (10, .int r12), (0, .ref (ad 55)), (2, .int x2), (4, .int x4), (6, .int x6)]) X 7 dX9_lookNext_82 rfl e18 (by decide) rfl ?_
        refine wg_goto X 49 dX9_lookNext_85 (by decide) ?_
        refine wg_pick [4, 5, 6, 7, 2, 1, 0] (lv' := [(0, .ref (ad 55)), (2, .int x2), (4, .int x4), (6, .int x6), (7, .int x9), (8, .int r12), (9, .int v17)]) rfl ?_
        exact Kc M13 x9 r12 v17 (sm_inj h).symm
set_option maxHeartbeats 4000000 in
set_option maxRecDepth 100000 in
theorem c_X9_lookNext (l : Launch) (E : wg_Ev) (ad : Nat → Nat) (S : wg_Sh) (hS : wg_SM S) (N : Nat) (C : wg_C) (M : wg_M) (p1 : Int32) (p2 : Int32) (p3 : Int32) (p4 : Int32)  {r0 : Int32} {D0 : wg_M} (h : f_X9_lookNext N M p1 p2 p3 p4 = some (r0, D0)) : wg_Ci l yX9_lookNext cX9_lookNext 11 (some .int) 6 141 E ad S C M [.ref (ad 55), .int p1, .int p2, .int p3, .int p4] r0 C D0 := by
  refine wg_start (own := RX9) (by decide +kernel) rfl (Nat.le_of_ble_eq_true rfl) ?_
  intro p e s m below meth c X hr hnm
  refine wg_lv (lv' := [(0, .ref (ad 55)), (1, .int p1), (2, .int p2), (3, .int p3), (4, .int p4)]) rfl ?_
  unfold f_X9_lookNext at h
  refine wg_iload X 4 dX9_lookNext_0 rfl ?_
  refine wg_i2l X dX9_lookNext_2 ?_
  refine wg_lconst (v := 0) X dX9_lookNext_3 (by decide) ?_
  refine wg_lconst (v := 1) X dX9_lookNext_4 (by decide) ?_
  obtain ⟨r2, h1, h⟩ := bd_some h
  refine wg_callSi (As := [.long (p4.toInt64), .long (0 : Int64), .long (1 : Int64)]) (rest := []) X (c_X9_in l E ad S C M p4.toInt64 (0 : Int64) (1 : Int64)  h1) T_yX9_in k_1021 dX9_lookNext_5 rfl rfl (Nat.le_of_ble_eq_true rfl) ⟨Nat.le_of_ble_eq_true rfl, Nat.le_of_ble_eq_true rfl⟩ ⟨Nat.zero_le _, Nat.zero_le _⟩ ?_
  refine wg_if_ne X 14 dX9_lookNext_8 (by decide) (fun c3 => ?_) (fun c3 => ?_)
  · have h := if_f c3 h
    refine wg_aload_n X 0 dX9_lookNext_14 rfl rfl ?_
    refine wg_iload_n X 1 dX9_lookNext_15 rfl rfl ?_
    refine wg_iload_n X 2 dX9_lookNext_16 rfl rfl ?_
    refine wg_iload_n X 3 dX9_lookNext_17 rfl rfl ?_
    obtain ⟨r5, h4, h⟩ := bd_some h
    refine wg_callVi (As := [.int p1, .int p2, .int p3]) (rest := []) X (c_X9_seenBad l E ad S hS C M p1 p2 p3  h4) T_yX9_seenBad k_1213 cl9 (SMi hS 55 9 rfl) dX9_lookNext_18 rfl rfl (Nat.le_of_ble_eq_true rfl) ⟨Nat.le_of_ble_eq_true rfl, Nat.le_of_ble_eq_true rfl⟩ ⟨Nat.zero_le _, Nat.zero_le _⟩ ?_
    refine wg_istore (lv' := [(5, .int r5), (0, .ref (ad 55)), (1, .int p1), (2, .int p2), (3, .int p3), (4, .int p4)]) X dX9_lookNext_21 rfl (by decide) rfl ?_
    refine wg_iload X 0 dX9_lookNext_23 rfl ?_
    refine wg_if_eq X 31 dX9_lookNext_25 (by decide) (fun c6 => ?_) (fun c6 => ?_)
    · have h := if_t c6 h
      refine wg_aload_n X 1 dX9_lookNext_31 rfl rfl ?_
      refine wg_iload_n X 2 dX9_lookNext_32 rfl rfl ?_
      refine wg_iload_n X 3 dX9_lookNext_33 rfl rfl ?_
      refine wg_iload_n X 4 dX9_lookNext_34 rfl rfl ?_
      obtain ⟨r8, M9, h7, h⟩ := bd2_some h
      refine wg_callVi (As := [.int p1, .int p2, .int p3]) (rest := []) X (c_X9_shiftsOf l E ad S hS N C M p1 p2 p3  h7) T_yX9_shiftsOf k_1229 cl9 (SMi hS 55 9 rfl) dX9_lookNext_35 rfl rfl (Nat.le_of_ble_eq_true rfl) ⟨Nat.le_of_ble_eq_true rfl, Nat.le_of_ble_eq_true rfl⟩ ⟨Nat.zero_le _, Nat.zero_le _⟩ ?_
      refine wg_istore (lv' := [(6, .int r8), (5, .int r5), (0, .ref (ad 55)), (1, .int p1), (2, .int p2), (3, .int p3), (4, .int p4)]) X dX9_lookNext_38 rfl (by decide) rfl ?_
      refine wg_iconst (v := 0) X dX9_lookNext_40 (by decide) ?_
      refine wg_istore (lv' := [(7, .int (0 : Int32)), (6, .int r8), (5, .int r5), (0, .ref (ad 55)), (1, .int p1), (2, .int p2), (3, .int p3), (4, .int p4)]) X dX9_lookNext_41 rfl (by decide) rfl ?_
      refine wg_iconst (v := 0) X dX9_lookNext_43 (by decide) ?_
      refine wg_istore (lv' := [(8, .int (0 : Int32)), (7, .int (0 : Int32)), (6, .int r8), (5, .int r5), (0, .ref (ad 55)), (1, .int p1), (2, .int p2), (3, .int p3), (4, .int p4)]) X dX9_lookNext_44 rfl (by decide) rfl ?_
      refine wg_iconst (v := 0) X dX9_lookNext_46 (by decide) ?_
      refine wg_istore (lv' := [(9, .int (0 : Int32)), (8, .int (0 : Int32)), (7, .int (0 : Int32)), (6, .int r8), (5, .int r5), (0, .ref (ad 55)), (1, .int p1), (2, .int p2), (3, .int p3), (4, .int p4)]) X dX9_lookNext_47 rfl (by decide) rfl ?_
      obtain ⟨o23, h24, h⟩ := bd4_o h
      refine wg_pick [5, 7, 9, 3, 2, 1, 0] (lv' := [(0, .ref (ad 55)), (2, .int p2), (4, .int p4), (6, .int r8), (7, .int (0 : Int32)), (8, .int (0 : Int32)), (9, .int (0 : Int32))]) rfl ?_
      refine L_X9_lookNext_l49 X hr hS r0 D0 C N   p2 p4 r8  N M9 (0 : Int32) (0 : Int32) (0 : Int32) o23 h24 (fun M19 v20 v21 v22 e26 => ?_)
      · subst e26
        replace h := bd4_in h
        refine wg_iload X 2 dX9_lookNext_88 rfl ?_
        refine wg_if_ne X 98 dX9_lookNext_90 (by decide) (fun c27 => ?_) (fun c27 => ?_)
        · have h := if_f c27 h
          refine wg_iload X 5 dX9_lookNext_98 rfl ?_
          exact wg_iret X ⟨congrArg Prod.fst (sm_inj h), rfl, congrArg Prod.snd (sm_inj h)⟩ hr dX9_lookNext_100
        · have h := if_t c27 h
          refine wg_iload X 4 dX9_lookNext_93 rfl ?_
          refine wg_goto X 100 dX9_lookNext_95 (by decide) ?_
          exact wg_iret X ⟨congrArg Prod.fst (sm_inj h), rfl, congrArg Prod.snd (sm_inj h)⟩ hr dX9_lookNext_100
    · have h := if_f c6 h
      refine wg_iload X 0 dX9_lookNext_28 rfl ?_
      exact wg_iret X ⟨congrArg Prod.fst (sm_inj h), rfl, congrArg Prod.snd (sm_inj h)⟩ hr dX9_lookNext_30
  · have h := if_t c3 h
    refine wg_bipush (v := -2) X dX9_lookNext_11 (by decide) ?_
    exact wg_iret X ⟨congrArg Prod.fst (sm_inj h), rfl, congrArg Prod.snd (sm_inj h)⟩ hr dX9_lookNext_13
-- WindowsGiveModel.sheet(III)I (('c', 55), 'i', 'i', 'i')
def f_X9_sheet_l77 (N : Nat)  (x1 : Int32) (x2 : Int32) (x3 : Int32) (M : wg_M) (x4 : Int32) : Option ((wg_M × Int32) ⊕ (wg_M × Int32)) :=
  if x3 ≤ x4 then (
    some (.inr (M, x4)))
  else (
    if x2 < 0 then (
      some (.inr (M, x4)))
    else (
      ck (inb (((40 : Int32) * x1) + x4) 160) <|
      lt_ (wg_sM M 74 (((40 : Int32) * x1) + x4).toNatClampNeg (0 : Int32)) fun M22 =>
      lt_ (x4 + (1 : Int32)) fun v24 =>
      some (.inl (M22, v24))))
def f_X9_sheet_j59 (N : Nat) (M : wg_M)  (x1 : Int32) (x2 : Int32) (x3 : Int32) (s0 : Int32) (s1 : Int32) : Option (Int32 × wg_M) :=
  ck (inb s1 4) <|
  lt_ (wg_sM M 71 s1.toNatClampNeg (vp_nar .boolean s0)) fun M11 =>
  ck (inb x1 4) <|
  lt_ (wg_sM M11 72 x1.toNatClampNeg x2) fun M14 =>
  ck (inb x1 4) <|
  lt_ (wg_sM M14 73 x1.toNatClampNeg x3) fun M17 =>
  bd2 (lp (fun o => f_X9_sheet_l77 N  x1 x2 x3 o.1 o.2) N (M17, (0 : Int32))) fun M26 v27 =>
  some ((1 : Int32), M26)
def f_X9_sheet_j45 (N : Nat) (M : wg_M)  (x1 : Int32) (x2 : Int32) (x3 : Int32) : Option (Int32 × wg_M) :=
  if x2 < 0 then (
    f_X9_sheet_j59 N M  x1 x2 x3 (0 : Int32) x1)
  else (
    f_X9_sheet_j59 N M  x1 x2 x3 (1 : Int32) x1)
def f_X9_sheet_j34 (N : Nat) (M : wg_M)  (x1 : Int32) (x2 : Int32) (x3 : Int32) : Option (Int32 × wg_M) :=
  if x2 < 0 then (
    f_X9_sheet_j45 N M  x1 x2 x3)
  else (
    if 0 ≤ x3 then (
      f_X9_sheet_j45 N M  x1 x2 x3)
    else (
      some ((-14 : Int32), M)))
def f_X9_sheet (N : Nat) (M : wg_M) (p1 : Int32) (p2 : Int32) (p3 : Int32) : Option (Int32 × wg_M) :=
  bd (f_X9_isSheet p1) fun r2 =>
  if r2 = 0 then (
    some ((-2 : Int32), M))
  else (
    bd (f_X9_in p2.toInt64 (-1 : Int64) (2 : Int64)) fun r5 =>
    if r5 = 0 then (
      some ((-2 : Int32), M))
    else (
      if p2 < 0 then (
        f_X9_sheet_j34 N M  p1 p2 p3)
      else (
        if p3 ≤ (40 : Int32) then (
          f_X9_sheet_j34 N M  p1 p2 p3)
        else (
          some ((-2 : Int32), M)))))
abbrev G_X9_sheet (p : Program) (l : Launch) (e : Env) (s : State) (m : MethodId) (args : Array Value) (below : List Frame) (meth : Method) (c : Code) (E : wg_Ev) (ad : Nat → Nat) (S : wg_Sh) (r0 : Int32) (C0 : wg_C) (M0 : wg_M) (pc : Nat) (C : wg_C) (M : wg_M) (lv : List (Nat × Value)) (st : List Value) : Prop := wg_G p l e (wg_Rm 2 45) s m args below meth c (MQ below (wg_Qi E ad S r0 C0 M0) args s 0 0 (wg_A E)) 5 E ad S 0 0 pc C M lv st
set_option maxHeartbeats 4000000 in
set_option maxRecDepth 100000 in
theorem L_X9_sheet_l77 {p : Program} {l : Launch} {e : Env} {s : State} {m : MethodId} {args : Array Value} {below : List Frame} {meth : Method} {c : Code} {E : wg_Ev} {ad : Nat → Nat} {S : wg_Sh} (X : wg_X p s m args meth c cX9_sheet 5 RX9 E) (hr : meth.sig.returnType = (some .int)) (hS : wg_SM S) (r0 : Int32) (D0 : wg_M) (C : wg_C) (N : Nat)   (x1 : Int32) (x2 : Int32) (x3 : Int32)  : ∀ (n : Nat) (M : wg_M) (x4 : Int32) (o : (wg_M × Int32)), lp (fun o => f_X9_sheet_l77 N  x1 x2 x3 o.1 o.2) n (M, x4) = some o → (∀ (Dy : wg_M) (y4 : Int32), o = (Dy, y4) → G_X9_sheet p l e s m args below meth c E ad S r0 C D0 106 C Dy [(0, .ref (ad 55)), (1, .int x1), (2, .int x2), (3, .int x3), (4, .int y4)] []) → G_X9_sheet p l e s m args below meth c E ad S r0 C D0 77 C M [(0, .ref (ad 55)), (1, .int x1), (2, .int x2), (3, .int x3), (4, .int x4)] [] := by
  intro n
  induction n with
  | zero => exact fun _ _ o h => (lp_zero h).elim
  | succ n ih =>
    intro M x4 o h K
    obtain ⟨o1, hb, h2⟩ := lp_some h
    replace hb : f_X9_sheet_l77 N  x1 x2 x3 M x4 = some o1 := hb
    clear h
    have Kc : ∀ (Dy : wg_M) (y4 : Int32), o1 = Sum.inl (Dy, y4) → G_X9_sheet p l e s m args below meth c E ad S r0 C D0 77 C Dy [(0, .ref (ad 55)), (1, .int x1), (2, .int x2), (3, .int x3), (4, .int y4)] [] := fun Dy y4 e1 => by
      subst e1
      exact ih Dy y4 o h2 K
    have Ke : ∀ (Dy : wg_M) (y4 : Int32), o1 = Sum.inr ((Dy, y4)) → G_X9_sheet p l e s m args below meth c E ad S r0 C D0 106 C Dy [(0, .ref (ad 55)), (1, .int x1), (2, .int x2), (3, .int x3), (4, .int y4)] [] := fun Dy y4 e1 => by
      subst e1
      exact K Dy y4 (sm_inj (α := (wg_M × Int32)) h2).symm
    clear ih K h2
    unfold f_X9_sheet_l77 at hb
    have h := hb
    clear hb
    refine wg_iload X 4 dX9_sheet_77 rfl ?_
    refine wg_iload_n X 3 dX9_sheet_79 rfl rfl ?_
    refine wg_icmp_ge X 106 dX9_sheet_80 (by decide) (fun c19 => ?_) (fun c19 => ?_)
    · have h := if_t c19 h
      exact Ke M x4 (sm_inj h).symm
    · have h := if_f c19 h
      refine wg_iload_n X 2 dX9_sheet_83 rfl rfl ?_
      refine wg_if_lt X 106 dX9_sheet_84 (by decide) (fun c20 => ?_) (fun c20 => ?_)
      · have h := if_t c20 h
        exact Ke M x4 (sm_inj h).symm
      · have h := if_f c20 h
        refine wg_aload_n X 0 dX9_sheet_87 rfl rfl ?_
        refine wg_getR (b := 74) X cl9 (SMi hS 55 9 rfl) 43 (by decide) dX9_sheet_88 k_925 rfl (SMr hS 43 74 rfl) ?_
        refine wg_bipush (v := 40) X dX9_sheet_91 (by decide) ?_
        refine wg_iload_n X 1 dX9_sheet_93 rfl rfl ?_
        refine wg_imul X dX9_sheet_94 ?_
        refine wg_iload X 4 dX9_sheet_95 rfl ?_
        refine wg_iadd X dX9_sheet_97 ?_
        refine wg_iconst (v := 0) X dX9_sheet_98 (by decide) ?_
        obtain ⟨z21, h⟩ := ck_some h
        obtain ⟨M22, e23, h⟩ := lt_some h
        refine wg_maste X (SMi hS 74 11 rfl) (SMl hS 74 160 rfl) z21 dX9_sheet_99 e23 ?_
        obtain ⟨v24, e25, h⟩ := lt_some h
        refine wg_iinc (lv' := [(4, .int v24), (0, .ref (ad 55)), (1, .int x1), (2, .int x2), (3, .int x3)]) X 4 dX9_sheet_100 rfl e25 (by decide) rfl ?_
        refine wg_goto X 77 dX9_sheet_103 (by decide) ?_
        refine wg_pick [1, 2, 3, 4, 0] (lv' := [(0, .ref (ad 55)), (1, .int x1), (2, .int x2), (3, .int x3), (4, .int v24)]) rfl ?_
        exact Kc M22 v24 (sm_inj h).symm
set_option maxHeartbeats 4000000 in
set_option maxRecDepth 100000 in
theorem J_X9_sheet_j59 {p : Program} {l : Launch} {e : Env} {s : State} {m : MethodId} {args : Array Value} {below : List Frame} {meth : Method} {c : Code} {E : wg_Ev} {ad : Nat → Nat} {S : wg_Sh} (X : wg_X p s m args meth c cX9_sheet 5 RX9 E) (hr : meth.sig.returnType = (some .int)) (hS : wg_SM S) (r0 : Int32) (D0 : wg_M) (C : wg_C) (N : Nat)  (M : wg_M)  (x1 : Int32) (x2 : Int32) (x3 : Int32) (s0 : Int32) (s1 : Int32)   (h : f_X9_sheet_j59 N M  x1 x2 x3 s0 s1 = some (r0, D0)) : G_X9_sheet p l e s m args below meth c E ad S r0 C D0 59 C M [(0, .ref (ad 55)), (1, .int x1), (2, .int x2), (3, .int x3)] [.int s0, .int s1, .ref (ad 71)] := by
  unfold f_X9_sheet_j59 at h
  obtain ⟨z10, h⟩ := ck_some h
  obtain ⟨M11, e12, h⟩ := lt_some h
  refine wg_zaste X (SMi hS 71 12 rfl) (SMl hS 71 4 rfl) z10 dX9_sheet_59 e12 ?_
  refine wg_aload_n X 0 dX9_sheet_60 rfl rfl ?_
  refine wg_getR (b := 72) X cl9 (SMi hS 55 9 rfl) 41 (by decide) dX9_sheet_61 k_923 rfl (SMr hS 41 72 rfl) ?_
  refine wg_iload_n X 1 dX9_sheet_64 rfl rfl ?_
  refine wg_iload_n X 2 dX9_sheet_65 rfl rfl ?_
  obtain ⟨z13, h⟩ := ck_some h
  obtain ⟨M14, e15, h⟩ := lt_some h
  refine wg_maste X (SMi hS 72 11 rfl) (SMl hS 72 4 rfl) z13 dX9_sheet_66 e15 ?_
  refine wg_aload_n X 0 dX9_sheet_67 rfl rfl ?_
  refine wg_getR (b := 73) X cl9 (SMi hS 55 9 rfl) 42 (by decide) dX9_sheet_68 k_924 rfl (SMr hS 42 73 rfl) ?_
  refine wg_iload_n X 1 dX9_sheet_71 rfl rfl ?_
  refine wg_iload_n X 3 dX9_sheet_72 rfl rfl ?_
  obtain ⟨z16, h⟩ := ck_some h
  obtain ⟨M17, e18, h⟩ := lt_some h
  refine wg_maste X (SMi hS 73 11 rfl) (SMl hS 73 4 rfl) z16 dX9_sheet_73 e18 ?_
  refine wg_iconst (v := 0) X dX9_sheet_74 (by decide) ?_
  refine wg_istore (lv' := [(4, .int (0 : Int32)), (0, .ref (ad 55)), (1, .int x1), (2, .int x2), (3, .int x3)]) X dX9_sheet_75 rfl (by decide) rfl ?_
  obtain ⟨o28, h29, h⟩ := bd2_o h
  refine wg_pick [1, 2, 3, 4, 0] (lv' := [(0, .ref (ad 55)), (1, .int x1), (2, .int x2), (3, .int x3), (4, .int (0 : Int32))]) rfl ?_
  refine L_X9_sheet_l77 X hr hS r0 D0 C N   x1 x2 x3  N M17 (0 : Int32) o28 h29 (fun M26 v27 e31 => ?_)
  · subst e31
    replace h := bd2_in h
    refine wg_iconst (v := 1) X dX9_sheet_106 (by decide) ?_
    exact wg_iret X ⟨congrArg Prod.fst (sm_inj h), rfl, congrArg Prod.snd (sm_inj h)⟩ hr dX9_sheet_107
set_option maxHeartbeats 4000000 in
set_option maxRecDepth 100000 in
theorem J_X9_sheet_j45 {p : Program} {l : Launch} {e : Env} {s : State} {m : MethodId} {args : Array Value} {below : List Frame} {meth : Method} {c : Code} {E : wg_Ev} {ad : Nat → Nat} {S : wg_Sh} (X : wg_X p s m args meth c cX9_sheet 5 RX9 E) (hr : meth.sig.returnType = (some .int)) (hS : wg_SM S) (r0 : Int32) (D0 : wg_M) (C : wg_C) (N : Nat)  (M : wg_M)  (x1 : Int32) (x2 : Int32) (x3 : Int32)   (h : f_X9_sheet_j45 N M  x1 x2 x3 = some (r0, D0)) : G_X9_sheet p l e s m args below meth c E ad S r0 C D0 45 C M [(0, .ref (ad 55)), (1, .int x1), (2, .int x2), (3, .int x3)] [] := by
  unfold f_X9_sheet_j45 at h
  refine wg_aload_n X 0 dX9_sheet_45 rfl rfl ?_
  refine wg_getR (b := 71) X cl9 (SMi hS 55 9 rfl) 40 (by decide) dX9_sheet_46 k_922 rfl (SMr hS 40 71 rfl) ?_
  refine wg_iload_n X 1 dX9_sheet_49 rfl rfl ?_
  refine wg_iload_n X 2 dX9_sheet_50 rfl rfl ?_
  refine wg_if_lt X 58 dX9_sheet_51 (by decide) (fun c9 => ?_) (fun c9 => ?_)
  · have h := if_t c9 h
    refine wg_iconst (v := 0) X dX9_sheet_58 (by decide) ?_
    exact J_X9_sheet_j59 X hr hS r0 D0 C N  M  x1 x2 x3 (0 : Int32) x1   h
  · have h := if_f c9 h
    refine wg_iconst (v := 1) X dX9_sheet_54 (by decide) ?_
    refine wg_goto X 59 dX9_sheet_55 (by decide) ?_
    exact J_X9_sheet_j59 X hr hS r0 D0 C N  M  x1 x2 x3 (1 : Int32) x1   h
set_option maxHeartbeats 4000000 in
set_option maxRecDepth 100000 in
theorem J_X9_sheet_j34 {p : Program} {l : Launch} {e : Env} {s : State} {m : MethodId} {args : Array Value} {below : List Frame} {meth : Method} {c : Code} {E : wg_Ev} {ad : Nat → Nat} {S : wg_Sh} (X : wg_X p s m args meth c cX9_sheet 5 RX9 E) (hr : meth.sig.returnType = (some .int)) (hS : wg_SM S) (r0 : Int32) (D0 : wg_M) (C : wg_C) (N : Nat)  (M : wg_M)  (x1 : Int32) (x2 : Int32) (x3 : Int32)   (h : f_X9_sheet_j34 N M  x1 x2 x3 = some (r0, D0)) : G_X9_sheet p l e s m args below meth c E ad S r0 C D0 34 C M [(0, .ref (ad 55)), (1, .int x1), (2, .int x2), (3, .int x3)] [] := by
  unfold f_X9_sheet_j34 at h
  refine wg_iload_n X 2 dX9_sheet_34 rfl rfl ?_
  refine wg_if_lt X 45 dX9_sheet_35 (by decide) (fun c8 => ?_) (fun c8 => ?_)
  · have h := if_t c8 h
    exact J_X9_sheet_j45 X hr hS r0 D0 C N  M  x1 x2 x3   h
  · have h := if_f c8 h
    refine wg_iload_n X 3 dX9_sheet_38 rfl rfl ?_
    refine wg_if_ge X 45 dX9_sheet_39 (by decide) (fun c32 => ?_) (fun c32 => ?_)
    · have h := if_t c32 h
      exact J_X9_sheet_j45 X hr hS r0 D0 C N  M  x1 x2 x3   h
    · have h := if_f c32 h
      refine wg_bipush (v := -14) X dX9_sheet_42 (by decide) ?_
      exact wg_iret X ⟨congrArg Prod.fst (sm_inj h), rfl, congrArg Prod.snd (sm_inj h)⟩ hr dX9_sheet_44
set_option maxHeartbeats 4000000 in
set_option maxRecDepth 100000 in
theorem c_X9_sheet (l : Launch) (E : wg_Ev) (ad : Nat → Nat) (S : wg_Sh) (hS : wg_SM S) (N : Nat) (C : wg_C) (M : wg_M) (p1 : Int32) (p2 : Int32) (p3 : Int32)  {r0 : Int32} {D0 : wg_M} (h : f_X9_sheet N M p1 p2 p3 = some (r0, D0)) : wg_Ci l yX9_sheet cX9_sheet 5 (some .int) 2 45 E ad S C M [.ref (ad 55), .int p1, .int p2, .int p3] r0 C D0 := by
  refine wg_start (own := RX9) (by decide +kernel) rfl (Nat.le_of_ble_eq_true rfl) ?_
  intro p e s m below meth c X hr hnm
  refine wg_lv (lv' := [(0, .ref (ad 55)), (1, .int p1), (2, .int p2), (3, .int p3)]) rfl ?_
  unfold f_X9_sheet at h
  refine wg_iload_n X 1 dX9_sheet_0 rfl rfl ?_
  obtain ⟨r2, h1, h⟩ := bd_some h
  refine wg_callSi (As := [.int p1]) (rest := []) X (c_X9_isSheet l E ad S C M p1  h1) T_yX9_isSheet k_1217 dX9_sheet_1 rfl rfl (Nat.le_of_ble_eq_true rfl) ⟨Nat.le_of_ble_eq_true rfl, Nat.le_of_ble_eq_true rfl⟩ ⟨Nat.zero_le _, Nat.zero_le _⟩ ?_
  refine wg_if_eq X 31 dX9_sheet_4 (by decide) (fun c3 => ?_) (fun c3 => ?_)
  · have h := if_t c3 h
    refine wg_bipush (v := -2) X dX9_sheet_31 (by decide) ?_
    exact wg_iret X ⟨congrArg Prod.fst (sm_inj h), rfl, congrArg Prod.snd (sm_inj h)⟩ hr dX9_sheet_33
  · have h := if_f c3 h
    refine wg_iload_n X 2 dX9_sheet_7 rfl rfl ?_
    refine wg_i2l X dX9_sheet_8 ?_
    refine wg_ldc2 (v := -1) X dX9_sheet_9 k_1249 ?_
    refine wg_ldc2 (v := 2) X dX9_sheet_12 k_1061 ?_
    obtain ⟨r5, h4, h⟩ := bd_some h
    refine wg_callSi (As := [.long (p2.toInt64), .long (-1 : Int64), .long (2 : Int64)]) (rest := []) X (c_X9_in l E ad S C M p2.toInt64 (-1 : Int64) (2 : Int64)  h4) T_yX9_in k_1021 dX9_sheet_15 rfl rfl (Nat.le_of_ble_eq_true rfl) ⟨Nat.le_of_ble_eq_true rfl, Nat.le_of_ble_eq_true rfl⟩ ⟨Nat.zero_le _, Nat.zero_le _⟩ ?_
    refine wg_if_eq X 31 dX9_sheet_18 (by decide) (fun c6 => ?_) (fun c6 => ?_)
    · have h := if_t c6 h
      refine wg_bipush (v := -2) X dX9_sheet_31 (by decide) ?_
      exact wg_iret X ⟨congrArg Prod.fst (sm_inj h), rfl, congrArg Prod.snd (sm_inj h)⟩ hr dX9_sheet_33
    · have h := if_f c6 h
      refine wg_iload_n X 2 dX9_sheet_21 rfl rfl ?_
      refine wg_if_lt X 34 dX9_sheet_22 (by decide) (fun c7 => ?_) (fun c7 => ?_)
      · have h := if_t c7 h
        exact J_X9_sheet_j34 X hr hS r0 D0 C N  M  p1 p2 p3   h
      · have h := if_f c7 h
        refine wg_iload_n X 3 dX9_sheet_25 rfl rfl ?_
        refine wg_bipush (v := 40) X dX9_sheet_26 (by decide) ?_
        refine wg_icmp_le X 34 dX9_sheet_28 (by decide) (fun c33 => ?_) (fun c33 => ?_)
        · have h := if_t c33 h
          exact J_X9_sheet_j34 X hr hS r0 D0 C N  M  p1 p2 p3   h
        · have h := if_f c33 h
          refine wg_bipush (v := -2) X dX9_sheet_31 (by decide) ?_
          exact wg_iret X ⟨congrArg Prod.fst (sm_inj h), rfl, congrArg Prod.snd (sm_inj h)⟩ hr dX9_sheet_33
-- WindowsGiveModel.film(IIII)I (('c', 55), 'i', 'i', 'i', 'i')
def f_X9_film_l50 (N : Nat)  (x1 : Int32) (x2 : Int32) (x3 : Int32) (x4 : Int32) (M : wg_M) (x5 : Int32) : Option ((wg_M × Int32) ⊕ (wg_M × Int32)) :=
  if x4 ≤ x5 then (
    some (.inr (M, x5)))
  else (
    bd (f_X9_shows M x2 (x3 + x5)) fun r18 =>
    ck (inb (((40 : Int32) * x1) + x5) 160) <|
    lt_ (wg_sM M 74 (((40 : Int32) * x1) + x5).toNatClampNeg r18) fun M20 =>
    lt_ (x5 + (1 : Int32)) fun v22 =>
    some (.inl (M20, v22)))
def f_X9_film (N : Nat) (M : wg_M) (p1 : Int32) (p2 : Int32) (p3 : Int32) (p4 : Int32) : Option (Int32 × wg_M) :=
  bd (f_X9_isSheet p1) fun r2 =>
  if r2 = 0 then (
    some ((-2 : Int32), M))
  else (
    bd (f_X9_isPane M p2) fun r5 =>
    if r5 = 0 then (
      some ((-2 : Int32), M))
    else (
      bd (f_X9_isDay p3) fun r8 =>
      if r8 = 0 then (
        some ((-2 : Int32), M))
      else (
        bd (f_X9_in p4.toInt64 (0 : Int64) (10 : Int64)) fun r11 =>
        if r11 = 0 then (
          some ((-2 : Int32), M))
        else (
          bd2 (f_X9_sheet N M p1 (0 : Int32) p4) fun r14 M15 =>
          bd2 (lp (fun o => f_X9_film_l50 N  p1 p2 p3 p4 o.1 o.2) N (M15, (0 : Int32))) fun M24 v25 =>
          some (p4, M24)))))
abbrev G_X9_film (p : Program) (l : Launch) (e : Env) (s : State) (m : MethodId) (args : Array Value) (below : List Frame) (meth : Method) (c : Code) (E : wg_Ev) (ad : Nat → Nat) (S : wg_Sh) (r0 : Int32) (C0 : wg_C) (M0 : wg_M) (pc : Nat) (C : wg_C) (M : wg_M) (lv : List (Nat × Value)) (st : List Value) : Prop := wg_G p l e (wg_Rm 4 91) s m args below meth c (MQ below (wg_Qi E ad S r0 C0 M0) args s 0 0 (wg_A E)) 6 E ad S 0 0 pc C M lv st
set_option maxHeartbeats 4000000 in
set_option maxRecDepth 100000 in
theorem L_X9_film_l50 {p : Program} {l : Launch} {e : Env} {s : State} {m : MethodId} {args : Array Value} {below : List Frame} {meth : Method} {c : Code} {E : wg_Ev} {ad : Nat → Nat} {S : wg_Sh} (X : wg_X p s m args meth c cX9_film 6 RX9 E) (hr : meth.sig.returnType = (some .int)) (hS : wg_SM S) (r0 : Int32) (D0 : wg_M) (C : wg_C) (N : Nat)   (x1 : Int32) (x2 : Int32) (x3 : Int32) (x4 : Int32)  : ∀ (n : Nat) (M : wg_M) (x5 : Int32) (o : (wg_M × Int32)), lp (fun o => f_X9_film_l50 N  x1 x2 x3 x4 o.1 o.2) n (M, x5) = some o → (∀ (Dy : wg_M) (y5 : Int32), o = (Dy, y5) → G_X9_film p l e s m args below meth c E ad S r0 C D0 84 C Dy [(0, .ref (ad 55)), (1, .int x1), (2, .int x2), (3, .int x3), (4, .int x4), (5, .int y5)] []) → G_X9_film p l e s m args below meth c E ad S r0 C D0 50 C M [(0, .ref (ad 55)), (1, .int x1), (2, .int x2), (3, .int x3), (4, .int x4), (5, .int x5)] [] := by
  intro n
  induction n with
  | zero => exact fun _ _ o h => (lp_zero h).elim
  | succ n ih =>
    intro M x5 o h K
    obtain ⟨o1, hb, h2⟩ := lp_some h
    replace hb : f_X9_film_l50 N  x1 x2 x3 x4 M x5 = some o1 := hb
    clear h
    have Kc : ∀ (Dy : wg_M) (y5 : Int32), o1 = Sum.inl (Dy, y5) → G_X9_film p l e s m args below meth c E ad S r0 C D0 50 C Dy [(0, .ref (ad 55)), (1, .int x1), (2, .int x2), (3, .int x3), (4, .int x4), (5, .int y5)] [] := fun Dy y5 e1 => by
      subst e1
      exact ih Dy y5 o h2 K
    have Ke : ∀ (Dy : wg_M) (y5 : Int32), o1 = Sum.inr ((Dy, y5)) → G_X9_film p l e s m args below meth c E ad S r0 C D0 84 C Dy [(0, .ref (ad 55)), (1, .int x1), (2, .int x2), (3, .int x3), (4, .int x4), (5, .int y5)] [] := fun Dy y5 e1 => by
      subst e1
      exact K Dy y5 (sm_inj (α := (wg_M × Int32)) h2).symm
    clear ih K h2
    unfold f_X9_film_l50 at hb
    have h := hb
    clear hb
    refine wg_iload X 5 dX9_film_50 rfl ?_
    refine wg_iload X 4 dX9_film_52 rfl ?_
    refine wg_icmp_ge X 84 dX9_film_54 (by decide) (fun c16 => ?_) (fun c16 => ?_)
    · have h := if_t c16 h
      exact Ke M x5 (sm_inj h).symm
    · have h := if_f c16 h
      refine wg_aload_n X 0 dX9_film_57 rfl rfl ?_
      refine wg_getR (b := 74) X cl9 (SMi hS 55 9 rfl) 43 (by decide) dX9_film_58 k_925 rfl (SMr hS 43 74 rfl) ?_
      refine wg_bipush (v := 40) X dX9_film_61 (by decide) ?_
      refine wg_iload_n X 1 dX9_film_63 rfl rfl ?_
      refine wg_imul X dX9_film_64 ?_
      refine wg_iload X 5 dX9_film_65 rfl ?_
      refine wg_iadd X dX9_film_67 ?_
      refine wg_aload_n X 0 dX9_film_68 rfl rfl ?_
      refine wg_iload_n X 2 dX9_film_69 rfl rfl ?_
      refine wg_iload_n X 3 dX9_film_70 rfl rfl ?_
      refine wg_iload X 5 dX9_film_71 rfl ?_
      refine wg_iadd X dX9_film_73 ?_
      obtain ⟨r18, h17, h⟩ := bd_some h
      refine wg_callVi (As := [.int x2, .int (x3 + x5)]) (rest := [.int (((40 : Int32) * x1) + x5), .ref (ad 74)]) X (c_X9_shows l E ad S hS C M x2 (x3 + x5)  h17) T_yX9_shows k_1225 cl9 (SMi hS 55 9 rfl) dX9_film_74 rfl rfl (Nat.le_of_ble_eq_true rfl) ⟨Nat.le_of_ble_eq_true rfl, Nat.le_of_ble_eq_true rfl⟩ ⟨Nat.zero_le _, Nat.zero_le _⟩ ?_
      obtain ⟨z19, h⟩ := ck_some h
      obtain ⟨M20, e21, h⟩ := lt_some h
      refine wg_maste X (SMi hS 74 11 rfl) (SMl hS 74 160 rfl) z19 dX9_film_77 e21 ?_
      obtain ⟨v22, e23, h⟩ := lt_some h
      refine wg_iinc (lv' := [(5, .int v22), (0, .ref (ad 55)), (1, .int x1), (2, .int x2), (3, .int x3), (4, .int x4)]) X 5 dX9_film_78 rfl e23 (by decide) rfl ?_
      refine wg_goto X 50 dX9_film_81 (by decide) ?_
      refine wg_pick [1, 2, 3, 4, 5, 0] (lv' := [(0, .ref (ad 55)), (1, .int x1), (2, .int x2), (3, .int x3), (4, .int x4), (5, .int v22)]) rfl ?_
      exact Kc M20 v22 (sm_inj h).symm
set_option maxHeartbeats 4000000 in
set_option maxRecDepth 100000 in
theorem c_X9_film (l : Launch) (E : wg_Ev) (ad : Nat → Nat) (S : wg_Sh) (hS : wg_SM S) (N : Nat) (C : wg_C) (M : wg_M) (p1 : Int32) (p2 : Int32) (p3 : Int32) (p4 : Int32)  {r0 : Int32} {D0 : wg_M} (h : f_X9_film N M p1 p2 p3 p4 = some (r0, D0)) : wg_Ci l yX9_film cX9_film 6 (some .int) 4 91 E ad S C M [.ref (ad 55), .int p1, .int p2, .int p3, .int p4] r0 C D0 := by
  refine wg_start (own := RX9) (by decide +kernel) rfl (Nat.le_of_ble_eq_true rfl) ?_
  intro p e s m below meth c X hr hnm
  refine wg_lv (lv' := [(0, .ref (ad 55)), (1, .int p1), (2, .int p2), (3, .int p3), (4, .int p4)]) rfl ?_
  unfold f_X9_film at h
  refine wg_iload_n X 1 dX9_film_0 rfl rfl ?_
  obtain ⟨r2, h1, h⟩ := bd_some h
  refine wg_callSi (As := [.int p1]) (rest := []) X (c_X9_isSheet l E ad S C M p1  h1) T_yX9_isSheet k_1217 dX9_film_1 rfl rfl (Nat.le_of_ble_eq_true rfl) ⟨Nat.le_of_ble_eq_true rfl, Nat.le_of_ble_eq_true rfl⟩ ⟨Nat.zero_le _, Nat.zero_le _⟩ ?_
  refine wg_if_eq X 35 dX9_film_4 (by decide) (fun c3 => ?_) (fun c3 => ?_)
  · have h := if_t c3 h
    refine wg_bipush (v := -2) X dX9_film_35 (by decide) ?_
    exact wg_iret X ⟨congrArg Prod.fst (sm_inj h), rfl, congrArg Prod.snd (sm_inj h)⟩ hr dX9_film_37
  · have h := if_f c3 h
    refine wg_aload_n X 0 dX9_film_7 rfl rfl ?_
    refine wg_iload_n X 2 dX9_film_8 rfl rfl ?_
    obtain ⟨r5, h4, h⟩ := bd_some h
    refine wg_callVi (As := [.int p2]) (rest := []) X (c_X9_isPane l E ad S hS C M p2  h4) T_yX9_isPane k_1028 cl9 (SMi hS 55 9 rfl) dX9_film_9 rfl rfl (Nat.le_of_ble_eq_true rfl) ⟨Nat.le_of_ble_eq_true rfl, Nat.le_of_ble_eq_true rfl⟩ ⟨Nat.zero_le _, Nat.zero_le _⟩ ?_
    refine wg_if_eq X 35 dX9_film_12 (by decide) (fun c6 => ?_) (fun c6 => ?_)
    · have h := if_t c6 h
      refine wg_bipush (v := -2) X dX9_film_35 (by decide) ?_
      exact wg_iret X ⟨congrArg Prod.fst (sm_inj h), rfl, congrArg Prod.snd (sm_inj h)⟩ hr dX9_film_37
    · have h := if_f c6 h
      refine wg_iload_n X 3 dX9_film_15 rfl rfl ?_
      obtain ⟨r8, h7, h⟩ := bd_some h
      refine wg_callSi (As := [.int p3]) (rest := []) X (c_X9_isDay l E ad S C M p3  h7) T_yX9_isDay k_1024 dX9_film_16 rfl rfl (Nat.le_of_ble_eq_true rfl) ⟨Nat.le_of_ble_eq_true rfl, Nat.le_of_ble_eq_true rfl⟩ ⟨Nat.zero_le _, Nat.zero_le _⟩ ?_
      refine wg_if_eq X 35 dX9_film_19 (by decide) (fun c9 => ?_) (fun c9 => ?_)
      · have h := if_t c9 h
        refine wg_bipush (v := -2) X dX9_film_35 (by decide) ?_
        exact wg_iret X ⟨congrArg Prod.fst (sm_inj h), rfl, congrArg Prod.snd (sm_inj h)⟩ hr dX9_film_37
      · have h := if_f c9 h
        refine wg_iload X 4 dX9_film_22 rfl ?_
        refine wg_i2l X dX9_film_24 ?_
        refine wg_lconst (v := 0) X dX9_film_25 (by decide) ?_
        refine wg_ldc2 (v := 10) X dX9_film_26 k_1095 ?_
        obtain ⟨r11, h10, h⟩ := bd_some h
        refine wg_callSi (As := [.long (p4.toInt64), .long (0 : Int64), .long (10 : Int64)]) (rest := []) X (c_X9_in l E ad S C M p4.toInt64 (0 : Int64) (10 : Int64)  h10) T_yX9_in k_1021 dX9_film_29 rfl rfl (Nat.le_of_ble_eq_true rfl) ⟨Nat.le_of_ble_eq_true rfl, Nat.le_of_ble_eq_true rfl⟩ ⟨Nat.zero_le _, Nat.zero_le _⟩ ?_
        refine wg_if_ne X 38 dX9_film_32 (by decide) (fun c12 => ?_) (fun c12 => ?_)
        · have h := if_f c12 h
          refine wg_aload_n X 0 dX9_film_38 rfl rfl ?_
          refine wg_iload_n X 1 dX9_film_39 rfl rfl ?_
          refine wg_iconst (v := 0) X dX9_film_40 (by decide) ?_
          refine wg_iload X 4 dX9_film_41 rfl ?_
          obtain ⟨r14, M15, h13, h⟩ := bd2_some h
          refine wg_callVi (As := [.int p1, .int (0 : Int32), .int p4]) (rest := []) X (c_X9_sheet l E ad S hS N C M p1 (0 : Int32) p4  h13) T_yX9_sheet k_1245 cl9 (SMi hS 55 9 rfl) dX9_film_43 rfl rfl (Nat.le_of_ble_eq_true rfl) ⟨Nat.le_of_ble_eq_true rfl, Nat.le_of_ble_eq_true rfl⟩ ⟨Nat.zero_le _, Nat.zero_le _⟩ ?_
          refine wg_pop X dX9_film_46 rfl ?_
          refine wg_iconst (v := 0) X dX9_film_47 (by decide) ?_
          refine wg_istore (lv' := [(5, .int (0 : Int32)), (0, .ref (ad 55)), (1, .int p1), (2, .int p2), (3, .int p3), (4, .int p4)]) X dX9_film_48 rfl (by decide) rfl ?_
          obtain ⟨o26, h27, h⟩ := bd2_o h
          refine wg_pick [1, 2, 3, 4, 5, 0] (lv' := [(0, .ref (ad 55)), (1, .int p1), (2, .int p2), (3, .int p3), (4, .int p4), (5, .int (0 : Int32))]) rfl ?_
          refine L_X9_film_l50 X hr hS r0 D0 C N   p1 p2 p3 p4  N M15 (0 : Int32) o26 h27 (fun M24 v25 e29 => ?_)
          · subst e29
            replace h := bd2_in h
            refine wg_iload X 4 dX9_film_84 rfl ?_
            exact wg_iret X ⟨congrArg Prod.fst (sm_inj h), rfl, congrArg Prod.snd (sm_inj h)⟩ hr dX9_film_86
        · have h := if_t c12 h
          refine wg_bipush (v := -2) X dX9_film_35 (by decide) ?_
          exact wg_iret X ⟨congrArg Prod.fst (sm_inj h), rfl, congrArg Prod.snd (sm_inj h)⟩ hr dX9_film_37
-- WindowsGiveModel.wetAll()I (('c', 55),)
def f_X9_wetAll_l4 (N : Nat) (M : wg_M)   (x1 : Int32) (x2 : Int32) : Option ((Int32 × Int32) ⊕ (Int32 × Int32)) :=
  if (32 : Int32) ≤ x2 then (
    some (.inr (x1, x2)))
  else (
    ck (inb x2 32) <|
    lt_ (x1 + (M.1 67 x2.toNatClampNeg)) fun v3 =>
    lt_ (x2 + (1 : Int32)) fun v5 =>
    some (.inl (v3, v5)))
def f_X9_wetAll (N : Nat) (M : wg_M)  : Option Int32 :=
  bd2 (lp (fun o => f_X9_wetAll_l4 N M   o.1 o.2) N ((0 : Int32), (0 : Int32))) fun v7 v8 =>
  some v7
abbrev G_X9_wetAll (p : Program) (l : Launch) (e : Env) (s : State) (m : MethodId) (args : Array Value) (below : List Frame) (meth : Method) (c : Code) (E : wg_Ev) (ad : Nat → Nat) (S : wg_Sh) (r0 : Int32) (C0 : wg_C) (M0 : wg_M) (pc : Nat) (C : wg_C) (M : wg_M) (lv : List (Nat × Value)) (st : List Value) : Prop := wg_G p l e (wg_Rm 0 0) s m args below meth c (MQ below (wg_Qi E ad S r0 C0 M0) args s 0 0 (wg_A E)) 3 E ad S 0 0 pc C M lv st
set_option maxHeartbeats 4000000 in
set_option maxRecDepth 100000 in
theorem L_X9_wetAll_l4 {p : Program} {l : Launch} {e : Env} {s : State} {m : MethodId} {args : Array Value} {below : List Frame} {meth : Method} {c : Code} {E : wg_Ev} {ad : Nat → Nat} {S : wg_Sh} (X : wg_X p s m args meth c cX9_wetAll 3 RX9 E) (hr : meth.sig.returnType = (some .int)) (hS : wg_SM S) (r0 : Int32) (C : wg_C) (N : Nat)  (M : wg_M)    : ∀ (n : Nat) (x1 : Int32) (x2 : Int32) (o : (Int32 × Int32)), lp (fun o => f_X9_wetAll_l4 N M   o.1 o.2) n (x1, x2) = some o → (∀ (y1 : Int32) (y2 : Int32), o = (y1, y2) → G_X9_wetAll p l e s m args below meth c E ad S r0 C M 25 C M [(0, .ref (ad 55)), (1, .int y1), (2, .int y2)] []) → G_X9_wetAll p l e s m args below meth c E ad S r0 C M 4 C M [(0, .ref (ad 55)), (1, .int x1), (2, .int x2)] [] := by
  intro n
  induction n with
  | zero => exact fun _ _ o h => (lp_zero h).elim
  | succ n ih =>
    intro x1 x2 o h K
    obtain ⟨o1, hb, h2⟩ := lp_some h
    replace hb : f_X9_wetAll_l4 N M   x1 x2 = some o1 := hb
    clear h
    have Kc : ∀ (y1 : Int32) (y2 : Int32), o1 = Sum.inl (y1, y2) → G_X9_wetAll p l e s m args below meth c E ad S r0 C M 4 C M [(0, .ref (ad 55)), (1, .int y1), (2, .int y2)] [] := fun y1 y2 e1 => by
      subst e1
      exact ih y1 y2 o h2 K
    have Ke : ∀ (y1 : Int32) (y2 : Int32), o1 = Sum.inr ((y1, y2)) → G_X9_wetAll p l e s m args below meth c E ad S r0 C M 25 C M [(0, .ref (ad 55)), (1, .int y1), (2, .int y2)] [] := fun y1 y2 e1 => by
      subst e1
      exact K y1 y2 (sm_inj (α := (Int32 × Int32)) h2).symm
    clear ih K h2
    unfold f_X9_wetAll_l4 at hb
    have h := hb
    clear hb
    refine wg_iload_n X 2 dX9_wetAll_4 rfl rfl ?_
    refine wg_bipush (v := 32) X dX9_wetAll_5 (by decide) ?_
    refine wg_icmp_ge X 25 dX9_wetAll_7 (by decide) (fun c1 => ?_) (fun c1 => ?_)
    · have h := if_t c1 h
      exact Ke x1 x2 (sm_inj h).symm
    · have h := if_f c1 h
      refine wg_iload_n X 1 dX9_wetAll_10 rfl rfl ?_
      refine wg_aload_n X 0 dX9_wetAll_11 rfl rfl ?_
      refine wg_getR (b := 67) X cl9 (SMi hS 55 9 rfl) 32 (by decide) dX9_wetAll_12 k_914 rfl (SMr hS 32 67 rfl) ?_
      refine wg_iload_n X 2 dX9_wetAll_15 rfl rfl ?_
      obtain ⟨z2, h⟩ := ck_some h
      refine wg_mald X (SMi hS 67 11 rfl) (SMl hS 67 32 rfl) z2 dX9_wetAll_16 ?_
      refine wg_iadd X dX9_wetAll_17 ?_
      obtain ⟨v3, e4, h⟩ := lt_some h
      refine wg_istore_n (lv' := [(1, .int v3), (0, .ref (ad 55)), (2, .int x2)]) X dX9_wetAll_18 rfl e4 (by decide) rfl ?_
      obtain ⟨v5, e6, h⟩ := lt_some h
      refine wg_iinc (lv' := [(2, .int v5), (1, .int v3), (0, .ref (ad 55))]) X 2 dX9_wetAll_19 rfl e6 (by decide) rfl ?_
      refine wg_goto X 4 dX9_wetAll_22 (by decide) ?_
      refine wg_pick [2, 1, 0] (lv' := [(0, .ref (ad 55)), (1, .int v3), (2, .int v5)]) rfl ?_
      exact Kc v3 v5 (sm_inj h).symm
set_option maxHeartbeats 4000000 in
set_option maxRecDepth 100000 in
theorem c_X9_wetAll (l : Launch) (E : wg_Ev) (ad : Nat → Nat) (S : wg_Sh) (hS : wg_SM S) (N : Nat) (C : wg_C) (M : wg_M)   {r0 : Int32} (h : f_X9_wetAll N M  = some r0) : wg_Ci l yX9_wetAll cX9_wetAll 3 (some .int) 0 0 E ad S C M [.ref (ad 55)] r0 C M := by
  refine wg_start (own := RX9) (by decide +kernel) rfl (Nat.le_of_ble_eq_true rfl) ?_
  intro p e s m below meth c X hr hnm
  refine wg_lv (lv' := [(0, .ref (ad 55))]) rfl ?_
  unfold f_X9_wetAll at h
  refine wg_iconst (v := 0) X dX9_wetAll_0 (by decide) ?_
  refine wg_istore_n (lv' := [(1, .int (0 : Int32)), (0, .ref (ad 55))]) X dX9_wetAll_1 rfl rfl (by decide) rfl ?_
  refine wg_iconst (v := 0) X dX9_wetAll_2 (by decide) ?_
  refine wg_istore_n (lv' := [(2, .int (0 : Int32)), (1, .int (0 : Int32)), (0, .ref (ad 55))]) X dX9_wetAll_3 rfl rfl (by decide) rfl ?_
  obtain ⟨o9, h10, h⟩ := bd2_o h
  refine wg_pick [2, 1, 0] (lv' := [(0, .ref (ad 55)), (1, .int (0 : Int32)), (2, .int (0 : Int32))]) rfl ?_
  refine L_X9_wetAll_l4 X hr hS r0 C N  M    N (0 : Int32) (0 : Int32) o9 h10 (fun v7 v8 e12 => ?_)
  · subst e12
    replace h := bd2_in h
    refine wg_iload_n X 1 dX9_wetAll_25 rfl rfl ?_
    exact wg_iret X ⟨(sm_inj h), rfl, rfl⟩ hr dX9_wetAll_26
-- WindowsGiveModel.image()I (('c', 55),)
def f_X9_image_l2 (N : Nat)   (M : wg_M) (x1 : Int32) : Option ((wg_M × Int32) ⊕ (wg_M × Int32)) :=
  if (32 : Int32) ≤ x1 then (
    some (.inr (M, x1)))
  else (
    ck (inb x1 32) <|
    ck (inb x1 32) <|
    lt_ (wg_sM M 69 x1.toNatClampNeg (M.1 59 x1.toNatClampNeg)) fun M4 =>
    lt_ (x1 + (1 : Int32)) fun v6 =>
    some (.inl (M4, v6)))
def f_X9_image_l28 (N : Nat)   (M : wg_M) (x1 : Int32) : Option ((wg_M × Int32) ⊕ (wg_M × Int32)) :=
  if (8 : Int32) ≤ x1 then (
    some (.inr (M, x1)))
  else (
    ck (inb x1 8) <|
    ck (inb x1 32) <|
    lt_ (wg_sM M 70 x1.toNatClampNeg (M.1 61 x1.toNatClampNeg)) fun M17 =>
    ck (inb x1 8) <|
    ck (inb ((8 : Int32) + x1) 32) <|
    lt_ (wg_sM M17 70 ((8 : Int32) + x1).toNatClampNeg (M17.1 62 x1.toNatClampNeg)) fun M21 =>
    ck (inb x1 8) <|
    ck (inb ((16 : Int32) + x1) 32) <|
    lt_ (wg_sM M21 70 ((16 : Int32) + x1).toNatClampNeg (M21.1 63 x1.toNatClampNeg)) fun M25 =>
    ck (inb x1 8) <|
    ck (inb ((24 : Int32) + x1) 32) <|
    lt_ (wg_sM M25 70 ((24 : Int32) + x1).toNatClampNeg (M25.1 64 x1.toNatClampNeg)) fun M29 =>
    lt_ (x1 + (1 : Int32)) fun v31 =>
    some (.inl (M29, v31)))
def f_X9_image (N : Nat) (M : wg_M)  : Option (Int32 × wg_M) :=
  bd2 (lp (fun o => f_X9_image_l2 N   o.1 o.2) N (M, (0 : Int32))) fun M8 v9 =>
  bd2 (lp (fun o => f_X9_image_l28 N   o.1 o.2) N (M8, (0 : Int32))) fun M33 v34 =>
  lt_ (wg_sM M33 55 38 (M33.1 55 13)) fun M39 =>
  lt_ (wg_sM M39 55 39 (M39.1 55 4)) fun M41 =>
  some ((M41.1 55 13), M41)
abbrev G_X9_image (p : Program) (l : Launch) (e : Env) (s : State) (m : MethodId) (args : Array Value) (below : List Frame) (meth : Method) (c : Code) (E : wg_Ev) (ad : Nat → Nat) (S : wg_Sh) (r0 : Int32) (C0 : wg_C) (M0 : wg_M) (pc : Nat) (C : wg_C) (M : wg_M) (lv : List (Nat × Value)) (st : List Value) : Prop := wg_G p l e (wg_Rm 0 0) s m args below meth c (MQ below (wg_Qi E ad S r0 C0 M0) args s 0 0 (wg_A E)) 2 E ad S 0 0 pc C M lv st
set_option maxHeartbeats 4000000 in
set_option maxRecDepth 100000 in
theorem L_X9_image_l2 {p : Program} {l : Launch} {e : Env} {s : State} {m : MethodId} {args : Array Value} {below : List Frame} {meth : Method} {c : Code} {E : wg_Ev} {ad : Nat → Nat} {S : wg_Sh} (X : wg_X p s m args meth c cX9_image 2 RX9 E) (hr : meth.sig.returnType = (some .int)) (hS : wg_SM S) (r0 : Int32) (D0 : wg_M) (C : wg_C) (N : Nat)     : ∀ (n : Nat) (M : wg_M) (x1 : Int32) (o : (wg_M × Int32)), lp (fun o => f_X9_image_l2 N   o.1 o.2) n (M, x1) = some o → (∀ (Dy : wg_M) (y1 : Int32), o = (Dy, y1) → G_X9_image p l e s m args below meth c E ad S r0 C D0 26 C Dy [(0, .ref (ad 55)), (1, .int y1)] []) → G_X9_image p l e s m args below meth c E ad S r0 C D0 2 C M [(0, .ref (ad 55)), (1, .int x1)] [] := by
  intro n
  induction n with
  | zero => exact fun _ _ o h => (lp_zero h).elim
  | succ n ih =>
    intro M x1 o h K
    obtain ⟨o1, hb, h2⟩ := lp_some h
    replace hb : f_X9_image_l2 N   M x1 = some o1 := hb
    clear h
    have Kc : ∀ (Dy : wg_M) (y1 : Int32), o1 = Sum.inl (Dy, y1) → G_X9_image p l e s m args below meth c E ad S r0 C D0 2 C Dy [(0, .ref (ad 55)), (1, .int y1)] [] := fun Dy y1 e1 => by
      subst e1
      exact ih Dy y1 o h2 K
    have Ke : ∀ (Dy : wg_M) (y1 : Int32), o1 = Sum.inr ((Dy, y1)) → G_X9_image p l e s m args below meth c E ad S r0 C D0 26 C Dy [(0, .ref (ad 55)), (1, .int y1)] [] := fun Dy y1 e1 => by
      subst e1
      exact K Dy y1 (sm_inj (α := (wg_M × Int32)) h2).symm
    clear ih K h2
    unfold f_X9_image_l2 at hb
    have h := hb
    clear hb
    refine wg_iload_n X 1 dX9_image_2 rfl rfl ?_
    refine wg_bipush (v := 32) X dX9_image_3 (by decide) ?_
    refine wg_icmp_ge X 26 dX9_image_5 (by decide) (fun c1 => ?_) (fun c1 => ?_)
    · have h := if_t c1 h
      exact Ke M x1 (sm_inj h).symm
    · have h := if_f c1 h
      refine wg_aload_n X 0 dX9_image_8 rfl rfl ?_
      refine wg_getR (b := 69) X cl9 (SMi hS 55 9 rfl) 36 (by decide) dX9_image_9 k_918 rfl (SMr hS 36 69 rfl) ?_
      refine wg_iload_n X 1 dX9_image_12 rfl rfl ?_
      refine wg_aload_n X 0 dX9_image_13 rfl rfl ?_
      refine wg_getR (b := 59) X cl9 (SMi hS 55 9 rfl) 7 (by decide) dX9_image_14 k_889 rfl (SMr hS 7 59 rfl) ?_
      refine wg_iload_n X 1 dX9_image_17 rfl rfl ?_
      obtain ⟨z2, h⟩ := ck_some h
      refine wg_mald X (SMi hS 59 11 rfl) (SMl hS 59 32 rfl) z2 dX9_image_18 ?_
      obtain ⟨z3, h⟩ := ck_some h
      obtain ⟨M4, e5, h⟩ := lt_some h
      refine wg_maste X (SMi hS 69 11 rfl) (SMl hS 69 32 rfl) z3 dX9_image_19 e5 ?_
      obtain ⟨v6, e7, h⟩ := lt_some h
      refine wg_iinc (lv' := [(1, .int v6), (0, .ref (ad 55))]) X 1 dX9_image_20 rfl e7 (by decide) rfl ?_
      refine wg_goto X 2 dX9_image_23 (by decide) ?_
      refine wg_pick [1, 0] (lv' := [(0, .ref (ad 55)), (1, .int v6)]) rfl ?_
      exact Kc M4 v6 (sm_inj h).symm
set_option maxHeartbeats 4000000 in
set_option maxRecDepth 100000 in
theorem L_X9_image_l28 {p : Program} {l : Launch} {e : Env} {s : State} {m : MethodId} {args : Array Value} {below : List Frame} {meth : Method} {c : Code} {E : wg_Ev} {ad : Nat → Nat} {S : wg_Sh} (X : wg_X p s m args meth c cX9_image 2 RX9 E) (hr : meth.sig.returnType = (some .int)) (hS : wg_SM S) (r0 : Int32) (D0 : wg_M) (C : wg_C) (N : Nat)     : ∀ (n : Nat) (M : wg_M) (x1 : Int32) (o : (wg_M × Int32)), lp (fun o => f_X9_image_l28 N   o.1 o.2) n (M, x1) = some o → (∀ (Dy : wg_M) (y1 : Int32), o = (Dy, y1) → G_X9_image p l e s m args below meth c E ad S r0 C D0 97 C Dy [(0, .ref (ad 55)), (1, .int y1)] []) → G_X9_image p l e s m args below meth c E ad S r0 C D0 28 C M [(0, .ref (ad 55)), (1, .int x1)] [] := by
  intro n
  induction n with
  | zero => exact fun _ _ o h => (lp_zero h).elim
  | succ n ih =>
    intro M x1 o h K
    obtain ⟨o1, hb, h2⟩ := lp_some h
    replace hb : f_X9_image_l28 N   M x1 = some o1 := hb
    clear h
    have Kc : ∀ (Dy : wg_M) (y1 : Int32), o1 = Sum.inl (Dy, y1) → G_X9_image p l e s m args below meth c E ad S r0 C D0 28 C Dy [(0, .ref (ad 55)), (1, .int y1)] [] := fun Dy y1 e1 => by
      subst e1
      exact ih Dy y1 o h2 K
    have Ke : ∀ (Dy : wg_M) (y1 : Int32), o1 = Sum.inr ((Dy, y1)) → G_X9_image p l e s m args below meth c E ad S r0 C D0 97 C Dy [(0, .ref (ad 55)), (1, .int y1)] [] := fun Dy y1 e1 => by
      subst e1
      exact K Dy y1 (sm_inj (α := (wg_M × Int32)) h2).symm
    clear ih K h2
    unfold f_X9_image_l28 at hb
    have h := hb
    clear hb
    refine wg_iload_n X 1 dX9_image_28 rfl rfl ?_
    refine wg_bipush (v := 8) X dX9_image_29 (by decide) ?_
    refine wg_icmp_ge X 97 dX9_image_31 (by decide) (fun c14 => ?_) (fun c14 => ?_)
    · have h := if_t c14 h
      exact Ke M x1 (sm_inj h).symm
    · have h := if_f c14 h
      refine wg_aload_n X 0 dX9_image_34 rfl rfl ?_
      refine wg_getR (b := 70) X cl9 (SMi hS 55 9 rfl) 37 (by decide) dX9_image_35 k_919 rfl (SMr hS 37 70 rfl) ?_
      refine wg_iload_n X 1 dX9_image_38 rfl rfl ?_
      refine wg_aload_n X 0 dX9_image_39 rfl rfl ?_
      refine wg_getR (b := 61) X cl9 (SMi hS 55 9 rfl) 9 (by decide) dX9_image_40 k_891 rfl (SMr hS 9 61 rfl) ?_
      refine wg_iload_n X 1 dX9_image_43 rfl rfl ?_
      obtain ⟨z15, h⟩ := ck_some h
      refine wg_mald X (SMi hS 61 11 rfl) (SMl hS 61 8 rfl) z15 dX9_image_44 ?_
      obtain ⟨z16, h⟩ := ck_some h
      obtain ⟨M17, e18, h⟩ := lt_some h
      refine wg_maste X (SMi hS 70 11 rfl) (SMl hS 70 32 rfl) z16 dX9_image_45 e18 ?_
      refine wg_aload_n X 0 dX9_image_46 rfl rfl ?_
      refine wg_getR (b := 70) X cl9 (SMi hS 55 9 rfl) 37 (by decide) dX9_image_47 k_919 rfl (SMr hS 37 70 rfl) ?_
      refine wg_bipush (v := 8) X dX9_image_50 (by decide) ?_
      refine wg_iload_n X 1 dX9_image_52 rfl rfl ?_
      refine wg_iadd X dX9_image_53 ?_
      refine wg_aload_n X 0 dX9_image_54 rfl rfl ?_
      refine wg_getR (b := 62) X cl9 (SMi hS 55 9 rfl) 10 (by decide) dX9_image_55 k_892 rfl (SMr hS 10 62 rfl) ?_
      refine wg_iload_n X 1 dX9_image_58 rfl rfl ?_
      obtain ⟨z19, h⟩ := ck_some h
      refine wg_mald X (SMi hS 62 11 rfl) (SMl hS 62 8 rfl) z19 dX9_image_59 ?_
      obtain ⟨z20, h⟩ := ck_some h
      obtain ⟨M21, e22, h⟩ := lt_some h
      refine wg_maste X (SMi hS 70 11 rfl) (SMl hS 70 32 rfl) z20 dX9_image_60 e22 ?_
      refine wg_aload_n X 0 dX9_image_61 rfl rfl ?_
      refine wg_getR (b := 70) X cl9 (SMi hS 55 9 rfl) 37 (by decide) dX9_image_62 k_919 rfl (SMr hS 37 70 rfl) ?_
      refine wg_bipush (v := 16) X dX9_image_65 (by decide) ?_
      refine wg_iload_n X 1 dX9_image_67 rfl rfl ?_
      refine wg_iadd X dX9_image_68 ?_
      refine wg_aload_n X 0 dX9_image_69 rfl rfl ?_
      refine wg_getR (b := 63) X cl9 (SMi hS 55 9 rfl) 11 (by decide) dX9_image_70 k_893 rfl (SMr hS 11 63 rfl) ?_
      refine wg_iload_n X 1 dX9_image_73 rfl rfl ?_
      obtain ⟨z23, h⟩ := ck_some h
      refine wg_mald X (SMi hS 63 11 rfl) (SMl hS 63 8 rfl) z23 dX9_image_74 ?_
      obtain ⟨z24, h⟩ := ck_some h
      obtain ⟨M25, e26, h⟩ := lt_some h
      refine wg_maste X (SMi hS 70 11 rfl) (SMl hS 70 32 rfl) z24 dX9_image_75 e26 ?_
      refine wg_aload_n X 0 dX9_image_76 rfl rfl ?_
      refine wg_getR (b := 70) X cl9 (SMi hS 55 9 rfl) 37 (by decide) dX9_image_77 k_919 rfl (SMr hS 37 70 rfl) ?_
      refine wg_bipush (v := 24) X dX9_image_80 (by decide) ?_
      refine wg_iload_n X 1 dX9_image_82 rfl rfl ?_
      refine wg_iadd X dX9_image_83 ?_
      refine wg_aload_n X 0 dX9_image_84 rfl rfl ?_
      refine wg_getR (b := 64) X cl9 (SMi hS 55 9 rfl) 12 (by decide) dX9_image_85 k_894 rfl (SMr hS 12 64 rfl) ?_
      refine wg_iload_n X 1 dX9_image_88 rfl rfl ?_
      obtain ⟨z27, h⟩ := ck_some h
      refine wg_mald X (SMi hS 64 11 rfl) (SMl hS 64 8 rfl) z27 dX9_image_89 ?_
      obtain ⟨z28, h⟩ := ck_some h
      obtain ⟨M29, e30, h⟩ := lt_some h
      refine wg_maste X (SMi hS 70 11 rfl) (SMl hS 70 32 rfl) z28 dX9_image_90 e30 ?_
      obtain ⟨v31, e32, h⟩ := lt_some h
      refine wg_iinc (lv' := [(1, .int v31), (0, .ref (ad 55))]) X 1 dX9_image_91 rfl e32 (by decide) rfl ?_
      refine wg_goto X 28 dX9_image_94 (by decide) ?_
      refine wg_pick [1, 0] (lv' := [(0, .ref (ad 55)), (1, .int v31)]) rfl ?_
      exact Kc M29 v31 (sm_inj h).symm
set_option maxHeartbeats 4000000 in
set_option maxRecDepth 100000 in
theorem c_X9_image (l : Launch) (E : wg_Ev) (ad : Nat → Nat) (S : wg_Sh) (hS : wg_SM S) (N : Nat) (C : wg_C) (M : wg_M)   {r0 : Int32} {D0 : wg_M} (h : f_X9_image N M  = some (r0, D0)) : wg_Ci l yX9_image cX9_image 2 (some .int) 0 0 E ad S C M [.ref (ad 55)] r0 C D0 := by
  refine wg_start (own := RX9) (by decide +kernel) rfl (Nat.le_of_ble_eq_true rfl) ?_
  intro p e s m below meth c X hr hnm
  refine wg_lv (lv' := [(0, .ref (ad 55))]) rfl ?_
  unfold f_X9_image at h
  refine wg_iconst (v := 0) X dX9_image_0 (by decide) ?_
  refine wg_istore_n (lv' := [(1, .int (0 : Int32)), (0, .ref (ad 55))]) X dX9_image_1 rfl rfl (by decide) rfl ?_
  obtain ⟨o10, h11, h⟩ := bd2_o h
  refine wg_pick [1, 0] (lv' := [(0, .ref (ad 55)), (1, .int (0 : Int32))]) rfl ?_
  refine L_X9_image_l2 X hr hS r0 D0 C N     N M (0 : Int32) o10 h11 (fun M8 v9 e13 => ?_)
  · subst e13
    replace h := bd2_in h
    refine wg_iconst (v := 0) X dX9_image_26 (by decide) ?_
    refine wg_istore_n (lv' := [(1, .int (0 : Int32)), (0, .ref (ad 55))]) X dX9_image_27 rfl rfl (by decide) rfl ?_
    obtain ⟨o35, h36, h⟩ := bd2_o h
    refine wg_pick [1, 0] (lv' := [(0, .ref (ad 55)), (1, .int (0 : Int32))]) rfl ?_
    refine L_X9_image_l28 X hr hS r0 D0 C N     N M8 (0 : Int32) o35 h36 (fun M33 v34 e38 => ?_)
    · subst e38
      replace h := bd2_in h
      refine wg_aload_n X 0 dX9_image_97 rfl rfl ?_
      refine wg_aload_n X 0 dX9_image_98 rfl rfl ?_
      refine wg_getM X cl9 (SMi hS 55 9 rfl) 13 (by decide) dX9_image_99 k_895 rfl ?_
      obtain ⟨M39, e40, h⟩ := lt_some h
      refine wg_putMe X cl9 (SMi hS 55 9 rfl) 38 (by decide) dX9_image_102 k_920 rfl rfl rfl rfl e40 ?_
      refine wg_aload_n X 0 dX9_image_105 rfl rfl ?_
      refine wg_aload_n X 0 dX9_image_106 rfl rfl ?_
      refine wg_getM X cl9 (SMi hS 55 9 rfl) 4 (by decide) dX9_image_107 k_886 rfl ?_
      obtain ⟨M41, e42, h⟩ := lt_some h
      refine wg_putMe X cl9 (SMi hS 55 9 rfl) 39 (by decide) dX9_image_110 k_921 rfl rfl rfl rfl e42 ?_
      refine wg_aload_n X 0 dX9_image_113 rfl rfl ?_
      refine wg_getM X cl9 (SMi hS 55 9 rfl) 13 (by decide) dX9_image_114 k_895 rfl ?_
      exact wg_iret X ⟨congrArg Prod.fst (sm_inj h), rfl, congrArg Prod.snd (sm_inj h)⟩ hr dX9_image_117
-- WindowsGiveModel.back()I (('c', 55),)
def f_X9_back_l13 (N : Nat)   (M : wg_M) (x1 : Int32) : Option ((wg_M × Int32) ⊕ (wg_M × Int32)) :=
  if (32 : Int32) ≤ x1 then (
    some (.inr (M, x1)))
  else (
    ck (inb x1 32) <|
    ck (inb x1 32) <|
    lt_ (wg_sM M 59 x1.toNatClampNeg (M.1 69 x1.toNatClampNeg)) fun M5 =>
    lt_ (x1 + (1 : Int32)) fun v7 =>
    some (.inl (M5, v7)))
def f_X9_back_l39 (N : Nat)   (M : wg_M) (x1 : Int32) : Option ((wg_M × Int32) ⊕ (wg_M × Int32)) :=
  if (8 : Int32) ≤ x1 then (
    some (.inr (M, x1)))
  else (
    ck (inb x1 32) <|
    ck (inb x1 8) <|
    lt_ (wg_sM M 61 x1.toNatClampNeg (M.1 70 x1.toNatClampNeg)) fun M18 =>
    ck (inb ((8 : Int32) + x1) 32) <|
    ck (inb x1 8) <|
    lt_ (wg_sM M18 62 x1.toNatClampNeg (M18.1 70 ((8 : Int32) + x1).toNatClampNeg)) fun M22 =>
    ck (inb ((16 : Int32) + x1) 32) <|
    ck (inb x1 8) <|
    lt_ (wg_sM M22 63 x1.toNatClampNeg (M22.1 70 ((16 : Int32) + x1).toNatClampNeg)) fun M26 =>
    ck (inb ((24 : Int32) + x1) 32) <|
    ck (inb x1 8) <|
    lt_ (wg_sM M26 64 x1.toNatClampNeg (M26.1 70 ((24 : Int32) + x1).toNatClampNeg)) fun M30 =>
    lt_ (x1 + (1 : Int32)) fun v32 =>
    some (.inl (M30, v32)))
def f_X9_back (N : Nat) (M : wg_M)  : Option (Int32 × wg_M) :=
  if (M.1 55 38) = (-1 : Int32) then (
    some ((-3 : Int32), M))
  else (
    bd2 (lp (fun o => f_X9_back_l13 N   o.1 o.2) N (M, (0 : Int32))) fun M9 v10 =>
    bd2 (lp (fun o => f_X9_back_l39 N   o.1 o.2) N (M9, (0 : Int32))) fun M34 v35 =>
    lt_ (wg_sM M34 55 13 (M34.1 55 38)) fun M40 =>
    lt_ (wg_sM M40 55 4 (M40.1 55 39)) fun M42 =>
    some ((M42.1 55 13), M42))
abbrev G_X9_back (p : Program) (l : Launch) (e : Env) (s : State) (m : MethodId) (args : Array Value) (below : List Frame) (meth : Method) (c : Code) (E : wg_Ev) (ad : Nat → Nat) (S : wg_Sh) (r0 : Int32) (C0 : wg_C) (M0 : wg_M) (pc : Nat) (C : wg_C) (M : wg_M) (lv : List (Nat × Value)) (st : List Value) : Prop := wg_G p l e (wg_Rm 0 0) s m args below meth c (MQ below (wg_Qi E ad S r0 C0 M0) args s 0 0 (wg_A E)) 2 E ad S 0 0 pc C M lv st
set_option maxHeartbeats 4000000 in
set_option maxRecDepth 100000 in
theorem L_X9_back_l13 {p : Program} {l : Launch} {e : Env} {s : State} {m : MethodId} {args : Array Value} {below : List Frame} {meth : Method} {c : Code} {E : wg_Ev} {ad : Nat → Nat} {S : wg_Sh} (X : wg_X p s m args meth c cX9_back 2 RX9 E) (hr : meth.sig.returnType = (some .int)) (hS : wg_SM S) (r0 : Int32) (D0 : wg_M) (C : wg_C) (N : Nat)     : ∀ (n : Nat) (M : wg_M) (x1 : Int32) (o : (wg_M × Int32)), lp (fun o => f_X9_back_l13 N   o.1 o.2) n (M, x1) = some o → (∀ (Dy : wg_M) (y1 : Int32), o = (Dy, y1) → G_X9_back p l e s m args below meth c E ad S r0 C D0 37 C Dy [(0, .ref (ad 55)), (1, .int y1)] []) → G_X9_back p l e s m args below meth c E ad S r0 C D0 13 C M [(0, .ref (ad 55)), (1, .int x1)] [] := by
  intro n
  induction n with
  | zero => exact fun _ _ o h => (lp_zero h).elim
  | succ n ih =>
    intro M x1 o h K
    obtain ⟨o1, hb, h2⟩ := lp_some h
    replace hb : f_X9_back_l13 N   M x1 = some o1 := hb
    clear h
    have Kc : ∀ (Dy : wg_M) (y1 : Int32), o1 = Sum.inl (Dy, y1) → G_X9_back p l e s m args below meth c E ad S r0 C D0 13 C Dy [(0, .ref (ad 55)), (1, .int y1)] [] := fun Dy y1 e1 => by
      subst e1
      exact ih Dy y1 o h2 K
    have Ke : ∀ (Dy : wg_M) (y1 : Int32), o1 = Sum.inr ((Dy, y1)) → G_X9_back p l e s m args below meth c E ad S r0 C D0 37 C Dy [(0, .ref (ad 55)), (1, .int y1)] [] := fun Dy y1 e1 => by
      subst e1
      exact K Dy y1 (sm_inj (α := (wg_M × Int32)) h2).symm
    clear ih K h2
    unfold f_X9_back_l13 at hb
    have h := hb
    clear hb
    refine wg_iload_n X 1 dX9_back_13 rfl rfl ?_
    refine wg_bipush (v := 32) X dX9_back_14 (by decide) ?_
    refine wg_icmp_ge X 37 dX9_back_16 (by decide) (fun c2 => ?_) (fun c2 => ?_)
    · have h := if_t c2 h
      exact Ke M x1 (sm_inj h).symm
    · have h := if_f c2 h
      refine wg_aload_n X 0 dX9_back_19 rfl rfl ?_
      refine wg_getR (b := 59) X cl9 (SMi hS 55 9 rfl) 7 (by decide) dX9_back_20 k_889 rfl (SMr hS 7 59 rfl) ?_
      refine wg_iload_n X 1 dX9_back_23 rfl rfl ?_
      refine wg_aload_n X 0 dX9_back_24 rfl rfl ?_
      refine wg_getR (b := 69) X cl9 (SMi hS 55 9 rfl) 36 (by decide) dX9_back_25 k_918 rfl (SMr hS 36 69 rfl) ?_
      refine wg_iload_n X 1 dX9_back_28 rfl rfl ?_
      obtain ⟨z3, h⟩ := ck_some h
      refine wg_mald X (SMi hS 69 11 rfl) (SMl hS 69 32 rfl) z3 dX9_back_29 ?_
      obtain ⟨z4, h⟩ := ck_some h
      obtain ⟨M5, e6, h⟩ := lt_some h
      refine wg_maste X (SMi hS 59 11 rfl) (SMl hS 59 32 rfl) z4 dX9_back_30 e6 ?_
      obtain ⟨v7, e8, h⟩ := lt_some h
      refine wg_iinc (lv' := [(1, .int v7), (0, .ref (ad 55))]) X 1 dX9_back_31 rfl e8 (by decide) rfl ?_
      refine wg_goto X 13 dX9_back_34 (by decide) ?_
      refine wg_pick [1, 0] (lv' := [(0, .ref (ad 55)), (1, .int v7)]) rfl ?_
      exact Kc M5 v7 (sm_inj h).symm
set_option maxHeartbeats 4000000 in
set_option maxRecDepth 100000 in
theorem L_X9_back_l39 {p : Program} {l : Launch} {e : Env} {s : State} {m : MethodId} {args : Array Value} {below : List Frame} {meth : Method} {c : Code} {E : wg_Ev} {ad : Nat → Nat} {S : wg_Sh} (X : wg_X p s m args meth c cX9_back 2 RX9 E) (hr : meth.sig.returnType = (some .int)) (hS : wg_SM S) (r0 : Int32) (D0 : wg_M) (C : wg_C) (N : Nat)     : ∀ (n : Nat) (M : wg_M) (x1 : Int32) (o : (wg_M × Int32)), lp (fun o => f_X9_back_l39 N   o.1 o.2) n (M, x1) = some o → (∀ (Dy : wg_M) (y1 : Int32), o = (Dy, y1) → G_X9_back p l e s m args below meth c E ad S r0 C D0 108 C Dy [(0, .ref (ad 55)), (1, .int y1)] []) → G_X9_back p l e s m args below meth c E ad S r0 C D0 39 C M [(0, .ref (ad 55)), (1, .int x1)] [] := by
  intro n
  induction n with
  | zero => exact fun _ _ o h => (lp_zero h).elim
  | succ n ih =>
    intro M x1 o h K
    obtain ⟨o1, hb, h2⟩ := lp_some h
    replace hb : f_X9_back_l39 N   M x1 = some o1 := hb
    clear h
    have Kc : ∀ (Dy : wg_M) (y1 : Int32), o1 = Sum.inl (Dy, y1) → G_X9_back p l e s m args below meth c E ad S r0 C D0 39 C Dy [(0, .ref (ad 55)), (1, .int y1)] [] := fun Dy y1 e1 => by
      subst e1
      exact ih Dy y1 o h2 K
    have Ke : ∀ (Dy : wg_M) (y1 : Int32), o1 = Sum.inr ((Dy, y1)) → G_X9_back p l e s m args below meth c E ad S r0 C D0 108 C Dy [(0, .ref (ad 55)), (1, .int y1)] [] := fun Dy y1 e1 => by
      subst e1
      exact K Dy y1 (sm_inj (α := (wg_M × Int32)) h2).symm
    clear ih K h2
    unfold f_X9_back_l39 at hb
    have h := hb
    clear hb
    refine wg_iload_n X 1 dX9_back_39 rfl rfl ?_
    refine wg_bipush (v := 8) X dX9_back_40 (by decide) ?_
    refine wg_icmp_ge X 108 dX9_back_42 (by decide) (fun c15 => ?_) (fun c15 => ?_)
    · have h := if_t c15 h
      exact Ke M x1 (sm_inj h).symm
    · have h := if_f c15 h
      refine wg_aload_n X 0 dX9_back_45 rfl rfl ?_
      refine wg_getR (b := 61) X cl9 (SMi hS 55 9 rfl) 9 (by decide) dX9_back_46 k_891 rfl (SMr hS 9 61 rfl) ?_
      refine wg_iload_n X 1 dX9_back_49 rfl rfl ?_
      refine wg_aload_n X 0 dX9_back_50 rfl rfl ?_
      refine wg_getR (b := 70) X cl9 (SMi hS 55 9 rfl) 37 (by decide) dX9_back_51 k_919 rfl (SMr hS 37 70 rfl) ?_
      refine wg_iload_n X 1 dX9_back_54 rfl rfl ?_
      obtain ⟨z16, h⟩ := ck_some h
      refine wg_mald X (SMi hS 70 11 rfl) (SMl hS 70 32 rfl) z16 dX9_back_55 ?_
      obtain ⟨z17, h⟩ := ck_some h
      obtain ⟨M18, e19, h⟩ := lt_some h
      refine wg_maste X (SMi hS 61 11 rfl) (SMl hS 61 8 rfl) z17 dX9_back_56 e19 ?_
      refine wg_aload_n X 0 dX9_back_57 rfl rfl ?_
      refine wg_getR (b := 62) X cl9 (SMi hS 55 9 rfl) 10 (by decide) dX9_back_58 k_892 rfl (SMr hS 10 62 rfl) ?_
      refine wg_iload_n X 1 dX9_back_61 rfl rfl ?_
      refine wg_aload_n X 0 dX9_back_62 rfl rfl ?_
      refine wg_getR (b := 70) X cl9 (SMi hS 55 9 rfl) 37 (by decide) dX9_back_63 k_919 rfl (SMr hS 37 70 rfl) ?_
      refine wg_bipush (v := 8) X dX9_back_66 (by decide) ?_
      refine wg_iload_n X 1 dX9_back_68 rfl rfl ?_
      refine wg_iadd X dX9_back_69 ?_
      obtain ⟨z20, h⟩ := ck_some h
      refine wg_mald X (SMi hS 70 11 rfl) (SMl hS 70 32 rfl) z20 dX9_back_70 ?_
      obtain ⟨z21, h⟩ := ck_some h
      obtain ⟨M22, e23, h⟩ := lt_some h
      refine wg_maste X (SMi hS 62 11 rfl) (SMl hS 62 8 rfl) z21 dX9_back_71 e23 ?_
      refine wg_aload_n X 0 dX9_back_72 rfl rfl ?_
      refine wg_getR (b := 63) X cl9 (SMi hS 55 9 rfl) 11 (by decide) dX9_back_73 k_893 rfl (SMr hS 11 63 rfl) ?_
      refine wg_iload_n X 1 dX9_back_76 rfl rfl ?_
      refine wg_aload_n X 0 dX9_back_77 rfl rfl ?_
      refine wg_getR (b := 70) X cl9 (SMi hS 55 9 rfl) 37 (by decide) dX9_back_78 k_919 rfl (SMr hS 37 70 rfl) ?_
      refine wg_bipush (v := 16) X dX9_back_81 (by decide) ?_
      refine wg_iload_n X 1 dX9_back_83 rfl rfl ?_
      refine wg_iadd X dX9_back_84 ?_
      obtain ⟨z24, h⟩ := ck_some h
      refine wg_mald X (SMi hS 70 11 rfl) (SMl hS 70 32 rfl) z24 dX9_back_85 ?_
      obtain ⟨z25, h⟩ := ck_some h
      obtain ⟨M26, e27, h⟩ := lt_some h
      refine wg_maste X (SMi hS 63 11 rfl) (SMl hS 63 8 rfl) z25 dX9_back_86 e27 ?_
      refine wg_aload_n X 0 dX9_back_87 rfl rfl ?_
      refine wg_getR (b := 64) X cl9 (SMi hS 55 9 rfl) 12 (by decide) dX9_back_88 k_894 rfl (SMr hS 12 64 rfl) ?_
      refine wg_iload_n X 1 dX9_back_91 rfl rfl ?_
      refine wg_aload_n X 0 dX9_back_92 rfl rfl ?_
      refine wg_getR (b := 70) X cl9 (SMi hS 55 9 rfl) 37 (by decide) dX9_back_93 k_919 rfl (SMr hS 37 70 rfl) ?_
      refine wg_bipush (v := 24) X dX9_back_96 (by decide) ?_
      refine wg_iload_n X 1 dX9_back_98 rfl rfl ?_
      refine wg_iadd X dX9_back_99 ?_
      obtain ⟨z28, h⟩ := ck_some h
      refine wg_mald X (SMi hS 70 11 rfl) (SMl hS 70 32 rfl) z28 dX9_back_100 ?_
      obtain ⟨z29, h⟩ := ck_some h
      obtain ⟨M30, e31, h⟩ := lt_some h
      refine wg_maste X (SMi hS 64 11 rfl) (SMl hS 64 8 rfl) z29 dX9_back_101 e31 ?_
      obtain ⟨v32, e33, h⟩ := lt_some h
      refine wg_iinc (lv' := [(1, .int v32), (0, .ref (ad 55))]) X 1 dX9_back_102 rfl e33 (by decide) rfl ?_
      refine wg_goto X 39 dX9_back_105 (by decide) ?_
      refine wg_pick [1, 0] (lv' := [(0, .ref (ad 55)), (1, .int v32)]) rfl ?_
      exact Kc M30 v32 (sm_inj h).symm
set_option maxHeartbeats 4000000 in
set_option maxRecDepth 100000 in
theorem c_X9_back (l : Launch) (E : wg_Ev) (ad : Nat → Nat) (S : wg_Sh) (hS : wg_SM S) (N : Nat) (C : wg_C) (M : wg_M)   {r0 : Int32} {D0 : wg_M} (h : f_X9_back N M  = some (r0, D0)) : wg_Ci l yX9_back cX9_back 2 (some .int) 0 0 E ad S C M [.ref (ad 55)] r0 C D0 := by
  refine wg_start (own := RX9) (by decide +kernel) rfl (Nat.le_of_ble_eq_true rfl) ?_
  intro p e s m below meth c X hr hnm
  refine wg_lv (lv' := [(0, .ref (ad 55))]) rfl ?_
  unfold f_X9_back at h
  refine wg_aload_n X 0 dX9_back_0 rfl rfl ?_
  refine wg_getM X cl9 (SMi hS 55 9 rfl) 38 (by decide) dX9_back_1 k_920 rfl ?_
  refine wg_iconst (v := -1) X dX9_back_4 (by decide) ?_
  refine wg_icmp_ne X 11 dX9_back_5 (by decide) (fun c1 => ?_) (fun c1 => ?_)
  · have h := if_f c1 h
    refine wg_iconst (v := 0) X dX9_back_11 (by decide) ?_
    refine wg_istore_n (lv' := [(1, .int (0 : Int32)), (0, .ref (ad 55))]) X dX9_back_12 rfl rfl (by decide) rfl ?_
    obtain ⟨o11, h12, h⟩ := bd2_o h
    refine wg_pick [1, 0] (lv' := [(0, .ref (ad 55)), (1, .int (0 : Int32))]) rfl ?_
    refine L_X9_back_l13 X hr hS r0 D0 C N     N M (0 : Int32) o11 h12 (fun M9 v10 e14 => ?_)
    · subst e14
      replace h := bd2_in h
      refine wg_iconst (v := 0) X dX9_back_37 (by decide) ?_
      refine wg_istore_n (lv' := [(1, .int (0 : Int32)), (0, .ref (ad 55))]) X dX9_back_38 rfl rfl (by decide) rfl ?_
      obtain ⟨o36, h37, h⟩ := bd2_o h
      refine wg_pick [1, 0] (lv' := [(0, .ref (ad 55)), (1, .int (0 : Int32))]) rfl ?_
      refine L_X9_back_l39 X hr hS r0 D0 C N     N M9 (0 : Int32) o36 h37 (fun M34 v35 e39 => ?_)
      · subst e39
        replace h := bd2_in h
        refine wg_aload_n X 0 dX9_back_108 rfl rfl ?_
        refine wg_aload_n X 0 dX9_back_109 rfl rfl ?_
        refine wg_getM X cl9 (SMi hS 55 9 rfl) 38 (by decide) dX9_back_110 k_920 rfl ?_
        obtain ⟨M40, e41, h⟩ := lt_some h
        refine wg_putMe X cl9 (SMi hS 55 9 rfl) 13 (by decide) dX9_back_113 k_895 rfl rfl rfl rfl e41 ?_
        refine wg_aload_n X 0 dX9_back_116 rfl rfl ?_
        refine wg_aload_n X 0 dX9_back_117 rfl rfl ?_
        refine wg_getM X cl9 (SMi hS 55 9 rfl) 39 (by decide) dX9_back_118 k_921 rfl ?_
        obtain ⟨M42, e43, h⟩ := lt_some h
        refine wg_putMe X cl9 (SMi hS 55 9 rfl) 4 (by decide) dX9_back_121 k_886 rfl rfl rfl rfl e43 ?_
        refine wg_aload_n X 0 dX9_back_124 rfl rfl ?_
        refine wg_getM X cl9 (SMi hS 55 9 rfl) 13 (by decide) dX9_back_125 k_895 rfl ?_
        exact wg_iret X ⟨congrArg Prod.fst (sm_inj h), rfl, congrArg Prod.snd (sm_inj h)⟩ hr dX9_back_128
  · have h := if_t c1 h
    refine wg_bipush (v := -3) X dX9_back_8 (by decide) ?_
    exact wg_iret X ⟨congrArg Prod.fst (sm_inj h), rfl, congrArg Prod.snd (sm_inj h)⟩ hr dX9_back_10
-- WindowsGiveModel.count(I)I (('c', 55), 'i')
def f_X9_count_l64 (N : Nat) (M : wg_M)   (x2 : Int32) (x3 : Int32) : Option ((Int32 × Int32) ⊕ (Int32 × Int32)) :=
  if (32 : Int32) ≤ x3 then (
    some (.inr (x2, x3)))
  else (
    ck (inb x3 32) <|
    lt_ (x2 + (M.1 59 x3.toNatClampNeg)) fun v7 =>
    lt_ (x3 + (1 : Int32)) fun v9 =>
    some (.inl (v7, v9)))
def f_X9_count (N : Nat) (M : wg_M) (p1 : Int32) : Option Int32 :=
  bd (f_X9_in p1.toInt64 (0 : Int64) (4 : Int64)) fun r2 =>
  if r2 = 0 then (
    some (-2 : Int32))
  else (
    if (4 : Int32) ≤ p1 then (
      bd2 (lp (fun o => f_X9_count_l64 N M   o.1 o.2) N ((0 : Int32), (0 : Int32))) fun v11 v12 =>
      some v11)
    else (
      if p1 = 0 then (
        some (M.1 55 13))
      else (
        if p1 = (1 : Int32) then (
          some (M.1 55 3))
        else (
          if p1 = (2 : Int32) then (
            some (M.1 55 6))
          else (
            some (M.1 55 4))))))
abbrev G_X9_count (p : Program) (l : Launch) (e : Env) (s : State) (m : MethodId) (args : Array Value) (below : List Frame) (meth : Method) (c : Code) (E : wg_Ev) (ad : Nat → Nat) (S : wg_Sh) (r0 : Int32) (C0 : wg_C) (M0 : wg_M) (pc : Nat) (C : wg_C) (M : wg_M) (lv : List (Nat × Value)) (st : List Value) : Prop := wg_G p l e (wg_Rm 1 25) s m args below meth c (MQ below (wg_Qi E ad S r0 C0 M0) args s 0 0 (wg_A E)) 4 E ad S 0 0 pc C M lv st
set_option maxHeartbeats 4000000 in
set_option maxRecDepth 100000 in
theorem L_X9_count_l64 {p : Program} {l : Launch} {e : Env} {s : State} {m : MethodId} {args : Array Value} {below : List Frame} {meth : Method} {c : Code} {E : wg_Ev} {ad : Nat → Nat} {S : wg_Sh} (X : wg_X p s m args meth c cX9_count 4 RX9 E) (hr : meth.sig.returnType = (some .int)) (hS : wg_SM S) (r0 : Int32) (C : wg_C) (N : Nat)  (M : wg_M)    : ∀ (n : Nat) (x2 : Int32) (x3 : Int32) (o : (Int32 × Int32)), lp (fun o => f_X9_count_l64 N M   o.1 o.2) n (x2, x3) = some o → (∀ (y2 : Int32) (y3 : Int32), o = (y2, y3) → G_X9_count p l e s m args below meth c E ad S r0 C M 85 C M [(0, .ref (ad 55)), (2, .int y2), (3, .int y3)] []) → G_X9_count p l e s m args below meth c E ad S r0 C M 64 C M [(0, .ref (ad 55)), (2, .int x2), (3, .int x3)] [] := by
  intro n
  induction n with
  | zero => exact fun _ _ o h => (lp_zero h).elim
  | succ n ih =>
    intro x2 x3 o h K
    obtain ⟨o1, hb, h2⟩ := lp_some h
    replace hb : f_X9_count_l64 N M   x2 x3 = some o1 := hb
    clear h
    have Kc : ∀ (y2 : Int32) (y3 : Int32), o1 = Sum.inl (y2, y3) → G_X9_count p l e s m args below meth c E ad S r0 C M 64 C M [(0, .ref (ad 55)), (2, .int y2), (3, .int y3)] [] := fun y2 y3 e1 => by
      subst e1
      exact ih y2 y3 o h2 K
    have Ke : ∀ (y2 : Int32) (y3 : Int32), o1 = Sum.inr ((y2, y3)) → G_X9_count p l e s m args below meth c E ad S r0 C M 85 C M [(0, .ref (ad 55)), (2, .int y2), (3, .int y3)] [] := fun y2 y3 e1 => by
      subst e1
      exact K y2 y3 (sm_inj (α := (Int32 × Int32)) h2).symm
    clear ih K h2
    unfold f_X9_count_l64 at hb
    have h := hb
    clear hb
    refine wg_iload_n X 2 dX9_count_64 rfl rfl ?_
    refine wg_bipush (v := 32) X dX9_count_65 (by decide) ?_
    refine wg_icmp_ge X 85 dX9_count_67 (by decide) (fun c5 => ?_) (fun c5 => ?_)
    · have h := if_t c5 h
      exact Ke x2 x3 (sm_inj h).symm
    · have h := if_f c5 h
      refine wg_iload_n X 1 dX9_count_70 rfl rfl ?_
      refine wg_aload_n X 0 dX9_count_71 rfl rfl ?_
      refine wg_getR (b := 59) X cl9 (SMi hS 55 9 rfl) 7 (by decide) dX9_count_72 k_889 rfl (SMr hS 7 59 rfl) ?_
      refine wg_iload_n X 2 dX9_count_75 rfl rfl ?_
      obtain ⟨z6, h⟩ := ck_some h
      refine wg_mald X (SMi hS 59 11 rfl) (SMl hS 59 32 rfl) z6 dX9_count_76 ?_
      refine wg_iadd X dX9_count_77 ?_
      obtain ⟨v7, e8, h⟩ := lt_some h
      refine wg_istore_n (lv' := [(2, .int v7), (0, .ref (ad 55)), (3, .int x3)]) X dX9_count_78 rfl e8 (by decide) rfl ?_
      obtain ⟨v9, e10, h⟩ := lt_some h
      refine wg_iinc (lv' := [(3, .int v9), (2, .int v7), (0, .ref (ad 55))]) X 2 dX9_count_79 rfl e10 (by decide) rfl ?_
      refine wg_goto X 64 dX9_count_82 (by decide) ?_
      refine wg_pick [2, 1, 0] (lv' := [(0, .ref (ad 55)), (2, .int v7), (3, .int v9)]) rfl ?_
      exact Kc v7 v9 (sm_inj h).symm
set_option maxHeartbeats 4000000 in
set_option maxRecDepth 100000 in
theorem c_X9_count (l : Launch) (E : wg_Ev) (ad : Nat → Nat) (S : wg_Sh) (hS : wg_SM S) (N : Nat) (C : wg_C) (M : wg_M) (p1 : Int32)  {r0 : Int32} (h : f_X9_count N M p1 = some r0) : wg_Ci l yX9_count cX9_count 4 (some .int) 1 25 E ad S C M [.ref (ad 55), .int p1] r0 C M := by
  refine wg_start (own := RX9) (by decide +kernel) rfl (Nat.le_of_ble_eq_true rfl) ?_
  intro p e s m below meth c X hr hnm
  refine wg_lv (lv' := [(0, .ref (ad 55)), (1, .int p1)]) rfl ?_
  unfold f_X9_count at h
  refine wg_iload_n X 1 dX9_count_0 rfl rfl ?_
  refine wg_i2l X dX9_count_1 ?_
  refine wg_lconst (v := 0) X dX9_count_2 (by decide) ?_
  refine wg_ldc2 (v := 4) X dX9_count_3 k_1020 ?_
  obtain ⟨r2, h1, h⟩ := bd_some h
  refine wg_callSi (As := [.long (p1.toInt64), .long (0 : Int64), .long (4 : Int64)]) (rest := []) X (c_X9_in l E ad S C M p1.toInt64 (0 : Int64) (4 : Int64)  h1) T_yX9_in k_1021 dX9_count_6 rfl rfl (Nat.le_of_ble_eq_true rfl) ⟨Nat.le_of_ble_eq_true rfl, Nat.le_of_ble_eq_true rfl⟩ ⟨Nat.zero_le _, Nat.zero_le _⟩ ?_
  refine wg_if_ne X 15 dX9_count_9 (by decide) (fun c3 => ?_) (fun c3 => ?_)
  · have h := if_f c3 h
    refine wg_iload_n X 1 dX9_count_15 rfl rfl ?_
    refine wg_iconst (v := 4) X dX9_count_16 (by decide) ?_
    refine wg_icmp_ge X 60 dX9_count_17 (by decide) (fun c4 => ?_) (fun c4 => ?_)
    · have h := if_t c4 h
      refine wg_iconst (v := 0) X dX9_count_60 (by decide) ?_
      refine wg_istore_n (lv' := [(2, .int (0 : Int32)), (0, .ref (ad 55)), (1, .int p1)]) X dX9_count_61 rfl rfl (by decide) rfl ?_
      refine wg_iconst (v := 0) X dX9_count_62 (by decide) ?_
      refine wg_istore_n (lv' := [(3, .int (0 : Int32)), (2, .int (0 : Int32)), (0, .ref (ad 55)), (1, .int p1)]) X dX9_count_63 rfl rfl (by decide) rfl ?_
      obtain ⟨o13, h14, h⟩ := bd2_o h
      refine wg_pick [2, 1, 0] (lv' := [(0, .ref (ad 55)), (2, .int (0 : Int32)), (3, .int (0 : Int32))]) rfl ?_
      refine L_X9_count_l64 X hr hS r0 C N  M    N (0 : Int32) (0 : Int32) o13 h14 (fun v11 v12 e16 => ?_)
      · subst e16
        replace h := bd2_in h
        refine wg_iload_n X 1 dX9_count_85 rfl rfl ?_
        exact wg_iret X ⟨(sm_inj h), rfl, rfl⟩ hr dX9_count_86
    · have h := if_f c4 h
      refine wg_iload_n X 1 dX9_count_20 rfl rfl ?_
      refine wg_if_ne X 31 dX9_count_21 (by decide) (fun c17 => ?_) (fun c17 => ?_)
      · have h := if_f c17 h
        refine wg_iload_n X 1 dX9_count_31 rfl rfl ?_
        refine wg_iconst (v := 1) X dX9_count_32 (by decide) ?_
        refine wg_icmp_ne X 43 dX9_count_33 (by decide) (fun c18 => ?_) (fun c18 => ?_)
        · have h := if_f c18 h
          refine wg_iload_n X 1 dX9_count_43 rfl rfl ?_
          refine wg_iconst (v := 2) X dX9_count_44 (by decide) ?_
          refine wg_icmp_ne X 55 dX9_count_45 (by decide) (fun c19 => ?_) (fun c19 => ?_)
          · have h := if_f c19 h
            refine wg_aload_n X 0 dX9_count_55 rfl rfl ?_
            refine wg_getM X cl9 (SMi hS 55 9 rfl) 4 (by decide) dX9_count_56 k_886 rfl ?_
            exact wg_iret X ⟨(sm_inj h), rfl, rfl⟩ hr dX9_count_59
          · have h := if_t c19 h
            refine wg_aload_n X 0 dX9_count_48 rfl rfl ?_
            refine wg_getM X cl9 (SMi hS 55 9 rfl) 6 (by decide) dX9_count_49 k_888 rfl ?_
            refine wg_goto X 59 dX9_count_52 (by decide) ?_
            exact wg_iret X ⟨(sm_inj h), rfl, rfl⟩ hr dX9_count_59
        · have h := if_t c18 h
          refine wg_aload_n X 0 dX9_count_36 rfl rfl ?_
          refine wg_getM X cl9 (SMi hS 55 9 rfl) 3 (by decide) dX9_count_37 k_885 rfl ?_
          refine wg_goto X 59 dX9_count_40 (by decide) ?_
          exact wg_iret X ⟨(sm_inj h), rfl, rfl⟩ hr dX9_count_59
      · have h := if_t c17 h
        refine wg_aload_n X 0 dX9_count_24 rfl rfl ?_
        refine wg_getM X cl9 (SMi hS 55 9 rfl) 13 (by decide) dX9_count_25 k_895 rfl ?_
        refine wg_goto X 59 dX9_count_28 (by decide) ?_
        exact wg_iret X ⟨(sm_inj h), rfl, rfl⟩ hr dX9_count_59
  · have h := if_t c3 h
    refine wg_bipush (v := -2) X dX9_count_12 (by decide) ?_
    exact wg_iret X ⟨(sm_inj h), rfl, rfl⟩ hr dX9_count_14
-- WindowsGiveModel.cell(III)I (('c', 55), 'i', 'i', 'i')
def f_X9_cell (M : wg_M) (p1 : Int32) (p2 : Int32) (p3 : Int32) : Option (Int32 × wg_M) :=
  bd (f_X9_isSheet p1) fun r2 =>
  if r2 = 0 then (
    some ((-2 : Int32), M))
  else (
    ck (inb p1 4) <|
    if (M.1 71 p1.toNatClampNeg) = 0 then (
      some ((-11 : Int32), M))
    else (
      ck (inb p1 4) <|
      bd (f_X9_in p2.toInt64 (0 : Int64) (((M.1 73 p1.toNatClampNeg) - (1 : Int32)).toInt64)) fun r8 =>
      if r8 = 0 then (
        some ((-12 : Int32), M))
      else (
        ck (inb p1 4) <|
        if (M.1 72 p1.toNatClampNeg) = 0 then (
          ck (inb (((40 : Int32) * p1) + p2) 160) <|
          lt_ (wg_sM M 74 (((40 : Int32) * p1) + p2).toNatClampNeg p3.toInt8.toInt32) fun M21 =>
          some ((1 : Int32), M21))
        else (
          ck (inb p1 4) <|
          if (M.1 72 p1.toNatClampNeg) = (1 : Int32) then (
            ck (inb (((40 : Int32) * p1) + p2) 160) <|
            lt_ (wg_sM M 74 (((40 : Int32) * p1) + p2).toNatClampNeg p3.toInt16.toInt32) fun M18 =>
            some ((1 : Int32), M18))
          else (
            ck (inb (((40 : Int32) * p1) + p2) 160) <|
            lt_ (wg_sM M 74 (((40 : Int32) * p1) + p2).toNatClampNeg p3) fun M15 =>
            some ((1 : Int32), M15))))))
set_option maxHeartbeats 4000000 in
set_option maxRecDepth 100000 in
theorem c_X9_cell (l : Launch) (E : wg_Ev) (ad : Nat → Nat) (S : wg_Sh) (hS : wg_SM S) (C : wg_C) (M : wg_M) (p1 : Int32) (p2 : Int32) (p3 : Int32)  {r0 : Int32} {D0 : wg_M} (h : f_X9_cell M p1 p2 p3 = some (r0, D0)) : wg_Ci l yX9_cell cX9_cell 4 (some .int) 2 45 E ad S C M [.ref (ad 55), .int p1, .int p2, .int p3] r0 C D0 := by
  refine wg_start (own := RX9) (by decide +kernel) rfl (Nat.le_of_ble_eq_true rfl) ?_
  intro p e s m below meth c X hr hnm
  refine wg_lv (lv' := [(0, .ref (ad 55)), (1, .int p1), (2, .int p2), (3, .int p3)]) rfl ?_
  unfold f_X9_cell at h
  refine wg_iload_n X 1 dX9_cell_0 rfl rfl ?_
  obtain ⟨r2, h1, h⟩ := bd_some h
  refine wg_callSi (As := [.int p1]) (rest := []) X (c_X9_isSheet l E ad S C M p1  h1) T_yX9_isSheet k_1217 dX9_cell_1 rfl rfl (Nat.le_of_ble_eq_true rfl) ⟨Nat.le_of_ble_eq_true rfl, Nat.le_of_ble_eq_true rfl⟩ ⟨Nat.zero_le _, Nat.zero_le _⟩ ?_
  refine wg_if_ne X 10 dX9_cell_4 (by decide) (fun c3 => ?_) (fun c3 => ?_)
  · have h := if_f c3 h
    refine wg_aload_n X 0 dX9_cell_10 rfl rfl ?_
    refine wg_getR (b := 71) X cl9 (SMi hS 55 9 rfl) 40 (by decide) dX9_cell_11 k_922 rfl (SMr hS 40 71 rfl) ?_
    refine wg_iload_n X 1 dX9_cell_14 rfl rfl ?_
    obtain ⟨z4, h⟩ := ck_some h
    refine wg_zald X (SMi hS 71 12 rfl) (SMl hS 71 4 rfl) z4 dX9_cell_15 ?_
    refine wg_if_ne X 22 dX9_cell_16 (by decide) (fun c5 => ?_) (fun c5 => ?_)
    · have h := if_f c5 h
      refine wg_iload_n X 2 dX9_cell_22 rfl rfl ?_
      refine wg_i2l X dX9_cell_23 ?_
      refine wg_lconst (v := 0) X dX9_cell_24 (by decide) ?_
      refine wg_aload_n X 0 dX9_cell_25 rfl rfl ?_
      refine wg_getR (b := 73) X cl9 (SMi hS 55 9 rfl) 42 (by decide) dX9_cell_26 k_924 rfl (SMr hS 42 73 rfl) ?_
      refine wg_iload_n X 1 dX9_cell_29 rfl rfl ?_
      obtain ⟨z6, h⟩ := ck_some h
      refine wg_mald X (SMi hS 73 11 rfl) (SMl hS 73 4 rfl) z6 dX9_cell_30 ?_
      refine wg_iconst (v := 1) X dX9_cell_31 (by decide) ?_
      refine wg_isub X dX9_cell_32 ?_
      refine wg_i2l X dX9_cell_33 ?_
      obtain ⟨r8, h7, h⟩ := bd_some h
      refine wg_callSi (As := [.long (p2.toInt64), .long (0 : Int64), .long (((M.1 73 p1.toNatClampNeg) - (1 : Int32)).toInt64)]) (rest := []) X (c_X9_in l E ad S C M p2.toInt64 (0 : Int64) (((M.1 73 p1.toNatClampNeg) - (1 : Int32)).toInt64)  h7) T_yX9_in k_1021 dX9_cell_34 rfl rfl (Nat.le_of_ble_eq_true rfl) ⟨Nat.le_of_ble_eq_true rfl, Nat.le_of_ble_eq_true rfl⟩ ⟨Nat.zero_le _, Nat.zero_le _⟩ ?_
      refine wg_if_ne X 43 dX9_cell_37 (by decide) (fun c9 => ?_) (fun c9 => ?_)
      · have h := if_f c9 h
        refine wg_aload_n X 0 dX9_cell_43 rfl rfl ?_
        refine wg_getR (b := 74) X cl9 (SMi hS 55 9 rfl) 43 (by decide) dX9_cell_44 k_925 rfl (SMr hS 43 74 rfl) ?_
        refine wg_bipush (v := 40) X dX9_cell_47 (by decide) ?_
        refine wg_iload_n X 1 dX9_cell_49 rfl rfl ?_
        refine wg_imul X dX9_cell_50 ?_
        refine wg_iload_n X 2 dX9_cell_51 rfl rfl ?_
        refine wg_iadd X dX9_cell_52 ?_
        refine wg_aload_n X 0 dX9_cell_53 rfl rfl ?_
        refine wg_getR (b := 72) X cl9 (SMi hS 55 9 rfl) 41 (by decide) dX9_cell_54 k_923 rfl (SMr hS 41 72 rfl) ?_
        refine wg_iload_n X 1 dX9_cell_57 rfl rfl ?_
        obtain ⟨z10, h⟩ := ck_some h
        refine wg_mald X (SMi hS 72 11 rfl) (SMl hS 72 4 rfl) z10 dX9_cell_58 ?_
        refine wg_if_ne X 67 dX9_cell_59 (by decide) (fun c11 => ?_) (fun c11 => ?_)
        · have h := if_f c11 h
          refine wg_aload_n X 0 dX9_cell_67 rfl rfl ?_
          refine wg_getR (b := 72) X cl9 (SMi hS 55 9 rfl) 41 (by decide) dX9_cell_68 k_923 rfl (SMr hS 41 72 rfl) ?_
          refine wg_iload_n X 1 dX9_cell_71 rfl rfl ?_
          obtain ⟨z12, h⟩ := ck_some h
          refine wg_mald X (SMi hS 72 11 rfl) (SMl hS 72 4 rfl) z12 dX9_cell_72 ?_
          refine wg_iconst (v := 1) X dX9_cell_73 (by decide) ?_
          refine wg_icmp_ne X 82 dX9_cell_74 (by decide) (fun c13 => ?_) (fun c13 => ?_)
          · have h := if_f c13 h
            refine wg_iload_n X 3 dX9_cell_82 rfl rfl ?_
            obtain ⟨z14, h⟩ := ck_some h
            obtain ⟨M15, e16, h⟩ := lt_some h
            refine wg_maste X (SMi hS 74 11 rfl) (SMl hS 74 160 rfl) z14 dX9_cell_83 e16 ?_
            refine wg_iconst (v := 1) X dX9_cell_84 (by decide) ?_
            exact wg_iret X ⟨congrArg Prod.fst (sm_inj h), rfl, congrArg Prod.snd (sm_inj h)⟩ hr dX9_cell_85
          · have h := if_t c13 h
            refine wg_iload_n X 3 dX9_cell_77 rfl rfl ?_
            refine wg_i2s X dX9_cell_78 ?_
            refine wg_goto X 83 dX9_cell_79 (by decide) ?_
            obtain ⟨z17, h⟩ := ck_some h
            obtain ⟨M18, e19, h⟩ := lt_some h
            refine wg_maste X (SMi hS 74 11 rfl) (SMl hS 74 160 rfl) z17 dX9_cell_83 e19 ?_
            refine wg_iconst (v := 1) X dX9_cell_84 (by decide) ?_
            exact wg_iret X ⟨congrArg Prod.fst (sm_inj h), rfl, congrArg Prod.snd (sm_inj h)⟩ hr dX9_cell_85
        · have h := if_t c11 h
          refine wg_iload_n X 3 dX9_cell_62 rfl rfl ?_
          refine wg_i2b X dX9_cell_63 ?_
          refine wg_goto X 83 dX9_cell_64 (by decide) ?_
          obtain ⟨z20, h⟩ := ck_some h
          obtain ⟨M21, e22, h⟩ := lt_some h
          refine wg_maste X (SMi hS 74 11 rfl) (SMl hS 74 160 rfl) z20 dX9_cell_83 e22 ?_
          refine wg_iconst (v := 1) X dX9_cell_84 (by decide) ?_
          exact wg_iret X ⟨congrArg Prod.fst (sm_inj h), rfl, congrArg Prod.snd (sm_inj h)⟩ hr dX9_cell_85
      · have h := if_t c9 h
        refine wg_bipush (v := -12) X dX9_cell_40 (by decide) ?_
        exact wg_iret X ⟨congrArg Prod.fst (sm_inj h), rfl, congrArg Prod.snd (sm_inj h)⟩ hr dX9_cell_42
    · have h := if_t c5 h
      refine wg_bipush (v := -11) X dX9_cell_19 (by decide) ?_
      exact wg_iret X ⟨congrArg Prod.fst (sm_inj h), rfl, congrArg Prod.snd (sm_inj h)⟩ hr dX9_cell_21
  · have h := if_t c3 h
    refine wg_bipush (v := -2) X dX9_cell_7 (by decide) ?_
    exact wg_iret X ⟨congrArg Prod.fst (sm_inj h), rfl, congrArg Prod.snd (sm_inj h)⟩ hr dX9_cell_9
-- WindowsGiveModel.copy(IIIII)I (('c', 55), 'i', 'i', 'i', 'i', 'i')
def f_X9_copy_j145l121 (N : Nat) (M : wg_M)  (x1 : Int32) (x2 : Int32) (x3 : Int32) (x4 : Int32) (x5 : Int32) (x6 : Int32) (x7 : Int32) (s0 : Int32) : Option ((wg_M × Int32) ⊕ (wg_M × Int32)) :=
  ck (inb ((((40 : Int32) * x1) + x2) + s0) 160) <|
  ck (inb ((((40 : Int32) * x3) + x4) + s0) 160) <|
  lt_ (wg_sM M 74 ((((40 : Int32) * x3) + x4) + s0).toNatClampNeg (M.1 74 ((((40 : Int32) * x1) + x2) + s0).toNatClampNeg)) fun M26 =>
  lt_ (x7 + (1 : Int32)) fun v28 =>
  some (.inl (M26, v28))
def f_X9_copy_l121 (N : Nat)  (x1 : Int32) (x2 : Int32) (x3 : Int32) (x4 : Int32) (x5 : Int32) (x6 : Int32) (M : wg_M) (x7 : Int32) : Option ((wg_M × Int32) ⊕ (wg_M × Int32)) :=
  if x5 ≤ x7 then (
    some (.inr (M, x7)))
  else (
    if x6 = 0 then (
      f_X9_copy_j145l121 N M  x1 x2 x3 x4 x5 x6 x7 x7)
    else (
      f_X9_copy_j145l121 N M  x1 x2 x3 x4 x5 x6 x7 ((x5 - (1 : Int32)) - x7)))
def f_X9_copy_j116 (N : Nat) (M : wg_M)  (x1 : Int32) (x2 : Int32) (x3 : Int32) (x4 : Int32) (x5 : Int32) (s0 : Int32) : Option (Int32 × wg_M) :=
  bd2 (lp (fun o => f_X9_copy_l121 N  x1 x2 x3 x4 x5 s0 o.1 o.2) N (M, (0 : Int32))) fun M30 v31 =>
  some (x5, M30)
def f_X9_copy (N : Nat) (M : wg_M) (p1 : Int32) (p2 : Int32) (p3 : Int32) (p4 : Int32) (p5 : Int32) : Option (Int32 × wg_M) :=
  bd (f_X9_isSheet p1) fun r2 =>
  if r2 = 0 then (
    some ((-2 : Int32), M))
  else (
    bd (f_X9_isSheet p3) fun r5 =>
    if r5 = 0 then (
      some ((-2 : Int32), M))
    else (
      ck (inb p1 4) <|
      if (M.1 71 p1.toNatClampNeg) = 0 then (
        some ((-11 : Int32), M))
      else (
        ck (inb p3 4) <|
        if (M.1 71 p3.toNatClampNeg) = 0 then (
          some ((-11 : Int32), M))
        else (
          ck (inb p1 4) <|
          ck (inb p3 4) <|
          if (M.1 72 p1.toNatClampNeg) = (M.1 72 p3.toNatClampNeg) then (
            if p5 < 0 then (
              some ((-12 : Int32), M))
            else (
              if p2 < 0 then (
                some ((-12 : Int32), M))
              else (
                if p4 < 0 then (
                  some ((-12 : Int32), M))
                else (
                  ck (inb p1 4) <|
                  if ((M.1 73 p1.toNatClampNeg) - p5) < p2 then (
                    some ((-12 : Int32), M))
                  else (
                    ck (inb p3 4) <|
                    if p4 ≤ ((M.1 73 p3.toNatClampNeg) - p5) then (
                      if p1 = p3 then (
                        if p4 ≤ p2 then (
                          f_X9_copy_j116 N M  p1 p2 p3 p4 p5 (0 : Int32))
                        else (
                          f_X9_copy_j116 N M  p1 p2 p3 p4 p5 (1 : Int32)))
                      else (
                        f_X9_copy_j116 N M  p1 p2 p3 p4 p5 (0 : Int32)))
                    else (
                      some ((-12 : Int32), M)))))))
          else (
            some ((-13 : Int32), M))))))
abbrev G_X9_copy (p : Program) (l : Launch) (e : Env) (s : State) (m : MethodId) (args : Array Value) (below : List Frame) (meth : Method) (c : Code) (E : wg_Ev) (ad : Nat → Nat) (S : wg_Sh) (r0 : Int32) (C0 : wg_C) (M0 : wg_M) (pc : Nat) (C : wg_C) (M : wg_M) (lv : List (Nat × Value)) (st : List Value) : Prop := wg_G p l e (wg_Rm 2 45) s m args below meth c (MQ below (wg_Qi E ad S r0 C0 M0) args s 0 0 (wg_A E)) 9 E ad S 0 0 pc C M lv st
set_option maxHeartbeats 4000000 in
set_option maxRecDepth 100000 in
theorem J_X9_copy_j145l121 {p : Program} {l : Launch} {e : Env} {s : State} {m : MethodId} {args : Array Value} {below : List Frame} {meth : Method} {c : Code} {E : wg_Ev} {ad : Nat → Nat} {S : wg_Sh} (X : wg_X p s m args meth c cX9_copy 9 RX9 E) (hr : meth.sig.returnType = (some .int)) (hS : wg_SM S) (r0 : Int32) (D0 : wg_M) (C : wg_C) (N : Nat)  (M : wg_M)  (x1 : Int32) (x2 : Int32) (x3 : Int32) (x4 : Int32) (x5 : Int32) (x6 : Int32) (x7 : Int32) (s0 : Int32)  (y : ((wg_M × Int32) ⊕ (wg_M × Int32))) (Kc : ∀ (Dy : wg_M) (y7 : Int32), y = Sum.inl (Dy, y7) → G_X9_copy p l e s m args below meth c E ad S r0 C D0 121 C Dy [(0, .ref (ad 55)), (1, .int x1), (2, .int x2), (3, .int x3), (4, .int x4), (5, .int x5), (6, .int x6), (7, .int y7)] []) (Ke : ∀ (Dy : wg_M) (y7 : Int32), y = Sum.inr ((Dy, y7)) → G_X9_copy p l e s m args below meth c E ad S r0 C D0 182 C Dy [(0, .ref (ad 55)), (1, .int x1), (2, .int x2), (3, .int x3), (4, .int x4), (5, .int x5), (6, .int x6), (7, .int y7)] []) (h : f_X9_copy_j145l121 N M  x1 x2 x3 x4 x5 x6 x7 s0 = some y) : G_X9_copy p l e s m args below meth c E ad S r0 C D0 145 C M [(0, .ref (ad 55)), (1, .int x1), (2, .int x2), (3, .int x3), (4, .int x4), (5, .int x5), (6, .int x6), (7, .int x7)] [.int s0] := by
  unfold f_X9_copy_j145l121 at h
  refine wg_istore (lv' := [(8, .int s0), (0, .ref (ad 55)), (1, .int x1), (2, .int x2), (3, .int x3), (4, .int x4), (5, .int x5), (6, .int x6), (7, .int x7)]) X dX9_copy_145 rfl (by decide) rfl ?_
  refine wg_aload_n X 1 dX9_copy_147 rfl rfl ?_
  refine wg_getR (b := 74) X cl9 (SMi hS 55 9 rfl) 43 (by decide) dX9_copy_148 k_925 rfl (SMr hS 43 74 rfl) ?_
  refine wg_bipush (v := 40) X dX9_copy_151 (by decide) ?_
  refine wg_iload_n X 4 dX9_copy_153 rfl rfl ?_
  refine wg_imul X dX9_copy_154 ?_
  refine wg_iload X 5 dX9_copy_155 rfl ?_
  refine wg_iadd X dX9_copy_157 ?_
  refine wg_iload X 0 dX9_copy_158 rfl ?_
  refine wg_iadd X dX9_copy_160 ?_
  refine wg_aload_n X 1 dX9_copy_161 rfl rfl ?_
  refine wg_getR (b := 74) X cl9 (SMi hS 55 9 rfl) 43 (by decide) dX9_copy_162 k_925 rfl (SMr hS 43 74 rfl) ?_
  refine wg_bipush (v := 40) X dX9_copy_165 (by decide) ?_
  refine wg_iload_n X 2 dX9_copy_167 rfl rfl ?_
  refine wg_imul X dX9_copy_168 ?_
  refine wg_iload_n X 3 dX9_copy_169 rfl rfl ?_
  refine wg_iadd X dX9_copy_170 ?_
  refine wg_iload X 0 dX9_copy_171 rfl ?_
  refine wg_iadd X dX9_copy_173 ?_
  obtain ⟨z24, h⟩ := ck_some h
  refine wg_mald X (SMi hS 74 11 rfl) (SMl hS 74 160 rfl) z24 dX9_copy_174 ?_
  obtain ⟨z25, h⟩ := ck_some h
  obtain ⟨M26, e27, h⟩ := lt_some h
  refine wg_maste X (SMi hS 74 11 rfl) (SMl hS 74 160 rfl) z25 dX9_copy_175 e27 ?_
  obtain ⟨v28, e29, h⟩ := lt_some h
  refine wg_iinc (lv' := [(7, .int v28), (8, .int s0), (0, .ref (ad 55)), (1, .int x1), (2, .int x2), (3, .int x3), (4, .int x4), (5, .int x5), (6, .int x6)]) X 8 dX9_copy_176 rfl e29 (by decide) rfl ?_
  refine wg_goto X 121 dX9_copy_179 (by decide) ?_
  refine wg_pick [2, 3, 4, 5, 6, 7, 8, 0] (lv' := [(0, .ref (ad 55)), (1, .int x1), (2, .int x2), (3, .int x3), (4, .int x4), (5, .int x5), (6, .int x6), (7, .int v28)]) rfl ?_
  exact Kc M26 v28 (sm_inj h).symm
set_option maxHeartbeats 4000000 in
set_option maxRecDepth 100000 in
theorem L_X9_copy_l121 {p : Program} {l : Launch} {e : Env} {s : State} {m : MethodId} {args : Array Value} {below : List Frame} {meth : Method} {c : Code} {E : wg_Ev} {ad : Nat → Nat} {S : wg_Sh} (X : wg_X p s m args meth c cX9_copy 9 RX9 E) (hr : meth.sig.returnType = (some .int)) (hS : wg_SM S) (r0 : Int32) (D0 : wg_M) (C : wg_C) (N : Nat)   (x1 : Int32) (x2 : Int32) (x3 : Int32) (x4 : Int32) (x5 : Int32) (x6 : Int32)  : ∀ (n : Nat) (M : wg_M) (x7 : Int32) (o : (wg_M × Int32)), lp (fun o => f_X9_copy_l121 N  x1 x2 x3 x4 x5 x6 o.1 o.2) n (M, x7) = some o → (∀ (Dy : wg_M) (y7 : Int32), o = (Dy, y7) → G_X9_copy p l e s m args below meth c E ad S r0 C D0 182 C Dy [(0, .ref (ad 55)), (1, .int x1), (2, .int x2), (3, .int x3), (4, .int x4), (5, .int x5), (6, .int x6), (7, .int y7)] []) → G_X9_copy p l e s m args below meth c E ad S r0 C D0 121 C M [(0, .ref (ad 55)), (1, .int x1), (2, .int x2), (3, .int x3), (4, .int x4), (5, .int x5), (6, .int x6), (7, .int x7)] [] := by
  intro n
  induction n with
  | zero => exact fun _ _ o h => (lp_zero h).elim
  | succ n ih =>
    intro M x7 o h K
    obtain ⟨o1, hb, h2⟩ := lp_some h
    replace hb : f_X9_copy_l121 N  x1 x2 x3 x4 x5 x6 M x7 = some o1 := hb
    clear h
    have Kc : ∀ (Dy : wg_M) (y7 : Int32), o1 = Sum.inl (Dy, y7) → G_X9_copy p l e s m args below meth c E ad S r0 C D0 121 C Dy [(0, .ref (ad 55)), (1, .int x1), (2, .int x2), (3, .int x3), (4, .int x4), (5, .int x5), (6, .int x6), (7, .int y7)] [] := fun Dy y7 e1 => by
      subst e1
      exact ih Dy y7 o h2 K
    have Ke : ∀ (Dy : wg_M) (y7 : Int32), o1 = Sum.inr ((Dy, y7)) → G_X9_copy p l e s m args below meth c E ad S r0 C D0 182 C Dy [(0, .ref (ad 55)), (1, .int x1), (2, .int x2), (3, .int x3), (4, .int x4), (5, .int x5), (6, .int x6), (7, .int y7)] [] := fun Dy y7 e1 => by
      subst e1
      exact K Dy y7 (sm_inj (α := (wg_M × Int32)) h2).symm
    clear ih K h2
    unfold f_X9_copy_l121 at hb
    have h := hb
    clear hb
    refine wg_iload X 7 dX9_copy_121 rfl ?_
    refine wg_iload X 5 dX9_copy_123 rfl ?_
    refine wg_icmp_ge X 182 dX9_copy_125 (by decide) (fun c22 => ?_) (fun c22 => ?_)
    · have h := if_t c22 h
      exact Ke M x7 (sm_inj h).symm
    · have h := if_f c22 h
      refine wg_iload X 6 dX9_copy_128 rfl ?_
      refine wg_if_eq X 143 dX9_copy_130 (by decide) (fun c23 => ?_) (fun c23 => ?_)
      · have h := if_t c23 h
        refine wg_iload X 7 dX9_copy_143 rfl ?_
        exact J_X9_copy_j145l121 X hr hS r0 D0 C N  M  x1 x2 x3 x4 x5 x6 x7 x7  _ Kc Ke h
      · have h := if_f c23 h
        refine wg_iload X 5 dX9_copy_133 rfl ?_
        refine wg_iconst (v := 1) X dX9_copy_135 (by decide) ?_
        refine wg_isub X dX9_copy_136 ?_
        refine wg_iload X 7 dX9_copy_137 rfl ?_
        refine wg_isub X dX9_copy_139 ?_
        refine wg_goto X 145 dX9_copy_140 (by decide) ?_
        exact J_X9_copy_j145l121 X hr hS r0 D0 C N  M  x1 x2 x3 x4 x5 x6 x7 ((x5 - (1 : Int32)) - x7)  _ Kc Ke h
set_option maxHeartbeats 4000000 in
set_option maxRecDepth 100000 in
theorem J_X9_copy_j116 {p : Program} {l : Launch} {e : Env} {s : State} {m : MethodId} {args : Array Value} {below : List Frame} {meth : Method} {c : Code} {E : wg_Ev} {ad : Nat → Nat} {S : wg_Sh} (X : wg_X p s m args meth c cX9_copy 9 RX9 E) (hr : meth.sig.returnType = (some .int)) (hS : wg_SM S) (r0 : Int32) (D0 : wg_M) (C : wg_C) (N : Nat)  (M : wg_M)  (x1 : Int32) (x2 : Int32) (x3 : Int32) (x4 : Int32) (x5 : Int32) (s0 : Int32)   (h : f_X9_copy_j116 N M  x1 x2 x3 x4 x5 s0 = some (r0, D0)) : G_X9_copy p l e s m args below meth c E ad S r0 C D0 116 C M [(0, .ref (ad 55)), (1, .int x1), (2, .int x2), (3, .int x3), (4, .int x4), (5, .int x5)] [.int s0] := by
  unfold f_X9_copy_j116 at h
  refine wg_istore (lv' := [(6, .int s0), (0, .ref (ad 55)), (1, .int x1), (2, .int x2), (3, .int x3), (4, .int x4), (5, .int x5)]) X dX9_copy_116 rfl (by decide) rfl ?_
  refine wg_iconst (v := 0) X dX9_copy_118 (by decide) ?_
  refine wg_istore (lv' := [(7, .int (0 : Int32)), (6, .int s0), (0, .ref (ad 55)), (1, .int x1), (2, .int x2), (3, .int x3), (4, .int x4), (5, .int x5)]) X dX9_copy_119 rfl (by decide) rfl ?_
  obtain ⟨o32, h33, h⟩ := bd2_o h
  refine wg_pick [2, 3, 4, 5, 6, 7, 1, 0] (lv' := [(0, .ref (ad 55)), (1, .int x1), (2, .int x2), (3, .int x3), (4, .int x4), (5, .int x5), (6, .int s0), (7, .int (0 : Int32))]) rfl ?_
  refine L_X9_copy_l121 X hr hS r0 D0 C N   x1 x2 x3 x4 x5 s0  N M (0 : Int32) o32 h33 (fun M30 v31 e35 => ?_)
  · subst e35
    replace h := bd2_in h
    refine wg_iload X 5 dX9_copy_182 rfl ?_
    exact wg_iret X ⟨congrArg Prod.fst (sm_inj h), rfl, congrArg Prod.snd (sm_inj h)⟩ hr dX9_copy_184
set_option maxHeartbeats 4000000 in
set_option maxRecDepth 100000 in
theorem c_X9_copy (l : Launch) (E : wg_Ev) (ad : Nat → Nat) (S : wg_Sh) (hS : wg_SM S) (N : Nat) (C : wg_C) (M : wg_M) (p1 : Int32) (p2 : Int32) (p3 : Int32) (p4 : Int32) (p5 : Int32)  {r0 : Int32} {D0 : wg_M} (h : f_X9_copy N M p1 p2 p3 p4 p5 = some (r0, D0)) : wg_Ci l yX9_copy cX9_copy 9 (some .int) 2 45 E ad S C M [.ref (ad 55), .int p1, .int p2, .int p3, .int p4, .int p5] r0 C D0 := by
  refine wg_start (own := RX9) (by decide +kernel) rfl (Nat.le_of_ble_eq_true rfl) ?_
  intro p e s m below meth c X hr hnm
  refine wg_lv (lv' := [(0, .ref (ad 55)), (1, .int p1), (2, .int p2), (3, .int p3), (4, .int p4), (5, .int p5)]) rfl ?_
  unfold f_X9_copy at h
  refine wg_iload_n X 1 dX9_copy_0 rfl rfl ?_
  obtain ⟨r2, h1, h⟩ := bd_some h
  refine wg_callSi (As := [.int p1]) (rest := []) X (c_X9_isSheet l E ad S C M p1  h1) T_yX9_isSheet k_1217 dX9_copy_1 rfl rfl (Nat.le_of_ble_eq_true rfl) ⟨Nat.le_of_ble_eq_true rfl, Nat.le_of_ble_eq_true rfl⟩ ⟨Nat.zero_le _, Nat.zero_le _⟩ ?_
  refine wg_if_eq X 14 dX9_copy_4 (by decide) (fun c3 => ?_) (fun c3 => ?_)
  · have h := if_t c3 h
    refine wg_bipush (v := -2) X dX9_copy_14 (by decide) ?_
    exact wg_iret X ⟨congrArg Prod.fst (sm_inj h), rfl, congrArg Prod.snd (sm_inj h)⟩ hr dX9_copy_16
  · have h := if_f c3 h
    refine wg_iload_n X 3 dX9_copy_7 rfl rfl ?_
    obtain ⟨r5, h4, h⟩ := bd_some h
    refine wg_callSi (As := [.int p3]) (rest := []) X (c_X9_isSheet l E ad S C M p3  h4) T_yX9_isSheet k_1217 dX9_copy_8 rfl rfl (Nat.le_of_ble_eq_true rfl) ⟨Nat.le_of_ble_eq_true rfl, Nat.le_of_ble_eq_true rfl⟩ ⟨Nat.zero_le _, Nat.zero_le _⟩ ?_
    refine wg_if_ne X 17 dX9_copy_11 (by decide) (fun c6 => ?_) (fun c6 => ?_)
    · have h := if_f c6 h
      refine wg_aload_n X 0 dX9_copy_17 rfl rfl ?_
      refine wg_getR (b := 71) X cl9 (SMi hS 55 9 rfl) 40 (by decide) dX9_copy_18 k_922 rfl (SMr hS 40 71 rfl) ?_
      refine wg_iload_n X 1 dX9_copy_21 rfl rfl ?_
      obtain ⟨z7, h⟩ := ck_some h
      refine wg_zald X (SMi hS 71 12 rfl) (SMl hS 71 4 rfl) z7 dX9_copy_22 ?_
      refine wg_if_eq X 35 dX9_copy_23 (by decide) (fun c8 => ?_) (fun c8 => ?_)
      · have h := if_t c8 h
        refine wg_bipush (v := -11) X dX9_copy_35 (by decide) ?_
        exact wg_iret X ⟨congrArg Prod.fst (sm_inj h), rfl, congrArg Prod.snd (sm_inj h)⟩ hr dX9_copy_37
      · have h := if_f c8 h
        refine wg_aload_n X 0 dX9_copy_26 rfl rfl ?_
        refine wg_getR (b := 71) X cl9 (SMi hS 55 9 rfl) 40 (by decide) dX9_copy_27 k_922 rfl (SMr hS 40 71 rfl) ?_
        refine wg_iload_n X 3 dX9_copy_30 rfl rfl ?_
        obtain ⟨z9, h⟩ := ck_some h
        refine wg_zald X (SMi hS 71 12 rfl) (SMl hS 71 4 rfl) z9 dX9_copy_31 ?_
        refine wg_if_ne X 38 dX9_copy_32 (by decide) (fun c10 => ?_) (fun c10 => ?_)
        · have h := if_f c10 h
          refine wg_aload_n X 0 dX9_copy_38 rfl rfl ?_
          refine wg_getR (b := 72) X cl9 (SMi hS 55 9 rfl) 41 (by decide) dX9_copy_39 k_923 rfl (SMr hS 41 72 rfl) ?_
          refine wg_iload_n X 1 dX9_copy_42 rfl rfl ?_
          obtain ⟨z11, h⟩ := ck_some h
          refine wg_mald X (SMi hS 72 11 rfl) (SMl hS 72 4 rfl) z11 dX9_copy_43 ?_
          refine wg_aload_n X 0 dX9_copy_44 rfl rfl ?_
          refine wg_getR (b := 72) X cl9 (SMi hS 55 9 rfl) 41 (by decide) dX9_copy_45 k_923 rfl (SMr hS 41 72 rfl) ?_
          refine wg_iload_n X 3 dX9_copy_48 rfl rfl ?_
          obtain ⟨z12, h⟩ := ck_some h
          refine wg_mald X (SMi hS 72 11 rfl) (SMl hS 72 4 rfl) z12 dX9_copy_49 ?_
          refine wg_icmp_eq X 56 dX9_copy_50 (by decide) (fun c13 => ?_) (fun c13 => ?_)
          · have h := if_t c13 h
            refine wg_iload X 5 dX9_copy_56 rfl ?_
            refine wg_if_lt X 97 dX9_copy_58 (by decide) (fun c14 => ?_) (fun c14 => ?_)
            · have h := if_t c14 h
              refine wg_bipush (v := -12) X dX9_copy_97 (by decide) ?_
              exact wg_iret X ⟨congrArg Prod.fst (sm_inj h), rfl, congrArg Prod.snd (sm_inj h)⟩ hr dX9_copy_99
            · have h := if_f c14 h
              refine wg_iload_n X 2 dX9_copy_61 rfl rfl ?_
              refine wg_if_lt X 97 dX9_copy_62 (by decide) (fun c15 => ?_) (fun c15 => ?_)
              · have h := if_t c15 h
                refine wg_bipush (v := -12) X dX9_copy_97 (by decide) ?_
                exact wg_iret X ⟨congrArg Prod.fst (sm_inj h), rfl, congrArg Prod.snd (sm_inj h)⟩ hr dX9_copy_99
              · have h := if_f c15 h
                refine wg_iload X 4 dX9_copy_65 rfl ?_
                refine wg_if_lt X 97 dX9_copy_67 (by decide) (fun c16 => ?_) (fun c16 => ?_)
                · have h := if_t c16 h
                  refine wg_bipush (v := -12) X dX9_copy_97 (by decide) ?_
                  exact wg_iret X ⟨congrArg Prod.fst (sm_inj h), rfl, congrArg Prod.snd (sm_inj h)⟩ hr dX9_copy_99
                · have h := if_f c16 h
                  refine wg_iload_n X 2 dX9_copy_70 rfl rfl ?_
                  refine wg_aload_n X 0 dX9_copy_71 rfl rfl ?_
                  refine wg_getR (b := 73) X cl9 (SMi hS 55 9 rfl) 42 (by decide) dX9_copy_72 k_924 rfl (SMr hS 42 73 rfl) ?_
                  refine wg_iload_n X 1 dX9_copy_75 rfl rfl ?_
                  obtain ⟨z17, h⟩ := ck_some h
                  refine wg_mald X (SMi hS 73 11 rfl) (SMl hS 73 4 rfl) z17 dX9_copy_76 ?_
                  refine wg_iload X 5 dX9_copy_77 rfl ?_
                  refine wg_isub X dX9_copy_79 ?_
                  refine wg_icmp_gt X 97 dX9_copy_80 (by decide) (fun c18 => ?_) (fun c18 => ?_)
                  · have h := if_t c18 h
                    refine wg_bipush (v := -12) X dX9_copy_97 (by decide) ?_
                    exact wg_iret X ⟨congrArg Prod.fst (sm_inj h), rfl, congrArg Prod.snd (sm_inj h)⟩ hr dX9_copy_99
                  · have h := if_f c18 h
                    refine wg_iload X 4 dX9_copy_83 rfl ?_
                    refine wg_aload_n X 0 dX9_copy_85 rfl rfl ?_
                    refine wg_getR (b := 73) X cl9 (SMi hS 55 9 rfl) 42 (by decide) dX9_copy_86 k_924 rfl (SMr hS 42 73 rfl) ?_
                    refine wg_iload_n X 3 dX9_copy_89 rfl rfl ?_
                    obtain ⟨z19, h⟩ := ck_some h
                    refine wg_mald X (SMi hS 73 11 rfl) (SMl hS 73 4 rfl) z19 dX9_copy_90 ?_
                    refine wg_iload X 5 dX9_copy_91 rfl ?_
                    refine wg_isub X dX9_copy_93 ?_
                    refine wg_icmp_le X 100 dX9_copy_94 (by decide) (fun c20 => ?_) (fun c20 => ?_)
                    · have h := if_t c20 h
                      refine wg_iload_n X 1 dX9_copy_100 rfl rfl ?_
                      refine wg_iload_n X 3 dX9_copy_101 rfl rfl ?_
                      refine wg_icmp_ne X 115 dX9_copy_102 (by decide) (fun c21 => ?_) (fun c21 => ?_)
                      · have h := if_f c21 h
                        refine wg_iconst (v := 0) X dX9_copy_115 (by decide) ?_
                        exact J_X9_copy_j116 X hr hS r0 D0 C N  M  p1 p2 p3 p4 p5 (0 : Int32)   h
                      · have h := if_t c21 h
                        refine wg_iload_n X 2 dX9_copy_105 rfl rfl ?_
                        refine wg_iload X 4 dX9_copy_106 rfl ?_
                        refine wg_icmp_ge X 115 dX9_copy_108 (by decide) (fun c36 => ?_) (fun c36 => ?_)
                        · have h := if_t c36 h
                          refine wg_iconst (v := 0) X dX9_copy_115 (by decide) ?_
                          exact J_X9_copy_j116 X hr hS r0 D0 C N  M  p1 p2 p3 p4 p5 (0 : Int32)   h
                        · have h := if_f c36 h
                          refine wg_iconst (v := 1) X dX9_copy_111 (by decide) ?_
                          refine wg_goto X 116 dX9_copy_112 (by decide) ?_
                          exact J_X9_copy_j116 X hr hS r0 D0 C N  M  p1 p2 p3 p4 p5 (1 : Int32)   h
                    · have h := if_f c20 h
                      refine wg_bipush (v := -12) X dX9_copy_97 (by decide) ?_
                      exact wg_iret X ⟨congrArg Prod.fst (sm_inj h), rfl, congrArg Prod.snd (sm_inj h)⟩ hr dX9_copy_99
          · have h := if_f c13 h
            refine wg_bipush (v := -13) X dX9_copy_53 (by decide) ?_
            exact wg_iret X ⟨congrArg Prod.fst (sm_inj h), rfl, congrArg Prod.snd (sm_inj h)⟩ hr dX9_copy_55
        · have h := if_t c10 h
          refine wg_bipush (v := -11) X dX9_copy_35 (by decide) ?_
          exact wg_iret X ⟨congrArg Prod.fst (sm_inj h), rfl, congrArg Prod.snd (sm_inj h)⟩ hr dX9_copy_37
    · have h := if_t c6 h
      refine wg_bipush (v := -2) X dX9_copy_14 (by decide) ?_
      exact wg_iret X ⟨congrArg Prod.fst (sm_inj h), rfl, congrArg Prod.snd (sm_inj h)⟩ hr dX9_copy_16
-- WindowsGiveModel.weathers(IIII)I (('c', 55), 'i', 'i', 'i', 'i')
def f_X9_weathers_l75 (N : Nat)  (x1 : Int32) (x3 : Int32) (x4 : Int32) (M : wg_M) (x5 : Int32) (x6 : Int32) : Option ((wg_M × Int32 × Int32) ⊕ ((wg_M × Int32 × Int32) ⊕ (Int32 × wg_M))) :=
  if x4 ≤ x6 then (
    some (.inr (.inl (M, x5, x6))))
  else (
    if x3 < 0 then (
      some (.inr (.inr ((-12 : Int32), M))))
    else (
      ck (inb x1 4) <|
      if x3 ≤ (((M.1 73 x1.toNatClampNeg) - ((2 : Int32) * x6)) - (2 : Int32)) then (
        lt_ ((((40 : Int32) * x1) + x3) + ((2 : Int32) * x6)) fun v18 =>
        ck (inb v18 160) <|
        ck (inb (v18 + (1 : Int32)) 160) <|
        bd2 (f_X9_set M (0 : Int32) (M.1 74 v18.toNatClampNeg) (M.1 74 (v18 + (1 : Int32)).toNatClampNeg)) fun r23 M24 =>
        if r23 < 0 then (
          lt_ (x5 + (0 : Int32)) fun v26 =>
          lt_ (x6 + (1 : Int32)) fun v28 =>
          some (.inl (M24, v26, v28)))
        else (
          lt_ (x5 + (1 : Int32)) fun v30 =>
          lt_ (x6 + (1 : Int32)) fun v32 =>
          some (.inl (M24, v30, v32))))
      else (
        some (.inr (.inr ((-12 : Int32), M))))))
def f_X9_weathers_j57 (N : Nat) (M : wg_M)  (x1 : Int32) (x3 : Int32) (x4 : Int32) : Option (Int32 × wg_M) :=
  ck (inb x1 4) <|
  if (M.1 71 x1.toNatClampNeg) = 0 then (
    some ((-11 : Int32), M))
  else (
    bs3 (lp (fun o => f_X9_weathers_l75 N  x1 x3 x4 o.1 o.2.1 o.2.2) N (M, (0 : Int32), (0 : Int32))) (fun M34 v35 v36 =>
      some (v35, M34))
      (fun q39 => some q39))
def f_X9_weathers (N : Nat) (M : wg_M) (p1 : Int32) (p2 : Int32) (p3 : Int32) (p4 : Int32) : Option (Int32 × wg_M) :=
  bd (f_X9_isSheet p1) fun r2 =>
  if r2 = 0 then (
    some ((-2 : Int32), M))
  else (
    bd (f_X9_in p2.toInt64 (0 : Int64) (2 : Int64)) fun r5 =>
    if r5 = 0 then (
      some ((-2 : Int32), M))
    else (
      bd (f_X9_in p4.toInt64 (0 : Int64) (20 : Int64)) fun r8 =>
      if r8 = 0 then (
        some ((-2 : Int32), M))
      else (
        ck (inb p1 4) <|
        if (M.1 71 p1.toNatClampNeg) = 0 then (
          f_X9_weathers_j57 N M  p1 p3 p4)
        else (
          ck (inb p1 4) <|
          if (M.1 72 p1.toNatClampNeg) = p2 then (
            f_X9_weathers_j57 N M  p1 p3 p4)
          else (
            some ((-13 : Int32), M))))))
abbrev G_X9_weathers (p : Program) (l : Launch) (e : Env) (s : State) (m : MethodId) (args : Array Value) (below : List Frame) (meth : Method) (c : Code) (E : wg_Ev) (ad : Nat → Nat) (S : wg_Sh) (r0 : Int32) (C0 : wg_C) (M0 : wg_M) (pc : Nat) (C : wg_C) (M : wg_M) (lv : List (Nat × Value)) (st : List Value) : Prop := wg_G p l e (wg_Rm 4 92) s m args below meth c (MQ below (wg_Qi E ad S r0 C0 M0) args s 0 0 (wg_A E)) 8 E ad S 0 0 pc C M lv st
set_option maxHeartbeats 4000000 in
set_option maxRecDepth 100000 in
theorem L_X9_weathers_l75 {p : Program} {l : Launch} {e : Env} {s : State} {m : MethodId} {args : Array Value} {below : List Frame} {meth : Method} {c : Code} {E : wg_Ev} {ad : Nat → Nat} {S : wg_Sh} (X : wg_X p s m args meth c cX9_weathers 8 RX9 E) (hr : meth.sig.returnType = (some .int)) (hS : wg_SM S) (r0 : Int32) (D0 : wg_M) (C : wg_C) (N : Nat)   (x1 : Int32) (x3 : Int32) (x4 : Int32)  : ∀ (n : Nat) (M : wg_M) (x5 : Int32) (x6 : Int32) (o : ((wg_M × Int32 × Int32) ⊕ (Int32 × wg_M))), lp (fun o => f_X9_weathers_l75 N  x1 x3 x4 o.1 o.2.1 o.2.2) n (M, x5, x6) = some o → (∀ (Dy : wg_M) (y5 : Int32) (y6 : Int32), o = Sum.inl (Dy, y5, y6) → G_X9_weathers p l e s m args below meth c E ad S r0 C D0 159 C Dy [(0, .ref (ad 55)), (1, .int x1), (3, .int x3), (4, .int x4), (5, .int y5), (6, .int y6)] []) → (∀ q : (Int32 × wg_M), o = Sum.inr q → q = (r0, D0)) → G_X9_weathers p l e s m args below meth c E ad S r0 C D0 75 C M [(0, .ref (ad 55)), (1, .int x1), (3, .int x3), (4, .int x4), (5, .int x5), (6, .int x6)] [] := by
  intro n
  induction n with
  | zero => exact fun _ _ _ o h => (lp_zero h).elim
  | succ n ih =>
    intro M x5 x6 o h K KR
    obtain ⟨o1, hb, h2⟩ := lp_some h
    replace hb : f_X9_weathers_l75 N  x1 x3 x4 M x5 x6 = some o1 := hb
    clear h
    have Kc : ∀ (Dy : wg_M) (y5 : Int32) (y6 : Int32), o1 = Sum.inl (Dy, y5, y6) → G_X9_weathers p l e s m args below meth c E ad S r0 C D0 75 C Dy [(0, .ref (ad 55)), (1, .int x1), (3, .int x3), (4, .int x4), (5, .int y5), (6, .int y6)] [] := fun Dy y5 y6 e1 => by
      subst e1
      exact ih Dy y5 y6 o h2 K KR
    have Ke : ∀ (Dy : wg_M) (y5 : Int32) (y6 : Int32), o1 = Sum.inr (Sum.inl (Dy, y5, y6)) → G_X9_weathers p l e s m args below meth c E ad S r0 C D0 159 C Dy [(0, .ref (ad 55)), (1, .int x1), (3, .int x3), (4, .int x4), (5, .int y5), (6, .int y6)] [] := fun Dy y5 y6 e1 => by
      subst e1
      exact K Dy y5 y6 (sm_inj (α := ((wg_M × Int32 × Int32) ⊕ (Int32 × wg_M))) h2).symm
    have Kr : ∀ q : (Int32 × wg_M), o1 = Sum.inr (Sum.inr q) → q = (r0, D0) := fun q e1 => by
      subst e1
      exact KR q (sm_inj (α := ((wg_M × Int32 × Int32) ⊕ (Int32 × wg_M))) h2).symm
    clear ih K h2 KR
    unfold f_X9_weathers_l75 at hb
    have h := hb
    clear hb
    refine wg_iload X 5 dX9_weathers_75 rfl ?_
    refine wg_iload X 3 dX9_weathers_77 rfl ?_
    refine wg_icmp_ge X 159 dX9_weathers_79 (by decide) (fun c14 => ?_) (fun c14 => ?_)
    · have h := if_t c14 h
      exact Ke M x5 x6 (sm_inj h).symm
    · have h := if_f c14 h
      refine wg_iload_n X 2 dX9_weathers_82 rfl rfl ?_
      refine wg_if_lt X 103 dX9_weathers_83 (by decide) (fun c15 => ?_) (fun c15 => ?_)
      · have h := if_t c15 h
        refine wg_bipush (v := -12) X dX9_weathers_103 (by decide) ?_
        have hq := Kr _ (sm_inj h).symm
        exact wg_iret X ⟨congrArg Prod.fst hq, rfl, congrArg Prod.snd hq⟩ hr dX9_weathers_105
      · have h := if_f c15 h
        refine wg_iload_n X 2 dX9_weathers_86 rfl rfl ?_
        refine wg_aload_n X 0 dX9_weathers_87 rfl rfl ?_
        refine wg_getR (b := 73) X cl9 (SMi hS 55 9 rfl) 42 (by decide) dX9_weathers_88 k_924 rfl (SMr hS 42 73 rfl) ?_
        refine wg_iload_n X 1 dX9_weathers_91 rfl rfl ?_
        obtain ⟨z16, h⟩ := ck_some h
        refine wg_mald X (SMi hS 73 11 rfl) (SMl hS 73 4 rfl) z16 dX9_weathers_92 ?_
        refine wg_iconst (v := 2) X dX9_weathers_93 (by decide) ?_
        refine wg_iload X 5 dX9_weathers_94 rfl ?_
        refine wg_imul X dX9_weathers_96 ?_
        refine wg_isub X dX9_weathers_97 ?_
        refine wg_iconst (v := 2) X dX9_weathers_98 (by decide) ?_
        refine wg_isub X dX9_weathers_99 ?_
        refine wg_icmp_le X 106 dX9_weathers_100 (by decide) (fun c17 => ?_) (fun c17 => ?_)
        · have h := if_t c17 h
          refine wg_bipush (v := 40) X dX9_weathers_106 (by decide) ?_
          refine wg_iload_n X 1 dX9_weathers_108 rfl rfl ?_
          refine wg_imul X dX9_weathers_109 ?_
          refine wg_iload_n X 2 dX9_weathers_110 rfl rfl ?_
          refine wg_iadd X dX9_weathers_111 ?_
          refine wg_iconst (v := 2) X dX9_weathers_112 (by decide) ?_
          refine wg_iload X 5 dX9_weathers_113 rfl ?_
          refine wg_imul X dX9_weathers_115 ?_
          refine wg_iadd X dX9_weathers_116 ?_
          obtain ⟨v18, e19, h⟩ := lt_some h
          refine wg_istore (lv' := [(7, .int v18), (0, .ref (ad 55)), (1, .int x1), (3, .int x3), (4, .int x4), (5, .int x5), (6, .int x6)]) X dX9_weathers_117 e19 (by decide) rfl ?_
          refine wg_iload X 5 dX9_weathers_119 rfl ?_
          refine wg_aload_n X 1 dX9_weathers_121 rfl rfl ?_
          refine wg_iconst (v := 0) X dX9_weathers_122 (by decide) ?_
          refine wg_aload_n X 1 dX9_weathers_123 rfl rfl ?_
          refine wg_getR (b := 74) X cl9 (SMi hS 55 9 rfl) 43 (by decide) dX9_weathers_124 k_925 rfl (SMr hS 43 74 rfl) ?_
          refine wg_iload X 0 dX9_weathers_127 rfl ?_
          obtain ⟨z20, h⟩ := ck_some h
          refine wg_mald X (SMi hS 74 11 rfl) (SMl hS 74 160 rfl) z20 dX9_weathers_129 ?_
          refine wg_aload_n X 1 dX9_weathers_130 rfl rfl ?_
          refine wg_getR (b := 74) X cl9 (SMi hS 55 9 rfl) 43 (by decide) dX9_weathers_131 k_925 rfl (SMr hS 43 74 rfl) ?_
          refine wg_iload X 0 dX9_weathers_134 rfl ?_
          refine wg_iconst (v := 1) X dX9_weathers_136 (by decide) ?_
          refine wg_iadd X dX9_weathers_137 ?_
          obtain ⟨z21, h⟩ := ck_some h
          refine wg_mald X (SMi hS 74 11 rfl) (SMl hS 74 160 rfl) z21 dX9_weathers_138 ?_
          obtain ⟨r23, M24, h22, h⟩ := bd2_some h
          refine wg_callVi (As := [.int (0 : Int32), .int (M.1 74 v18.toNatClampNeg), .int (M.1 74 (v18 + (1 : Int32)).toNatClampNeg)]) (rest := [.int x5]) X (c_X9_set l E ad S hS C M (0 : Int32) (M.1 74 v18.toNatClampNeg) (M.1 74 (v18 + (1 : Int32)).toNatClampNeg)  h22) T_yX9_set k_1315 cl9 (SMi hS 55 9 rfl) dX9_weathers_139 rfl rfl (Nat.le_of_ble_eq_true rfl) ⟨Nat.le_of_ble_eq_true rfl, Nat.le_of_ble_eq_true rfl⟩ ⟨Nat.zero_le _, Nat.zero_le _⟩ ?_
          refine wg_if_lt X 149 dX9_weathers_142 (by decide) (fun c25 => ?_) (fun c25 => ?_)
          · have h := if_t c25 h
            refine wg_iconst (v := 0) X dX9_weathers_149 (by decide) ?_
            refine wg_iadd X dX9_weathers_150 ?_
            obtain ⟨v26, e27, h⟩ := lt_some h
            refine wg_istore (lv' := [(5, .int v26), (7, .int v18), (0, .ref (ad 55)), (1, .int x1), (3, .int x3), (4, .int x4), (6, .int x6)]) X dX9_weathers_151 e27 (by decide) rfl ?_
            obtain ⟨v28, e29, h⟩ := lt_some h
            refine wg_iinc (lv' := [(6, .int v28), (5, .int v26), (7, .int v18), (0, .ref (ad 55)), (1, .int x1), (3, .int x3), (4, .int x4)]) X 6 dX9_weathers_153 rfl e29 (by decide) rfl ?_
            refine wg_goto X 75 dX9_weathers_156 (by decide) ?_
            refine wg_pick [3, 4, 5, 6, 1, 0] (lv' := [(0, .ref (ad 55)), (1, .int x1), (3, .int x3), (4, .int x4), (5, .int v26), (6, .int v28)]) rfl ?_
            exact Kc M24 v26 v28 (sm_inj h).symm
          · have h := if_f c25 h
            refine wg_iconst (v := 1) X dX9_weathers_145 (by decide) ?_
            refine wg_goto X 150 dX9_weathers_146 (by decide) ?_
            refine wg_iadd X dX9_weathers_150 ?_
            obtain ⟨v30, e31, h⟩ := lt_some h
            refine wg_istore (lv' := [(5, .int v30), (7, .int v18), (0, .ref (ad 55)), (1, .int x1), (3, .int x3), (4, .int x4), (6, .int x6)]) X dX9_weathers_151 e31 (by decide) rfl ?_
            obtain ⟨v32, e33, h⟩ := lt_some h
            refine wg_iinc (lv' := [(6, .int v32), (5, .int v30), (7, .int v18), (0, .ref (ad 55)), (1, .int x1), (3, .int x3), (4, .int x4)]) X 6 dX9_weathers_153 rfl e33 (by decide) rfl ?_
            refine wg_goto X 75 dX9_weathers_156 (by decide) ?_
            refine wg_pick [3, 4, 5, 6, 1, 0] (lv' := [(0, .ref (ad 55)), (1, .int x1), (3, .int x3), (4, .int x4), (5, .int v30), (6, .int v32)]) rfl ?_
            exact Kc M24 v30 v32 (sm_inj h).symm
        · have h := if_f c17 h
          refine wg_bipush (v := -12) X dX9_weathers_103 (by decide) ?_
          have hq := Kr _ (sm_inj h).symm
          exact wg_iret X ⟨congrArg Prod.fst hq, rfl, congrArg Prod.snd hq⟩ hr dX9_weathers_105
set_option maxHeartbeats 4000000 in
set_option maxRecDepth 100000 in
theorem J_X9_weathers_j57 {p : Program} {l : Launch} {e : Env} {s : State} {m : MethodId} {args : Array Value} {below : List Frame} {meth : Method} {c : Code} {E : wg_Ev} {ad : Nat → Nat} {S : wg_Sh} (X : wg_X p s m args meth c cX9_weathers 8 RX9 E) (hr : meth.sig.returnType = (some .int)) (hS : wg_SM S) (r0 : Int32) (D0 : wg_M) (C : wg_C) (N : Nat)  (M : wg_M)  (x1 : Int32) (x3 : Int32) (x4 : Int32)   (h : f_X9_weathers_j57 N M  x1 x3 x4 = some (r0, D0)) : G_X9_weathers p l e s m args below meth c E ad S r0 C D0 57 C M [(0, .ref (ad 55)), (1, .int x1), (3, .int x3), (4, .int x4)] [] := by
  unfold f_X9_weathers_j57 at h
  refine wg_aload_n X 0 dX9_weathers_57 rfl rfl ?_
  refine wg_getR (b := 71) X cl9 (SMi hS 55 9 rfl) 40 (by decide) dX9_weathers_58 k_922 rfl (SMr hS 40 71 rfl) ?_
  refine wg_iload_n X 1 dX9_weathers_61 rfl rfl ?_
  obtain ⟨z12, h⟩ := ck_some h
  refine wg_zald X (SMi hS 71 12 rfl) (SMl hS 71 4 rfl) z12 dX9_weathers_62 ?_
  refine wg_if_ne X 69 dX9_weathers_63 (by decide) (fun c13 => ?_) (fun c13 => ?_)
  · have h := if_f c13 h
    refine wg_iconst (v := 0) X dX9_weathers_69 (by decide) ?_
    refine wg_istore (lv' := [(5, .int (0 : Int32)), (0, .ref (ad 55)), (1, .int x1), (3, .int x3), (4, .int x4)]) X dX9_weathers_70 rfl (by decide) rfl ?_
    refine wg_iconst (v := 0) X dX9_weathers_72 (by decide) ?_
    refine wg_istore (lv' := [(6, .int (0 : Int32)), (5, .int (0 : Int32)), (0, .ref (ad 55)), (1, .int x1), (3, .int x3), (4, .int x4)]) X dX9_weathers_73 rfl (by decide) rfl ?_
    obtain ⟨o37, h38, h⟩ := bs3_o h
    refine wg_pick [2, 3, 4, 5, 1, 0] (lv' := [(0, .ref (ad 55)), (1, .int x1), (3, .int x3), (4, .int x4), (5, .int (0 : Int32)), (6, .int (0 : Int32))]) rfl ?_
    refine L_X9_weathers_l75 X hr hS r0 D0 C N   x1 x3 x4  N M (0 : Int32) (0 : Int32) o37 h38 (fun M34 v35 v36 e40 => ?_) (fun q39 e40 => ?_)
    · subst e40
      replace h := bs3_in h
      refine wg_iload X 4 dX9_weathers_159 rfl ?_
      exact wg_iret X ⟨congrArg Prod.fst (sm_inj h), rfl, congrArg Prod.snd (sm_inj h)⟩ hr dX9_weathers_161
    · subst e40
      replace h := bs3_r h
      exact sm_inj h
  · have h := if_t c13 h
    refine wg_bipush (v := -11) X dX9_weathers_66 (by decide) ?_
    exact wg_iret X ⟨congrArg Prod.fst (sm_inj h), rfl, congrArg Prod.snd (sm_inj h)⟩ hr dX9_weathers_68
set_option maxHeartbeats 4000000 in
set_option maxRecDepth 100000 in
theorem c_X9_weathers (l : Launch) (E : wg_Ev) (ad : Nat → Nat) (S : wg_Sh) (hS : wg_SM S) (N : Nat) (C : wg_C) (M : wg_M) (p1 : Int32) (p2 : Int32) (p3 : Int32) (p4 : Int32)  {r0 : Int32} {D0 : wg_M} (h : f_X9_weathers N M p1 p2 p3 p4 = some (r0, D0)) : wg_Ci l yX9_weathers cX9_weathers 8 (some .int) 4 92 E ad S C M [.ref (ad 55), .int p1, .int p2, .int p3, .int p4] r0 C D0 := by
  refine wg_start (own := RX9) (by decide +kernel) rfl (Nat.le_of_ble_eq_true rfl) ?_
  intro p e s m below meth c X hr hnm
  refine wg_lv (lv' := [(0, .ref (ad 55)), (1, .int p1), (2, .int p2), (3, .int p3), (4, .int p4)]) rfl ?_
  unfold f_X9_weathers at h
  refine wg_iload_n X 1 dX9_weathers_0 rfl rfl ?_
  obtain ⟨r2, h1, h⟩ := bd_some h
  refine wg_callSi (As := [.int p1]) (rest := []) X (c_X9_isSheet l E ad S C M p1  h1) T_yX9_isSheet k_1217 dX9_weathers_1 rfl rfl (Nat.le_of_ble_eq_true rfl) ⟨Nat.le_of_ble_eq_true rfl, Nat.le_of_ble_eq_true rfl⟩ ⟨Nat.zero_le _, Nat.zero_le _⟩ ?_
  refine wg_if_eq X 32 dX9_weathers_4 (by decide) (fun c3 => ?_) (fun c3 => ?_)
  · have h := if_t c3 h
    refine wg_bipush (v := -2) X dX9_weathers_32 (by decide) ?_
    exact wg_iret X ⟨congrArg Prod.fst (sm_inj h), rfl, congrArg Prod.snd (sm_inj h)⟩ hr dX9_weathers_34
  · have h := if_f c3 h
    refine wg_iload_n X 2 dX9_weathers_7 rfl rfl ?_
    refine wg_i2l X dX9_weathers_8 ?_
    refine wg_lconst (v := 0) X dX9_weathers_9 (by decide) ?_
    refine wg_ldc2 (v := 2) X dX9_weathers_10 k_1061 ?_
    obtain ⟨r5, h4, h⟩ := bd_some h
    refine wg_callSi (As := [.long (p2.toInt64), .long (0 : Int64), .long (2 : Int64)]) (rest := []) X (c_X9_in l E ad S C M p2.toInt64 (0 : Int64) (2 : Int64)  h4) T_yX9_in k_1021 dX9_weathers_13 rfl rfl (Nat.le_of_ble_eq_true rfl) ⟨Nat.le_of_ble_eq_true rfl, Nat.le_of_ble_eq_true rfl⟩ ⟨Nat.zero_le _, Nat.zero_le _⟩ ?_
    refine wg_if_eq X 32 dX9_weathers_16 (by decide) (fun c6 => ?_) (fun c6 => ?_)
    · have h := if_t c6 h
      refine wg_bipush (v := -2) X dX9_weathers_32 (by decide) ?_
      exact wg_iret X ⟨congrArg Prod.fst (sm_inj h), rfl, congrArg Prod.snd (sm_inj h)⟩ hr dX9_weathers_34
    · have h := if_f c6 h
      refine wg_iload X 4 dX9_weathers_19 rfl ?_
      refine wg_i2l X dX9_weathers_21 ?_
      refine wg_lconst (v := 0) X dX9_weathers_22 (by decide) ?_
      refine wg_ldc2 (v := 20) X dX9_weathers_23 k_1287 ?_
      obtain ⟨r8, h7, h⟩ := bd_some h
      refine wg_callSi (As := [.long (p4.toInt64), .long (0 : Int64), .long (20 : Int64)]) (rest := []) X (c_X9_in l E ad S C M p4.toInt64 (0 : Int64) (20 : Int64)  h7) T_yX9_in k_1021 dX9_weathers_26 rfl rfl (Nat.le_of_ble_eq_true rfl) ⟨Nat.le_of_ble_eq_true rfl, Nat.le_of_ble_eq_true rfl⟩ ⟨Nat.zero_le _, Nat.zero_le _⟩ ?_
      refine wg_if_ne X 35 dX9_weathers_29 (by decide) (fun c9 => ?_) (fun c9 => ?_)
      · have h := if_f c9 h
        refine wg_aload_n X 0 dX9_weathers_35 rfl rfl ?_
        refine wg_getR (b := 71) X cl9 (SMi hS 55 9 rfl) 40 (by decide) dX9_weathers_36 k_922 rfl (SMr hS 40 71 rfl) ?_
        refine wg_iload_n X 1 dX9_weathers_39 rfl rfl ?_
        obtain ⟨z10, h⟩ := ck_some h
        refine wg_zald X (SMi hS 71 12 rfl) (SMl hS 71 4 rfl) z10 dX9_weathers_40 ?_
        refine wg_if_eq X 57 dX9_weathers_41 (by decide) (fun c11 => ?_) (fun c11 => ?_)
        · have h := if_t c11 h
          refine wg_pick [0, 1, 3, 4] (lv' := [(0, .ref (ad 55)), (1, .int p1), (3, .int p3), (4, .int p4)]) rfl ?_
          exact J_X9_weathers_j57 X hr hS r0 D0 C N  M  p1 p3 p4   h
        · have h := if_f c11 h
          refine wg_aload_n X 0 dX9_weathers_44 rfl rfl ?_
          refine wg_getR (b := 72) X cl9 (SMi hS 55 9 rfl) 41 (by decide) dX9_weathers_45 k_923 rfl (SMr hS 41 72 rfl) ?_
          refine wg_iload_n X 1 dX9_weathers_48 rfl rfl ?_
          obtain ⟨z41, h⟩ := ck_some h
          refine wg_mald X (SMi hS 72 11 rfl) (SMl hS 72 4 rfl) z41 dX9_weathers_49 ?_
          refine wg_iload_n X 2 dX9_weathers_50 rfl rfl ?_
          refine wg_icmp_eq X 57 dX9_weathers_51 (by decide) (fun c42 => ?_) (fun c42 => ?_)
          · have h := if_t c42 h
            refine wg_pick [0, 1, 3, 4] (lv' := [(0, .ref (ad 55)), (1, .int p1), (3, .int p3), (4, .int p4)]) rfl ?_
            exact J_X9_weathers_j57 X hr hS r0 D0 C N  M  p1 p3 p4   h
          · have h := if_f c42 h
            refine wg_bipush (v := -13) X dX9_weathers_54 (by decide) ?_
            exact wg_iret X ⟨congrArg Prod.fst (sm_inj h), rfl, congrArg Prod.snd (sm_inj h)⟩ hr dX9_weathers_56
      · have h := if_t c9 h
        refine wg_bipush (v := -2) X dX9_weathers_32 (by decide) ?_
        exact wg_iret X ⟨congrArg Prod.fst (sm_inj h), rfl, congrArg Prod.snd (sm_inj h)⟩ hr dX9_weathers_34
-- WindowsGiveModel.over(I)I ('i',)
def f_X9_over (p0 : Int32) : Option Int32 :=
  if p0 = 0 then (
    some (-1 : Int32))
  else (
    if p0 = (3 : Int32) then (
      some (1 : Int32))
    else (
      if p0 = (4 : Int32) then (
        some (2 : Int32))
      else (
        some (0 : Int32))))
set_option maxHeartbeats 4000000 in
set_option maxRecDepth 100000 in
theorem c_X9_over (l : Launch) (E : wg_Ev) (ad : Nat → Nat) (S : wg_Sh) (C : wg_C) (M : wg_M) (p0 : Int32)  {r0 : Int32} (h : f_X9_over p0 = some r0) : wg_Ci l yX9_over cX9_over 1 (some .int) 0 0 E ad S C M [.int p0] r0 C M := by
  refine wg_start (own := RX9) (by decide +kernel) rfl (Nat.le_of_ble_eq_true rfl) ?_
  intro p e s m below meth c X hr hnm
  refine wg_lv (lv' := [(0, .int p0)]) rfl ?_
  unfold f_X9_over at h
  refine wg_iload_n X 0 dX9_over_0 rfl rfl ?_
  refine wg_if_ne X 8 dX9_over_1 (by decide) (fun c1 => ?_) (fun c1 => ?_)
  · have h := if_f c1 h
    refine wg_iload_n X 0 dX9_over_8 rfl rfl ?_
    refine wg_iconst (v := 3) X dX9_over_9 (by decide) ?_
    refine wg_icmp_ne X 17 dX9_over_10 (by decide) (fun c2 => ?_) (fun c2 => ?_)
    · have h := if_f c2 h
      refine wg_iload_n X 0 dX9_over_17 rfl rfl ?_
      refine wg_iconst (v := 4) X dX9_over_18 (by decide) ?_
      refine wg_icmp_ne X 26 dX9_over_19 (by decide) (fun c3 => ?_) (fun c3 => ?_)
      · have h := if_f c3 h
        refine wg_iconst (v := 0) X dX9_over_26 (by decide) ?_
        exact wg_iret X ⟨(sm_inj h), rfl, rfl⟩ hr dX9_over_27
      · have h := if_t c3 h
        refine wg_iconst (v := 2) X dX9_over_22 (by decide) ?_
        refine wg_goto X 27 dX9_over_23 (by decide) ?_
        exact wg_iret X ⟨(sm_inj h), rfl, rfl⟩ hr dX9_over_27
    · have h := if_t c2 h
      refine wg_iconst (v := 1) X dX9_over_13 (by decide) ?_
      refine wg_goto X 27 dX9_over_14 (by decide) ?_
      exact wg_iret X ⟨(sm_inj h), rfl, rfl⟩ hr dX9_over_27
  · have h := if_t c1 h
    refine wg_iconst (v := -1) X dX9_over_4 (by decide) ?_
    refine wg_goto X 27 dX9_over_5 (by decide) ?_
    exact wg_iret X ⟨(sm_inj h), rfl, rfl⟩ hr dX9_over_27
-- WindowsGiveModel.taken(II)I (('c', 55), 'i', 'i')
def f_X9_taken_l33 (N : Nat) (M : wg_M)  (x1 : Int32) (x2 : Int32) (x3 : Int32) : Option ((Int32) ⊕ (Int32)) :=
  if x3 = (-1 : Int32) then (
    some (.inr x3))
  else (
    if x3 = x2 then (
      some (.inr x3))
    else (
      bd (f_X9_over x3) fun r13 =>
      some (.inl r13)))
def f_X9_taken (N : Nat) (M : wg_M) (p1 : Int32) (p2 : Int32) : Option Int32 :=
  bd (f_X9_in p2.toInt64 (0 : Int64) (5 : Int64)) fun r2 =>
  if r2 = 0 then (
    some (-2 : Int32))
  else (
    bd (f_X9_isPane M p1) fun r5 =>
    if r5 = 0 then (
      some (-11 : Int32))
    else (
      ck (inb p1 8) <|
      lt_ (M.1 60 p1.toNatClampNeg) fun v8 =>
      bd (lp (fun o => f_X9_taken_l33 N M  p1 p2 o) N v8) fun v14 =>
      if v14 = p2 then (
        ck (inb p1 8) <|
        some (M.1 61 p1.toNatClampNeg))
      else (
        some (-13 : Int32))))
abbrev G_X9_taken (p : Program) (l : Launch) (e : Env) (s : State) (m : MethodId) (args : Array Value) (below : List Frame) (meth : Method) (c : Code) (E : wg_Ev) (ad : Nat → Nat) (S : wg_Sh) (r0 : Int32) (C0 : wg_C) (M0 : wg_M) (pc : Nat) (C : wg_C) (M : wg_M) (lv : List (Nat × Value)) (st : List Value) : Prop := wg_G p l e (wg_Rm 2 46) s m args below meth c (MQ below (wg_Qi E ad S r0 C0 M0) args s 0 0 (wg_A E)) 4 E ad S 0 0 pc C M lv st
set_option maxHeartbeats 4000000 in
set_option maxRecDepth 100000 in
theorem L_X9_taken_l33 {p : Program} {l : Launch} {e : Env} {s : State} {m : MethodId} {args : Array Value} {below : List Frame} {meth : Method} {c : Code} {E : wg_Ev} {ad : Nat → Nat} {S : wg_Sh} (X : wg_X p s m args meth c cX9_taken 4 RX9 E) (hr : meth.sig.returnType = (some .int)) (hS : wg_SM S) (r0 : Int32) (C : wg_C) (N : Nat)  (M : wg_M)  (x1 : Int32) (x2 : Int32)  : ∀ (n : Nat) (x3 : Int32) (o : (Int32)), lp (fun o => f_X9_taken_l33 N M  x1 x2 o) n x3 = some o → (∀ (y3 : Int32), o = y3 → G_X9_taken p l e s m args below meth c E ad S r0 C M 51 C M [(0, .ref (ad 55)), (1, .int x1), (2, .int x2), (3, .int y3)] []) → G_X9_taken p l e s m args below meth c E ad S r0 C M 33 C M [(0, .ref (ad 55)), (1, .int x1), (2, .int x2), (3, .int x3)] [] := by
  intro n
  induction n with
  | zero => exact fun _ o h => (lp_zero h).elim
  | succ n ih =>
    intro x3 o h K
    obtain ⟨o1, hb, h2⟩ := lp_some h
    replace hb : f_X9_taken_l33 N M  x1 x2 x3 = some o1 := hb
    clear h
    have Kc : ∀ (y3 : Int32), o1 = Sum.inl y3 → G_X9_taken p l e s m args below meth c E ad S r0 C M 33 C M [(0, .ref (ad 55)), (1, .int x1), (2, .int x2), (3, .int y3)] [] := fun y3 e1 => by
      subst e1
      exact ih y3 o h2 K
    have Ke : ∀ (y3 : Int32), o1 = Sum.inr (y3) → G_X9_taken p l e s m args below meth c E ad S r0 C M 51 C M [(0, .ref (ad 55)), (1, .int x1), (2, .int x2), (3, .int y3)] [] := fun y3 e1 => by
      subst e1
      exact K y3 (sm_inj (α := (Int32)) h2).symm
    clear ih K h2
    unfold f_X9_taken_l33 at hb
    have h := hb
    clear hb
    refine wg_iload_n X 3 dX9_taken_33 rfl rfl ?_
    refine wg_iconst (v := -1) X dX9_taken_34 (by decide) ?_
    refine wg_icmp_eq X 51 dX9_taken_35 (by decide) (fun c10 => ?_) (fun c10 => ?_)
    · have h := if_t c10 h
      exact Ke x3 (sm_inj h).symm
    · have h := if_f c10 h
      refine wg_iload_n X 3 dX9_taken_38 rfl rfl ?_
      refine wg_iload_n X 2 dX9_taken_39 rfl rfl ?_
      refine wg_icmp_eq X 51 dX9_taken_40 (by decide) (fun c11 => ?_) (fun c11 => ?_)
      · have h := if_t c11 h
        exact Ke x3 (sm_inj h).symm
      · have h := if_f c11 h
        refine wg_iload_n X 3 dX9_taken_43 rfl rfl ?_
        obtain ⟨r13, h12, h⟩ := bd_some h
        refine wg_callSi (As := [.int x3]) (rest := []) X (c_X9_over l E ad S C M x3  h12) T_yX9_over k_1320 dX9_taken_44 rfl rfl (Nat.le_of_ble_eq_true rfl) ⟨Nat.le_of_ble_eq_true rfl, Nat.le_of_ble_eq_true rfl⟩ ⟨Nat.zero_le _, Nat.zero_le _⟩ ?_
        refine wg_istore_n (lv' := [(3, .int r13), (0, .ref (ad 55)), (1, .int x1), (2, .int x2)]) X dX9_taken_47 rfl rfl (by decide) rfl ?_
        refine wg_goto X 33 dX9_taken_48 (by decide) ?_
        refine wg_pick [1, 2, 3, 0] (lv' := [(0, .ref (ad 55)), (1, .int x1), (2, .int x2), (3, .int r13)]) rfl ?_
        exact Kc r13 (sm_inj h).symm
set_option maxHeartbeats 4000000 in
set_option maxRecDepth 100000 in
theorem c_X9_taken (l : Launch) (E : wg_Ev) (ad : Nat → Nat) (S : wg_Sh) (hS : wg_SM S) (N : Nat) (C : wg_C) (M : wg_M) (p1 : Int32) (p2 : Int32)  {r0 : Int32} (h : f_X9_taken N M p1 p2 = some r0) : wg_Ci l yX9_taken cX9_taken 4 (some .int) 2 46 E ad S C M [.ref (ad 55), .int p1, .int p2] r0 C M := by
  refine wg_start (own := RX9) (by decide +kernel) rfl (Nat.le_of_ble_eq_true rfl) ?_
  intro p e s m below meth c X hr hnm
  refine wg_lv (lv' := [(0, .ref (ad 55)), (1, .int p1), (2, .int p2)]) rfl ?_
  unfold f_X9_taken at h
  refine wg_iload_n X 2 dX9_taken_0 rfl rfl ?_
  refine wg_i2l X dX9_taken_1 ?_
  refine wg_lconst (v := 0) X dX9_taken_2 (by decide) ?_
  refine wg_ldc2 (v := 5) X dX9_taken_3 k_1033 ?_
  obtain ⟨r2, h1, h⟩ := bd_some h
  refine wg_callSi (As := [.long (p2.toInt64), .long (0 : Int64), .long (5 : Int64)]) (rest := []) X (c_X9_in l E ad S C M p2.toInt64 (0 : Int64) (5 : Int64)  h1) T_yX9_in k_1021 dX9_taken_6 rfl rfl (Nat.le_of_ble_eq_true rfl) ⟨Nat.le_of_ble_eq_true rfl, Nat.le_of_ble_eq_true rfl⟩ ⟨Nat.zero_le _, Nat.zero_le _⟩ ?_
  refine wg_if_ne X 15 dX9_taken_9 (by decide) (fun c3 => ?_) (fun c3 => ?_)
  · have h := if_f c3 h
    refine wg_aload_n X 0 dX9_taken_15 rfl rfl ?_
    refine wg_iload_n X 1 dX9_taken_16 rfl rfl ?_
    obtain ⟨r5, h4, h⟩ := bd_some h
    refine wg_callVi (As := [.int p1]) (rest := []) X (c_X9_isPane l E ad S hS C M p1  h4) T_yX9_isPane k_1028 cl9 (SMi hS 55 9 rfl) dX9_taken_17 rfl rfl (Nat.le_of_ble_eq_true rfl) ⟨Nat.le_of_ble_eq_true rfl, Nat.le_of_ble_eq_true rfl⟩ ⟨Nat.zero_le _, Nat.zero_le _⟩ ?_
    refine wg_if_ne X 26 dX9_taken_20 (by decide) (fun c6 => ?_) (fun c6 => ?_)
    · have h := if_f c6 h
      refine wg_aload_n X 0 dX9_taken_26 rfl rfl ?_
      refine wg_getR (b := 60) X cl9 (SMi hS 55 9 rfl) 8 (by decide) dX9_taken_27 k_890 rfl (SMr hS 8 60 rfl) ?_
      refine wg_iload_n X 1 dX9_taken_30 rfl rfl ?_
      obtain ⟨z7, h⟩ := ck_some h
      refine wg_mald X (SMi hS 60 11 rfl) (SMl hS 60 8 rfl) z7 dX9_taken_31 ?_
      obtain ⟨v8, e9, h⟩ := lt_some h
      refine wg_istore_n (lv' := [(3, .int v8), (0, .ref (ad 55)), (1, .int p1), (2, .int p2)]) X dX9_taken_32 rfl e9 (by decide) rfl ?_
      obtain ⟨o15, h16, h⟩ := bd_o h
      refine wg_pick [1, 2, 3, 0] (lv' := [(0, .ref (ad 55)), (1, .int p1), (2, .int p2), (3, .int v8)]) rfl ?_
      refine L_X9_taken_l33 X hr hS r0 C N  M  p1 p2  N v8 o15 h16 (fun v14 e18 => ?_)
      · subst e18
        replace h := bd_in h
        refine wg_iload_n X 3 dX9_taken_51 rfl rfl ?_
        refine wg_iload_n X 2 dX9_taken_52 rfl rfl ?_
        refine wg_icmp_ne X 65 dX9_taken_53 (by decide) (fun c19 => ?_) (fun c19 => ?_)
        · have h := if_f c19 h
          refine wg_bipush (v := -13) X dX9_taken_65 (by decide) ?_
          exact wg_iret X ⟨(sm_inj h), rfl, rfl⟩ hr dX9_taken_67
        · have h := if_t c19 h
          refine wg_aload_n X 0 dX9_taken_56 rfl rfl ?_
          refine wg_getR (b := 61) X cl9 (SMi hS 55 9 rfl) 9 (by decide) dX9_taken_57 k_891 rfl (SMr hS 9 61 rfl) ?_
          refine wg_iload_n X 1 dX9_taken_60 rfl rfl ?_
          obtain ⟨z20, h⟩ := ck_some h
          refine wg_mald X (SMi hS 61 11 rfl) (SMl hS 61 8 rfl) z20 dX9_taken_61 ?_
          refine wg_goto X 67 dX9_taken_62 (by decide) ?_
          exact wg_iret X ⟨(sm_inj h), rfl, rfl⟩ hr dX9_taken_67
    · have h := if_t c6 h
      refine wg_bipush (v := -11) X dX9_taken_23 (by decide) ?_
      exact wg_iret X ⟨(sm_inj h), rfl, rfl⟩ hr dX9_taken_25
  · have h := if_t c3 h
    refine wg_bipush (v := -2) X dX9_taken_12 (by decide) ?_
    exact wg_iret X ⟨(sm_inj h), rfl, rfl⟩ hr dX9_taken_14
-- WindowsGive$Reader.emit(II)V (('c', 28), 'i', 'i')
def f_X2_emit (C : wg_C) (p1 : Int32) (p2 : Int32) : Option wg_C :=
  if (160 : Int32) ≤ (C 28 3) then (
    some C)
  else (
    ck (inb (C 28 3) 160) <|
    lt_ (wg_up C 29 (C 28 3).toNatClampNeg ((p2 * (16 : Int32)) + p1)) fun C3 =>
    lt_ (wg_up C3 28 3 ((C3 28 3) + (1 : Int32))) fun C5 =>
    some C5)
set_option maxHeartbeats 4000000 in
set_option maxRecDepth 100000 in
theorem c_X2_emit (l : Launch) (E : wg_Ev) (ad : Nat → Nat) (S : wg_Sh) (hS : wg_SC S) (C : wg_C) (M : wg_M) (p1 : Int32) (p2 : Int32)  {D0 : wg_C} (h : f_X2_emit C p1 p2 = some D0) : wg_Cv l yX2_emit cX2_emit 3 none 0 0 E ad S C M [.ref (ad 28), .int p1, .int p2] D0 M := by
  refine wg_start (own := RX2) (by decide +kernel) rfl (Nat.le_of_ble_eq_true rfl) ?_
  intro p e s m below meth c X hr hnm
  refine wg_lv (lv' := [(0, .ref (ad 28)), (1, .int p1), (2, .int p2)]) rfl ?_
  unfold f_X2_emit at h
  refine wg_aload_n X 0 dX2_emit_0 rfl rfl ?_
  refine wg_getC X cl2 (SCi hS 28 2 rfl) 3 (by decide) dX2_emit_1 k_204 rfl ?_
  refine wg_aload_n X 0 dX2_emit_4 rfl rfl ?_
  refine wg_getR (b := 29) X cl2 (SCi hS 28 2 rfl) 4 (by decide) dX2_emit_5 k_205 rfl (SCr hS 28 4 29 rfl) ?_
  refine wg_alenC (v := 160) X (SCi hS 29 10 rfl) (SCl hS 29 160 rfl) (by decide) dX2_emit_8 ?_
  refine wg_icmp_ge X 37 dX2_emit_9 (by decide) (fun c1 => ?_) (fun c1 => ?_)
  · have h := if_t c1 h
    exact wg_vret X ⟨(sm_inj h), rfl⟩ hr dX2_emit_37
  · have h := if_f c1 h
    refine wg_aload_n X 0 dX2_emit_12 rfl rfl ?_
    refine wg_getR (b := 29) X cl2 (SCi hS 28 2 rfl) 4 (by decide) dX2_emit_13 k_205 rfl (SCr hS 28 4 29 rfl) ?_
    refine wg_aload_n X 0 dX2_emit_16 rfl rfl ?_
    refine wg_getC X cl2 (SCi hS 28 2 rfl) 3 (by decide) dX2_emit_17 k_204 rfl ?_
    refine wg_iload_n X 2 dX2_emit_20 rfl rfl ?_
    refine wg_bipush (v := 16) X dX2_emit_21 (by decide) ?_
    refine wg_imul X dX2_emit_23 ?_
    refine wg_iload_n X 1 dX2_emit_24 rfl rfl ?_
    refine wg_iadd X dX2_emit_25 ?_
    obtain ⟨z2, h⟩ := ck_some h
    obtain ⟨C3, e4, h⟩ := lt_some h
    refine wg_iaste X (SCi hS 29 10 rfl) (SCl hS 29 160 rfl) z2 dX2_emit_26 e4 ?_
    refine wg_aload_n X 0 dX2_emit_27 rfl rfl ?_
    refine wg_dup X dX2_emit_28 rfl ?_
    refine wg_getC X cl2 (SCi hS 28 2 rfl) 3 (by decide) dX2_emit_29 k_204 rfl ?_
    refine wg_iconst (v := 1) X dX2_emit_32 (by decide) ?_
    refine wg_iadd X dX2_emit_33 ?_
    obtain ⟨C5, e6, h⟩ := lt_some h
    refine wg_putCe X cl2 (SCi hS 28 2 rfl) 3 (by decide) dX2_emit_34 k_204 rfl rfl rfl rfl e6 ?_
    exact wg_vret X ⟨(sm_inj h), rfl⟩ hr dX2_emit_37
-- WindowsGive$Tape.empty()V (('c', 23),)
def f_X5_empty (C : wg_C)  : Option wg_C :=
  lt_ (wg_up C 23 1 (0 : Int32)) fun C1 =>
  some C1
set_option maxHeartbeats 4000000 in
set_option maxRecDepth 100000 in
theorem c_X5_empty (l : Launch) (E : wg_Ev) (ad : Nat → Nat) (S : wg_Sh) (hS : wg_SC S) (C : wg_C) (M : wg_M)   {D0 : wg_C} (h : f_X5_empty C  = some D0) : wg_Cv l yX5_empty cX5_empty 1 none 0 0 E ad S C M [.ref (ad 23)] D0 M := by
  refine wg_start (own := RX5) (by decide +kernel) rfl (Nat.le_of_ble_eq_true rfl) ?_
  intro p e s m below meth c X hr hnm
  refine wg_lv (lv' := [(0, .ref (ad 23))]) rfl ?_
  unfold f_X5_empty at h
  refine wg_aload_n X 0 dX5_empty_0 rfl rfl ?_
  refine wg_iconst (v := 0) X dX5_empty_1 (by decide) ?_
  obtain ⟨C1, e2, h⟩ := lt_some h
  refine wg_putCe X cl5 (SCi hS 23 5 rfl) 1 (by decide) dX5_empty_2 k_168 rfl rfl rfl rfl e2 ?_
  exact wg_vret X ⟨(sm_inj h), rfl⟩ hr dX5_empty_5
