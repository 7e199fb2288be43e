/-- how many rounds a loop may take -/
def NN : Nat := 1000000000000
def H_set (Inv : wg_Sh → wg_C → wg_M → Prop) : Prop := ∀ (S : wg_Sh) (C : wg_C) (M : wg_M), Inv S C M → wg_wf S → ∀ a1 a2 a3 : Int32, ∃ (r : Int32) (C1 : wg_C) (M1 : wg_M), f_X8_set C a1 a2 a3 = some (r, C1) ∧ f_X9_set M a1 a2 a3 = some (r, M1) ∧ Inv S C1 M1
def H_pane (Inv : wg_Sh → wg_C → wg_M → Prop) : Prop := ∀ (S : wg_Sh) (C : wg_C) (M : wg_M), Inv S C M → wg_wf S → ∀ a1 a2 a3 : Int32, ∃ (r : Int32) (C1 : wg_C) (M1 : wg_M), f_X8_pane C a1 a2 a3 = some (r, C1) ∧ f_X9_pane M a1 a2 a3 = some (r, M1) ∧ Inv S C1 M1
def H_told (Inv : wg_Sh → wg_C → wg_M → Prop) : Prop := ∀ (S : wg_Sh) (C : wg_C) (M : wg_M), Inv S C M → wg_wf S → ∀ a1 a2 : Int32, ∃ (r : Int32) , f_X8_told C a1 a2 = some r ∧ f_X9_told M a1 a2 = some r ∧ True
def H_gives (Inv : wg_Sh → wg_C → wg_M → Prop) : Prop := ∀ (S : wg_Sh) (C : wg_C) (M : wg_M), Inv S C M → wg_wf S → ∀ a1 a2 a3 : Int32, ∃ (r : Int32) , f_X8_gives C a1 a2 a3 = some r ∧ f_X9_gives M a1 a2 a3 = some r ∧ True
def H_feed (Inv : wg_Sh → wg_C → wg_M → Prop) : Prop := ∀ (S : wg_Sh) (C : wg_C) (M : wg_M), Inv S C M → wg_wf S → ∀ a1 : Int32, ∃ (r : Int32) (C1 : wg_C) (M1 : wg_M), f_X8_feed C a1 = some (r, C1) ∧ f_X9_feed M a1 = some (r, M1) ∧ Inv S C1 M1
def H_text (Inv : wg_Sh → wg_C → wg_M → Prop) : Prop := ∀ (S : wg_Sh) (C : wg_C) (M : wg_M), Inv S C M → wg_wf S → ∃ (r : Int32) (S1 : wg_Sh) (C1 : wg_C) (M1 : wg_M), f_X8_text NN S C  = some (r, S1, C1) ∧ f_X9_text NN M  = some (r, M1) ∧ Inv S1 C1 M1 ∧ wg_wf S1
def H_force (Inv : wg_Sh → wg_C → wg_M → Prop) : Prop := ∀ (S : wg_Sh) (C : wg_C) (M : wg_M), Inv S C M → wg_wf S → ∀ a1 : Int32, ∃ (r : Int32) (C1 : wg_C) (M1 : wg_M), f_X8_force C a1 = some (r, C1) ∧ f_X9_force M a1 = some (r, M1) ∧ Inv S C1 M1
def H_panes (Inv : wg_Sh → wg_C → wg_M → Prop) : Prop := ∀ (S : wg_Sh) (C : wg_C) (M : wg_M), Inv S C M → wg_wf S → ∀ a1 a2 a3 a4 : Int32, ∃ (r : Int32) (C1 : wg_C) (M1 : wg_M), f_X8_panes NN S C a1 a2 a3 a4 = some (r, C1) ∧ f_X9_panes NN M a1 a2 a3 a4 = some (r, M1) ∧ Inv S C1 M1
def H_cost (Inv : wg_Sh → wg_C → wg_M → Prop) : Prop := ∀ (S : wg_Sh) (C : wg_C) (M : wg_M), Inv S C M → wg_wf S → ∀ a1 a2 a3 : Int32, ∃ (r : Int32) (C1 : wg_C) (M1 : wg_M), f_X8_cost NN S C a1 a2 a3 = some (r, C1) ∧ f_X9_cost NN M a1 a2 a3 = some (r, M1) ∧ Inv S C1 M1
def H_earliest (Inv : wg_Sh → wg_C → wg_M → Prop) : Prop := ∀ (S : wg_Sh) (C : wg_C) (M : wg_M), Inv S C M → wg_wf S → ∀ a1 a2 a3 : Int32, ∃ (r : Int32) (C1 : wg_C) (M1 : wg_M), f_X8_earliest NN C a1 a2 a3 = some (r, C1) ∧ f_X9_earliest NN M a1 a2 a3 = some (r, M1) ∧ Inv S C1 M1
def H_loop (Inv : wg_Sh → wg_C → wg_M → Prop) : Prop := ∀ (S : wg_Sh) (C : wg_C) (M : wg_M), Inv S C M → wg_wf S → ∀ a1 a2 : Int32, ∃ (r : Int32) (C1 : wg_C) (M1 : wg_M), f_X8_loop NN S C a1 a2 = some (r, C1) ∧ f_X9_loop NN M a1 a2 = some (r, M1) ∧ Inv S C1 M1
def H_spots (Inv : wg_Sh → wg_C → wg_M → Prop) : Prop := ∀ (S : wg_Sh) (C : wg_C) (M : wg_M), Inv S C M → wg_wf S → ∀ a1 a2 : Int32, ∃ (r : Int32) (C1 : wg_C) (M1 : wg_M), f_X8_spots NN C a1 a2 = some (r, C1) ∧ f_X9_spots NN M a1 a2 = some (r, M1) ∧ Inv S C1 M1
def H_brick (Inv : wg_Sh → wg_C → wg_M → Prop) : Prop := ∀ (S : wg_Sh) (C : wg_C) (M : wg_M), Inv S C M → wg_wf S → ∀ a1 a2 a3 a4 : Int32, ∃ (r : Int32) (C1 : wg_C) (M1 : wg_M), f_X8_brick NN C a1 a2 a3 a4 = some (r, C1) ∧ f_X9_brick NN M a1 a2 a3 a4 = some (r, M1) ∧ Inv S C1 M1
def H_seen (Inv : wg_Sh → wg_C → wg_M → Prop) : Prop := ∀ (S : wg_Sh) (C : wg_C) (M : wg_M), Inv S C M → wg_wf S → ∀ a1 a2 a3 a4 : Int32, ∃ (r : Int32) (C1 : wg_C) (M1 : wg_M), f_X8_seen NN C a1 a2 a3 a4 = some (r, C1) ∧ f_X9_seen NN M a1 a2 a3 a4 = some (r, M1) ∧ Inv S C1 M1
def H_lookNext (Inv : wg_Sh → wg_C → wg_M → Prop) : Prop := ∀ (S : wg_Sh) (C : wg_C) (M : wg_M), Inv S C M → wg_wf S → ∀ a1 a2 a3 a4 : Int32, ∃ (r : Int32) (C1 : wg_C) (M1 : wg_M), f_X8_lookNext NN C a1 a2 a3 a4 = some (r, C1) ∧ f_X9_lookNext NN M a1 a2 a3 a4 = some (r, M1) ∧ Inv S C1 M1
def H_film (Inv : wg_Sh → wg_C → wg_M → Prop) : Prop := ∀ (S : wg_Sh) (C : wg_C) (M : wg_M), Inv S C M → wg_wf S → ∀ a1 a2 a3 a4 : Int32, ∃ (r : Int32) (C1 : wg_C) (M1 : wg_M), f_X8_film NN C a1 a2 a3 a4 = some (r, C1) ∧ f_X9_film NN M a1 a2 a3 a4 = some (r, M1) ∧ Inv S C1 M1
def H_water (Inv : wg_Sh → wg_C → wg_M → Prop) : Prop := ∀ (S : wg_Sh) (C : wg_C) (M : wg_M), Inv S C M → wg_wf S → ∀ a1 a2 : Int32, ∃ (r : Int32) (C1 : wg_C) (M1 : wg_M), f_X8_water NN S C a1 a2 = some (r, C1) ∧ f_X9_water NN M a1 a2 = some (r, M1) ∧ Inv S C1 M1
def H_wettest (Inv : wg_Sh → wg_C → wg_M → Prop) : Prop := ∀ (S : wg_Sh) (C : wg_C) (M : wg_M), Inv S C M → wg_wf S → ∀ a1 a2 : Int32, ∃ (r : Int32) (C1 : wg_C) (M1 : wg_M), f_X8_wettest NN S C a1 a2 = some (r, C1) ∧ f_X9_wettest NN M a1 a2 = some (r, M1) ∧ Inv S C1 M1
def H_views (Inv : wg_Sh → wg_C → wg_M → Prop) : Prop := ∀ (S : wg_Sh) (C : wg_C) (M : wg_M), Inv S C M → wg_wf S → ∀ a1 a2 a3 : Int32, ∃ (r : Int32) (C1 : wg_C) (M1 : wg_M), f_X8_views NN S C a1 a2 a3 = some (r, C1) ∧ f_X9_views NN M a1 a2 a3 = some (r, M1) ∧ Inv S C1 M1
def H_drawn (Inv : wg_Sh → wg_C → wg_M → Prop) : Prop := ∀ (S : wg_Sh) (C : wg_C) (M : wg_M), Inv S C M → wg_wf S → ∀ a1 a2 : Int32, ∃ (r : Int32) (C1 : wg_C) (M1 : wg_M), f_X8_drawn NN S C a1 a2 = some (r, C1) ∧ f_X9_drawn NN M a1 a2 = some (r, M1) ∧ Inv S C1 M1
def H_chance (Inv : wg_Sh → wg_C → wg_M → Prop) : Prop := ∀ (S : wg_Sh) (C : wg_C) (M : wg_M), Inv S C M → wg_wf S → ∀ a1 a2 a3 a4 a5 : Int32, ∃ (r : Int64) (C1 : wg_C) (M1 : wg_M), f_X8_chance NN S C a1 a2 a3 a4 a5 = some (r, C1) ∧ f_X9_chance NN M a1 a2 a3 a4 a5 = some (r, M1) ∧ Inv S C1 M1
def H_image (Inv : wg_Sh → wg_C → wg_M → Prop) : Prop := ∀ (S : wg_Sh) (C : wg_C) (M : wg_M), Inv S C M → wg_wf S → ∃ (r : Int32) (C1 : wg_C) (M1 : wg_M), f_X8_image NN C  = some (r, C1) ∧ f_X9_image NN M  = some (r, M1) ∧ Inv S C1 M1
def H_back (Inv : wg_Sh → wg_C → wg_M → Prop) : Prop := ∀ (S : wg_Sh) (C : wg_C) (M : wg_M), Inv S C M → wg_wf S → ∃ (r : Int32) (C1 : wg_C) (M1 : wg_M), f_X8_back NN C  = some (r, C1) ∧ f_X9_back NN M  = some (r, M1) ∧ Inv S C1 M1
def H_count (Inv : wg_Sh → wg_C → wg_M → Prop) : Prop := ∀ (S : wg_Sh) (C : wg_C) (M : wg_M), Inv S C M → wg_wf S → ∀ a1 : Int32, ∃ (r : Int32) , f_X8_count NN C a1 = some r ∧ f_X9_count NN M a1 = some r ∧ True
def H_sheet (Inv : wg_Sh → wg_C → wg_M → Prop) : Prop := ∀ (S : wg_Sh) (C : wg_C) (M : wg_M), Inv S C M → wg_wf S → ∀ a1 a2 a3 : Int32, ∃ (r : Int32) (C1 : wg_C) (M1 : wg_M), f_X8_sheet NN C a1 a2 a3 = some (r, C1) ∧ f_X9_sheet NN M a1 a2 a3 = some (r, M1) ∧ Inv S C1 M1
def H_cell (Inv : wg_Sh → wg_C → wg_M → Prop) : Prop := ∀ (S : wg_Sh) (C : wg_C) (M : wg_M), Inv S C M → wg_wf S → ∀ a1 a2 a3 : Int32, ∃ (r : Int32) (C1 : wg_C) (M1 : wg_M), f_X8_cell C a1 a2 a3 = some (r, C1) ∧ f_X9_cell M a1 a2 a3 = some (r, M1) ∧ Inv S C1 M1
def H_copy (Inv : wg_Sh → wg_C → wg_M → Prop) : Prop := ∀ (S : wg_Sh) (C : wg_C) (M : wg_M), Inv S C M → wg_wf S → ∀ a1 a2 a3 a4 a5 : Int32, ∃ (r : Int32) (C1 : wg_C) (M1 : wg_M), f_X8_copy C a1 a2 a3 a4 a5 = some (r, C1) ∧ f_X9_copy NN M a1 a2 a3 a4 a5 = some (r, M1) ∧ Inv S C1 M1
def H_weathers (Inv : wg_Sh → wg_C → wg_M → Prop) : Prop := ∀ (S : wg_Sh) (C : wg_C) (M : wg_M), Inv S C M → wg_wf S → ∀ a1 a2 a3 a4 : Int32, ∃ (r : Int32) (C1 : wg_C) (M1 : wg_M), f_X8_weathers NN C a1 a2 a3 a4 = some (r, C1) ∧ f_X9_weathers NN M a1 a2 a3 a4 = some (r, M1) ∧ Inv S C1 M1
def H_taken (Inv : wg_Sh → wg_C → wg_M → Prop) : Prop := ∀ (S : wg_Sh) (C : wg_C) (M : wg_M), Inv S C M → wg_wf S → ∀ a1 a2 : Int32, ∃ (r : Int32) , f_X8_taken NN C a1 a2 = some r ∧ f_X9_taken NN M a1 a2 = some r ∧ True
def H_all (Inv : wg_Sh → wg_C → wg_M → Prop) : Prop := (∀ S C M, Inv S C M → wg_SC S ∧ wg_SM S) ∧ H_set Inv ∧ H_pane Inv ∧ H_told Inv ∧ H_gives Inv ∧ H_feed Inv ∧ H_text Inv ∧ H_force Inv ∧ H_panes Inv ∧ H_cost Inv ∧ H_earliest Inv ∧ H_loop Inv ∧ H_spots Inv ∧ H_brick Inv ∧ H_seen Inv ∧ H_lookNext Inv ∧ H_film Inv ∧ H_water Inv ∧ H_wettest Inv ∧ H_views Inv ∧ H_drawn Inv ∧ H_chance Inv ∧ H_image Inv ∧ H_back Inv ∧ H_count Inv ∧ H_sheet Inv ∧ H_cell Inv ∧ H_copy Inv ∧ H_weathers Inv ∧ H_taken Inv
abbrev GL (p : Program) (l : Launch) (e : Env) (s : State) (m : MethodId) (args : Array Value) (below : List Frame) (meth : Method) (c : Code) (Q : State → Prop) (E : wg_Ev) (ad : Nat → Nat) (S : wg_Sh) (cells slots pc : Nat) (C : wg_C) (M : wg_M) (lv : List (Nat × Value)) (st : List Value) : Prop := wg_G p l e room_1 s m args below meth c Q 4 E ad S cells slots pc C M lv st
set_option maxHeartbeats 4000000 in
set_option maxRecDepth 100000 in
theorem law_set {p : Program} {l : Launch} {e : Env} {s : State} {m : MethodId} {args : Array Value} {below : List Frame} {meth : Method} {c : Code} {Q : State → Prop} {E : wg_Ev} {b L : Nat} {xs : Nat → Int32} (X : wg_X p s m args meth c cL_law 4 RL E) (hX : va_X b L xs s s.heap) (hbl : b < s.heap.size) (hbA : ¬ E.1 ≤ b) (hL : L ≤ 3072) {Inv : wg_Sh → wg_C → wg_M → Prop} (hH : H_set Inv) {i j : Nat} (hi : i + 6 ≤ L) (hj : j ≤ 512) {x3 : Int32} (e3 : x3 = nI i) {S : wg_Sh} {C : wg_C} {M : wg_M} {ad : Nat → Nat} {cells slots : Nat} (hI : Inv S C M) (hSM0 : wg_SC S ∧ wg_SM S) (hw : wg_wf S) (hc : cells ≤ 100 + 3 * j) (hs : slots ≤ 10000 + 165 * j) (K : ∀ (S1 : wg_Sh) (C1 : wg_C) (M1 : wg_M) (ad1 : Nat → Nat) (cells1 slots1 : Nat), Inv S1 C1 M1 → wg_wf S1 → cells1 ≤ 100 + 3 * (j + 1) → slots1 ≤ 10000 + 165 * (j + 1) → GL p l e s m args below meth c Q E ad1 S1 cells1 slots1 1292 C1 M1 [(0, .ref b), (1, .ref (ad1 0)), (2, .ref (ad1 55)), (3, .int x3)] []) : GL p l e s m args below meth c Q E ad S cells slots 164 C M [(0, .ref b), (1, .ref (ad 0)), (2, .ref (ad 55)), (3, .int x3)] [] := by
  obtain ⟨hSC, hSM⟩ := hSM0
  obtain ⟨r, C1, M1, h8, h9, hI1⟩ := hH S C M hI hw (xs (x3 + 1).toNatClampNeg) (xs (x3 + 2).toNatClampNeg) (xs (x3 + 3).toNatClampNeg)
  have v1 : vp_in (x3 + 1) L := wg_ix (k := 1) e3 (by omega) hL
  have v2 : vp_in (x3 + 2) L := wg_ix (k := 2) e3 (by omega) hL
  have v3 : vp_in (x3 + 3) L := wg_ix (k := 3) e3 (by omega) hL
  refine wg_aload_n X 1 dL_law_164 rfl rfl ?_
  refine wg_aload_n X 0 dL_law_165 rfl rfl ?_
  refine wg_iload_n X 3 dL_law_166 rfl rfl ?_
  refine wg_iconst (v := 1) X dL_law_167 (by decide) ?_
  refine wg_iadd X dL_law_168 ?_
  refine wg_sld X hX hbl hbA v1 dL_law_169 ?_
  refine wg_aload_n X 0 dL_law_170 rfl rfl ?_
  refine wg_iload_n X 3 dL_law_171 rfl rfl ?_
  refine wg_iconst (v := 2) X dL_law_172 (by decide) ?_
  refine wg_iadd X dL_law_173 ?_
  refine wg_sld X hX hbl hbA v2 dL_law_174 ?_
  refine wg_aload_n X 0 dL_law_175 rfl rfl ?_
  refine wg_iload_n X 3 dL_law_176 rfl rfl ?_
  refine wg_iconst (v := 3) X dL_law_177 (by decide) ?_
  refine wg_iadd X dL_law_178 ?_
  refine wg_sld X hX hbl hbA v3 dL_law_179 ?_
  refine wg_callVi (As := [.int (xs (x3 + 1).toNatClampNeg), .int (xs (x3 + 2).toNatClampNeg), .int (xs (x3 + 3).toNatClampNeg)]) (rest := []) X (c_X8_set l E ad S hSC C M (xs (x3 + 1).toNatClampNeg) (xs (x3 + 2).toNatClampNeg) (xs (x3 + 3).toNatClampNeg) h8) T_yX8_set k_509 cl8 (SCi hSC 0 8 rfl) dL_law_180 rfl rfl (Nat.le_of_ble_eq_true rfl) ⟨Nat.le_of_ble_eq_true rfl, Nat.le_of_ble_eq_true rfl⟩ ⟨show cells ≤ 600000 by omega, show slots ≤ 7302250 by omega⟩ ?_
  refine wg_aload_n X 2 dL_law_183 rfl rfl ?_
  refine wg_aload_n X 0 dL_law_184 rfl rfl ?_
  refine wg_iload_n X 3 dL_law_185 rfl rfl ?_
  refine wg_iconst (v := 1) X dL_law_186 (by decide) ?_
  refine wg_iadd X dL_law_187 ?_
  refine wg_sld X hX hbl hbA v1 dL_law_188 ?_
  refine wg_aload_n X 0 dL_law_189 rfl rfl ?_
  refine wg_iload_n X 3 dL_law_190 rfl rfl ?_
  refine wg_iconst (v := 2) X dL_law_191 (by decide) ?_
  refine wg_iadd X dL_law_192 ?_
  refine wg_sld X hX hbl hbA v2 dL_law_193 ?_
  refine wg_aload_n X 0 dL_law_194 rfl rfl ?_
  refine wg_iload_n X 3 dL_law_195 rfl rfl ?_
  refine wg_iconst (v := 3) X dL_law_196 (by decide) ?_
  refine wg_iadd X dL_law_197 ?_
  refine wg_sld X hX hbl hbA v3 dL_law_198 ?_
  refine wg_callVi (As := [.int (xs (x3 + 1).toNatClampNeg), .int (xs (x3 + 2).toNatClampNeg), .int (xs (x3 + 3).toNatClampNeg)]) (rest := [.int r]) X (c_X9_set l E ad S hSM C1 M (xs (x3 + 1).toNatClampNeg) (xs (x3 + 2).toNatClampNeg) (xs (x3 + 3).toNatClampNeg) h9) T_yX9_set k_1016 cl9 (SMi hSM 55 9 rfl) dL_law_199 rfl rfl (Nat.le_of_ble_eq_true rfl) ⟨Nat.le_of_ble_eq_true rfl, Nat.le_of_ble_eq_true rfl⟩ ⟨show cells ≤ 600000 by omega, show slots ≤ 7302250 by omega⟩ ?_
  refine wg_icmp_eq X 1292 dL_law_202 (by decide) (fun _ => ?_) (fun c9 => absurd rfl c9)
  exact K S C1 M1 ad cells slots hI1 hw (by omega) (by omega)
set_option maxHeartbeats 4000000 in
set_option maxRecDepth 100000 in
theorem law_pane {p : Program} {l : Launch} {e : Env} {s : State} {m : MethodId} {args : Array Value} {below : List Frame} {meth : Method} {c : Code} {Q : State → Prop} {E : wg_Ev} {b L : Nat} {xs : Nat → Int32} (X : wg_X p s m args meth c cL_law 4 RL E) (hX : va_X b L xs s s.heap) (hbl : b < s.heap.size) (hbA : ¬ E.1 ≤ b) (hL : L ≤ 3072) {Inv : wg_Sh → wg_C → wg_M → Prop} (hH : H_pane Inv) {i j : Nat} (hi : i + 6 ≤ L) (hj : j ≤ 512) {x3 : Int32} (e3 : x3 = nI i) {S : wg_Sh} {C : wg_C} {M : wg_M} {ad : Nat → Nat} {cells slots : Nat} (hI : Inv S C M) (hSM0 : wg_SC S ∧ wg_SM S) (hw : wg_wf S) (hc : cells ≤ 100 + 3 * j) (hs : slots ≤ 10000 + 165 * j) (K : ∀ (S1 : wg_Sh) (C1 : wg_C) (M1 : wg_M) (ad1 : Nat → Nat) (cells1 slots1 : Nat), Inv S1 C1 M1 → wg_wf S1 → cells1 ≤ 100 + 3 * (j + 1) → slots1 ≤ 10000 + 165 * (j + 1) → GL p l e s m args below meth c Q E ad1 S1 cells1 slots1 1292 C1 M1 [(0, .ref b), (1, .ref (ad1 0)), (2, .ref (ad1 55)), (3, .int x3)] []) : GL p l e s m args below meth c Q E ad S cells slots 207 C M [(0, .ref b), (1, .ref (ad 0)), (2, .ref (ad 55)), (3, .int x3)] [] := by
  obtain ⟨hSC, hSM⟩ := hSM0
  obtain ⟨r, C1, M1, h8, h9, hI1⟩ := hH S C M hI hw (xs (x3 + 1).toNatClampNeg) (xs (x3 + 2).toNatClampNeg) (xs (x3 + 3).toNatClampNeg)
  have v1 : vp_in (x3 + 1) L := wg_ix (k := 1) e3 (by omega) hL
  have v2 : vp_in (x3 + 2) L := wg_ix (k := 2) e3 (by omega) hL
  have v3 : vp_in (x3 + 3) L := wg_ix (k := 3) e3 (by omega) hL
  refine wg_aload_n X 1 dL_law_207 rfl rfl ?_
  refine wg_aload_n X 0 dL_law_208 rfl rfl ?_
  refine wg_iload_n X 3 dL_law_209 rfl rfl ?_
  refine wg_iconst (v := 1) X dL_law_210 (by decide) ?_
  refine wg_iadd X dL_law_211 ?_
  refine wg_sld X hX hbl hbA v1 dL_law_212 ?_
  refine wg_aload_n X 0 dL_law_213 rfl rfl ?_
  refine wg_iload_n X 3 dL_law_214 rfl rfl ?_
  refine wg_iconst (v := 2) X dL_law_215 (by decide) ?_
  refine wg_iadd X dL_law_216 ?_
  refine wg_sld X hX hbl hbA v2 dL_law_217 ?_
  refine wg_aload_n X 0 dL_law_218 rfl rfl ?_
  refine wg_iload_n X 3 dL_law_219 rfl rfl ?_
  refine wg_iconst (v := 3) X dL_law_220 (by decide) ?_
  refine wg_iadd X dL_law_221 ?_
  refine wg_sld X hX hbl hbA v3 dL_law_222 ?_
  refine wg_callVi (As := [.int (xs (x3 + 1).toNatClampNeg), .int (xs (x3 + 2).toNatClampNeg), .int (xs (x3 + 3).toNatClampNeg)]) (rest := []) X (c_X8_pane l E ad S hSC C M (xs (x3 + 1).toNatClampNeg) (xs (x3 + 2).toNatClampNeg) (xs (x3 + 3).toNatClampNeg) h8) T_yX8_pane k_542 cl8 (SCi hSC 0 8 rfl) dL_law_223 rfl rfl (Nat.le_of_ble_eq_true rfl) ⟨Nat.le_of_ble_eq_true rfl, Nat.le_of_ble_eq_true rfl⟩ ⟨show cells ≤ 600000 by omega, show slots ≤ 7302250 by omega⟩ ?_
  refine wg_aload_n X 2 dL_law_226 rfl rfl ?_
  refine wg_aload_n X 0 dL_law_227 rfl rfl ?_
  refine wg_iload_n X 3 dL_law_228 rfl rfl ?_
  refine wg_iconst (v := 1) X dL_law_229 (by decide) ?_
  refine wg_iadd X dL_law_230 ?_
  refine wg_sld X hX hbl hbA v1 dL_law_231 ?_
  refine wg_aload_n X 0 dL_law_232 rfl rfl ?_
  refine wg_iload_n X 3 dL_law_233 rfl rfl ?_
  refine wg_iconst (v := 2) X dL_law_234 (by decide) ?_
  refine wg_iadd X dL_law_235 ?_
  refine wg_sld X hX hbl hbA v2 dL_law_236 ?_
  refine wg_aload_n X 0 dL_law_237 rfl rfl ?_
  refine wg_iload_n X 3 dL_law_238 rfl rfl ?_
  refine wg_iconst (v := 3) X dL_law_239 (by decide) ?_
  refine wg_iadd X dL_law_240 ?_
  refine wg_sld X hX hbl hbA v3 dL_law_241 ?_
  refine wg_callVi (As := [.int (xs (x3 + 1).toNatClampNeg), .int (xs (x3 + 2).toNatClampNeg), .int (xs (x3 + 3).toNatClampNeg)]) (rest := [.int r]) X (c_X9_pane l E ad S hSM C1 M (xs (x3 + 1).toNatClampNeg) (xs (x3 + 2).toNatClampNeg) (xs (x3 + 3).toNatClampNeg) h9) T_yX9_pane k_1044 cl9 (SMi hSM 55 9 rfl) dL_law_242 rfl rfl (Nat.le_of_ble_eq_true rfl) ⟨Nat.le_of_ble_eq_true rfl, Nat.le_of_ble_eq_true rfl⟩ ⟨show cells ≤ 600000 by omega, show slots ≤ 7302250 by omega⟩ ?_
  refine wg_icmp_eq X 1292 dL_law_245 (by decide) (fun _ => ?_) (fun c9 => absurd rfl c9)
  exact K S C1 M1 ad cells slots hI1 hw (by omega) (by omega)
set_option maxHeartbeats 4000000 in
set_option maxRecDepth 100000 in
theorem law_told {p : Program} {l : Launch} {e : Env} {s : State} {m : MethodId} {args : Array Value} {below : List Frame} {meth : Method} {c : Code} {Q : State → Prop} {E : wg_Ev} {b L : Nat} {xs : Nat → Int32} (X : wg_X p s m args meth c cL_law 4 RL E) (hX : va_X b L xs s s.heap) (hbl : b < s.heap.size) (hbA : ¬ E.1 ≤ b) (hL : L ≤ 3072) {Inv : wg_Sh → wg_C → wg_M → Prop} (hH : H_told Inv) {i j : Nat} (hi : i + 6 ≤ L) (hj : j ≤ 512) {x3 : Int32} (e3 : x3 = nI i) {S : wg_Sh} {C : wg_C} {M : wg_M} {ad : Nat → Nat} {cells slots : Nat} (hI : Inv S C M) (hSM0 : wg_SC S ∧ wg_SM S) (hw : wg_wf S) (hc : cells ≤ 100 + 3 * j) (hs : slots ≤ 10000 + 165 * j) (K : ∀ (S1 : wg_Sh) (C1 : wg_C) (M1 : wg_M) (ad1 : Nat → Nat) (cells1 slots1 : Nat), Inv S1 C1 M1 → wg_wf S1 → cells1 ≤ 100 + 3 * (j + 1) → slots1 ≤ 10000 + 165 * (j + 1) → GL p l e s m args below meth c Q E ad1 S1 cells1 slots1 1292 C1 M1 [(0, .ref b), (1, .ref (ad1 0)), (2, .ref (ad1 55)), (3, .int x3)] []) : GL p l e s m args below meth c Q E ad S cells slots 250 C M [(0, .ref b), (1, .ref (ad 0)), (2, .ref (ad 55)), (3, .int x3)] [] := by
  obtain ⟨hSC, hSM⟩ := hSM0
  obtain ⟨r, h8, h9, hI1⟩ := hH S C M hI hw (xs (x3 + 1).toNatClampNeg) (xs (x3 + 2).toNatClampNeg)
  have v1 : vp_in (x3 + 1) L := wg_ix (k := 1) e3 (by omega) hL
  have v2 : vp_in (x3 + 2) L := wg_ix (k := 2) e3 (by omega) hL
  refine wg_aload_n X 1 dL_law_250 rfl rfl ?_
  refine wg_aload_n X 0 dL_law_251 rfl rfl ?_
  refine wg_iload_n X 3 dL_law_252 rfl rfl ?_
  refine wg_iconst (v := 1) X dL_law_253 (by decide) ?_
  refine wg_iadd X dL_law_254 ?_
  refine wg_sld X hX hbl hbA v1 dL_law_255 ?_
  refine wg_aload_n X 0 dL_law_256 rfl rfl ?_
  refine wg_iload_n X 3 dL_law_257 rfl rfl ?_
  refine wg_iconst (v := 2) X dL_law_258 (by decide) ?_
  refine wg_iadd X dL_law_259 ?_
  refine wg_sld X hX hbl hbA v2 dL_law_260 ?_
  refine wg_callVi (As := [.int (xs (x3 + 1).toNatClampNeg), .int (xs (x3 + 2).toNatClampNeg)]) (rest := []) X (c_X8_told l E ad S hSC C M (xs (x3 + 1).toNatClampNeg) (xs (x3 + 2).toNatClampNeg) h8) T_yX8_told k_549 cl8 (SCi hSC 0 8 rfl) dL_law_261 rfl rfl (Nat.le_of_ble_eq_true rfl) ⟨Nat.le_of_ble_eq_true rfl, Nat.le_of_ble_eq_true rfl⟩ ⟨show cells ≤ 600000 by omega, show slots ≤ 7302250 by omega⟩ ?_
  refine wg_aload_n X 2 dL_law_264 rfl rfl ?_
  refine wg_aload_n X 0 dL_law_265 rfl rfl ?_
  refine wg_iload_n X 3 dL_law_266 rfl rfl ?_
  refine wg_iconst (v := 1) X dL_law_267 (by decide) ?_
  refine wg_iadd X dL_law_268 ?_
  refine wg_sld X hX hbl hbA v1 dL_law_269 ?_
  refine wg_aload_n X 0 dL_law_270 rfl rfl ?_
  refine wg_iload_n X 3 dL_law_271 rfl rfl ?_
  refine wg_iconst (v := 2) X dL_law_272 (by decide) ?_
  refine wg_iadd X dL_law_273 ?_
  refine wg_sld X hX hbl hbA v2 dL_law_274 ?_
  refine wg_callVi (As := [.int (xs (x3 + 1).toNatClampNeg), .int (xs (x3 + 2).toNatClampNeg)]) (rest := [.int r]) X (c_X9_told l E ad S hSM C M (xs (x3 + 1).toNatClampNeg) (xs (x3 + 2).toNatClampNeg) h9) T_yX9_told k_1053 cl9 (SMi hSM 55 9 rfl) dL_law_275 rfl rfl (Nat.le_of_ble_eq_true rfl) ⟨Nat.le_of_ble_eq_true rfl, Nat.le_of_ble_eq_true rfl⟩ ⟨show cells ≤ 600000 by omega, show slots ≤ 7302250 by omega⟩ ?_
  refine wg_icmp_eq X 1292 dL_law_278 (by decide) (fun _ => ?_) (fun c9 => absurd rfl c9)
  exact K S C M ad cells slots hI hw (by omega) (by omega)
set_option maxHeartbeats 4000000 in
set_option maxRecDepth 100000 in
theorem law_gives {p : Program} {l : Launch} {e : Env} {s : State} {m : MethodId} {args : Array Value} {below : List Frame} {meth : Method} {c : Code} {Q : State → Prop} {E : wg_Ev} {b L : Nat} {xs : Nat → Int32} (X : wg_X p s m args meth c cL_law 4 RL E) (hX : va_X b L xs s s.heap) (hbl : b < s.heap.size) (hbA : ¬ E.1 ≤ b) (hL : L ≤ 3072) {Inv : wg_Sh → wg_C → wg_M → Prop} (hH : H_gives Inv) {i j : Nat} (hi : i + 6 ≤ L) (hj : j ≤ 512) {x3 : Int32} (e3 : x3 = nI i) {S : wg_Sh} {C : wg_C} {M : wg_M} {ad : Nat → Nat} {cells slots : Nat} (hI : Inv S C M) (hSM0 : wg_SC S ∧ wg_SM S) (hw : wg_wf S) (hc : cells ≤ 100 + 3 * j) (hs : slots ≤ 10000 + 165 * j) (K : ∀ (S1 : wg_Sh) (C1 : wg_C) (M1 : wg_M) (ad1 : Nat → Nat) (cells1 slots1 : Nat), Inv S1 C1 M1 → wg_wf S1 → cells1 ≤ 100 + 3 * (j + 1) → slots1 ≤ 10000 + 165 * (j + 1) → GL p l e s m args below meth c Q E ad1 S1 cells1 slots1 1292 C1 M1 [(0, .ref b), (1, .ref (ad1 0)), (2, .ref (ad1 55)), (3, .int x3)] []) : GL p l e s m args below meth c Q E ad S cells slots 283 C M [(0, .ref b), (1, .ref (ad 0)), (2, .ref (ad 55)), (3, .int x3)] [] := by
  obtain ⟨hSC, hSM⟩ := hSM0
  obtain ⟨r, h8, h9, hI1⟩ := hH S C M hI hw (xs (x3 + 1).toNatClampNeg) (xs (x3 + 2).toNatClampNeg) (xs (x3 + 3).toNatClampNeg)
  have v1 : vp_in (x3 + 1) L := wg_ix (k := 1) e3 (by omega) hL
  have v2 : vp_in (x3 + 2) L := wg_ix (k := 2) e3 (by omega) hL
  have v3 : vp_in (x3 + 3) L := wg_ix (k := 3) e3 (by omega) hL
  refine wg_aload_n X 1 dL_law_283 rfl rfl ?_
  refine wg_aload_n X 0 dL_law_284 rfl rfl ?_
  refine wg_iload_n X 3 dL_law_285 rfl rfl ?_
  refine wg_iconst (v := 1) X dL_law_286 (by decide) ?_
  refine wg_iadd X dL_law_287 ?_
  refine wg_sld X hX hbl hbA v1 dL_law_288 ?_
  refine wg_aload_n X 0 dL_law_289 rfl rfl ?_
  refine wg_iload_n X 3 dL_law_290 rfl rfl ?_
  refine wg_iconst (v := 2) X dL_law_291 (by decide) ?_
  refine wg_iadd X dL_law_292 ?_
  refine wg_sld X hX hbl hbA v2 dL_law_293 ?_
  refine wg_aload_n X 0 dL_law_294 rfl rfl ?_
  refine wg_iload_n X 3 dL_law_295 rfl rfl ?_
  refine wg_iconst (v := 3) X dL_law_296 (by decide) ?_
  refine wg_iadd X dL_law_297 ?_
  refine wg_sld X hX hbl hbA v3 dL_law_298 ?_
  refine wg_callVi (As := [.int (xs (x3 + 1).toNatClampNeg), .int (xs (x3 + 2).toNatClampNeg), .int (xs (x3 + 3).toNatClampNeg)]) (rest := []) X (c_X8_gives l E ad S hSC C M (xs (x3 + 1).toNatClampNeg) (xs (x3 + 2).toNatClampNeg) (xs (x3 + 3).toNatClampNeg) h8) T_yX8_gives k_550 cl8 (SCi hSC 0 8 rfl) dL_law_299 rfl rfl (Nat.le_of_ble_eq_true rfl) ⟨Nat.le_of_ble_eq_true rfl, Nat.le_of_ble_eq_true rfl⟩ ⟨show cells ≤ 600000 by omega, show slots ≤ 7302250 by omega⟩ ?_
  refine wg_aload_n X 2 dL_law_302 rfl rfl ?_
  refine wg_aload_n X 0 dL_law_303 rfl rfl ?_
  refine wg_iload_n X 3 dL_law_304 rfl rfl ?_
  refine wg_iconst (v := 1) X dL_law_305 (by decide) ?_
  refine wg_iadd X dL_law_306 ?_
  refine wg_sld X hX hbl hbA v1 dL_law_307 ?_
  refine wg_aload_n X 0 dL_law_308 rfl rfl ?_
  refine wg_iload_n X 3 dL_law_309 rfl rfl ?_
  refine wg_iconst (v := 2) X dL_law_310 (by decide) ?_
  refine wg_iadd X dL_law_311 ?_
  refine wg_sld X hX hbl hbA v2 dL_law_312 ?_
  refine wg_aload_n X 0 dL_law_313 rfl rfl ?_
  refine wg_iload_n X 3 dL_law_314 rfl rfl ?_
  refine wg_iconst (v := 3) X dL_law_315 (by decide) ?_
  refine wg_iadd X dL_law_316 ?_
  refine wg_sld X hX hbl hbA v3 dL_law_317 ?_
  refine wg_callVi (As := [.int (xs (x3 + 1).toNatClampNeg), .int (xs (x3 + 2).toNatClampNeg), .int (xs (x3 + 3).toNatClampNeg)]) (rest := [.int r]) X (c_X9_gives l E ad S hSM C M (xs (x3 + 1).toNatClampNeg) (xs (x3 + 2).toNatClampNeg) (xs (x3 + 3).toNatClampNeg) h9) T_yX9_gives k_1054 cl9 (SMi hSM 55 9 rfl) dL_law_318 rfl rfl (Nat.le_of_ble_eq_true rfl) ⟨Nat.le_of_ble_eq_true rfl, Nat.le_of_ble_eq_true rfl⟩ ⟨show cells ≤ 600000 by omega, show slots ≤ 7302250 by omega⟩ ?_
  refine wg_icmp_eq X 1292 dL_law_321 (by decide) (fun _ => ?_) (fun c9 => absurd rfl c9)
  exact K S C M ad cells slots hI hw (by omega) (by omega)
set_option maxHeartbeats 4000000 in
set_option maxRecDepth 100000 in
theorem law_feed {p : Program} {l : Launch} {e : Env} {s : State} {m : MethodId} {args : Array Value} {below : List Frame} {meth : Method} {c : Code} {Q : State → Prop} {E : wg_Ev} {b L : Nat} {xs : Nat → Int32} (X : wg_X p s m args meth c cL_law 4 RL E) (hX : va_X b L xs s s.heap) (hbl : b < s.heap.size) (hbA : ¬ E.1 ≤ b) (hL : L ≤ 3072) {Inv : wg_Sh → wg_C → wg_M → Prop} (hH : H_feed Inv) {i j : Nat} (hi : i + 6 ≤ L) (hj : j ≤ 512) {x3 : Int32} (e3 : x3 = nI i) {S : wg_Sh} {C : wg_C} {M : wg_M} {ad : Nat → Nat} {cells slots : Nat} (hI : Inv S C M) (hSM0 : wg_SC S ∧ wg_SM S) (hw : wg_wf S) (hc : cells ≤ 100 + 3 * j) (hs : slots ≤ 10000 + 165 * j) (K : ∀ (S1 : wg_Sh) (C1 : wg_C) (M1 : wg_M) (ad1 : Nat → Nat) (cells1 slots1 : Nat), Inv S1 C1 M1 → wg_wf S1 → cells1 ≤ 100 + 3 * (j + 1) → slots1 ≤ 10000 + 165 * (j + 1) → GL p l e s m args below meth c Q E ad1 S1 cells1 slots1 1292 C1 M1 [(0, .ref b), (1, .ref (ad1 0)), (2, .ref (ad1 55)), (3, .int x3)] []) : GL p l e s m args below meth c Q E ad S cells slots 326 C M [(0, .ref b), (1, .ref (ad 0)), (2, .ref (ad 55)), (3, .int x3)] [] := by
  obtain ⟨hSC, hSM⟩ := hSM0
  obtain ⟨r, C1, M1, h8, h9, hI1⟩ := hH S C M hI hw (xs (x3 + 1).toNatClampNeg)
  have v1 : vp_in (x3 + 1) L := wg_ix (k := 1) e3 (by omega) hL
  refine wg_aload_n X 1 dL_law_326 rfl rfl ?_
  refine wg_aload_n X 0 dL_law_327 rfl rfl ?_
  refine wg_iload_n X 3 dL_law_328 rfl rfl ?_
  refine wg_iconst (v := 1) X dL_law_329 (by decide) ?_
  refine wg_iadd X dL_law_330 ?_
  refine wg_sld X hX hbl hbA v1 dL_law_331 ?_
  refine wg_callVi (As := [.int (xs (x3 + 1).toNatClampNeg)]) (rest := []) X (c_X8_feed l E ad S hSC C M (xs (x3 + 1).toNatClampNeg) h8) T_yX8_feed k_571 cl8 (SCi hSC 0 8 rfl) dL_law_332 rfl rfl (Nat.le_of_ble_eq_true rfl) ⟨Nat.le_of_ble_eq_true rfl, Nat.le_of_ble_eq_true rfl⟩ ⟨show cells ≤ 600000 by omega, show slots ≤ 7302250 by omega⟩ ?_
  refine wg_aload_n X 2 dL_law_335 rfl rfl ?_
  refine wg_aload_n X 0 dL_law_336 rfl rfl ?_
  refine wg_iload_n X 3 dL_law_337 rfl rfl ?_
  refine wg_iconst (v := 1) X dL_law_338 (by decide) ?_
  refine wg_iadd X dL_law_339 ?_
  refine wg_sld X hX hbl hbA v1 dL_law_340 ?_
  refine wg_callVi (As := [.int (xs (x3 + 1).toNatClampNeg)]) (rest := [.int r]) X (c_X9_feed l E ad S hSM C1 M (xs (x3 + 1).toNatClampNeg) h9) T_yX9_feed k_1070 cl9 (SMi hSM 55 9 rfl) dL_law_341 rfl rfl (Nat.le_of_ble_eq_true rfl) ⟨Nat.le_of_ble_eq_true rfl, Nat.le_of_ble_eq_true rfl⟩ ⟨show cells ≤ 600000 by omega, show slots ≤ 7302250 by omega⟩ ?_
  refine wg_icmp_eq X 1292 dL_law_344 (by decide) (fun _ => ?_) (fun c9 => absurd rfl c9)
  exact K S C1 M1 ad cells slots hI1 hw (by omega) (by omega)
set_option maxHeartbeats 4000000 in
set_option maxRecDepth 100000 in
theorem law_text {p : Program} {l : Launch} {e : Env} {s : State} {m : MethodId} {args : Array Value} {below : List Frame} {meth : Method} {c : Code} {Q : State → Prop} {E : wg_Ev} {b L : Nat} {xs : Nat → Int32} (X : wg_X p s m args meth c cL_law 4 RL E) (hX : va_X b L xs s s.heap) (hbl : b < s.heap.size) (hbA : ¬ E.1 ≤ b) (hL : L ≤ 3072) {Inv : wg_Sh → wg_C → wg_M → Prop} (hSMg : ∀ S C M, Inv S C M → wg_SC S ∧ wg_SM S) (hH : H_text Inv) {i j : Nat} (hi : i + 6 ≤ L) (hj : j ≤ 512) {x3 : Int32} (e3 : x3 = nI i) {S : wg_Sh} {C : wg_C} {M : wg_M} {ad : Nat → Nat} {cells slots : Nat} (hI : Inv S C M) (hSM0 : wg_SC S ∧ wg_SM S) (hw : wg_wf S) (hc : cells ≤ 100 + 3 * j) (hs : slots ≤ 10000 + 165 * j) (K : ∀ (S1 : wg_Sh) (C1 : wg_C) (M1 : wg_M) (ad1 : Nat → Nat) (cells1 slots1 : Nat), Inv S1 C1 M1 → wg_wf S1 → cells1 ≤ 100 + 3 * (j + 1) → slots1 ≤ 10000 + 165 * (j + 1) → GL p l e s m args below meth c Q E ad1 S1 cells1 slots1 1292 C1 M1 [(0, .ref b), (1, .ref (ad1 0)), (2, .ref (ad1 55)), (3, .int x3)] []) : GL p l e s m args below meth c Q E ad S cells slots 349 C M [(0, .ref b), (1, .ref (ad 0)), (2, .ref (ad 55)), (3, .int x3)] [] := by
  obtain ⟨hSC, hSM⟩ := hSM0
  obtain ⟨r, S1, C1, M1, h8, h9, hI1⟩ := hH S C M hI hw 
  refine wg_aload_n X 1 dL_law_349 rfl rfl ?_
  refine wg_callVa (As := []) (rest := []) X (c_X8_text l E ad S hw NN C M h8) T_yX8_text k_575 cl8 (SCi hSC 0 8 rfl) dL_law_350 rfl rfl (Nat.le_of_ble_eq_true rfl) ⟨Nat.le_of_ble_eq_true rfl, Nat.le_of_ble_eq_true rfl⟩ ⟨show cells + 3 ≤ 600000 by omega, show slots + 165 ≤ 7302250 by omega⟩ (wg_ex_rf hw) (fun ad1 hx1 ha1 => ?_)
  refine wg_ren (lv' := [(0, .ref b), (1, .ref (ad1 0)), (2, .ref (ad1 55)), (3, .int x3)]) (st' := [.int r]) (by simp only [ha1 0 (SCi hSC 0 8 rfl).1, ha1 55 (SMi hSM 55 9 rfl).1]) rfl ?_
  have hSM1 := (hSMg S1 C1 M1 hI1.1).2
  refine wg_aload_n X 2 dL_law_353 rfl rfl ?_
  refine wg_callVi (As := []) (rest := [.int r]) X (c_X9_text l E ad1 S1 hSM1 NN C1 M  h9) T_yX9_text k_1075 cl9 (SMi hSM1 55 9 rfl) dL_law_354 rfl rfl (Nat.le_of_ble_eq_true rfl) ⟨Nat.le_of_ble_eq_true rfl, Nat.le_of_ble_eq_true rfl⟩ ⟨show (cells + 3) ≤ 600000 by omega, show (slots + 165) ≤ 7302250 by omega⟩ ?_
  refine wg_icmp_eq X 1292 dL_law_357 (by decide) (fun _ => ?_) (fun c9 => absurd rfl c9)
  exact K S1 C1 M1 ad1 (cells + 3) (slots + 165) hI1.1 hI1.2 (by omega) (by omega)
set_option maxHeartbeats 4000000 in
set_option maxRecDepth 100000 in
theorem law_force {p : Program} {l : Launch} {e : Env} {s : State} {m : MethodId} {args : Array Value} {below : List Frame} {meth : Method} {c : Code} {Q : State → Prop} {E : wg_Ev} {b L : Nat} {xs : Nat → Int32} (X : wg_X p s m args meth c cL_law 4 RL E) (hX : va_X b L xs s s.heap) (hbl : b < s.heap.size) (hbA : ¬ E.1 ≤ b) (hL : L ≤ 3072) {Inv : wg_Sh → wg_C → wg_M → Prop} (hH : H_force Inv) {i j : Nat} (hi : i + 6 ≤ L) (hj : j ≤ 512) {x3 : Int32} (e3 : x3 = nI i) {S : wg_Sh} {C : wg_C} {M : wg_M} {ad : Nat → Nat} {cells slots : Nat} (hI : Inv S C M) (hSM0 : wg_SC S ∧ wg_SM S) (hw : wg_wf S) (hc : cells ≤ 100 + 3 * j) (hs : slots ≤ 10000 + 165 * j) (K : ∀ (S1 : wg_Sh) (C1 : wg_C) (M1 : wg_M) (ad1 : Nat → Nat) (cells1 slots1 : Nat), Inv S1 C1 M1 → wg_wf S1 → cells1 ≤ 100 + 3 * (j + 1) → slots1 ≤ 10000 + 165 * (j + 1) → GL p l e s m args below meth c Q E ad1 S1 cells1 slots1 1292 C1 M1 [(0, .ref b), (1, .ref (ad1 0)), (2, .ref (ad1 55)), (3, .int x3)] []) : GL p l e s m args below meth c Q E ad S cells slots 362 C M [(0, .ref b), (1, .ref (ad 0)), (2, .ref (ad 55)), (3, .int x3)] [] := by
  obtain ⟨hSC, hSM⟩ := hSM0
  obtain ⟨r, C1, M1, h8, h9, hI1⟩ := hH S C M hI hw (xs (x3 + 1).toNatClampNeg)
  have v1 : vp_in (x3 + 1) L := wg_ix (k := 1) e3 (by omega) hL
  refine wg_aload_n X 1 dL_law_362 rfl rfl ?_
  refine wg_aload_n X 0 dL_law_363 rfl rfl ?_
  refine wg_iload_n X 3 dL_law_364 rfl rfl ?_
  refine wg_iconst (v := 1) X dL_law_365 (by decide) ?_
  refine wg_iadd X dL_law_366 ?_
  refine wg_sld X hX hbl hbA v1 dL_law_367 ?_
  refine wg_callVi (As := [.int (xs (x3 + 1).toNatClampNeg)]) (rest := []) X (c_X8_force l E ad S hSC C M (xs (x3 + 1).toNatClampNeg) h8) T_yX8_force k_579 cl8 (SCi hSC 0 8 rfl) dL_law_368 rfl rfl (Nat.le_of_ble_eq_true rfl) ⟨Nat.le_of_ble_eq_true rfl, Nat.le_of_ble_eq_true rfl⟩ ⟨show cells ≤ 600000 by omega, show slots ≤ 7302250 by omega⟩ ?_
  refine wg_aload_n X 2 dL_law_371 rfl rfl ?_
  refine wg_aload_n X 0 dL_law_372 rfl rfl ?_
  refine wg_iload_n X 3 dL_law_373 rfl rfl ?_
  refine wg_iconst (v := 1) X dL_law_374 (by decide) ?_
  refine wg_iadd X dL_law_375 ?_
  refine wg_sld X hX hbl hbA v1 dL_law_376 ?_
  refine wg_callVi (As := [.int (xs (x3 + 1).toNatClampNeg)]) (rest := [.int r]) X (c_X9_force l E ad S hSM C1 M (xs (x3 + 1).toNatClampNeg) h9) T_yX9_force k_1150 cl9 (SMi hSM 55 9 rfl) dL_law_377 rfl rfl (Nat.le_of_ble_eq_true rfl) ⟨Nat.le_of_ble_eq_true rfl, Nat.le_of_ble_eq_true rfl⟩ ⟨show cells ≤ 600000 by omega, show slots ≤ 7302250 by omega⟩ ?_
  refine wg_icmp_eq X 1292 dL_law_380 (by decide) (fun _ => ?_) (fun c9 => absurd rfl c9)
  exact K S C1 M1 ad cells slots hI1 hw (by omega) (by omega)
set_option maxHeartbeats 4000000 in
set_option maxRecDepth 100000 in
theorem law_panes {p : Program} {l : Launch} {e : Env} {s : State} {m : MethodId} {args : Array Value} {below : List Frame} {meth : Method} {c : Code} {Q : State → Prop} {E : wg_Ev} {b L : Nat} {xs : Nat → Int32} (X : wg_X p s m args meth c cL_law 4 RL E) (hX : va_X b L xs s s.heap) (hbl : b < s.heap.size) (hbA : ¬ E.1 ≤ b) (hL : L ≤ 3072) {Inv : wg_Sh → wg_C → wg_M → Prop} (hH : H_panes Inv) {i j : Nat} (hi : i + 6 ≤ L) (hj : j ≤ 512) {x3 : Int32} (e3 : x3 = nI i) {S : wg_Sh} {C : wg_C} {M : wg_M} {ad : Nat → Nat} {cells slots : Nat} (hI : Inv S C M) (hSM0 : wg_SC S ∧ wg_SM S) (hw : wg_wf S) (hc : cells ≤ 100 + 3 * j) (hs : slots ≤ 10000 + 165 * j) (K : ∀ (S1 : wg_Sh) (C1 : wg_C) (M1 : wg_M) (ad1 : Nat → Nat) (cells1 slots1 : Nat), Inv S1 C1 M1 → wg_wf S1 → cells1 ≤ 100 + 3 * (j + 1) → slots1 ≤ 10000 + 165 * (j + 1) → GL p l e s m args below meth c Q E ad1 S1 cells1 slots1 1292 C1 M1 [(0, .ref b), (1, .ref (ad1 0)), (2, .ref (ad1 55)), (3, .int x3)] []) : GL p l e s m args below meth c Q E ad S cells slots 385 C M [(0, .ref b), (1, .ref (ad 0)), (2, .ref (ad 55)), (3, .int x3)] [] := by
  obtain ⟨hSC, hSM⟩ := hSM0
  obtain ⟨r, C1, M1, h8, h9, hI1⟩ := hH S C M hI hw (xs (x3 + 1).toNatClampNeg) (xs (x3 + 2).toNatClampNeg) (xs (x3 + 3).toNatClampNeg) (xs (x3 + 4).toNatClampNeg)
  have v1 : vp_in (x3 + 1) L := wg_ix (k := 1) e3 (by omega) hL
  have v2 : vp_in (x3 + 2) L := wg_ix (k := 2) e3 (by omega) hL
  have v3 : vp_in (x3 + 3) L := wg_ix (k := 3) e3 (by omega) hL
  have v4 : vp_in (x3 + 4) L := wg_ix (k := 4) e3 (by omega) hL
  refine wg_aload_n X 1 dL_law_385 rfl rfl ?_
  refine wg_aload_n X 0 dL_law_386 rfl rfl ?_
  refine wg_iload_n X 3 dL_law_387 rfl rfl ?_
  refine wg_iconst (v := 1) X dL_law_388 (by decide) ?_
  refine wg_iadd X dL_law_389 ?_
  refine wg_sld X hX hbl hbA v1 dL_law_390 ?_
  refine wg_aload_n X 0 dL_law_391 rfl rfl ?_
  refine wg_iload_n X 3 dL_law_392 rfl rfl ?_
  refine wg_iconst (v := 2) X dL_law_393 (by decide) ?_
  refine wg_iadd X dL_law_394 ?_
  refine wg_sld X hX hbl hbA v2 dL_law_395 ?_
  refine wg_aload_n X 0 dL_law_396 rfl rfl ?_
  refine wg_iload_n X 3 dL_law_397 rfl rfl ?_
  refine wg_iconst (v := 3) X dL_law_398 (by decide) ?_
  refine wg_iadd X dL_law_399 ?_
  refine wg_sld X hX hbl hbA v3 dL_law_400 ?_
  refine wg_aload_n X 0 dL_law_401 rfl rfl ?_
  refine wg_iload_n X 3 dL_law_402 rfl rfl ?_
  refine wg_iconst (v := 4) X dL_law_403 (by decide) ?_
  refine wg_iadd X dL_law_404 ?_
  refine wg_sld X hX hbl hbA v4 dL_law_405 ?_
  refine wg_callVi (As := [.int (xs (x3 + 1).toNatClampNeg), .int (xs (x3 + 2).toNatClampNeg), .int (xs (x3 + 3).toNatClampNeg), .int (xs (x3 + 4).toNatClampNeg)]) (rest := []) X (c_X8_panes l E ad S hSC NN C M (xs (x3 + 1).toNatClampNeg) (xs (x3 + 2).toNatClampNeg) (xs (x3 + 3).toNatClampNeg) (xs (x3 + 4).toNatClampNeg) h8) T_yX8_panes k_583 cl8 (SCi hSC 0 8 rfl) dL_law_406 rfl rfl (Nat.le_of_ble_eq_true rfl) ⟨Nat.le_of_ble_eq_true rfl, Nat.le_of_ble_eq_true rfl⟩ ⟨show cells ≤ 600000 by omega, show slots ≤ 7302250 by omega⟩ ?_
  refine wg_aload_n X 2 dL_law_409 rfl rfl ?_
  refine wg_aload_n X 0 dL_law_410 rfl rfl ?_
  refine wg_iload_n X 3 dL_law_411 rfl rfl ?_
  refine wg_iconst (v := 1) X dL_law_412 (by decide) ?_
  refine wg_iadd X dL_law_413 ?_
  refine wg_sld X hX hbl hbA v1 dL_law_414 ?_
  refine wg_aload_n X 0 dL_law_415 rfl rfl ?_
  refine wg_iload_n X 3 dL_law_416 rfl rfl ?_
  refine wg_iconst (v := 2) X dL_law_417 (by decide) ?_
  refine wg_iadd X dL_law_418 ?_
  refine wg_sld X hX hbl hbA v2 dL_law_419 ?_
  refine wg_aload_n X 0 dL_law_420 rfl rfl ?_
  refine wg_iload_n X 3 dL_law_421 rfl rfl ?_
  refine wg_iconst (v := 3) X dL_law_422 (by decide) ?_
  refine wg_iadd X dL_law_423 ?_
  refine wg_sld X hX hbl hbA v3 dL_law_424 ?_
  refine wg_aload_n X 0 dL_law_425 rfl rfl ?_
  refine wg_iload_n X 3 dL_law_426 rfl rfl ?_
  refine wg_iconst (v := 4) X dL_law_427 (by decide) ?_
  refine wg_iadd X dL_law_428 ?_
  refine wg_sld X hX hbl hbA v4 dL_law_429 ?_
  refine wg_callVi (As := [.int (xs (x3 + 1).toNatClampNeg), .int (xs (x3 + 2).toNatClampNeg), .int (xs (x3 + 3).toNatClampNeg), .int (xs (x3 + 4).toNatClampNeg)]) (rest := [.int r]) X (c_X9_panes l E ad S hSM NN C1 M (xs (x3 + 1).toNatClampNeg) (xs (x3 + 2).toNatClampNeg) (xs (x3 + 3).toNatClampNeg) (xs (x3 + 4).toNatClampNeg) h9) T_yX9_panes k_1154 cl9 (SMi hSM 55 9 rfl) dL_law_430 rfl rfl (Nat.le_of_ble_eq_true rfl) ⟨Nat.le_of_ble_eq_true rfl, Nat.le_of_ble_eq_true rfl⟩ ⟨show cells ≤ 600000 by omega, show slots ≤ 7302250 by omega⟩ ?_
  refine wg_icmp_eq X 1292 dL_law_433 (by decide) (fun _ => ?_) (fun c9 => absurd rfl c9)
  exact K S C1 M1 ad cells slots hI1 hw (by omega) (by omega)
set_option maxHeartbeats 4000000 in
set_option maxRecDepth 100000 in
theorem law_cost {p : Program} {l : Launch} {e : Env} {s : State} {m : MethodId} {args : Array Value} {below : List Frame} {meth : Method} {c : Code} {Q : State → Prop} {E : wg_Ev} {b L : Nat} {xs : Nat → Int32} (X : wg_X p s m args meth c cL_law 4 RL E) (hX : va_X b L xs s s.heap) (hbl : b < s.heap.size) (hbA : ¬ E.1 ≤ b) (hL : L ≤ 3072) {Inv : wg_Sh → wg_C → wg_M → Prop} (hH : H_cost Inv) {i j : Nat} (hi : i + 6 ≤ L) (hj : j ≤ 512) {x3 : Int32} (e3 : x3 = nI i) {S : wg_Sh} {C : wg_C} {M : wg_M} {ad : Nat → Nat} {cells slots : Nat} (hI : Inv S C M) (hSM0 : wg_SC S ∧ wg_SM S) (hw : wg_wf S) (hc : cells ≤ 100 + 3 * j) (hs : slots ≤ 10000 + 165 * j) (K : ∀ (S1 : wg_Sh) (C1 : wg_C) (M1 : wg_M) (ad1 : Nat → Nat) (cells1 slots1 : Nat), Inv S1 C1 M1 → wg_wf S1 → cells1 ≤ 100 + 3 * (j + 1) → slots1 ≤ 10000 + 165 * (j + 1) → GL p l e s m args below meth c Q E ad1 S1 cells1 slots1 1292 C1 M1 [(0, .ref b), (1, .ref (ad1 0)), (2, .ref (ad1 55)), (3, .int x3)] []) : GL p l e s m args below meth c Q E ad S cells slots 438 C M [(0, .ref b), (1, .ref (ad 0)), (2, .ref (ad 55)), (3, .int x3)] [] := by
  obtain ⟨hSC, hSM⟩ := hSM0
  obtain ⟨r, C1, M1, h8, h9, hI1⟩ := hH S C M hI hw (xs (x3 + 1).toNatClampNeg) (xs (x3 + 2).toNatClampNeg) (xs (x3 + 3).toNatClampNeg)
  have v1 : vp_in (x3 + 1) L := wg_ix (k := 1) e3 (by omega) hL
  have v2 : vp_in (x3 + 2) L := wg_ix (k := 2) e3 (by omega) hL
  have v3 : vp_in (x3 + 3) L := wg_ix (k := 3) e3 (by omega) hL
  refine wg_aload_n X 1 dL_law_438 rfl rfl ?_
  refine wg_aload_n X 0 dL_law_439 rfl rfl ?_
  refine wg_iload_n X 3 dL_law_440 rfl rfl ?_
  refine wg_iconst (v := 1) X dL_law_441 (by decide) ?_
  refine wg_iadd X dL_law_442 ?_
  refine wg_sld X hX hbl hbA v1 dL_law_443 ?_
  refine wg_aload_n X 0 dL_law_444 rfl rfl ?_
  refine wg_iload_n X 3 dL_law_445 rfl rfl ?_
  refine wg_iconst (v := 2) X dL_law_446 (by decide) ?_
  refine wg_iadd X dL_law_447 ?_
  refine wg_sld X hX hbl hbA v2 dL_law_448 ?_
  refine wg_aload_n X 0 dL_law_449 rfl rfl ?_
  refine wg_iload_n X 3 dL_law_450 rfl rfl ?_
  refine wg_iconst (v := 3) X dL_law_451 (by decide) ?_
  refine wg_iadd X dL_law_452 ?_
  refine wg_sld X hX hbl hbA v3 dL_law_453 ?_
  refine wg_callVi (As := [.int (xs (x3 + 1).toNatClampNeg), .int (xs (x3 + 2).toNatClampNeg), .int (xs (x3 + 3).toNatClampNeg)]) (rest := []) X (c_X8_cost l E ad S hSC NN C M (xs (x3 + 1).toNatClampNeg) (xs (x3 + 2).toNatClampNeg) (xs (x3 + 3).toNatClampNeg) h8) T_yX8_cost k_646 cl8 (SCi hSC 0 8 rfl) dL_law_454 rfl rfl (Nat.le_of_ble_eq_true rfl) ⟨Nat.le_of_ble_eq_true rfl, Nat.le_of_ble_eq_true rfl⟩ ⟨show cells ≤ 600000 by omega, show slots ≤ 7302250 by omega⟩ ?_
  refine wg_aload_n X 2 dL_law_457 rfl rfl ?_
  refine wg_aload_n X 0 dL_law_458 rfl rfl ?_
  refine wg_iload_n X 3 dL_law_459 rfl rfl ?_
  refine wg_iconst (v := 1) X dL_law_460 (by decide) ?_
  refine wg_iadd X dL_law_461 ?_
  refine wg_sld X hX hbl hbA v1 dL_law_462 ?_
  refine wg_aload_n X 0 dL_law_463 rfl rfl ?_
  refine wg_iload_n X 3 dL_law_464 rfl rfl ?_
  refine wg_iconst (v := 2) X dL_law_465 (by decide) ?_
  refine wg_iadd X dL_law_466 ?_
  refine wg_sld X hX hbl hbA v2 dL_law_467 ?_
  refine wg_aload_n X 0 dL_law_468 rfl rfl ?_
  refine wg_iload_n X 3 dL_law_469 rfl rfl ?_
  refine wg_iconst (v := 3) X dL_law_470 (by decide) ?_
  refine wg_iadd X dL_law_471 ?_
  refine wg_sld X hX hbl hbA v3 dL_law_472 ?_
  refine wg_callVi (As := [.int (xs (x3 + 1).toNatClampNeg), .int (xs (x3 + 2).toNatClampNeg), .int (xs (x3 + 3).toNatClampNeg)]) (rest := [.int r]) X (c_X9_cost l E ad S hSM NN C1 M (xs (x3 + 1).toNatClampNeg) (xs (x3 + 2).toNatClampNeg) (xs (x3 + 3).toNatClampNeg) h9) T_yX9_cost k_1182 cl9 (SMi hSM 55 9 rfl) dL_law_473 rfl rfl (Nat.le_of_ble_eq_true rfl) ⟨Nat.le_of_ble_eq_true rfl, Nat.le_of_ble_eq_true rfl⟩ ⟨show cells ≤ 600000 by omega, show slots ≤ 7302250 by omega⟩ ?_
  refine wg_icmp_eq X 1292 dL_law_476 (by decide) (fun _ => ?_) (fun c9 => absurd rfl c9)
  exact K S C1 M1 ad cells slots hI1 hw (by omega) (by omega)
set_option maxHeartbeats 4000000 in
set_option maxRecDepth 100000 in
theorem law_earliest {p : Program} {l : Launch} {e : Env} {s : State} {m : MethodId} {args : Array Value} {below : List Frame} {meth : Method} {c : Code} {Q : State → Prop} {E : wg_Ev} {b L : Nat} {xs : Nat → Int32} (X : wg_X p s m args meth c cL_law 4 RL E) (hX : va_X b L xs s s.heap) (hbl : b < s.heap.size) (hbA : ¬ E.1 ≤ b) (hL : L ≤ 3072) {Inv : wg_Sh → wg_C → wg_M → Prop} (hH : H_earliest Inv) {i j : Nat} (hi : i + 6 ≤ L) (hj : j ≤ 512) {x3 : Int32} (e3 : x3 = nI i) {S : wg_Sh} {C : wg_C} {M : wg_M} {ad : Nat → Nat} {cells slots : Nat} (hI : Inv S C M) (hSM0 : wg_SC S ∧ wg_SM S) (hw : wg_wf S) (hc : cells ≤ 100 + 3 * j) (hs : slots ≤ 10000 + 165 * j) (K : ∀ (S1 : wg_Sh) (C1 : wg_C) (M1 : wg_M) (ad1 : Nat → Nat) (cells1 slots1 : Nat), Inv S1 C1 M1 → wg_wf S1 → cells1 ≤ 100 + 3 * (j + 1) → slots1 ≤ 10000 + 165 * (j + 1) → GL p l e s m args below meth c Q E ad1 S1 cells1 slots1 1292 C1 M1 [(0, .ref b), (1, .ref (ad1 0)), (2, .ref (ad1 55)), (3, .int x3)] []) : GL p l e s m args below meth c Q E ad S cells slots 481 C M [(0, .ref b), (1, .ref (ad 0)), (2, .ref (ad 55)), (3, .int x3)] [] := by
  obtain ⟨hSC, hSM⟩ := hSM0
  obtain ⟨r, C1, M1, h8, h9, hI1⟩ := hH S C M hI hw (xs (x3 + 1).toNatClampNeg) (xs (x3 + 2).toNatClampNeg) (xs (x3 + 3).toNatClampNeg)
  have v1 : vp_in (x3 + 1) L := wg_ix (k := 1) e3 (by omega) hL
  have v2 : vp_in (x3 + 2) L := wg_ix (k := 2) e3 (by omega) hL
  have v3 : vp_in (x3 + 3) L := wg_ix (k := 3) e3 (by omega) hL
  refine wg_aload_n X 1 dL_law_481 rfl rfl ?_
  refine wg_aload_n X 0 dL_law_482 rfl rfl ?_
  refine wg_iload_n X 3 dL_law_483 rfl rfl ?_
  refine wg_iconst (v := 1) X dL_law_484 (by decide) ?_
  refine wg_iadd X dL_law_485 ?_
  refine wg_sld X hX hbl hbA v1 dL_law_486 ?_
  refine wg_aload_n X 0 dL_law_487 rfl rfl ?_
  refine wg_iload_n X 3 dL_law_488 rfl rfl ?_
  refine wg_iconst (v := 2) X dL_law_489 (by decide) ?_
  refine wg_iadd X dL_law_490 ?_
  refine wg_sld X hX hbl hbA v2 dL_law_491 ?_
  refine wg_aload_n X 0 dL_law_492 rfl rfl ?_
  refine wg_iload_n X 3 dL_law_493 rfl rfl ?_
  refine wg_iconst (v := 3) X dL_law_494 (by decide) ?_
  refine wg_iadd X dL_law_495 ?_
  refine wg_sld X hX hbl hbA v3 dL_law_496 ?_
  refine wg_callVi (As := [.int (xs (x3 + 1).toNatClampNeg), .int (xs (x3 + 2).toNatClampNeg), .int (xs (x3 + 3).toNatClampNeg)]) (rest := []) X (c_X8_earliest l E ad S hSC NN C M (xs (x3 + 1).toNatClampNeg) (xs (x3 + 2).toNatClampNeg) (xs (x3 + 3).toNatClampNeg) h8) T_yX8_earliest k_650 cl8 (SCi hSC 0 8 rfl) dL_law_497 rfl rfl (Nat.le_of_ble_eq_true rfl) ⟨Nat.le_of_ble_eq_true rfl, Nat.le_of_ble_eq_true rfl⟩ ⟨show cells ≤ 600000 by omega, show slots ≤ 7302250 by omega⟩ ?_
  refine wg_aload_n X 2 dL_law_500 rfl rfl ?_
  refine wg_aload_n X 0 dL_law_501 rfl rfl ?_
  refine wg_iload_n X 3 dL_law_502 rfl rfl ?_
  refine wg_iconst (v := 1) X dL_law_503 (by decide) ?_
  refine wg_iadd X dL_law_504 ?_
  refine wg_sld X hX hbl hbA v1 dL_law_505 ?_
  refine wg_aload_n X 0 dL_law_506 rfl rfl ?_
  refine wg_iload_n X 3 dL_law_507 rfl rfl ?_
  refine wg_iconst (v := 2) X dL_law_508 (by decide) ?_
  refine wg_iadd X dL_law_509 ?_
  refine wg_sld X hX hbl hbA v2 dL_law_510 ?_
  refine wg_aload_n X 0 dL_law_511 rfl rfl ?_
  refine wg_iload_n X 3 dL_law_512 rfl rfl ?_
  refine wg_iconst (v := 3) X dL_law_513 (by decide) ?_
  refine wg_iadd X dL_law_514 ?_
  refine wg_sld X hX hbl hbA v3 dL_law_515 ?_
  refine wg_callVi (As := [.int (xs (x3 + 1).toNatClampNeg), .int (xs (x3 + 2).toNatClampNeg), .int (xs (x3 + 3).toNatClampNeg)]) (rest := [.int r]) X (c_X9_earliest l E ad S hSM NN C1 M (xs (x3 + 1).toNatClampNeg) (xs (x3 + 2).toNatClampNeg) (xs (x3 + 3).toNatClampNeg) h9) T_yX9_earliest k_1186 cl9 (SMi hSM 55 9 rfl) dL_law_516 rfl rfl (Nat.le_of_ble_eq_true rfl) ⟨Nat.le_of_ble_eq_true rfl, Nat.le_of_ble_eq_true rfl⟩ ⟨show cells ≤ 600000 by omega, show slots ≤ 7302250 by omega⟩ ?_
  refine wg_icmp_eq X 1292 dL_law_519 (by decide) (fun _ => ?_) (fun c9 => absurd rfl c9)
  exact K S C1 M1 ad cells slots hI1 hw (by omega) (by omega)
set_option maxHeartbeats 4000000 in
set_option maxRecDepth 100000 in
theorem law_loop {p : Program} {l : Launch} {e : Env} {s : State} {m : MethodId} {args : Array Value} {below : List Frame} {meth : Method} {c : Code} {Q : State → Prop} {E : wg_Ev} {b L : Nat} {xs : Nat → Int32} (X : wg_X p s m args meth c cL_law 4 RL E) (hX : va_X b L xs s s.heap) (hbl : b < s.heap.size) (hbA : ¬ E.1 ≤ b) (hL : L ≤ 3072) {Inv : wg_Sh → wg_C → wg_M → Prop} (hH : H_loop Inv) {i j : Nat} (hi : i + 6 ≤ L) (hj : j ≤ 512) {x3 : Int32} (e3 : x3 = nI i) {S : wg_Sh} {C : wg_C} {M : wg_M} {ad : Nat → Nat} {cells slots : Nat} (hI : Inv S C M) (hSM0 : wg_SC S ∧ wg_SM S) (hw : wg_wf S) (hc : cells ≤ 100 + 3 * j) (hs : slots ≤ 10000 + 165 * j) (K : ∀ (S1 : wg_Sh) (C1 : wg_C) (M1 : wg_M) (ad1 : Nat → Nat) (cells1 slots1 : Nat), Inv S1 C1 M1 → wg_wf S1 → cells1 ≤ 100 + 3 * (j + 1) → slots1 ≤ 10000 + 165 * (j + 1) → GL p l e s m args below meth c Q E ad1 S1 cells1 slots1 1292 C1 M1 [(0, .ref b), (1, .ref (ad1 0)), (2, .ref (ad1 55)), (3, .int x3)] []) : GL p l e s m args below meth c Q E ad S cells slots 524 C M [(0, .ref b), (1, .ref (ad 0)), (2, .ref (ad 55)), (3, .int x3)] [] := by
  obtain ⟨hSC, hSM⟩ := hSM0
  obtain ⟨r, C1, M1, h8, h9, hI1⟩ := hH S C M hI hw (xs (x3 + 1).toNatClampNeg) (xs (x3 + 2).toNatClampNeg)
  have v1 : vp_in (x3 + 1) L := wg_ix (k := 1) e3 (by omega) hL
  have v2 : vp_in (x3 + 2) L := wg_ix (k := 2) e3 (by omega) hL
  refine wg_aload_n X 1 dL_law_524 rfl rfl ?_
  refine wg_aload_n X 0 dL_law_525 rfl rfl ?_
  refine wg_iload_n X 3 dL_law_526 rfl rfl ?_
  refine wg_iconst (v := 1) X dL_law_527 (by decide) ?_
  refine wg_iadd X dL_law_528 ?_
  refine wg_sld X hX hbl hbA v1 dL_law_529 ?_
  refine wg_aload_n X 0 dL_law_530 rfl rfl ?_
  refine wg_iload_n X 3 dL_law_531 rfl rfl ?_
  refine wg_iconst (v := 2) X dL_law_532 (by decide) ?_
  refine wg_iadd X dL_law_533 ?_
  refine wg_sld X hX hbl hbA v2 dL_law_534 ?_
  refine wg_callVi (As := [.int (xs (x3 + 1).toNatClampNeg), .int (xs (x3 + 2).toNatClampNeg)]) (rest := []) X (c_X8_loop l E ad S hSC NN C M (xs (x3 + 1).toNatClampNeg) (xs (x3 + 2).toNatClampNeg) h8) T_yX8_loop k_667 cl8 (SCi hSC 0 8 rfl) dL_law_535 rfl rfl (Nat.le_of_ble_eq_true rfl) ⟨Nat.le_of_ble_eq_true rfl, Nat.le_of_ble_eq_true rfl⟩ ⟨show cells ≤ 600000 by omega, show slots ≤ 7302250 by omega⟩ ?_
  refine wg_aload_n X 2 dL_law_538 rfl rfl ?_
  refine wg_aload_n X 0 dL_law_539 rfl rfl ?_
  refine wg_iload_n X 3 dL_law_540 rfl rfl ?_
  refine wg_iconst (v := 1) X dL_law_541 (by decide) ?_
  refine wg_iadd X dL_law_542 ?_
  refine wg_sld X hX hbl hbA v1 dL_law_543 ?_
  refine wg_aload_n X 0 dL_law_544 rfl rfl ?_
  refine wg_iload_n X 3 dL_law_545 rfl rfl ?_
  refine wg_iconst (v := 2) X dL_law_546 (by decide) ?_
  refine wg_iadd X dL_law_547 ?_
  refine wg_sld X hX hbl hbA v2 dL_law_548 ?_
  refine wg_callVi (As := [.int (xs (x3 + 1).toNatClampNeg), .int (xs (x3 + 2).toNatClampNeg)]) (rest := [.int r]) X (c_X9_loop l E ad S hSM NN C1 M (xs (x3 + 1).toNatClampNeg) (xs (x3 + 2).toNatClampNeg) h9) T_yX9_loop k_1190 cl9 (SMi hSM 55 9 rfl) dL_law_549 rfl rfl (Nat.le_of_ble_eq_true rfl) ⟨Nat.le_of_ble_eq_true rfl, Nat.le_of_ble_eq_true rfl⟩ ⟨show cells ≤ 600000 by omega, show slots ≤ 7302250 by omega⟩ ?_
  refine wg_icmp_eq X 1292 dL_law_552 (by decide) (fun _ => ?_) (fun c9 => absurd rfl c9)
  exact K S C1 M1 ad cells slots hI1 hw (by omega) (by omega)
set_option maxHeartbeats 4000000 in
set_option maxRecDepth 100000 in
theorem law_spots {p : Program} {l : Launch} {e : Env} {s : State} {m : MethodId} {args : Array Value} {below : List Frame} {meth : Method} {c : Code} {Q : State → Prop} {E : wg_Ev} {b L : Nat} {xs : Nat → Int32} (X : wg_X p s m args meth c cL_law 4 RL E) (hX : va_X b L xs s s.heap) (hbl : b < s.heap.size) (hbA : ¬ E.1 ≤ b) (hL : L ≤ 3072) {Inv : wg_Sh → wg_C → wg_M → Prop} (hH : H_spots Inv) {i j : Nat} (hi : i + 6 ≤ L) (hj : j ≤ 512) {x3 : Int32} (e3 : x3 = nI i) {S : wg_Sh} {C : wg_C} {M : wg_M} {ad : Nat → Nat} {cells slots : Nat} (hI : Inv S C M) (hSM0 : wg_SC S ∧ wg_SM S) (hw : wg_wf S) (hc : cells ≤ 100 + 3 * j) (hs : slots ≤ 10000 + 165 * j) (K : ∀ (S1 : wg_Sh) (C1 : wg_C) (M1 : wg_M) (ad1 : Nat → Nat) (cells1 slots1 : Nat), Inv S1 C1 M1 → wg_wf S1 → cells1 ≤ 100 + 3 * (j + 1) → slots1 ≤ 10000 + 165 * (j + 1) → GL p l e s m args below meth c Q E ad1 S1 cells1 slots1 1292 C1 M1 [(0, .ref b), (1, .ref (ad1 0)), (2, .ref (ad1 55)), (3, .int x3)] []) : GL p l e s m args below meth c Q E ad S cells slots 557 C M [(0, .ref b), (1, .ref (ad 0)), (2, .ref (ad 55)), (3, .int x3)] [] := by
  obtain ⟨hSC, hSM⟩ := hSM0
  obtain ⟨r, C1, M1, h8, h9, hI1⟩ := hH S C M hI hw (xs (x3 + 1).toNatClampNeg) (xs (x3 + 2).toNatClampNeg)
  have v1 : vp_in (x3 + 1) L := wg_ix (k := 1) e3 (by omega) hL
  have v2 : vp_in (x3 + 2) L := wg_ix (k := 2) e3 (by omega) hL
  refine wg_aload_n X 1 dL_law_557 rfl rfl ?_
  refine wg_aload_n X 0 dL_law_558 rfl rfl ?_
  refine wg_iload_n X 3 dL_law_559 rfl rfl ?_
  refine wg_iconst (v := 1) X dL_law_560 (by decide) ?_
  refine wg_iadd X dL_law_561 ?_
  refine wg_sld X hX hbl hbA v1 dL_law_562 ?_
  refine wg_aload_n X 0 dL_law_563 rfl rfl ?_
  refine wg_iload_n X 3 dL_law_564 rfl rfl ?_
  refine wg_iconst (v := 2) X dL_law_565 (by decide) ?_
  refine wg_iadd X dL_law_566 ?_
  refine wg_sld X hX hbl hbA v2 dL_law_567 ?_
  refine wg_callVi (As := [.int (xs (x3 + 1).toNatClampNeg), .int (xs (x3 + 2).toNatClampNeg)]) (rest := []) X (c_X8_spots l E ad S hSC NN C M (xs (x3 + 1).toNatClampNeg) (xs (x3 + 2).toNatClampNeg) h8) T_yX8_spots k_676 cl8 (SCi hSC 0 8 rfl) dL_law_568 rfl rfl (Nat.le_of_ble_eq_true rfl) ⟨Nat.le_of_ble_eq_true rfl, Nat.le_of_ble_eq_true rfl⟩ ⟨show cells ≤ 600000 by omega, show slots ≤ 7302250 by omega⟩ ?_
  refine wg_aload_n X 2 dL_law_571 rfl rfl ?_
  refine wg_aload_n X 0 dL_law_572 rfl rfl ?_
  refine wg_iload_n X 3 dL_law_573 rfl rfl ?_
  refine wg_iconst (v := 1) X dL_law_574 (by decide) ?_
  refine wg_iadd X dL_law_575 ?_
  refine wg_sld X hX hbl hbA v1 dL_law_576 ?_
  refine wg_aload_n X 0 dL_law_577 rfl rfl ?_
  refine wg_iload_n X 3 dL_law_578 rfl rfl ?_
  refine wg_iconst (v := 2) X dL_law_579 (by decide) ?_
  refine wg_iadd X dL_law_580 ?_
  refine wg_sld X hX hbl hbA v2 dL_law_581 ?_
  refine wg_callVi (As := [.int (xs (x3 + 1).toNatClampNeg), .int (xs (x3 + 2).toNatClampNeg)]) (rest := [.int r]) X (c_X9_spots l E ad S hSM NN C1 M (xs (x3 + 1).toNatClampNeg) (xs (x3 + 2).toNatClampNeg) h9) T_yX9_spots k_1194 cl9 (SMi hSM 55 9 rfl) dL_law_582 rfl rfl (Nat.le_of_ble_eq_true rfl) ⟨Nat.le_of_ble_eq_true rfl, Nat.le_of_ble_eq_true rfl⟩ ⟨show cells ≤ 600000 by omega, show slots ≤ 7302250 by omega⟩ ?_
  refine wg_icmp_eq X 1292 dL_law_585 (by decide) (fun _ => ?_) (fun c9 => absurd rfl c9)
  exact K S C1 M1 ad cells slots hI1 hw (by omega) (by omega)
set_option maxHeartbeats 4000000 in
set_option maxRecDepth 100000 in
theorem law_brick {p : Program} {l : Launch} {e : Env} {s : State} {m : MethodId} {args : Array Value} {below : List Frame} {meth : Method} {c : Code} {Q : State → Prop} {E : wg_Ev} {b L : Nat} {xs : Nat → Int32} (X : wg_X p s m args meth c cL_law 4 RL E) (hX : va_X b L xs s s.heap) (hbl : b < s.heap.size) (hbA : ¬ E.1 ≤ b) (hL : L ≤ 3072) {Inv : wg_Sh → wg_C → wg_M → Prop} (hH : H_brick Inv) {i j : Nat} (hi : i + 6 ≤ L) (hj : j ≤ 512) {x3 : Int32} (e3 : x3 = nI i) {S : wg_Sh} {C : wg_C} {M : wg_M} {ad : Nat → Nat} {cells slots : Nat} (hI : Inv S C M) (hSM0 : wg_SC S ∧ wg_SM S) (hw : wg_wf S) (hc : cells ≤ 100 + 3 * j) (hs : slots ≤ 10000 + 165 * j) (K : ∀ (S1 : wg_Sh) (C1 : wg_C) (M1 : wg_M) (ad1 : Nat → Nat) (cells1 slots1 : Nat), Inv S1 C1 M1 → wg_wf S1 → cells1 ≤ 100 + 3 * (j + 1) → slots1 ≤ 10000 + 165 * (j + 1) → GL p l e s m args below meth c Q E ad1 S1 cells1 slots1 1292 C1 M1 [(0, .ref b), (1, .ref (ad1 0)), (2, .ref (ad1 55)), (3, .int x3)] []) : GL p l e s m args below meth c Q E ad S cells slots 590 C M [(0, .ref b), (1, .ref (ad 0)), (2, .ref (ad 55)), (3, .int x3)] [] := by
  obtain ⟨hSC, hSM⟩ := hSM0
  obtain ⟨r, C1, M1, h8, h9, hI1⟩ := hH S C M hI hw (xs (x3 + 1).toNatClampNeg) (xs (x3 + 2).toNatClampNeg) (xs (x3 + 3).toNatClampNeg) (xs (x3 + 4).toNatClampNeg)
  have v1 : vp_in (x3 + 1) L := wg_ix (k := 1) e3 (by omega) hL
  have v2 : vp_in (x3 + 2) L := wg_ix (k := 2) e3 (by omega) hL
  have v3 : vp_in (x3 + 3) L := wg_ix (k := 3) e3 (by omega) hL
  have v4 : vp_in (x3 + 4) L := wg_ix (k := 4) e3 (by omega) hL
  refine wg_aload_n X 1 dL_law_590 rfl rfl ?_
  refine wg_aload_n X 0 dL_law_591 rfl rfl ?_
  refine wg_iload_n X 3 dL_law_592 rfl rfl ?_
  refine wg_iconst (v := 1) X dL_law_593 (by decide) ?_
  refine wg_iadd X dL_law_594 ?_
  refine wg_sld X hX hbl hbA v1 dL_law_595 ?_
  refine wg_aload_n X 0 dL_law_596 rfl rfl ?_
  refine wg_iload_n X 3 dL_law_597 rfl rfl ?_
  refine wg_iconst (v := 2) X dL_law_598 (by decide) ?_
  refine wg_iadd X dL_law_599 ?_
  refine wg_sld X hX hbl hbA v2 dL_law_600 ?_
  refine wg_aload_n X 0 dL_law_601 rfl rfl ?_
  refine wg_iload_n X 3 dL_law_602 rfl rfl ?_
  refine wg_iconst (v := 3) X dL_law_603 (by decide) ?_
  refine wg_iadd X dL_law_604 ?_
  refine wg_sld X hX hbl hbA v3 dL_law_605 ?_
  refine wg_aload_n X 0 dL_law_606 rfl rfl ?_
  refine wg_iload_n X 3 dL_law_607 rfl rfl ?_
  refine wg_iconst (v := 4) X dL_law_608 (by decide) ?_
  refine wg_iadd X dL_law_609 ?_
  refine wg_sld X hX hbl hbA v4 dL_law_610 ?_
  refine wg_callVi (As := [.int (xs (x3 + 1).toNatClampNeg), .int (xs (x3 + 2).toNatClampNeg), .int (xs (x3 + 3).toNatClampNeg), .int (xs (x3 + 4).toNatClampNeg)]) (rest := []) X (c_X8_brick l E ad S hSC NN C M (xs (x3 + 1).toNatClampNeg) (xs (x3 + 2).toNatClampNeg) (xs (x3 + 3).toNatClampNeg) (xs (x3 + 4).toNatClampNeg) h8) T_yX8_brick k_680 cl8 (SCi hSC 0 8 rfl) dL_law_611 rfl rfl (Nat.le_of_ble_eq_true rfl) ⟨Nat.le_of_ble_eq_true rfl, Nat.le_of_ble_eq_true rfl⟩ ⟨show cells ≤ 600000 by omega, show slots ≤ 7302250 by omega⟩ ?_
  refine wg_aload_n X 2 dL_law_614 rfl rfl ?_
  refine wg_aload_n X 0 dL_law_615 rfl rfl ?_
  refine wg_iload_n X 3 dL_law_616 rfl rfl ?_
  refine wg_iconst (v := 1) X dL_law_617 (by decide) ?_
  refine wg_iadd X dL_law_618 ?_
  refine wg_sld X hX hbl hbA v1 dL_law_619 ?_
  refine wg_aload_n X 0 dL_law_620 rfl rfl ?_
  refine wg_iload_n X 3 dL_law_621 rfl rfl ?_
  refine wg_iconst (v := 2) X dL_law_622 (by decide) ?_
  refine wg_iadd X dL_law_623 ?_
  refine wg_sld X hX hbl hbA v2 dL_law_624 ?_
  refine wg_aload_n X 0 dL_law_625 rfl rfl ?_
  refine wg_iload_n X 3 dL_law_626 rfl rfl ?_
  refine wg_iconst (v := 3) X dL_law_627 (by decide) ?_
  refine wg_iadd X dL_law_628 ?_
  refine wg_sld X hX hbl hbA v3 dL_law_629 ?_
  refine wg_aload_n X 0 dL_law_630 rfl rfl ?_
  refine wg_iload_n X 3 dL_law_631 rfl rfl ?_
  refine wg_iconst (v := 4) X dL_law_632 (by decide) ?_
  refine wg_iadd X dL_law_633 ?_
  refine wg_sld X hX hbl hbA v4 dL_law_634 ?_
  refine wg_callVi (As := [.int (xs (x3 + 1).toNatClampNeg), .int (xs (x3 + 2).toNatClampNeg), .int (xs (x3 + 3).toNatClampNeg), .int (xs (x3 + 4).toNatClampNeg)]) (rest := [.int r]) X (c_X9_brick l E ad S hSM NN C1 M (xs (x3 + 1).toNatClampNeg) (xs (x3 + 2).toNatClampNeg) (xs (x3 + 3).toNatClampNeg) (xs (x3 + 4).toNatClampNeg) h9) T_yX9_brick k_1198 cl9 (SMi hSM 55 9 rfl) dL_law_635 rfl rfl (Nat.le_of_ble_eq_true rfl) ⟨Nat.le_of_ble_eq_true rfl, Nat.le_of_ble_eq_true rfl⟩ ⟨show cells ≤ 600000 by omega, show slots ≤ 7302250 by omega⟩ ?_
  refine wg_icmp_eq X 1292 dL_law_638 (by decide) (fun _ => ?_) (fun c9 => absurd rfl c9)
  exact K S C1 M1 ad cells slots hI1 hw (by omega) (by omega)
set_option maxHeartbeats 4000000 in
set_option maxRecDepth 100000 in
theorem law_seen {p : Program} {l : Launch} {e : Env} {s : State} {m : MethodId} {args : Array Value} {below : List Frame} {meth : Method} {c : Code} {Q : State → Prop} {E : wg_Ev} {b L : Nat} {xs : Nat → Int32} (X : wg_X p s m args meth c cL_law 4 RL E) (hX : va_X b L xs s s.heap) (hbl : b < s.heap.size) (hbA : ¬ E.1 ≤ b) (hL : L ≤ 3072) {Inv : wg_Sh → wg_C → wg_M → Prop} (hH : H_seen Inv) {i j : Nat} (hi : i + 6 ≤ L) (hj : j ≤ 512) {x3 : Int32} (e3 : x3 = nI i) {S : wg_Sh} {C : wg_C} {M : wg_M} {ad : Nat → Nat} {cells slots : Nat} (hI : Inv S C M) (hSM0 : wg_SC S ∧ wg_SM S) (hw : wg_wf S) (hc : cells ≤ 100 + 3 * j) (hs : slots ≤ 10000 + 165 * j) (K : ∀ (S1 : wg_Sh) (C1 : wg_C) (M1 : wg_M) (ad1 : Nat → Nat) (cells1 slots1 : Nat), Inv S1 C1 M1 → wg_wf S1 → cells1 ≤ 100 + 3 * (j + 1) → slots1 ≤ 10000 + 165 * (j + 1) → GL p l e s m args below meth c Q E ad1 S1 cells1 slots1 1292 C1 M1 [(0, .ref b), (1, .ref (ad1 0)), (2, .ref (ad1 55)), (3, .int x3)] []) : GL p l e s m args below meth c Q E ad S cells slots 643 C M [(0, .ref b), (1, .ref (ad 0)), (2, .ref (ad 55)), (3, .int x3)] [] := by
  obtain ⟨hSC, hSM⟩ := hSM0
  obtain ⟨r, C1, M1, h8, h9, hI1⟩ := hH S C M hI hw (xs (x3 + 1).toNatClampNeg) (xs (x3 + 2).toNatClampNeg) (xs (x3 + 3).toNatClampNeg) (xs (x3 + 4).toNatClampNeg)
  have v1 : vp_in (x3 + 1) L := wg_ix (k := 1) e3 (by omega) hL
  have v2 : vp_in (x3 + 2) L := wg_ix (k := 2) e3 (by omega) hL
  have v3 : vp_in (x3 + 3) L := wg_ix (k := 3) e3 (by omega) hL
  have v4 : vp_in (x3 + 4) L := wg_ix (k := 4) e3 (by omega) hL
  refine wg_aload_n X 1 dL_law_643 rfl rfl ?_
  refine wg_aload_n X 0 dL_law_644 rfl rfl ?_
  refine wg_iload_n X 3 dL_law_645 rfl rfl ?_
  refine wg_iconst (v := 1) X dL_law_646 (by decide) ?_
  refine wg_iadd X dL_law_647 ?_
  refine wg_sld X hX hbl hbA v1 dL_law_648 ?_
  refine wg_aload_n X 0 dL_law_649 rfl rfl ?_
  refine wg_iload_n X 3 dL_law_650 rfl rfl ?_
  refine wg_iconst (v := 2) X dL_law_651 (by decide) ?_
  refine wg_iadd X dL_law_652 ?_
  refine wg_sld X hX hbl hbA v2 dL_law_653 ?_
  refine wg_aload_n X 0 dL_law_654 rfl rfl ?_
  refine wg_iload_n X 3 dL_law_655 rfl rfl ?_
  refine wg_iconst (v := 3) X dL_law_656 (by decide) ?_
  refine wg_iadd X dL_law_657 ?_
  refine wg_sld X hX hbl hbA v3 dL_law_658 ?_
  refine wg_aload_n X 0 dL_law_659 rfl rfl ?_
  refine wg_iload_n X 3 dL_law_660 rfl rfl ?_
  refine wg_iconst (v := 4) X dL_law_661 (by decide) ?_
  refine wg_iadd X dL_law_662 ?_
  refine wg_sld X hX hbl hbA v4 dL_law_663 ?_
  refine wg_callVi (As := [.int (xs (x3 + 1).toNatClampNeg), .int (xs (x3 + 2).toNatClampNeg), .int (xs (x3 + 3).toNatClampNeg), .int (xs (x3 + 4).toNatClampNeg)]) (rest := []) X (c_X8_seen l E ad S hSC NN C M (xs (x3 + 1).toNatClampNeg) (xs (x3 + 2).toNatClampNeg) (xs (x3 + 3).toNatClampNeg) (xs (x3 + 4).toNatClampNeg) h8) T_yX8_seen k_703 cl8 (SCi hSC 0 8 rfl) dL_law_664 rfl rfl (Nat.le_of_ble_eq_true rfl) ⟨Nat.le_of_ble_eq_true rfl, Nat.le_of_ble_eq_true rfl⟩ ⟨show cells ≤ 600000 by omega, show slots ≤ 7302250 by omega⟩ ?_
  refine wg_aload_n X 2 dL_law_667 rfl rfl ?_
  refine wg_aload_n X 0 dL_law_668 rfl rfl ?_
  refine wg_iload_n X 3 dL_law_669 rfl rfl ?_
  refine wg_iconst (v := 1) X dL_law_670 (by decide) ?_
  refine wg_iadd X dL_law_671 ?_
  refine wg_sld X hX hbl hbA v1 dL_law_672 ?_
  refine wg_aload_n X 0 dL_law_673 rfl rfl ?_
  refine wg_iload_n X 3 dL_law_674 rfl rfl ?_
  refine wg_iconst (v := 2) X dL_law_675 (by decide) ?_
  refine wg_iadd X dL_law_676 ?_
  refine wg_sld X hX hbl hbA v2 dL_law_677 ?_
  refine wg_aload_n X 0 dL_law_678 rfl rfl ?_
  refine wg_iload_n X 3 dL_law_679 rfl rfl ?_
  refine wg_iconst (v := 3) X dL_law_680 (by decide) ?_
  refine wg_iadd X dL_law_681 ?_
  refine wg_sld X hX hbl hbA v3 dL_law_682 ?_
  refine wg_aload_n X 0 dL_law_683 rfl rfl ?_
  refine wg_iload_n X 3 dL_law_684 rfl rfl ?_
  refine wg_iconst (v := 4) X dL_law_685 (by decide) ?_
  refine wg_iadd X dL_law_686 ?_
  refine wg_sld X hX hbl hbA v4 dL_law_687 ?_
  refine wg_callVi (As := [.int (xs (x3 + 1).toNatClampNeg), .int (xs (x3 + 2).toNatClampNeg), .int (xs (x3 + 3).toNatClampNeg), .int (xs (x3 + 4).toNatClampNeg)]) (rest := [.int r]) X (c_X9_seen l E ad S hSM NN C1 M (xs (x3 + 1).toNatClampNeg) (xs (x3 + 2).toNatClampNeg) (xs (x3 + 3).toNatClampNeg) (xs (x3 + 4).toNatClampNeg) h9) T_yX9_seen k_1209 cl9 (SMi hSM 55 9 rfl) dL_law_688 rfl rfl (Nat.le_of_ble_eq_true rfl) ⟨Nat.le_of_ble_eq_true rfl, Nat.le_of_ble_eq_true rfl⟩ ⟨show cells ≤ 600000 by omega, show slots ≤ 7302250 by omega⟩ ?_
  refine wg_icmp_eq X 1292 dL_law_691 (by decide) (fun _ => ?_) (fun c9 => absurd rfl c9)
  exact K S C1 M1 ad cells slots hI1 hw (by omega) (by omega)
set_option maxHeartbeats 4000000 in
set_option maxRecDepth 100000 in
theorem law_lookNext {p : Program} {l : Launch} {e : Env} {s : State} {m : MethodId} {args : Array Value} {below : List Frame} {meth : Method} {c : Code} {Q : State → Prop} {E : wg_Ev} {b L : Nat} {xs : Nat → Int32} (X : wg_X p s m args meth c cL_law 4 RL E) (hX : va_X b L xs s s.heap) (hbl : b < s.heap.size) (hbA : ¬ E.1 ≤ b) (hL : L ≤ 3072) {Inv : wg_Sh → wg_C → wg_M → Prop} (hH : H_lookNext Inv) {i j : Nat} (hi : i + 6 ≤ L) (hj : j ≤ 512) {x3 : Int32} (e3 : x3 = nI i) {S : wg_Sh} {C : wg_C} {M : wg_M} {ad : Nat → Nat} {cells slots : Nat} (hI : Inv S C M) (hSM0 : wg_SC S ∧ wg_SM S) (hw : wg_wf S) (hc : cells ≤ 100 + 3 * j) (hs : slots ≤ 10000 + 165 * j) (K : ∀ (S1 : wg_Sh) (C1 : wg_C) (M1 : wg_M) (ad1 : Nat → Nat) (cells1 slots1 : Nat), Inv S1 C1 M1 → wg_wf S1 → cells1 ≤ 100 + 3 * (j + 1) → slots1 ≤ 10000 + 165 * (j + 1) → GL p l e s m args below meth c Q E ad1 S1 cells1 slots1 1292 C1 M1 [(0, .ref b), (1, .ref (ad1 0)), (2, .ref (ad1 55)), (3, .int x3)] []) : GL p l e s m args below meth c Q E ad S cells slots 696 C M [(0, .ref b), (1, .ref (ad 0)), (2, .ref (ad 55)), (3, .int x3)] [] := by
  obtain ⟨hSC, hSM⟩ := hSM0
  obtain ⟨r, C1, M1, h8, h9, hI1⟩ := hH S C M hI hw (xs (x3 + 1).toNatClampNeg) (xs (x3 + 2).toNatClampNeg) (xs (x3 + 3).toNatClampNeg) (xs (x3 + 4).toNatClampNeg)
  have v1 : vp_in (x3 + 1) L := wg_ix (k := 1) e3 (by omega) hL
  have v2 : vp_in (x3 + 2) L := wg_ix (k := 2) e3 (by omega) hL
  have v3 : vp_in (x3 + 3) L := wg_ix (k := 3) e3 (by omega) hL
  have v4 : vp_in (x3 + 4) L := wg_ix (k := 4) e3 (by omega) hL
  refine wg_aload_n X 1 dL_law_696 rfl rfl ?_
  refine wg_aload_n X 0 dL_law_697 rfl rfl ?_
  refine wg_iload_n X 3 dL_law_698 rfl rfl ?_
  refine wg_iconst (v := 1) X dL_law_699 (by decide) ?_
  refine wg_iadd X dL_law_700 ?_
  refine wg_sld X hX hbl hbA v1 dL_law_701 ?_
  refine wg_aload_n X 0 dL_law_702 rfl rfl ?_
  refine wg_iload_n X 3 dL_law_703 rfl rfl ?_
  refine wg_iconst (v := 2) X dL_law_704 (by decide) ?_
  refine wg_iadd X dL_law_705 ?_
  refine wg_sld X hX hbl hbA v2 dL_law_706 ?_
  refine wg_aload_n X 0 dL_law_707 rfl rfl ?_
  refine wg_iload_n X 3 dL_law_708 rfl rfl ?_
  refine wg_iconst (v := 3) X dL_law_709 (by decide) ?_
  refine wg_iadd X dL_law_710 ?_
  refine wg_sld X hX hbl hbA v3 dL_law_711 ?_
  refine wg_aload_n X 0 dL_law_712 rfl rfl ?_
  refine wg_iload_n X 3 dL_law_713 rfl rfl ?_
  refine wg_iconst (v := 4) X dL_law_714 (by decide) ?_
  refine wg_iadd X dL_law_715 ?_
  refine wg_sld X hX hbl hbA v4 dL_law_716 ?_
  refine wg_callVi (As := [.int (xs (x3 + 1).toNatClampNeg), .int (xs (x3 + 2).toNatClampNeg), .int (xs (x3 + 3).toNatClampNeg), .int (xs (x3 + 4).toNatClampNeg)]) (rest := []) X (c_X8_lookNext l E ad S hSC NN C M (xs (x3 + 1).toNatClampNeg) (xs (x3 + 2).toNatClampNeg) (xs (x3 + 3).toNatClampNeg) (xs (x3 + 4).toNatClampNeg) h8) T_yX8_lookNext k_741 cl8 (SCi hSC 0 8 rfl) dL_law_717 rfl rfl (Nat.le_of_ble_eq_true rfl) ⟨Nat.le_of_ble_eq_true rfl, Nat.le_of_ble_eq_true rfl⟩ ⟨show cells ≤ 600000 by omega, show slots ≤ 7302250 by omega⟩ ?_
  refine wg_aload_n X 2 dL_law_720 rfl rfl ?_
  refine wg_aload_n X 0 dL_law_721 rfl rfl ?_
  refine wg_iload_n X 3 dL_law_722 rfl rfl ?_
  refine wg_iconst (v := 1) X dL_law_723 (by decide) ?_
  refine wg_iadd X dL_law_724 ?_
  refine wg_sld X hX hbl hbA v1 dL_law_725 ?_
  refine wg_aload_n X 0 dL_law_726 rfl rfl ?_
  refine wg_iload_n X 3 dL_law_727 rfl rfl ?_
  refine wg_iconst (v := 2) X dL_law_728 (by decide) ?_
  refine wg_iadd X dL_law_729 ?_
  refine wg_sld X hX hbl hbA v2 dL_law_730 ?_
  refine wg_aload_n X 0 dL_law_731 rfl rfl ?_
  refine wg_iload_n X 3 dL_law_732 rfl rfl ?_
  refine wg_iconst (v := 3) X dL_law_733 (by decide) ?_
  refine wg_iadd X dL_law_734 ?_
  refine wg_sld X hX hbl hbA v3 dL_law_735 ?_
  refine wg_aload_n X 0 dL_law_736 rfl rfl ?_
  refine wg_iload_n X 3 dL_law_737 rfl rfl ?_
  refine wg_iconst (v := 4) X dL_law_738 (by decide) ?_
  refine wg_iadd X dL_law_739 ?_
  refine wg_sld X hX hbl hbA v4 dL_law_740 ?_
  refine wg_callVi (As := [.int (xs (x3 + 1).toNatClampNeg), .int (xs (x3 + 2).toNatClampNeg), .int (xs (x3 + 3).toNatClampNeg), .int (xs (x3 + 4).toNatClampNeg)]) (rest := [.int r]) X (c_X9_lookNext l E ad S hSM NN C1 M (xs (x3 + 1).toNatClampNeg) (xs (x3 + 2).toNatClampNeg) (xs (x3 + 3).toNatClampNeg) (xs (x3 + 4).toNatClampNeg) h9) T_yX9_lookNext k_1233 cl9 (SMi hSM 55 9 rfl) dL_law_741 rfl rfl (Nat.le_of_ble_eq_true rfl) ⟨Nat.le_of_ble_eq_true rfl, Nat.le_of_ble_eq_true rfl⟩ ⟨show cells ≤ 600000 by omega, show slots ≤ 7302250 by omega⟩ ?_
  refine wg_icmp_eq X 1292 dL_law_744 (by decide) (fun _ => ?_) (fun c9 => absurd rfl c9)
  exact K S C1 M1 ad cells slots hI1 hw (by omega) (by omega)
set_option maxHeartbeats 4000000 in
set_option maxRecDepth 100000 in
theorem law_film {p : Program} {l : Launch} {e : Env} {s : State} {m : MethodId} {args : Array Value} {below : List Frame} {meth : Method} {c : Code} {Q : State → Prop} {E : wg_Ev} {b L : Nat} {xs : Nat → Int32} (X : wg_X p s m args meth c cL_law 4 RL E) (hX : va_X b L xs s s.heap) (hbl : b < s.heap.size) (hbA : ¬ E.1 ≤ b) (hL : L ≤ 3072) {Inv : wg_Sh → wg_C → wg_M → Prop} (hH : H_film Inv) {i j : Nat} (hi : i + 6 ≤ L) (hj : j ≤ 512) {x3 : Int32} (e3 : x3 = nI i) {S : wg_Sh} {C : wg_C} {M : wg_M} {ad : Nat → Nat} {cells slots : Nat} (hI : Inv S C M) (hSM0 : wg_SC S ∧ wg_SM S) (hw : wg_wf S) (hc : cells ≤ 100 + 3 * j) (hs : slots ≤ 10000 + 165 * j) (K : ∀ (S1 : wg_Sh) (C1 : wg_C) (M1 : wg_M) (ad1 : Nat → Nat) (cells1 slots1 : Nat), Inv S1 C1 M1 → wg_wf S1 → cells1 ≤ 100 + 3 * (j + 1) → slots1 ≤ 10000 + 165 * (j + 1) → GL p l e s m args below meth c Q E ad1 S1 cells1 slots1 1292 C1 M1 [(0, .ref b), (1, .ref (ad1 0)), (2, .ref (ad1 55)), (3, .int x3)] []) : GL p l e s m args below meth c Q E ad S cells slots 749 C M [(0, .ref b), (1, .ref (ad 0)), (2, .ref (ad 55)), (3, .int x3)] [] := by
  obtain ⟨hSC, hSM⟩ := hSM0
  obtain ⟨r, C1, M1, h8, h9, hI1⟩ := hH S C M hI hw (xs (x3 + 1).toNatClampNeg) (xs (x3 + 2).toNatClampNeg) (xs (x3 + 3).toNatClampNeg) (xs (x3 + 4).toNatClampNeg)
  have v1 : vp_in (x3 + 1) L := wg_ix (k := 1) e3 (by omega) hL
  have v2 : vp_in (x3 + 2) L := wg_ix (k := 2) e3 (by omega) hL
  have v3 : vp_in (x3 + 3) L := wg_ix (k := 3) e3 (by omega) hL
  have v4 : vp_in (x3 + 4) L := wg_ix (k := 4) e3 (by omega) hL
  refine wg_aload_n X 1 dL_law_749 rfl rfl ?_
  refine wg_aload_n X 0 dL_law_750 rfl rfl ?_
  refine wg_iload_n X 3 dL_law_751 rfl rfl ?_
  refine wg_iconst (v := 1) X dL_law_752 (by decide) ?_
  refine wg_iadd X dL_law_753 ?_
  refine wg_sld X hX hbl hbA v1 dL_law_754 ?_
  refine wg_aload_n X 0 dL_law_755 rfl rfl ?_
  refine wg_iload_n X 3 dL_law_756 rfl rfl ?_
  refine wg_iconst (v := 2) X dL_law_757 (by decide) ?_
  refine wg_iadd X dL_law_758 ?_
  refine wg_sld X hX hbl hbA v2 dL_law_759 ?_
  refine wg_aload_n X 0 dL_law_760 rfl rfl ?_
  refine wg_iload_n X 3 dL_law_761 rfl rfl ?_
  refine wg_iconst (v := 3) X dL_law_762 (by decide) ?_
  refine wg_iadd X dL_law_763 ?_
  refine wg_sld X hX hbl hbA v3 dL_law_764 ?_
  refine wg_aload_n X 0 dL_law_765 rfl rfl ?_
  refine wg_iload_n X 3 dL_law_766 rfl rfl ?_
  refine wg_iconst (v := 4) X dL_law_767 (by decide) ?_
  refine wg_iadd X dL_law_768 ?_
  refine wg_sld X hX hbl hbA v4 dL_law_769 ?_
  refine wg_callVi (As := [.int (xs (x3 + 1).toNatClampNeg), .int (xs (x3 + 2).toNatClampNeg), .int (xs (x3 + 3).toNatClampNeg), .int (xs (x3 + 4).toNatClampNeg)]) (rest := []) X (c_X8_film l E ad S hSC NN C M (xs (x3 + 1).toNatClampNeg) (xs (x3 + 2).toNatClampNeg) (xs (x3 + 3).toNatClampNeg) (xs (x3 + 4).toNatClampNeg) h8) T_yX8_film k_749 cl8 (SCi hSC 0 8 rfl) dL_law_770 rfl rfl (Nat.le_of_ble_eq_true rfl) ⟨Nat.le_of_ble_eq_true rfl, Nat.le_of_ble_eq_true rfl⟩ ⟨show cells ≤ 600000 by omega, show slots ≤ 7302250 by omega⟩ ?_
  refine wg_aload_n X 2 dL_law_773 rfl rfl ?_
  refine wg_aload_n X 0 dL_law_774 rfl rfl ?_
  refine wg_iload_n X 3 dL_law_775 rfl rfl ?_
  refine wg_iconst (v := 1) X dL_law_776 (by decide) ?_
  refine wg_iadd X dL_law_777 ?_
  refine wg_sld X hX hbl hbA v1 dL_law_778 ?_
  refine wg_aload_n X 0 dL_law_779 rfl rfl ?_
  refine wg_iload_n X 3 dL_law_780 rfl rfl ?_
  refine wg_iconst (v := 2) X dL_law_781 (by decide) ?_
  refine wg_iadd X dL_law_782 ?_
  refine wg_sld X hX hbl hbA v2 dL_law_783 ?_
  refine wg_aload_n X 0 dL_law_784 rfl rfl ?_
  refine wg_iload_n X 3 dL_law_785 rfl rfl ?_
  refine wg_iconst (v := 3) X dL_law_786 (by decide) ?_
  refine wg_iadd X dL_law_787 ?_
  refine wg_sld X hX hbl hbA v3 dL_law_788 ?_
  refine wg_aload_n X 0 dL_law_789 rfl rfl ?_
  refine wg_iload_n X 3 dL_law_790 rfl rfl ?_
  refine wg_iconst (v := 4) X dL_law_791 (by decide) ?_
  refine wg_iadd X dL_law_792 ?_
  refine wg_sld X hX hbl hbA v4 dL_law_793 ?_
  refine wg_callVi (As := [.int (xs (x3 + 1).toNatClampNeg), .int (xs (x3 + 2).toNatClampNeg), .int (xs (x3 + 3).toNatClampNeg), .int (xs (x3 + 4).toNatClampNeg)]) (rest := [.int r]) X (c_X9_film l E ad S hSM NN C1 M (xs (x3 + 1).toNatClampNeg) (xs (x3 + 2).toNatClampNeg) (xs (x3 + 3).toNatClampNeg) (xs (x3 + 4).toNatClampNeg) h9) T_yX9_film k_1241 cl9 (SMi hSM 55 9 rfl) dL_law_794 rfl rfl (Nat.le_of_ble_eq_true rfl) ⟨Nat.le_of_ble_eq_true rfl, Nat.le_of_ble_eq_true rfl⟩ ⟨show cells ≤ 600000 by omega, show slots ≤ 7302250 by omega⟩ ?_
  refine wg_icmp_eq X 1292 dL_law_797 (by decide) (fun _ => ?_) (fun c9 => absurd rfl c9)
  exact K S C1 M1 ad cells slots hI1 hw (by omega) (by omega)
set_option maxHeartbeats 4000000 in
set_option maxRecDepth 100000 in
theorem law_water {p : Program} {l : Launch} {e : Env} {s : State} {m : MethodId} {args : Array Value} {below : List Frame} {meth : Method} {c : Code} {Q : State → Prop} {E : wg_Ev} {b L : Nat} {xs : Nat → Int32} (X : wg_X p s m args meth c cL_law 4 RL E) (hX : va_X b L xs s s.heap) (hbl : b < s.heap.size) (hbA : ¬ E.1 ≤ b) (hL : L ≤ 3072) {Inv : wg_Sh → wg_C → wg_M → Prop} (hH : H_water Inv) {i j : Nat} (hi : i + 6 ≤ L) (hj : j ≤ 512) {x3 : Int32} (e3 : x3 = nI i) {S : wg_Sh} {C : wg_C} {M : wg_M} {ad : Nat → Nat} {cells slots : Nat} (hI : Inv S C M) (hSM0 : wg_SC S ∧ wg_SM S) (hw : wg_wf S) (hc : cells ≤ 100 + 3 * j) (hs : slots ≤ 10000 + 165 * j) (K : ∀ (S1 : wg_Sh) (C1 : wg_C) (M1 : wg_M) (ad1 : Nat → Nat) (cells1 slots1 : Nat), Inv S1 C1 M1 → wg_wf S1 → cells1 ≤ 100 + 3 * (j + 1) → slots1 ≤ 10000 + 165 * (j + 1) → GL p l e s m args below meth c Q E ad1 S1 cells1 slots1 1292 C1 M1 [(0, .ref b), (1, .ref (ad1 0)), (2, .ref (ad1 55)), (3, .int x3)] []) : GL p l e s m args below meth c Q E ad S cells slots 802 C M [(0, .ref b), (1, .ref (ad 0)), (2, .ref (ad 55)), (3, .int x3)] [] := by
  obtain ⟨hSC, hSM⟩ := hSM0
  obtain ⟨r, C1, M1, h8, h9, hI1⟩ := hH S C M hI hw (xs (x3 + 1).toNatClampNeg) (xs (x3 + 2).toNatClampNeg)
  have v1 : vp_in (x3 + 1) L := wg_ix (k := 1) e3 (by omega) hL
  have v2 : vp_in (x3 + 2) L := wg_ix (k := 2) e3 (by omega) hL
  refine wg_aload_n X 1 dL_law_802 rfl rfl ?_
  refine wg_aload_n X 0 dL_law_803 rfl rfl ?_
  refine wg_iload_n X 3 dL_law_804 rfl rfl ?_
  refine wg_iconst (v := 1) X dL_law_805 (by decide) ?_
  refine wg_iadd X dL_law_806 ?_
  refine wg_sld X hX hbl hbA v1 dL_law_807 ?_
  refine wg_aload_n X 0 dL_law_808 rfl rfl ?_
  refine wg_iload_n X 3 dL_law_809 rfl rfl ?_
  refine wg_iconst (v := 2) X dL_law_810 (by decide) ?_
  refine wg_iadd X dL_law_811 ?_
  refine wg_sld X hX hbl hbA v2 dL_law_812 ?_
  refine wg_callVi (As := [.int (xs (x3 + 1).toNatClampNeg), .int (xs (x3 + 2).toNatClampNeg)]) (rest := []) X (c_X8_water l E ad S hSC NN C M (xs (x3 + 1).toNatClampNeg) (xs (x3 + 2).toNatClampNeg) h8) T_yX8_water k_762 cl8 (SCi hSC 0 8 rfl) dL_law_813 rfl rfl (Nat.le_of_ble_eq_true rfl) ⟨Nat.le_of_ble_eq_true rfl, Nat.le_of_ble_eq_true rfl⟩ ⟨show cells ≤ 600000 by omega, show slots ≤ 7302250 by omega⟩ ?_
  refine wg_aload_n X 2 dL_law_816 rfl rfl ?_
  refine wg_aload_n X 0 dL_law_817 rfl rfl ?_
  refine wg_iload_n X 3 dL_law_818 rfl rfl ?_
  refine wg_iconst (v := 1) X dL_law_819 (by decide) ?_
  refine wg_iadd X dL_law_820 ?_
  refine wg_sld X hX hbl hbA v1 dL_law_821 ?_
  refine wg_aload_n X 0 dL_law_822 rfl rfl ?_
  refine wg_iload_n X 3 dL_law_823 rfl rfl ?_
  refine wg_iconst (v := 2) X dL_law_824 (by decide) ?_
  refine wg_iadd X dL_law_825 ?_
  refine wg_sld X hX hbl hbA v2 dL_law_826 ?_
  refine wg_callVi (As := [.int (xs (x3 + 1).toNatClampNeg), .int (xs (x3 + 2).toNatClampNeg)]) (rest := [.int r]) X (c_X9_water l E ad S hSM NN C1 M (xs (x3 + 1).toNatClampNeg) (xs (x3 + 2).toNatClampNeg) h9) T_yX9_water k_1250 cl9 (SMi hSM 55 9 rfl) dL_law_827 rfl rfl (Nat.le_of_ble_eq_true rfl) ⟨Nat.le_of_ble_eq_true rfl, Nat.le_of_ble_eq_true rfl⟩ ⟨show cells ≤ 600000 by omega, show slots ≤ 7302250 by omega⟩ ?_
  refine wg_icmp_eq X 1292 dL_law_830 (by decide) (fun _ => ?_) (fun c9 => absurd rfl c9)
  exact K S C1 M1 ad cells slots hI1 hw (by omega) (by omega)
set_option maxHeartbeats 4000000 in
set_option maxRecDepth 100000 in
theorem law_wettest {p : Program} {l : Launch} {e : Env} {s : State} {m : MethodId} {args : Array Value} {below : List Frame} {meth : Method} {c : Code} {Q : State → Prop} {E : wg_Ev} {b L : Nat} {xs : Nat → Int32} (X : wg_X p s m args meth c cL_law 4 RL E) (hX : va_X b L xs s s.heap) (hbl : b < s.heap.size) (hbA : ¬ E.1 ≤ b) (hL : L ≤ 3072) {Inv : wg_Sh → wg_C → wg_M → Prop} (hH : H_wettest Inv) {i j : Nat} (hi : i + 6 ≤ L) (hj : j ≤ 512) {x3 : Int32} (e3 : x3 = nI i) {S : wg_Sh} {C : wg_C} {M : wg_M} {ad : Nat → Nat} {cells slots : Nat} (hI : Inv S C M) (hSM0 : wg_SC S ∧ wg_SM S) (hw : wg_wf S) (hc : cells ≤ 100 + 3 * j) (hs : slots ≤ 10000 + 165 * j) (K : ∀ (S1 : wg_Sh) (C1 : wg_C) (M1 : wg_M) (ad1 : Nat → Nat) (cells1 slots1 : Nat), Inv S1 C1 M1 → wg_wf S1 → cells1 ≤ 100 + 3 * (j + 1) → slots1 ≤ 10000 + 165 * (j + 1) → GL p l e s m args below meth c Q E ad1 S1 cells1 slots1 1292 C1 M1 [(0, .ref b), (1, .ref (ad1 0)), (2, .ref (ad1 55)), (3, .int x3)] []) : GL p l e s m args below meth c Q E ad S cells slots 835 C M [(0, .ref b), (1, .ref (ad 0)), (2, .ref (ad 55)), (3, .int x3)] [] := by
  obtain ⟨hSC, hSM⟩ := hSM0
  obtain ⟨r, C1, M1, h8, h9, hI1⟩ := hH S C M hI hw (xs (x3 + 1).toNatClampNeg) (xs (x3 + 2).toNatClampNeg)
  have v1 : vp_in (x3 + 1) L := wg_ix (k := 1) e3 (by omega) hL
  have v2 : vp_in (x3 + 2) L := wg_ix (k := 2) e3 (by omega) hL
  refine wg_aload_n X 1 dL_law_835 rfl rfl ?_
  refine wg_aload_n X 0 dL_law_836 rfl rfl ?_
  refine wg_iload_n X 3 dL_law_837 rfl rfl ?_
  refine wg_iconst (v := 1) X dL_law_838 (by decide) ?_
  refine wg_iadd X dL_law_839 ?_
  refine wg_sld X hX hbl hbA v1 dL_law_840 ?_
  refine wg_aload_n X 0 dL_law_841 rfl rfl ?_
  refine wg_iload_n X 3 dL_law_842 rfl rfl ?_
  refine wg_iconst (v := 2) X dL_law_843 (by decide) ?_
  refine wg_iadd X dL_law_844 ?_
  refine wg_sld X hX hbl hbA v2 dL_law_845 ?_
  refine wg_callVi (As := [.int (xs (x3 + 1).toNatClampNeg), .int (xs (x3 + 2).toNatClampNeg)]) (rest := []) X (c_X8_wettest l E ad S hSC NN C M (xs (x3 + 1).toNatClampNeg) (xs (x3 + 2).toNatClampNeg) h8) T_yX8_wettest k_773 cl8 (SCi hSC 0 8 rfl) dL_law_846 rfl rfl (Nat.le_of_ble_eq_true rfl) ⟨Nat.le_of_ble_eq_true rfl, Nat.le_of_ble_eq_true rfl⟩ ⟨show cells ≤ 600000 by omega, show slots ≤ 7302250 by omega⟩ ?_
  refine wg_aload_n X 2 dL_law_849 rfl rfl ?_
  refine wg_aload_n X 0 dL_law_850 rfl rfl ?_
  refine wg_iload_n X 3 dL_law_851 rfl rfl ?_
  refine wg_iconst (v := 1) X dL_law_852 (by decide) ?_
  refine wg_iadd X dL_law_853 ?_
  refine wg_sld X hX hbl hbA v1 dL_law_854 ?_
  refine wg_aload_n X 0 dL_law_855 rfl rfl ?_
  refine wg_iload_n X 3 dL_law_856 rfl rfl ?_
  refine wg_iconst (v := 2) X dL_law_857 (by decide) ?_
  refine wg_iadd X dL_law_858 ?_
  refine wg_sld X hX hbl hbA v2 dL_law_859 ?_
  refine wg_callVi (As := [.int (xs (x3 + 1).toNatClampNeg), .int (xs (x3 + 2).toNatClampNeg)]) (rest := [.int r]) X (c_X9_wettest l E ad S hSM NN C1 M (xs (x3 + 1).toNatClampNeg) (xs (x3 + 2).toNatClampNeg) h9) T_yX9_wettest k_1258 cl9 (SMi hSM 55 9 rfl) dL_law_860 rfl rfl (Nat.le_of_ble_eq_true rfl) ⟨Nat.le_of_ble_eq_true rfl, Nat.le_of_ble_eq_true rfl⟩ ⟨show cells ≤ 600000 by omega, show slots ≤ 7302250 by omega⟩ ?_
  refine wg_icmp_eq X 1292 dL_law_863 (by decide) (fun _ => ?_) (fun c9 => absurd rfl c9)
  exact K S C1 M1 ad cells slots hI1 hw (by omega) (by omega)
set_option maxHeartbeats 4000000 in
set_option maxRecDepth 100000 in
theorem law_views {p : Program} {l : Launch} {e : Env} {s : State} {m : MethodId} {args : Array Value} {below : List Frame} {meth : Method} {c : Code} {Q : State → Prop} {E : wg_Ev} {b L : Nat} {xs : Nat → Int32} (X : wg_X p s m args meth c cL_law 4 RL E) (hX : va_X b L xs s s.heap) (hbl : b < s.heap.size) (hbA : ¬ E.1 ≤ b) (hL : L ≤ 3072) {Inv : wg_Sh → wg_C → wg_M → Prop} (hH : H_views Inv) {i j : Nat} (hi : i + 6 ≤ L) (hj : j ≤ 512) {x3 : Int32} (e3 : x3 = nI i) {S : wg_Sh} {C : wg_C} {M : wg_M} {ad : Nat → Nat} {cells slots : Nat} (hI : Inv S C M) (hSM0 : wg_SC S ∧ wg_SM S) (hw : wg_wf S) (hc : cells ≤ 100 + 3 * j) (hs : slots ≤ 10000 + 165 * j) (K : ∀ (S1 : wg_Sh) (C1 : wg_C) (M1 : wg_M) (ad1 : Nat → Nat) (cells1 slots1 : Nat), Inv S1 C1 M1 → wg_wf S1 → cells1 ≤ 100 + 3 * (j + 1) → slots1 ≤ 10000 + 165 * (j + 1) → GL p l e s m args below meth c Q E ad1 S1 cells1 slots1 1292 C1 M1 [(0, .ref b), (1, .ref (ad1 0)), (2, .ref (ad1 55)), (3, .int x3)] []) : GL p l e s m args below meth c Q E ad S cells slots 868 C M [(0, .ref b), (1, .ref (ad 0)), (2, .ref (ad 55)), (3, .int x3)] [] := by
  obtain ⟨hSC, hSM⟩ := hSM0
  obtain ⟨r, C1, M1, h8, h9, hI1⟩ := hH S C M hI hw (xs (x3 + 1).toNatClampNeg) (xs (x3 + 2).toNatClampNeg) (xs (x3 + 3).toNatClampNeg)
  have v1 : vp_in (x3 + 1) L := wg_ix (k := 1) e3 (by omega) hL
  have v2 : vp_in (x3 + 2) L := wg_ix (k := 2) e3 (by omega) hL
  have v3 : vp_in (x3 + 3) L := wg_ix (k := 3) e3 (by omega) hL
  refine wg_aload_n X 1 dL_law_868 rfl rfl ?_
  refine wg_aload_n X 0 dL_law_869 rfl rfl ?_
  refine wg_iload_n X 3 dL_law_870 rfl rfl ?_
  refine wg_iconst (v := 1) X dL_law_871 (by decide) ?_
  refine wg_iadd X dL_law_872 ?_
  refine wg_sld X hX hbl hbA v1 dL_law_873 ?_
  refine wg_aload_n X 0 dL_law_874 rfl rfl ?_
  refine wg_iload_n X 3 dL_law_875 rfl rfl ?_
  refine wg_iconst (v := 2) X dL_law_876 (by decide) ?_
  refine wg_iadd X dL_law_877 ?_
  refine wg_sld X hX hbl hbA v2 dL_law_878 ?_
  refine wg_aload_n X 0 dL_law_879 rfl rfl ?_
  refine wg_iload_n X 3 dL_law_880 rfl rfl ?_
  refine wg_iconst (v := 3) X dL_law_881 (by decide) ?_
  refine wg_iadd X dL_law_882 ?_
  refine wg_sld X hX hbl hbA v3 dL_law_883 ?_
  refine wg_callVi (As := [.int (xs (x3 + 1).toNatClampNeg), .int (xs (x3 + 2).toNatClampNeg), .int (xs (x3 + 3).toNatClampNeg)]) (rest := []) X (c_X8_views l E ad S hSC NN C M (xs (x3 + 1).toNatClampNeg) (xs (x3 + 2).toNatClampNeg) (xs (x3 + 3).toNatClampNeg) h8) T_yX8_views k_777 cl8 (SCi hSC 0 8 rfl) dL_law_884 rfl rfl (Nat.le_of_ble_eq_true rfl) ⟨Nat.le_of_ble_eq_true rfl, Nat.le_of_ble_eq_true rfl⟩ ⟨show cells ≤ 600000 by omega, show slots ≤ 7302250 by omega⟩ ?_
  refine wg_aload_n X 2 dL_law_887 rfl rfl ?_
  refine wg_aload_n X 0 dL_law_888 rfl rfl ?_
  refine wg_iload_n X 3 dL_law_889 rfl rfl ?_
  refine wg_iconst (v := 1) X dL_law_890 (by decide) ?_
  refine wg_iadd X dL_law_891 ?_
  refine wg_sld X hX hbl hbA v1 dL_law_892 ?_
  refine wg_aload_n X 0 dL_law_893 rfl rfl ?_
  refine wg_iload_n X 3 dL_law_894 rfl rfl ?_
  refine wg_iconst (v := 2) X dL_law_895 (by decide) ?_
  refine wg_iadd X dL_law_896 ?_
  refine wg_sld X hX hbl hbA v2 dL_law_897 ?_
  refine wg_aload_n X 0 dL_law_898 rfl rfl ?_
  refine wg_iload_n X 3 dL_law_899 rfl rfl ?_
  refine wg_iconst (v := 3) X dL_law_900 (by decide) ?_
  refine wg_iadd X dL_law_901 ?_
  refine wg_sld X hX hbl hbA v3 dL_law_902 ?_
  refine wg_callVi (As := [.int (xs (x3 + 1).toNatClampNeg), .int (xs (x3 + 2).toNatClampNeg), .int (xs (x3 + 3).toNatClampNeg)]) (rest := [.int r]) X (c_X9_views l E ad S hSM NN C1 M (xs (x3 + 1).toNatClampNeg) (xs (x3 + 2).toNatClampNeg) (xs (x3 + 3).toNatClampNeg) h9) T_yX9_views k_1266 cl9 (SMi hSM 55 9 rfl) dL_law_903 rfl rfl (Nat.le_of_ble_eq_true rfl) ⟨Nat.le_of_ble_eq_true rfl, Nat.le_of_ble_eq_true rfl⟩ ⟨show cells ≤ 600000 by omega, show slots ≤ 7302250 by omega⟩ ?_
  refine wg_icmp_eq X 1292 dL_law_906 (by decide) (fun _ => ?_) (fun c9 => absurd rfl c9)
  exact K S C1 M1 ad cells slots hI1 hw (by omega) (by omega)
set_option maxHeartbeats 4000000 in
set_option maxRecDepth 100000 in
theorem law_drawn {p : Program} {l : Launch} {e : Env} {s : State} {m : MethodId} {args : Array Value} {below : List Frame} {meth : Method} {c : Code} {Q : State → Prop} {E : wg_Ev} {b L : Nat} {xs : Nat → Int32} (X : wg_X p s m args meth c cL_law 4 RL E) (hX : va_X b L xs s s.heap) (hbl : b < s.heap.size) (hbA : ¬ E.1 ≤ b) (hL : L ≤ 3072) {Inv : wg_Sh → wg_C → wg_M → Prop} (hH : H_drawn Inv) {i j : Nat} (hi : i + 6 ≤ L) (hj : j ≤ 512) {x3 : Int32} (e3 : x3 = nI i) {S : wg_Sh} {C : wg_C} {M : wg_M} {ad : Nat → Nat} {cells slots : Nat} (hI : Inv S C M) (hSM0 : wg_SC S ∧ wg_SM S) (hw : wg_wf S) (hc : cells ≤ 100 + 3 * j) (hs : slots ≤ 10000 + 165 * j) (K : ∀ (S1 : wg_Sh) (C1 : wg_C) (M1 : wg_M) (ad1 : Nat → Nat) (cells1 slots1 : Nat), Inv S1 C1 M1 → wg_wf S1 → cells1 ≤ 100 + 3 * (j + 1) → slots1 ≤ 10000 + 165 * (j + 1) → GL p l e s m args below meth c Q E ad1 S1 cells1 slots1 1292 C1 M1 [(0, .ref b), (1, .ref (ad1 0)), (2, .ref (ad1 55)), (3, .int x3)] []) : GL p l e s m args below meth c Q E ad S cells slots 911 C M [(0, .ref b), (1, .ref (ad 0)), (2, .ref (ad 55)), (3, .int x3)] [] := by
  obtain ⟨hSC, hSM⟩ := hSM0
  obtain ⟨r, C1, M1, h8, h9, hI1⟩ := hH S C M hI hw (xs (x3 + 1).toNatClampNeg) (xs (x3 + 2).toNatClampNeg)
  have v1 : vp_in (x3 + 1) L := wg_ix (k := 1) e3 (by omega) hL
  have v2 : vp_in (x3 + 2) L := wg_ix (k := 2) e3 (by omega) hL
  refine wg_aload_n X 1 dL_law_911 rfl rfl ?_
  refine wg_aload_n X 0 dL_law_912 rfl rfl ?_
  refine wg_iload_n X 3 dL_law_913 rfl rfl ?_
  refine wg_iconst (v := 1) X dL_law_914 (by decide) ?_
  refine wg_iadd X dL_law_915 ?_
  refine wg_sld X hX hbl hbA v1 dL_law_916 ?_
  refine wg_aload_n X 0 dL_law_917 rfl rfl ?_
  refine wg_iload_n X 3 dL_law_918 rfl rfl ?_
  refine wg_iconst (v := 2) X dL_law_919 (by decide) ?_
  refine wg_iadd X dL_law_920 ?_
  refine wg_sld X hX hbl hbA v2 dL_law_921 ?_
  refine wg_callVi (As := [.int (xs (x3 + 1).toNatClampNeg), .int (xs (x3 + 2).toNatClampNeg)]) (rest := []) X (c_X8_drawn l E ad S hSC NN C M (xs (x3 + 1).toNatClampNeg) (xs (x3 + 2).toNatClampNeg) h8) T_yX8_drawn k_795 cl8 (SCi hSC 0 8 rfl) dL_law_922 rfl rfl (Nat.le_of_ble_eq_true rfl) ⟨Nat.le_of_ble_eq_true rfl, Nat.le_of_ble_eq_true rfl⟩ ⟨show cells ≤ 600000 by omega, show slots ≤ 7302250 by omega⟩ ?_
  refine wg_aload_n X 2 dL_law_925 rfl rfl ?_
  refine wg_aload_n X 0 dL_law_926 rfl rfl ?_
  refine wg_iload_n X 3 dL_law_927 rfl rfl ?_
  refine wg_iconst (v := 1) X dL_law_928 (by decide) ?_
  refine wg_iadd X dL_law_929 ?_
  refine wg_sld X hX hbl hbA v1 dL_law_930 ?_
  refine wg_aload_n X 0 dL_law_931 rfl rfl ?_
  refine wg_iload_n X 3 dL_law_932 rfl rfl ?_
  refine wg_iconst (v := 2) X dL_law_933 (by decide) ?_
  refine wg_iadd X dL_law_934 ?_
  refine wg_sld X hX hbl hbA v2 dL_law_935 ?_
  refine wg_callVi (As := [.int (xs (x3 + 1).toNatClampNeg), .int (xs (x3 + 2).toNatClampNeg)]) (rest := [.int r]) X (c_X9_drawn l E ad S hSM NN C1 M (xs (x3 + 1).toNatClampNeg) (xs (x3 + 2).toNatClampNeg) h9) T_yX9_drawn k_1274 cl9 (SMi hSM 55 9 rfl) dL_law_936 rfl rfl (Nat.le_of_ble_eq_true rfl) ⟨Nat.le_of_ble_eq_true rfl, Nat.le_of_ble_eq_true rfl⟩ ⟨show cells ≤ 600000 by omega, show slots ≤ 7302250 by omega⟩ ?_
  refine wg_icmp_eq X 1292 dL_law_939 (by decide) (fun _ => ?_) (fun c9 => absurd rfl c9)
  exact K S C1 M1 ad cells slots hI1 hw (by omega) (by omega)
set_option maxHeartbeats 4000000 in
set_option maxRecDepth 100000 in
theorem law_chance {p : Program} {l : Launch} {e : Env} {s : State} {m : MethodId} {args : Array Value} {below : List Frame} {meth : Method} {c : Code} {Q : State → Prop} {E : wg_Ev} {b L : Nat} {xs : Nat → Int32} (X : wg_X p s m args meth c cL_law 4 RL E) (hX : va_X b L xs s s.heap) (hbl : b < s.heap.size) (hbA : ¬ E.1 ≤ b) (hL : L ≤ 3072) {Inv : wg_Sh → wg_C → wg_M → Prop} (hH : H_chance Inv) {i j : Nat} (hi : i + 6 ≤ L) (hj : j ≤ 512) {x3 : Int32} (e3 : x3 = nI i) {S : wg_Sh} {C : wg_C} {M : wg_M} {ad : Nat → Nat} {cells slots : Nat} (hI : Inv S C M) (hSM0 : wg_SC S ∧ wg_SM S) (hw : wg_wf S) (hc : cells ≤ 100 + 3 * j) (hs : slots ≤ 10000 + 165 * j) (K : ∀ (S1 : wg_Sh) (C1 : wg_C) (M1 : wg_M) (ad1 : Nat → Nat) (cells1 slots1 : Nat), Inv S1 C1 M1 → wg_wf S1 → cells1 ≤ 100 + 3 * (j + 1) → slots1 ≤ 10000 + 165 * (j + 1) → GL p l e s m args below meth c Q E ad1 S1 cells1 slots1 1292 C1 M1 [(0, .ref b), (1, .ref (ad1 0)), (2, .ref (ad1 55)), (3, .int x3)] []) : GL p l e s m args below meth c Q E ad S cells slots 944 C M [(0, .ref b), (1, .ref (ad 0)), (2, .ref (ad 55)), (3, .int x3)] [] := by
  obtain ⟨hSC, hSM⟩ := hSM0
  obtain ⟨r, C1, M1, h8, h9, hI1⟩ := hH S C M hI hw (xs (x3 + 1).toNatClampNeg) (xs (x3 + 2).toNatClampNeg) (xs (x3 + 3).toNatClampNeg) (xs (x3 + 4).toNatClampNeg) (xs (x3 + 5).toNatClampNeg)
  have v1 : vp_in (x3 + 1) L := wg_ix (k := 1) e3 (by omega) hL
  have v2 : vp_in (x3 + 2) L := wg_ix (k := 2) e3 (by omega) hL
  have v3 : vp_in (x3 + 3) L := wg_ix (k := 3) e3 (by omega) hL
  have v4 : vp_in (x3 + 4) L := wg_ix (k := 4) e3 (by omega) hL
  have v5 : vp_in (x3 + 5) L := wg_ix (k := 5) e3 (by omega) hL
  refine wg_aload_n X 1 dL_law_944 rfl rfl ?_
  refine wg_aload_n X 0 dL_law_945 rfl rfl ?_
  refine wg_iload_n X 3 dL_law_946 rfl rfl ?_
  refine wg_iconst (v := 1) X dL_law_947 (by decide) ?_
  refine wg_iadd X dL_law_948 ?_
  refine wg_sld X hX hbl hbA v1 dL_law_949 ?_
  refine wg_aload_n X 0 dL_law_950 rfl rfl ?_
  refine wg_iload_n X 3 dL_law_951 rfl rfl ?_
  refine wg_iconst (v := 2) X dL_law_952 (by decide) ?_
  refine wg_iadd X dL_law_953 ?_
  refine wg_sld X hX hbl hbA v2 dL_law_954 ?_
  refine wg_aload_n X 0 dL_law_955 rfl rfl ?_
  refine wg_iload_n X 3 dL_law_956 rfl rfl ?_
  refine wg_iconst (v := 3) X dL_law_957 (by decide) ?_
  refine wg_iadd X dL_law_958 ?_
  refine wg_sld X hX hbl hbA v3 dL_law_959 ?_
  refine wg_aload_n X 0 dL_law_960 rfl rfl ?_
  refine wg_iload_n X 3 dL_law_961 rfl rfl ?_
  refine wg_iconst (v := 4) X dL_law_962 (by decide) ?_
  refine wg_iadd X dL_law_963 ?_
  refine wg_sld X hX hbl hbA v4 dL_law_964 ?_
  refine wg_aload_n X 0 dL_law_965 rfl rfl ?_
  refine wg_iload_n X 3 dL_law_966 rfl rfl ?_
  refine wg_iconst (v := 5) X dL_law_967 (by decide) ?_
  refine wg_iadd X dL_law_968 ?_
  refine wg_sld X hX hbl hbA v5 dL_law_969 ?_
  refine wg_callVl (As := [.int (xs (x3 + 1).toNatClampNeg), .int (xs (x3 + 2).toNatClampNeg), .int (xs (x3 + 3).toNatClampNeg), .int (xs (x3 + 4).toNatClampNeg), .int (xs (x3 + 5).toNatClampNeg)]) (rest := []) X (c_X8_chance l E ad S hSC NN C M (xs (x3 + 1).toNatClampNeg) (xs (x3 + 2).toNatClampNeg) (xs (x3 + 3).toNatClampNeg) (xs (x3 + 4).toNatClampNeg) (xs (x3 + 5).toNatClampNeg) h8) T_yX8_chance k_804 cl8 (SCi hSC 0 8 rfl) dL_law_970 rfl rfl (Nat.le_of_ble_eq_true rfl) ⟨Nat.le_of_ble_eq_true rfl, Nat.le_of_ble_eq_true rfl⟩ ⟨show cells ≤ 600000 by omega, show slots ≤ 7302250 by omega⟩ ?_
  refine wg_aload_n X 2 dL_law_973 rfl rfl ?_
  refine wg_aload_n X 0 dL_law_974 rfl rfl ?_
  refine wg_iload_n X 3 dL_law_975 rfl rfl ?_
  refine wg_iconst (v := 1) X dL_law_976 (by decide) ?_
  refine wg_iadd X dL_law_977 ?_
  refine wg_sld X hX hbl hbA v1 dL_law_978 ?_
  refine wg_aload_n X 0 dL_law_979 rfl rfl ?_
  refine wg_iload_n X 3 dL_law_980 rfl rfl ?_
  refine wg_iconst (v := 2) X dL_law_981 (by decide) ?_
  refine wg_iadd X dL_law_982 ?_
  refine wg_sld X hX hbl hbA v2 dL_law_983 ?_
  refine wg_aload_n X 0 dL_law_984 rfl rfl ?_
  refine wg_iload_n X 3 dL_law_985 rfl rfl ?_
  refine wg_iconst (v := 3) X dL_law_986 (by decide) ?_
  refine wg_iadd X dL_law_987 ?_
  refine wg_sld X hX hbl hbA v3 dL_law_988 ?_
  refine wg_aload_n X 0 dL_law_989 rfl rfl ?_
  refine wg_iload_n X 3 dL_law_990 rfl rfl ?_
  refine wg_iconst (v := 4) X dL_law_991 (by decide) ?_
  refine wg_iadd X dL_law_992 ?_
  refine wg_sld X hX hbl hbA v4 dL_law_993 ?_
  refine wg_aload_n X 0 dL_law_994 rfl rfl ?_
  refine wg_iload_n X 3 dL_law_995 rfl rfl ?_
  refine wg_iconst (v := 5) X dL_law_996 (by decide) ?_
  refine wg_iadd X dL_law_997 ?_
  refine wg_sld X hX hbl hbA v5 dL_law_998 ?_
  refine wg_callVl (As := [.int (xs (x3 + 1).toNatClampNeg), .int (xs (x3 + 2).toNatClampNeg), .int (xs (x3 + 3).toNatClampNeg), .int (xs (x3 + 4).toNatClampNeg), .int (xs (x3 + 5).toNatClampNeg)]) (rest := [.long r]) X (c_X9_chance l E ad S hSM NN C1 M (xs (x3 + 1).toNatClampNeg) (xs (x3 + 2).toNatClampNeg) (xs (x3 + 3).toNatClampNeg) (xs (x3 + 4).toNatClampNeg) (xs (x3 + 5).toNatClampNeg) h9) T_yX9_chance k_1283 cl9 (SMi hSM 55 9 rfl) dL_law_999 rfl rfl (Nat.le_of_ble_eq_true rfl) ⟨Nat.le_of_ble_eq_true rfl, Nat.le_of_ble_eq_true rfl⟩ ⟨show cells ≤ 600000 by omega, show slots ≤ 7302250 by omega⟩ ?_
  refine wg_lcmp X dL_law_1002 ?_
  refine wg_if_eq X 1292 dL_law_1003 (by decide) (fun _ => ?_) (fun c9 => absurd (by simp [lg_cmp]) c9)
  exact K S C1 M1 ad cells slots hI1 hw (by omega) (by omega)
set_option maxHeartbeats 4000000 in
set_option maxRecDepth 100000 in
theorem law_image {p : Program} {l : Launch} {e : Env} {s : State} {m : MethodId} {args : Array Value} {below : List Frame} {meth : Method} {c : Code} {Q : State → Prop} {E : wg_Ev} {b L : Nat} {xs : Nat → Int32} (X : wg_X p s m args meth c cL_law 4 RL E) (hX : va_X b L xs s s.heap) (hbl : b < s.heap.size) (hbA : ¬ E.1 ≤ b) (hL : L ≤ 3072) {Inv : wg_Sh → wg_C → wg_M → Prop} (hH : H_image Inv) {i j : Nat} (hi : i + 6 ≤ L) (hj : j ≤ 512) {x3 : Int32} (e3 : x3 = nI i) {S : wg_Sh} {C : wg_C} {M : wg_M} {ad : Nat → Nat} {cells slots : Nat} (hI : Inv S C M) (hSM0 : wg_SC S ∧ wg_SM S) (hw : wg_wf S) (hc : cells ≤ 100 + 3 * j) (hs : slots ≤ 10000 + 165 * j) (K : ∀ (S1 : wg_Sh) (C1 : wg_C) (M1 : wg_M) (ad1 : Nat → Nat) (cells1 slots1 : Nat), Inv S1 C1 M1 → wg_wf S1 → cells1 ≤ 100 + 3 * (j + 1) → slots1 ≤ 10000 + 165 * (j + 1) → GL p l e s m args below meth c Q E ad1 S1 cells1 slots1 1292 C1 M1 [(0, .ref b), (1, .ref (ad1 0)), (2, .ref (ad1 55)), (3, .int x3)] []) : GL p l e s m args below meth c Q E ad S cells slots 1008 C M [(0, .ref b), (1, .ref (ad 0)), (2, .ref (ad 55)), (3, .int x3)] [] := by
  obtain ⟨hSC, hSM⟩ := hSM0
  obtain ⟨r, C1, M1, h8, h9, hI1⟩ := hH S C M hI hw 
  refine wg_aload_n X 1 dL_law_1008 rfl rfl ?_
  refine wg_callVi (As := []) (rest := []) X (c_X8_image l E ad S hSC NN C M  h8) T_yX8_image k_813 cl8 (SCi hSC 0 8 rfl) dL_law_1009 rfl rfl (Nat.le_of_ble_eq_true rfl) ⟨Nat.le_of_ble_eq_true rfl, Nat.le_of_ble_eq_true rfl⟩ ⟨show cells ≤ 600000 by omega, show slots ≤ 7302250 by omega⟩ ?_
  refine wg_aload_n X 2 dL_law_1012 rfl rfl ?_
  refine wg_callVi (As := []) (rest := [.int r]) X (c_X9_image l E ad S hSM NN C1 M  h9) T_yX9_image k_1290 cl9 (SMi hSM 55 9 rfl) dL_law_1013 rfl rfl (Nat.le_of_ble_eq_true rfl) ⟨Nat.le_of_ble_eq_true rfl, Nat.le_of_ble_eq_true rfl⟩ ⟨show cells ≤ 600000 by omega, show slots ≤ 7302250 by omega⟩ ?_
  refine wg_icmp_eq X 1292 dL_law_1016 (by decide) (fun _ => ?_) (fun c9 => absurd rfl c9)
  exact K S C1 M1 ad cells slots hI1 hw (by omega) (by omega)
set_option maxHeartbeats 4000000 in
set_option maxRecDepth 100000 in
theorem law_back {p : Program} {l : Launch} {e : Env} {s : State} {m : MethodId} {args : Array Value} {below : List Frame} {meth : Method} {c : Code} {Q : State → Prop} {E : wg_Ev} {b L : Nat} {xs : Nat → Int32} (X : wg_X p s m args meth c cL_law 4 RL E) (hX : va_X b L xs s s.heap) (hbl : b < s.heap.size) (hbA : ¬ E.1 ≤ b) (hL : L ≤ 3072) {Inv : wg_Sh → wg_C → wg_M → Prop} (hH : H_back Inv) {i j : Nat} (hi : i + 6 ≤ L) (hj : j ≤ 512) {x3 : Int32} (e3 : x3 = nI i) {S : wg_Sh} {C : wg_C} {M : wg_M} {ad : Nat → Nat} {cells slots : Nat} (hI : Inv S C M) (hSM0 : wg_SC S ∧ wg_SM S) (hw : wg_wf S) (hc : cells ≤ 100 + 3 * j) (hs : slots ≤ 10000 + 165 * j) (K : ∀ (S1 : wg_Sh) (C1 : wg_C) (M1 : wg_M) (ad1 : Nat → Nat) (cells1 slots1 : Nat), Inv S1 C1 M1 → wg_wf S1 → cells1 ≤ 100 + 3 * (j + 1) → slots1 ≤ 10000 + 165 * (j + 1) → GL p l e s m args below meth c Q E ad1 S1 cells1 slots1 1292 C1 M1 [(0, .ref b), (1, .ref (ad1 0)), (2, .ref (ad1 55)), (3, .int x3)] []) : GL p l e s m args below meth c Q E ad S cells slots 1021 C M [(0, .ref b), (1, .ref (ad 0)), (2, .ref (ad 55)), (3, .int x3)] [] := by
  obtain ⟨hSC, hSM⟩ := hSM0
  obtain ⟨r, C1, M1, h8, h9, hI1⟩ := hH S C M hI hw 
  refine wg_aload_n X 1 dL_law_1021 rfl rfl ?_
  refine wg_callVi (As := []) (rest := []) X (c_X8_back l E ad S hSC NN C M  h8) T_yX8_back k_823 cl8 (SCi hSC 0 8 rfl) dL_law_1022 rfl rfl (Nat.le_of_ble_eq_true rfl) ⟨Nat.le_of_ble_eq_true rfl, Nat.le_of_ble_eq_true rfl⟩ ⟨show cells ≤ 600000 by omega, show slots ≤ 7302250 by omega⟩ ?_
  refine wg_aload_n X 2 dL_law_1025 rfl rfl ?_
  refine wg_callVi (As := []) (rest := [.int r]) X (c_X9_back l E ad S hSM NN C1 M  h9) T_yX9_back k_1294 cl9 (SMi hSM 55 9 rfl) dL_law_1026 rfl rfl (Nat.le_of_ble_eq_true rfl) ⟨Nat.le_of_ble_eq_true rfl, Nat.le_of_ble_eq_true rfl⟩ ⟨show cells ≤ 600000 by omega, show slots ≤ 7302250 by omega⟩ ?_
  refine wg_icmp_eq X 1292 dL_law_1029 (by decide) (fun _ => ?_) (fun c9 => absurd rfl c9)
  exact K S C1 M1 ad cells slots hI1 hw (by omega) (by omega)
set_option maxHeartbeats 4000000 in
set_option maxRecDepth 100000 in
theorem law_count {p : Program} {l : Launch} {e : Env} {s : State} {m : MethodId} {args : Array Value} {below : List Frame} {meth : Method} {c : Code} {Q : State → Prop} {E : wg_Ev} {b L : Nat} {xs : Nat → Int32} (X : wg_X p s m args meth c cL_law 4 RL E) (hX : va_X b L xs s s.heap) (hbl : b < s.heap.size) (hbA : ¬ E.1 ≤ b) (hL : L ≤ 3072) {Inv : wg_Sh → wg_C → wg_M → Prop} (hH : H_count Inv) {i j : Nat} (hi : i + 6 ≤ L) (hj : j ≤ 512) {x3 : Int32} (e3 : x3 = nI i) {S : wg_Sh} {C : wg_C} {M : wg_M} {ad : Nat → Nat} {cells slots : Nat} (hI : Inv S C M) (hSM0 : wg_SC S ∧ wg_SM S) (hw : wg_wf S) (hc : cells ≤ 100 + 3 * j) (hs : slots ≤ 10000 + 165 * j) (K : ∀ (S1 : wg_Sh) (C1 : wg_C) (M1 : wg_M) (ad1 : Nat → Nat) (cells1 slots1 : Nat), Inv S1 C1 M1 → wg_wf S1 → cells1 ≤ 100 + 3 * (j + 1) → slots1 ≤ 10000 + 165 * (j + 1) → GL p l e s m args below meth c Q E ad1 S1 cells1 slots1 1292 C1 M1 [(0, .ref b), (1, .ref (ad1 0)), (2, .ref (ad1 55)), (3, .int x3)] []) : GL p l e s m args below meth c Q E ad S cells slots 1034 C M [(0, .ref b), (1, .ref (ad 0)), (2, .ref (ad 55)), (3, .int x3)] [] := by
  obtain ⟨hSC, hSM⟩ := hSM0
  obtain ⟨r, h8, h9, hI1⟩ := hH S C M hI hw (xs (x3 + 1).toNatClampNeg)
  have v1 : vp_in (x3 + 1) L := wg_ix (k := 1) e3 (by omega) hL
  refine wg_aload_n X 1 dL_law_1034 rfl rfl ?_
  refine wg_aload_n X 0 dL_law_1035 rfl rfl ?_
  refine wg_iload_n X 3 dL_law_1036 rfl rfl ?_
  refine wg_iconst (v := 1) X dL_law_1037 (by decide) ?_
  refine wg_iadd X dL_law_1038 ?_
  refine wg_sld X hX hbl hbA v1 dL_law_1039 ?_
  refine wg_callVi (As := [.int (xs (x3 + 1).toNatClampNeg)]) (rest := []) X (c_X8_count l E ad S hSC NN C M (xs (x3 + 1).toNatClampNeg) h8) T_yX8_count k_827 cl8 (SCi hSC 0 8 rfl) dL_law_1040 rfl rfl (Nat.le_of_ble_eq_true rfl) ⟨Nat.le_of_ble_eq_true rfl, Nat.le_of_ble_eq_true rfl⟩ ⟨show cells ≤ 600000 by omega, show slots ≤ 7302250 by omega⟩ ?_
  refine wg_aload_n X 2 dL_law_1043 rfl rfl ?_
  refine wg_aload_n X 0 dL_law_1044 rfl rfl ?_
  refine wg_iload_n X 3 dL_law_1045 rfl rfl ?_
  refine wg_iconst (v := 1) X dL_law_1046 (by decide) ?_
  refine wg_iadd X dL_law_1047 ?_
  refine wg_sld X hX hbl hbA v1 dL_law_1048 ?_
  refine wg_callVi (As := [.int (xs (x3 + 1).toNatClampNeg)]) (rest := [.int r]) X (c_X9_count l E ad S hSM NN C M (xs (x3 + 1).toNatClampNeg) h9) T_yX9_count k_1298 cl9 (SMi hSM 55 9 rfl) dL_law_1049 rfl rfl (Nat.le_of_ble_eq_true rfl) ⟨Nat.le_of_ble_eq_true rfl, Nat.le_of_ble_eq_true rfl⟩ ⟨show cells ≤ 600000 by omega, show slots ≤ 7302250 by omega⟩ ?_
  refine wg_icmp_eq X 1292 dL_law_1052 (by decide) (fun _ => ?_) (fun c9 => absurd rfl c9)
  exact K S C M ad cells slots hI hw (by omega) (by omega)
set_option maxHeartbeats 4000000 in
set_option maxRecDepth 100000 in
theorem law_sheet {p : Program} {l : Launch} {e : Env} {s : State} {m : MethodId} {args : Array Value} {below : List Frame} {meth : Method} {c : Code} {Q : State → Prop} {E : wg_Ev} {b L : Nat} {xs : Nat → Int32} (X : wg_X p s m args meth c cL_law 4 RL E) (hX : va_X b L xs s s.heap) (hbl : b < s.heap.size) (hbA : ¬ E.1 ≤ b) (hL : L ≤ 3072) {Inv : wg_Sh → wg_C → wg_M → Prop} (hH : H_sheet Inv) {i j : Nat} (hi : i + 6 ≤ L) (hj : j ≤ 512) {x3 : Int32} (e3 : x3 = nI i) {S : wg_Sh} {C : wg_C} {M : wg_M} {ad : Nat → Nat} {cells slots : Nat} (hI : Inv S C M) (hSM0 : wg_SC S ∧ wg_SM S) (hw : wg_wf S) (hc : cells ≤ 100 + 3 * j) (hs : slots ≤ 10000 + 165 * j) (K : ∀ (S1 : wg_Sh) (C1 : wg_C) (M1 : wg_M) (ad1 : Nat → Nat) (cells1 slots1 : Nat), Inv S1 C1 M1 → wg_wf S1 → cells1 ≤ 100 + 3 * (j + 1) → slots1 ≤ 10000 + 165 * (j + 1) → GL p l e s m args below meth c Q E ad1 S1 cells1 slots1 1292 C1 M1 [(0, .ref b), (1, .ref (ad1 0)), (2, .ref (ad1 55)), (3, .int x3)] []) : GL p l e s m args below meth c Q E ad S cells slots 1057 C M [(0, .ref b), (1, .ref (ad 0)), (2, .ref (ad 55)), (3, .int x3)] [] := by
  obtain ⟨hSC, hSM⟩ := hSM0
  obtain ⟨r, C1, M1, h8, h9, hI1⟩ := hH S C M hI hw (xs (x3 + 1).toNatClampNeg) (xs (x3 + 2).toNatClampNeg) (xs (x3 + 3).toNatClampNeg)
  have v1 : vp_in (x3 + 1) L := wg_ix (k := 1) e3 (by omega) hL
  have v2 : vp_in (x3 + 2) L := wg_ix (k := 2) e3 (by omega) hL
  have v3 : vp_in (x3 + 3) L := wg_ix (k := 3) e3 (by omega) hL
  refine wg_aload_n X 1 dL_law_1057 rfl rfl ?_
  refine wg_aload_n X 0 dL_law_1058 rfl rfl ?_
  refine wg_iload_n X 3 dL_law_1059 rfl rfl ?_
  refine wg_iconst (v := 1) X dL_law_1060 (by decide) ?_
  refine wg_iadd X dL_law_1061 ?_
  refine wg_sld X hX hbl hbA v1 dL_law_1062 ?_
  refine wg_aload_n X 0 dL_law_1063 rfl rfl ?_
  refine wg_iload_n X 3 dL_law_1064 rfl rfl ?_
  refine wg_iconst (v := 2) X dL_law_1065 (by decide) ?_
  refine wg_iadd X dL_law_1066 ?_
  refine wg_sld X hX hbl hbA v2 dL_law_1067 ?_
  refine wg_aload_n X 0 dL_law_1068 rfl rfl ?_
  refine wg_iload_n X 3 dL_law_1069 rfl rfl ?_
  refine wg_iconst (v := 3) X dL_law_1070 (by decide) ?_
  refine wg_iadd X dL_law_1071 ?_
  refine wg_sld X hX hbl hbA v3 dL_law_1072 ?_
  refine wg_callVi (As := [.int (xs (x3 + 1).toNatClampNeg), .int (xs (x3 + 2).toNatClampNeg), .int (xs (x3 + 3).toNatClampNeg)]) (rest := []) X (c_X8_sheet l E ad S hSC NN C M (xs (x3 + 1).toNatClampNeg) (xs (x3 + 2).toNatClampNeg) (xs (x3 + 3).toNatClampNeg) h8) T_yX8_sheet k_835 cl8 (SCi hSC 0 8 rfl) dL_law_1073 rfl rfl (Nat.le_of_ble_eq_true rfl) ⟨Nat.le_of_ble_eq_true rfl, Nat.le_of_ble_eq_true rfl⟩ ⟨show cells ≤ 600000 by omega, show slots ≤ 7302250 by omega⟩ ?_
  refine wg_aload_n X 2 dL_law_1076 rfl rfl ?_
  refine wg_aload_n X 0 dL_law_1077 rfl rfl ?_
  refine wg_iload_n X 3 dL_law_1078 rfl rfl ?_
  refine wg_iconst (v := 1) X dL_law_1079 (by decide) ?_
  refine wg_iadd X dL_law_1080 ?_
  refine wg_sld X hX hbl hbA v1 dL_law_1081 ?_
  refine wg_aload_n X 0 dL_law_1082 rfl rfl ?_
  refine wg_iload_n X 3 dL_law_1083 rfl rfl ?_
  refine wg_iconst (v := 2) X dL_law_1084 (by decide) ?_
  refine wg_iadd X dL_law_1085 ?_
  refine wg_sld X hX hbl hbA v2 dL_law_1086 ?_
  refine wg_aload_n X 0 dL_law_1087 rfl rfl ?_
  refine wg_iload_n X 3 dL_law_1088 rfl rfl ?_
  refine wg_iconst (v := 3) X dL_law_1089 (by decide) ?_
  refine wg_iadd X dL_law_1090 ?_
  refine wg_sld X hX hbl hbA v3 dL_law_1091 ?_
  refine wg_callVi (As := [.int (xs (x3 + 1).toNatClampNeg), .int (xs (x3 + 2).toNatClampNeg), .int (xs (x3 + 3).toNatClampNeg)]) (rest := [.int r]) X (c_X9_sheet l E ad S hSM NN C1 M (xs (x3 + 1).toNatClampNeg) (xs (x3 + 2).toNatClampNeg) (xs (x3 + 3).toNatClampNeg) h9) T_yX9_sheet k_1302 cl9 (SMi hSM 55 9 rfl) dL_law_1092 rfl rfl (Nat.le_of_ble_eq_true rfl) ⟨Nat.le_of_ble_eq_true rfl, Nat.le_of_ble_eq_true rfl⟩ ⟨show cells ≤ 600000 by omega, show slots ≤ 7302250 by omega⟩ ?_
  refine wg_icmp_eq X 1292 dL_law_1095 (by decide) (fun _ => ?_) (fun c9 => absurd rfl c9)
  exact K S C1 M1 ad cells slots hI1 hw (by omega) (by omega)
set_option maxHeartbeats 4000000 in
set_option maxRecDepth 100000 in
theorem law_cell {p : Program} {l : Launch} {e : Env} {s : State} {m : MethodId} {args : Array Value} {below : List Frame} {meth : Method} {c : Code} {Q : State → Prop} {E : wg_Ev} {b L : Nat} {xs : Nat → Int32} (X : wg_X p s m args meth c cL_law 4 RL E) (hX : va_X b L xs s s.heap) (hbl : b < s.heap.size) (hbA : ¬ E.1 ≤ b) (hL : L ≤ 3072) {Inv : wg_Sh → wg_C → wg_M → Prop} (hH : H_cell Inv) {i j : Nat} (hi : i + 6 ≤ L) (hj : j ≤ 512) {x3 : Int32} (e3 : x3 = nI i) {S : wg_Sh} {C : wg_C} {M : wg_M} {ad : Nat → Nat} {cells slots : Nat} (hI : Inv S C M) (hSM0 : wg_SC S ∧ wg_SM S) (hw : wg_wf S) (hc : cells ≤ 100 + 3 * j) (hs : slots ≤ 10000 + 165 * j) (K : ∀ (S1 : wg_Sh) (C1 : wg_C) (M1 : wg_M) (ad1 : Nat → Nat) (cells1 slots1 : Nat), Inv S1 C1 M1 → wg_wf S1 → cells1 ≤ 100 + 3 * (j + 1) → slots1 ≤ 10000 + 165 * (j + 1) → GL p l e s m args below meth c Q E ad1 S1 cells1 slots1 1292 C1 M1 [(0, .ref b), (1, .ref (ad1 0)), (2, .ref (ad1 55)), (3, .int x3)] []) : GL p l e s m args below meth c Q E ad S cells slots 1100 C M [(0, .ref b), (1, .ref (ad 0)), (2, .ref (ad 55)), (3, .int x3)] [] := by
  obtain ⟨hSC, hSM⟩ := hSM0
  obtain ⟨r, C1, M1, h8, h9, hI1⟩ := hH S C M hI hw (xs (x3 + 1).toNatClampNeg) (xs (x3 + 2).toNatClampNeg) (xs (x3 + 3).toNatClampNeg)
  have v1 : vp_in (x3 + 1) L := wg_ix (k := 1) e3 (by omega) hL
  have v2 : vp_in (x3 + 2) L := wg_ix (k := 2) e3 (by omega) hL
  have v3 : vp_in (x3 + 3) L := wg_ix (k := 3) e3 (by omega) hL
  refine wg_aload_n X 1 dL_law_1100 rfl rfl ?_
  refine wg_aload_n X 0 dL_law_1101 rfl rfl ?_
  refine wg_iload_n X 3 dL_law_1102 rfl rfl ?_
  refine wg_iconst (v := 1) X dL_law_1103 (by decide) ?_
  refine wg_iadd X dL_law_1104 ?_
  refine wg_sld X hX hbl hbA v1 dL_law_1105 ?_
  refine wg_aload_n X 0 dL_law_1106 rfl rfl ?_
  refine wg_iload_n X 3 dL_law_1107 rfl rfl ?_
  refine wg_iconst (v := 2) X dL_law_1108 (by decide) ?_
  refine wg_iadd X dL_law_1109 ?_
  refine wg_sld X hX hbl hbA v2 dL_law_1110 ?_
  refine wg_aload_n X 0 dL_law_1111 rfl rfl ?_
  refine wg_iload_n X 3 dL_law_1112 rfl rfl ?_
  refine wg_iconst (v := 3) X dL_law_1113 (by decide) ?_
  refine wg_iadd X dL_law_1114 ?_
  refine wg_sld X hX hbl hbA v3 dL_law_1115 ?_
  refine wg_callVi (As := [.int (xs (x3 + 1).toNatClampNeg), .int (xs (x3 + 2).toNatClampNeg), .int (xs (x3 + 3).toNatClampNeg)]) (rest := []) X (c_X8_cell l E ad S hSC C M (xs (x3 + 1).toNatClampNeg) (xs (x3 + 2).toNatClampNeg) (xs (x3 + 3).toNatClampNeg) h8) T_yX8_cell k_842 cl8 (SCi hSC 0 8 rfl) dL_law_1116 rfl rfl (Nat.le_of_ble_eq_true rfl) ⟨Nat.le_of_ble_eq_true rfl, Nat.le_of_ble_eq_true rfl⟩ ⟨show cells ≤ 600000 by omega, show slots ≤ 7302250 by omega⟩ ?_
  refine wg_aload_n X 2 dL_law_1119 rfl rfl ?_
  refine wg_aload_n X 0 dL_law_1120 rfl rfl ?_
  refine wg_iload_n X 3 dL_law_1121 rfl rfl ?_
  refine wg_iconst (v := 1) X dL_law_1122 (by decide) ?_
  refine wg_iadd X dL_law_1123 ?_
  refine wg_sld X hX hbl hbA v1 dL_law_1124 ?_
  refine wg_aload_n X 0 dL_law_1125 rfl rfl ?_
  refine wg_iload_n X 3 dL_law_1126 rfl rfl ?_
  refine wg_iconst (v := 2) X dL_law_1127 (by decide) ?_
  refine wg_iadd X dL_law_1128 ?_
  refine wg_sld X hX hbl hbA v2 dL_law_1129 ?_
  refine wg_aload_n X 0 dL_law_1130 rfl rfl ?_
  refine wg_iload_n X 3 dL_law_1131 rfl rfl ?_
  refine wg_iconst (v := 3) X dL_law_1132 (by decide) ?_
  refine wg_iadd X dL_law_1133 ?_
  refine wg_sld X hX hbl hbA v3 dL_law_1134 ?_
  refine wg_callVi (As := [.int (xs (x3 + 1).toNatClampNeg), .int (xs (x3 + 2).toNatClampNeg), .int (xs (x3 + 3).toNatClampNeg)]) (rest := [.int r]) X (c_X9_cell l E ad S hSM C1 M (xs (x3 + 1).toNatClampNeg) (xs (x3 + 2).toNatClampNeg) (xs (x3 + 3).toNatClampNeg) h9) T_yX9_cell k_1303 cl9 (SMi hSM 55 9 rfl) dL_law_1135 rfl rfl (Nat.le_of_ble_eq_true rfl) ⟨Nat.le_of_ble_eq_true rfl, Nat.le_of_ble_eq_true rfl⟩ ⟨show cells ≤ 600000 by omega, show slots ≤ 7302250 by omega⟩ ?_
  refine wg_icmp_eq X 1292 dL_law_1138 (by decide) (fun _ => ?_) (fun c9 => absurd rfl c9)
  exact K S C1 M1 ad cells slots hI1 hw (by omega) (by omega)
set_option maxHeartbeats 4000000 in
set_option maxRecDepth 100000 in
theorem law_copy {p : Program} {l : Launch} {e : Env} {s : State} {m : MethodId} {args : Array Value} {below : List Frame} {meth : Method} {c : Code} {Q : State → Prop} {E : wg_Ev} {b L : Nat} {xs : Nat → Int32} (X : wg_X p s m args meth c cL_law 4 RL E) (hX : va_X b L xs s s.heap) (hbl : b < s.heap.size) (hbA : ¬ E.1 ≤ b) (hL : L ≤ 3072) {Inv : wg_Sh → wg_C → wg_M → Prop} (hH : H_copy Inv) {i j : Nat} (hi : i + 6 ≤ L) (hj : j ≤ 512) {x3 : Int32} (e3 : x3 = nI i) {S : wg_Sh} {C : wg_C} {M : wg_M} {ad : Nat → Nat} {cells slots : Nat} (hI : Inv S C M) (hSM0 : wg_SC S ∧ wg_SM S) (hw : wg_wf S) (hc : cells ≤ 100 + 3 * j) (hs : slots ≤ 10000 + 165 * j) (K : ∀ (S1 : wg_Sh) (C1 : wg_C) (M1 : wg_M) (ad1 : Nat → Nat) (cells1 slots1 : Nat), Inv S1 C1 M1 → wg_wf S1 → cells1 ≤ 100 + 3 * (j + 1) → slots1 ≤ 10000 + 165 * (j + 1) → GL p l e s m args below meth c Q E ad1 S1 cells1 slots1 1292 C1 M1 [(0, .ref b), (1, .ref (ad1 0)), (2, .ref (ad1 55)), (3, .int x3)] []) : GL p l e s m args below meth c Q E ad S cells slots 1143 C M [(0, .ref b), (1, .ref (ad 0)), (2, .ref (ad 55)), (3, .int x3)] [] := by
  obtain ⟨hSC, hSM⟩ := hSM0
  obtain ⟨r, C1, M1, h8, h9, hI1⟩ := hH S C M hI hw (xs (x3 + 1).toNatClampNeg) (xs (x3 + 2).toNatClampNeg) (xs (x3 + 3).toNatClampNeg) (xs (x3 + 4).toNatClampNeg) (xs (x3 + 5).toNatClampNeg)
  have v1 : vp_in (x3 + 1) L := wg_ix (k := 1) e3 (by omega) hL
  have v2 : vp_in (x3 + 2) L := wg_ix (k := 2) e3 (by omega) hL
  have v3 : vp_in (x3 + 3) L := wg_ix (k := 3) e3 (by omega) hL
  have v4 : vp_in (x3 + 4) L := wg_ix (k := 4) e3 (by omega) hL
  have v5 : vp_in (x3 + 5) L := wg_ix (k := 5) e3 (by omega) hL
  refine wg_aload_n X 1 dL_law_1143 rfl rfl ?_
  refine wg_aload_n X 0 dL_law_1144 rfl rfl ?_
  refine wg_iload_n X 3 dL_law_1145 rfl rfl ?_
  refine wg_iconst (v := 1) X dL_law_1146 (by decide) ?_
  refine wg_iadd X dL_law_1147 ?_
  refine wg_sld X hX hbl hbA v1 dL_law_1148 ?_
  refine wg_aload_n X 0 dL_law_1149 rfl rfl ?_
  refine wg_iload_n X 3 dL_law_1150 rfl rfl ?_
  refine wg_iconst (v := 2) X dL_law_1151 (by decide) ?_
  refine wg_iadd X dL_law_1152 ?_
  refine wg_sld X hX hbl hbA v2 dL_law_1153 ?_
  refine wg_aload_n X 0 dL_law_1154 rfl rfl ?_
  refine wg_iload_n X 3 dL_law_1155 rfl rfl ?_
  refine wg_iconst (v := 3) X dL_law_1156 (by decide) ?_
  refine wg_iadd X dL_law_1157 ?_
  refine wg_sld X hX hbl hbA v3 dL_law_1158 ?_
  refine wg_aload_n X 0 dL_law_1159 rfl rfl ?_
  refine wg_iload_n X 3 dL_law_1160 rfl rfl ?_
  refine wg_iconst (v := 4) X dL_law_1161 (by decide) ?_
  refine wg_iadd X dL_law_1162 ?_
  refine wg_sld X hX hbl hbA v4 dL_law_1163 ?_
  refine wg_aload_n X 0 dL_law_1164 rfl rfl ?_
  refine wg_iload_n X 3 dL_law_1165 rfl rfl ?_
  refine wg_iconst (v := 5) X dL_law_1166 (by decide) ?_
  refine wg_iadd X dL_law_1167 ?_
  refine wg_sld X hX hbl hbA v5 dL_law_1168 ?_
  refine wg_callVi (As := [.int (xs (x3 + 1).toNatClampNeg), .int (xs (x3 + 2).toNatClampNeg), .int (xs (x3 + 3).toNatClampNeg), .int (xs (x3 + 4).toNatClampNeg), .int (xs (x3 + 5).toNatClampNeg)]) (rest := []) X (c_X8_copy l E ad S hSC C M (xs (x3 + 1).toNatClampNeg) (xs (x3 + 2).toNatClampNeg) (xs (x3 + 3).toNatClampNeg) (xs (x3 + 4).toNatClampNeg) (xs (x3 + 5).toNatClampNeg) h8) T_yX8_copy k_850 cl8 (SCi hSC 0 8 rfl) dL_law_1169 rfl rfl (Nat.le_of_ble_eq_true rfl) ⟨Nat.le_of_ble_eq_true rfl, Nat.le_of_ble_eq_true rfl⟩ ⟨show cells ≤ 600000 by omega, show slots ≤ 7302250 by omega⟩ ?_
  refine wg_aload_n X 2 dL_law_1172 rfl rfl ?_
  refine wg_aload_n X 0 dL_law_1173 rfl rfl ?_
  refine wg_iload_n X 3 dL_law_1174 rfl rfl ?_
  refine wg_iconst (v := 1) X dL_law_1175 (by decide) ?_
  refine wg_iadd X dL_law_1176 ?_
  refine wg_sld X hX hbl hbA v1 dL_law_1177 ?_
  refine wg_aload_n X 0 dL_law_1178 rfl rfl ?_
  refine wg_iload_n X 3 dL_law_1179 rfl rfl ?_
  refine wg_iconst (v := 2) X dL_law_1180 (by decide) ?_
  refine wg_iadd X dL_law_1181 ?_
  refine wg_sld X hX hbl hbA v2 dL_law_1182 ?_
  refine wg_aload_n X 0 dL_law_1183 rfl rfl ?_
  refine wg_iload_n X 3 dL_law_1184 rfl rfl ?_
  refine wg_iconst (v := 3) X dL_law_1185 (by decide) ?_
  refine wg_iadd X dL_law_1186 ?_
  refine wg_sld X hX hbl hbA v3 dL_law_1187 ?_
  refine wg_aload_n X 0 dL_law_1188 rfl rfl ?_
  refine wg_iload_n X 3 dL_law_1189 rfl rfl ?_
  refine wg_iconst (v := 4) X dL_law_1190 (by decide) ?_
  refine wg_iadd X dL_law_1191 ?_
  refine wg_sld X hX hbl hbA v4 dL_law_1192 ?_
  refine wg_aload_n X 0 dL_law_1193 rfl rfl ?_
  refine wg_iload_n X 3 dL_law_1194 rfl rfl ?_
  refine wg_iconst (v := 5) X dL_law_1195 (by decide) ?_
  refine wg_iadd X dL_law_1196 ?_
  refine wg_sld X hX hbl hbA v5 dL_law_1197 ?_
  refine wg_callVi (As := [.int (xs (x3 + 1).toNatClampNeg), .int (xs (x3 + 2).toNatClampNeg), .int (xs (x3 + 3).toNatClampNeg), .int (xs (x3 + 4).toNatClampNeg), .int (xs (x3 + 5).toNatClampNeg)]) (rest := [.int r]) X (c_X9_copy l E ad S hSM NN C1 M (xs (x3 + 1).toNatClampNeg) (xs (x3 + 2).toNatClampNeg) (xs (x3 + 3).toNatClampNeg) (xs (x3 + 4).toNatClampNeg) (xs (x3 + 5).toNatClampNeg) h9) T_yX9_copy k_1307 cl9 (SMi hSM 55 9 rfl) dL_law_1198 rfl rfl (Nat.le_of_ble_eq_true rfl) ⟨Nat.le_of_ble_eq_true rfl, Nat.le_of_ble_eq_true rfl⟩ ⟨show cells ≤ 600000 by omega, show slots ≤ 7302250 by omega⟩ ?_
  refine wg_icmp_eq X 1292 dL_law_1201 (by decide) (fun _ => ?_) (fun c9 => absurd rfl c9)
  exact K S C1 M1 ad cells slots hI1 hw (by omega) (by omega)
set_option maxHeartbeats 4000000 in
set_option maxRecDepth 100000 in
theorem law_weathers {p : Program} {l : Launch} {e : Env} {s : State} {m : MethodId} {args : Array Value} {below : List Frame} {meth : Method} {c : Code} {Q : State → Prop} {E : wg_Ev} {b L : Nat} {xs : Nat → Int32} (X : wg_X p s m args meth c cL_law 4 RL E) (hX : va_X b L xs s s.heap) (hbl : b < s.heap.size) (hbA : ¬ E.1 ≤ b) (hL : L ≤ 3072) {Inv : wg_Sh → wg_C → wg_M → Prop} (hH : H_weathers Inv) {i j : Nat} (hi : i + 6 ≤ L) (hj : j ≤ 512) {x3 : Int32} (e3 : x3 = nI i) {S : wg_Sh} {C : wg_C} {M : wg_M} {ad : Nat → Nat} {cells slots : Nat} (hI : Inv S C M) (hSM0 : wg_SC S ∧ wg_SM S) (hw : wg_wf S) (hc : cells ≤ 100 + 3 * j) (hs : slots ≤ 10000 + 165 * j) (K : ∀ (S1 : wg_Sh) (C1 : wg_C) (M1 : wg_M) (ad1 : Nat → Nat) (cells1 slots1 : Nat), Inv S1 C1 M1 → wg_wf S1 → cells1 ≤ 100 + 3 * (j + 1) → slots1 ≤ 10000 + 165 * (j + 1) → GL p l e s m args below meth c Q E ad1 S1 cells1 slots1 1292 C1 M1 [(0, .ref b), (1, .ref (ad1 0)), (2, .ref (ad1 55)), (3, .int x3)] []) : GL p l e s m args below meth c Q E ad S cells slots 1206 C M [(0, .ref b), (1, .ref (ad 0)), (2, .ref (ad 55)), (3, .int x3)] [] := by
  obtain ⟨hSC, hSM⟩ := hSM0
  obtain ⟨r, C1, M1, h8, h9, hI1⟩ := hH S C M hI hw (xs (x3 + 1).toNatClampNeg) (xs (x3 + 2).toNatClampNeg) (xs (x3 + 3).toNatClampNeg) (xs (x3 + 4).toNatClampNeg)
  have v1 : vp_in (x3 + 1) L := wg_ix (k := 1) e3 (by omega) hL
  have v2 : vp_in (x3 + 2) L := wg_ix (k := 2) e3 (by omega) hL
  have v3 : vp_in (x3 + 3) L := wg_ix (k := 3) e3 (by omega) hL
  have v4 : vp_in (x3 + 4) L := wg_ix (k := 4) e3 (by omega) hL
  refine wg_aload_n X 1 dL_law_1206 rfl rfl ?_
  refine wg_aload_n X 0 dL_law_1207 rfl rfl ?_
  refine wg_iload_n X 3 dL_law_1208 rfl rfl ?_
  refine wg_iconst (v := 1) X dL_law_1209 (by decide) ?_
  refine wg_iadd X dL_law_1210 ?_
  refine wg_sld X hX hbl hbA v1 dL_law_1211 ?_
  refine wg_aload_n X 0 dL_law_1212 rfl rfl ?_
  refine wg_iload_n X 3 dL_law_1213 rfl rfl ?_
  refine wg_iconst (v := 2) X dL_law_1214 (by decide) ?_
  refine wg_iadd X dL_law_1215 ?_
  refine wg_sld X hX hbl hbA v2 dL_law_1216 ?_
  refine wg_aload_n X 0 dL_law_1217 rfl rfl ?_
  refine wg_iload_n X 3 dL_law_1218 rfl rfl ?_
  refine wg_iconst (v := 3) X dL_law_1219 (by decide) ?_
  refine wg_iadd X dL_law_1220 ?_
  refine wg_sld X hX hbl hbA v3 dL_law_1221 ?_
  refine wg_aload_n X 0 dL_law_1222 rfl rfl ?_
  refine wg_iload_n X 3 dL_law_1223 rfl rfl ?_
  refine wg_iconst (v := 4) X dL_law_1224 (by decide) ?_
  refine wg_iadd X dL_law_1225 ?_
  refine wg_sld X hX hbl hbA v4 dL_law_1226 ?_
  refine wg_callVi (As := [.int (xs (x3 + 1).toNatClampNeg), .int (xs (x3 + 2).toNatClampNeg), .int (xs (x3 + 3).toNatClampNeg), .int (xs (x3 + 4).toNatClampNeg)]) (rest := []) X (c_X8_weathers l E ad S hSC NN C M (xs (x3 + 1).toNatClampNeg) (xs (x3 + 2).toNatClampNeg) (xs (x3 + 3).toNatClampNeg) (xs (x3 + 4).toNatClampNeg) h8) T_yX8_weathers k_859 cl8 (SCi hSC 0 8 rfl) dL_law_1227 rfl rfl (Nat.le_of_ble_eq_true rfl) ⟨Nat.le_of_ble_eq_true rfl, Nat.le_of_ble_eq_true rfl⟩ ⟨show cells ≤ 600000 by omega, show slots ≤ 7302250 by omega⟩ ?_
  refine wg_aload_n X 2 dL_law_1230 rfl rfl ?_
  refine wg_aload_n X 0 dL_law_1231 rfl rfl ?_
  refine wg_iload_n X 3 dL_law_1232 rfl rfl ?_
  refine wg_iconst (v := 1) X dL_law_1233 (by decide) ?_
  refine wg_iadd X dL_law_1234 ?_
  refine wg_sld X hX hbl hbA v1 dL_law_1235 ?_
  refine wg_aload_n X 0 dL_law_1236 rfl rfl ?_
  refine wg_iload_n X 3 dL_law_1237 rfl rfl ?_
  refine wg_iconst (v := 2) X dL_law_1238 (by decide) ?_
  refine wg_iadd X dL_law_1239 ?_
  refine wg_sld X hX hbl hbA v2 dL_law_1240 ?_
  refine wg_aload_n X 0 dL_law_1241 rfl rfl ?_
  refine wg_iload_n X 3 dL_law_1242 rfl rfl ?_
  refine wg_iconst (v := 3) X dL_law_1243 (by decide) ?_
  refine wg_iadd X dL_law_1244 ?_
  refine wg_sld X hX hbl hbA v3 dL_law_1245 ?_
  refine wg_aload_n X 0 dL_law_1246 rfl rfl ?_
  refine wg_iload_n X 3 dL_law_1247 rfl rfl ?_
  refine wg_iconst (v := 4) X dL_law_1248 (by decide) ?_
  refine wg_iadd X dL_law_1249 ?_
  refine wg_sld X hX hbl hbA v4 dL_law_1250 ?_
  refine wg_callVi (As := [.int (xs (x3 + 1).toNatClampNeg), .int (xs (x3 + 2).toNatClampNeg), .int (xs (x3 + 3).toNatClampNeg), .int (xs (x3 + 4).toNatClampNeg)]) (rest := [.int r]) X (c_X9_weathers l E ad S hSM NN C1 M (xs (x3 + 1).toNatClampNeg) (xs (x3 + 2).toNatClampNeg) (xs (x3 + 3).toNatClampNeg) (xs (x3 + 4).toNatClampNeg) h9) T_yX9_weathers k_1311 cl9 (SMi hSM 55 9 rfl) dL_law_1251 rfl rfl (Nat.le_of_ble_eq_true rfl) ⟨Nat.le_of_ble_eq_true rfl, Nat.le_of_ble_eq_true rfl⟩ ⟨show cells ≤ 600000 by omega, show slots ≤ 7302250 by omega⟩ ?_
  refine wg_icmp_eq X 1292 dL_law_1254 (by decide) (fun _ => ?_) (fun c9 => absurd rfl c9)
  exact K S C1 M1 ad cells slots hI1 hw (by omega) (by omega)
set_option maxHeartbeats 4000000 in
set_option maxRecDepth 100000 in
theorem law_taken {p : Program} {l : Launch} {e : Env} {s : State} {m : MethodId} {args : Array Value} {below : List Frame} {meth : Method} {c : Code} {Q : State → Prop} {E : wg_Ev} {b L : Nat} {xs : Nat → Int32} (X : wg_X p s m args meth c cL_law 4 RL E) (hX : va_X b L xs s s.heap) (hbl : b < s.heap.size) (hbA : ¬ E.1 ≤ b) (hL : L ≤ 3072) {Inv : wg_Sh → wg_C → wg_M → Prop} (hH : H_taken Inv) {i j : Nat} (hi : i + 6 ≤ L) (hj : j ≤ 512) {x3 : Int32} (e3 : x3 = nI i) {S : wg_Sh} {C : wg_C} {M : wg_M} {ad : Nat → Nat} {cells slots : Nat} (hI : Inv S C M) (hSM0 : wg_SC S ∧ wg_SM S) (hw : wg_wf S) (hc : cells ≤ 100 + 3 * j) (hs : slots ≤ 10000 + 165 * j) (K : ∀ (S1 : wg_Sh) (C1 : wg_C) (M1 : wg_M) (ad1 : Nat → Nat) (cells1 slots1 : Nat), Inv S1 C1 M1 → wg_wf S1 → cells1 ≤ 100 + 3 * (j + 1) → slots1 ≤ 10000 + 165 * (j + 1) → GL p l e s m args below meth c Q E ad1 S1 cells1 slots1 1292 C1 M1 [(0, .ref b), (1, .ref (ad1 0)), (2, .ref (ad1 55)), (3, .int x3)] []) : GL p l e s m args below meth c Q E ad S cells slots 1259 C M [(0, .ref b), (1, .ref (ad 0)), (2, .ref (ad 55)), (3, .int x3)] [] := by
  obtain ⟨hSC, hSM⟩ := hSM0
  obtain ⟨r, h8, h9, hI1⟩ := hH S C M hI hw (xs (x3 + 1).toNatClampNeg) (xs (x3 + 2).toNatClampNeg)
  have v1 : vp_in (x3 + 1) L := wg_ix (k := 1) e3 (by omega) hL
  have v2 : vp_in (x3 + 2) L := wg_ix (k := 2) e3 (by omega) hL
  refine wg_aload_n X 1 dL_law_1259 rfl rfl ?_
  refine wg_aload_n X 0 dL_law_1260 rfl rfl ?_
  refine wg_iload_n X 3 dL_law_1261 rfl rfl ?_
  refine wg_iconst (v := 1) X dL_law_1262 (by decide) ?_
  refine wg_iadd X dL_law_1263 ?_
  refine wg_sld X hX hbl hbA v1 dL_law_1264 ?_
  refine wg_aload_n X 0 dL_law_1265 rfl rfl ?_
  refine wg_iload_n X 3 dL_law_1266 rfl rfl ?_
  refine wg_iconst (v := 2) X dL_law_1267 (by decide) ?_
  refine wg_iadd X dL_law_1268 ?_
  refine wg_sld X hX hbl hbA v2 dL_law_1269 ?_
  refine wg_callVi (As := [.int (xs (x3 + 1).toNatClampNeg), .int (xs (x3 + 2).toNatClampNeg)]) (rest := []) X (c_X8_taken l E ad S hSC NN C M (xs (x3 + 1).toNatClampNeg) (xs (x3 + 2).toNatClampNeg) h8) T_yX8_taken k_864 cl8 (SCi hSC 0 8 rfl) dL_law_1270 rfl rfl (Nat.le_of_ble_eq_true rfl) ⟨Nat.le_of_ble_eq_true rfl, Nat.le_of_ble_eq_true rfl⟩ ⟨show cells ≤ 600000 by omega, show slots ≤ 7302250 by omega⟩ ?_
  refine wg_aload_n X 2 dL_law_1273 rfl rfl ?_
  refine wg_aload_n X 0 dL_law_1274 rfl rfl ?_
  refine wg_iload_n X 3 dL_law_1275 rfl rfl ?_
  refine wg_iconst (v := 1) X dL_law_1276 (by decide) ?_
  refine wg_iadd X dL_law_1277 ?_
  refine wg_sld X hX hbl hbA v1 dL_law_1278 ?_
  refine wg_aload_n X 0 dL_law_1279 rfl rfl ?_
  refine wg_iload_n X 3 dL_law_1280 rfl rfl ?_
  refine wg_iconst (v := 2) X dL_law_1281 (by decide) ?_
  refine wg_iadd X dL_law_1282 ?_
  refine wg_sld X hX hbl hbA v2 dL_law_1283 ?_
  refine wg_callVi (As := [.int (xs (x3 + 1).toNatClampNeg), .int (xs (x3 + 2).toNatClampNeg)]) (rest := [.int r]) X (c_X9_taken l E ad S hSM NN C M (xs (x3 + 1).toNatClampNeg) (xs (x3 + 2).toNatClampNeg) h9) T_yX9_taken k_1316 cl9 (SMi hSM 55 9 rfl) dL_law_1284 rfl rfl (Nat.le_of_ble_eq_true rfl) ⟨Nat.le_of_ble_eq_true rfl, Nat.le_of_ble_eq_true rfl⟩ ⟨show cells ≤ 600000 by omega, show slots ≤ 7302250 by omega⟩ ?_
  refine wg_icmp_eq X 1292 dL_law_1287 (by decide) (fun _ => ?_) (fun c9 => absurd rfl c9)
  exact K S C M ad cells slots hI hw (by omega) (by omega)
