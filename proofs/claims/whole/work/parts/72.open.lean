def R_law : String := "WindowsGiveLaw"
def lw_P (b : Addr) (xs : List Int32) (args : Array Value) (s : State) : Prop := args = #[.ref b] ∧ s.IntsAt b xs ∧ xs.length ≤ 3072 ∧ (Jvm.Cond.and given_1 narrow_1).before args s = true
def lw_Q (_ : Array Value) (s : State) (o : Outcome) (t : State) : Prop := o = .returned (some (.int 1)) ∧ Framed s o t [] 600000 7302250
def lw_Z (below : List Frame) (a : Array Value) (s : State) : State → Prop := fun t => ∃ o, t.status = .running ∧ Ended t below o ∧ lw_Q a s o t
/-- the law's own end, with 1 on the stack, nothing written that was there before, its room as the claim has it -/
theorem lw_ret {p : Program} {l : Launch} {e : Env} {s : State} {m : MethodId} {below : List Frame} {meth : Method} {c : Code} {b : Nat} (hx : p.tables.exec = Jvm.exec) (hb : c.code = code) (hr : meth.sig.returnType = ret) (hlocks : meth.locks = false) {pc : Nat} {H : Heap} {ls : Array Slot} (hdg : decode code pc = .ok (.ireturn, 1)) : W p l e room_1 s m #[Value.ref b] below meth c H [] 600000 7302250 (lw_Z below #[Value.ref b] s) (F0 m pc ls [.int 1]) := by
  intro T hT X
  obtain ⟨fs, hret, hrun, hended, hW, hframe⟩ := X.leave (v := some (.int 1)) (hlocks := hlocks) (fun h => by rw [hr] at h; cases h)
  have hmeth' : T.vm.method? m = some meth := X.method'
  refine ⟨T.setFrames fs, ?_, .returned (some (.int 1)), hrun, hended, rfl, ⟨_, rfl⟩, hW, hframe⟩
  jvm_step X.here [X.here.top, hx, hb, hdg, hmeth', hr, ret, narrow_b1]
  (try refine ⟨rfl, ?_⟩); (try refine ⟨rfl, ?_⟩)
  first | (intro acts; rw [hret _ acts rfl rfl rfl]) | rw [hret _ _ rfl rfl rfl]
  exact Steps.refl _
/-- what holds at the law's entry: the machine, the code, the tables' words (any of lw_tbl by 'hts w (by decide +kernel)'), the script of L ints xs at the cell b, what the Statement gives of the start (any of its parts by flat_of_before) -/
def lw_At (p : Program) (s : State) (m : MethodId) (meth : Method) (c : Code) (b L : Nat) (xs : Nat → Int32) : Prop :=
  p.tables.exec = Jvm.exec ∧ c.code = code ∧ meth.sig.returnType = ret ∧ c.maxLocals = 4 ∧ s.vm.findClass R_law = some m.cls ∧ (∀ w ∈ lw_tbl, w.before #[Value.ref b] s = true) ∧ va_X b L xs s s.heap ∧ b < s.heap.size ∧ meth.locks = false ∧ (Jvm.Cond.and given_1 narrow_1).before #[Value.ref b] s = true

theorem wh_mem (i : Nat) {w : Cond} (h : lw_tbl[i]? = some w) : w ∈ lw_tbl := List.mem_of_getElem? h
/-- the array classes -/
theorem wh_prim {args : Array Value} {s : State} {ty : FieldType} (h : (Cond.arrayClass ty).before args s = true) (hr : ∀ C, ty ≠ .object C) : ∃ cA : ClassId, ArrOfT s cA ty ∧ va_RA s cA ty := by
  obtain ⟨c, k, comp, h1, h2, h3⟩ := Cond.arrayClass_spec h
  refine ⟨c, fun n z => ⟨fun k h => (by cases h), k, h2, comp, h3⟩, ?_⟩
  cases ty with
  | object C => exact absurd rfl (hr C)
  | _ => exact h1
theorem wh_ref {args : Array Value} {s : State} {C : String} (h : (Cond.arrayOver (.object C)).before args s = true) : ∃ cA : ClassId, ArrOfT s cA (.object C) ∧ va_RA s cA (.object C) := by
  obtain ⟨comp, c, k, h1, h2, h3, h4, h5⟩ := Cond.arrayOver_spec h
  exact ⟨c, fun n z => ⟨fun k h => (by cases h), k, h3, comp, h4⟩, k, comp, h3, h4, h1, h5⟩
def wh_tm (i : Nat) : Term := .string (wg_sown.getD i "") (wg_sidx.getD i 0)
abbrev wh_F : List Cond := flatC (Jvm.Cond.and given_1 narrow_1)
set_option maxRecDepth 100000 in
theorem wh_f1 : ∀ i : Nat, i < 13 → Cond.exactly (wh_tm i) "java/lang/String" ∈ wh_F := by decide +kernel
set_option maxRecDepth 100000 in
theorem wh_f2 : ∀ i : Nat, i < 13 → Cond.eq (.field (wh_tm i) "java/lang/String" "coder" "B") (.int 0) ∈ wh_F := by decide +kernel
set_option maxRecDepth 100000 in
theorem wh_f3 : ∀ i : Nat, i < 13 → Cond.arrayOf (.field (wh_tm i) "java/lang/String" "value" "[B") .byte ∈ wh_F := by decide +kernel
set_option maxRecDepth 100000 in
theorem wh_f4 : ∀ i : Nat, i < 13 → Cond.eq (.length (.field (wh_tm i) "java/lang/String" "value" "[B")) (.int (Int32.ofNat (wg_slen.getD i 0))) ∈ wh_F := by decide +kernel
set_option maxRecDepth 100000 in
theorem wh_f5 : ∀ i : Nat, i < 13 → ∀ j : Nat, j < wg_slen.getD i 0 → Cond.eq (.elem (.field (wh_tm i) "java/lang/String" "value" "[B") (.int (Int32.ofNat j))) (.int ((wg_sbyt.getD i []).getD j 0)) ∈ wh_F := by decide +kernel
set_option maxRecDepth 100000 in
theorem wh_q0_1 : Cond.not (Cond.eq (wh_tm 0) (wh_tm 1)) ∈ wh_F := List.mem_of_getElem? (i := 112) (by decide +kernel)
set_option maxRecDepth 100000 in
theorem wh_q0_2 : Cond.not (Cond.eq (wh_tm 0) (wh_tm 2)) ∈ wh_F := List.mem_of_getElem? (i := 122) (by decide +kernel)
set_option maxRecDepth 100000 in
theorem wh_q0_3 : Cond.not (Cond.eq (wh_tm 0) (wh_tm 3)) ∈ wh_F := List.mem_of_getElem? (i := 134) (by decide +kernel)
set_option maxRecDepth 100000 in
theorem wh_q0_4 : Cond.not (Cond.eq (wh_tm 0) (wh_tm 4)) ∈ wh_F := List.mem_of_getElem? (i := 148) (by decide +kernel)
set_option maxRecDepth 100000 in
theorem wh_q0_5 : Cond.not (Cond.eq (wh_tm 0) (wh_tm 5)) ∈ wh_F := List.mem_of_getElem? (i := 162) (by decide +kernel)
set_option maxRecDepth 100000 in
theorem wh_q0_6 : Cond.not (Cond.eq (wh_tm 0) (wh_tm 6)) ∈ wh_F := List.mem_of_getElem? (i := 175) (by decide +kernel)
set_option maxRecDepth 100000 in
theorem wh_q0_7 : Cond.not (Cond.eq (wh_tm 0) (wh_tm 7)) ∈ wh_F := List.mem_of_getElem? (i := 190) (by decide +kernel)
set_option maxRecDepth 100000 in
theorem wh_q0_8 : Cond.not (Cond.eq (wh_tm 0) (wh_tm 8)) ∈ wh_F := List.mem_of_getElem? (i := 205) (by decide +kernel)
set_option maxRecDepth 100000 in
theorem wh_q0_9 : Cond.not (Cond.eq (wh_tm 0) (wh_tm 9)) ∈ wh_F := List.mem_of_getElem? (i := 222) (by decide +kernel)
set_option maxRecDepth 100000 in
theorem wh_q0_10 : Cond.not (Cond.eq (wh_tm 0) (wh_tm 10)) ∈ wh_F := List.mem_of_getElem? (i := 237) (by decide +kernel)
set_option maxRecDepth 100000 in
theorem wh_q0_11 : Cond.not (Cond.eq (wh_tm 0) (wh_tm 11)) ∈ wh_F := List.mem_of_getElem? (i := 254) (by decide +kernel)
set_option maxRecDepth 100000 in
theorem wh_q0_12 : Cond.not (Cond.eq (wh_tm 0) (wh_tm 12)) ∈ wh_F := List.mem_of_getElem? (i := 272) (by decide +kernel)
set_option maxRecDepth 100000 in
theorem wh_q1_2 : Cond.not (Cond.eq (wh_tm 1) (wh_tm 2)) ∈ wh_F := List.mem_of_getElem? (i := 123) (by decide +kernel)
set_option maxRecDepth 100000 in
theorem wh_q1_3 : Cond.not (Cond.eq (wh_tm 1) (wh_tm 3)) ∈ wh_F := List.mem_of_getElem? (i := 135) (by decide +kernel)
set_option maxRecDepth 100000 in
theorem wh_q1_4 : Cond.not (Cond.eq (wh_tm 1) (wh_tm 4)) ∈ wh_F := List.mem_of_getElem? (i := 149) (by decide +kernel)
set_option maxRecDepth 100000 in
theorem wh_q1_5 : Cond.not (Cond.eq (wh_tm 1) (wh_tm 5)) ∈ wh_F := List.mem_of_getElem? (i := 163) (by decide +kernel)
set_option maxRecDepth 100000 in
theorem wh_q1_6 : Cond.not (Cond.eq (wh_tm 1) (wh_tm 6)) ∈ wh_F := List.mem_of_getElem? (i := 176) (by decide +kernel)
set_option maxRecDepth 100000 in
theorem wh_q1_7 : Cond.not (Cond.eq (wh_tm 1) (wh_tm 7)) ∈ wh_F := List.mem_of_getElem? (i := 191) (by decide +kernel)
set_option maxRecDepth 100000 in
theorem wh_q1_8 : Cond.not (Cond.eq (wh_tm 1) (wh_tm 8)) ∈ wh_F := List.mem_of_getElem? (i := 206) (by decide +kernel)
set_option maxRecDepth 100000 in
theorem wh_q1_9 : Cond.not (Cond.eq (wh_tm 1) (wh_tm 9)) ∈ wh_F := List.mem_of_getElem? (i := 223) (by decide +kernel)
set_option maxRecDepth 100000 in
theorem wh_q1_10 : Cond.not (Cond.eq (wh_tm 1) (wh_tm 10)) ∈ wh_F := List.mem_of_getElem? (i := 238) (by decide +kernel)
set_option maxRecDepth 100000 in
theorem wh_q1_11 : Cond.not (Cond.eq (wh_tm 1) (wh_tm 11)) ∈ wh_F := List.mem_of_getElem? (i := 255) (by decide +kernel)
set_option maxRecDepth 100000 in
theorem wh_q1_12 : Cond.not (Cond.eq (wh_tm 1) (wh_tm 12)) ∈ wh_F := List.mem_of_getElem? (i := 273) (by decide +kernel)
set_option maxRecDepth 100000 in
theorem wh_q2_3 : Cond.not (Cond.eq (wh_tm 2) (wh_tm 3)) ∈ wh_F := List.mem_of_getElem? (i := 136) (by decide +kernel)
set_option maxRecDepth 100000 in
theorem wh_q2_4 : Cond.not (Cond.eq (wh_tm 2) (wh_tm 4)) ∈ wh_F := List.mem_of_getElem? (i := 150) (by decide +kernel)
set_option maxRecDepth 100000 in
theorem wh_q2_5 : Cond.not (Cond.eq (wh_tm 2) (wh_tm 5)) ∈ wh_F := List.mem_of_getElem? (i := 164) (by decide +kernel)
set_option maxRecDepth 100000 in
theorem wh_q2_6 : Cond.not (Cond.eq (wh_tm 2) (wh_tm 6)) ∈ wh_F := List.mem_of_getElem? (i := 177) (by decide +kernel)
set_option maxRecDepth 100000 in
theorem wh_q2_7 : Cond.not (Cond.eq (wh_tm 2) (wh_tm 7)) ∈ wh_F := List.mem_of_getElem? (i := 192) (by decide +kernel)
set_option maxRecDepth 100000 in
theorem wh_q2_8 : Cond.not (Cond.eq (wh_tm 2) (wh_tm 8)) ∈ wh_F := List.mem_of_getElem? (i := 207) (by decide +kernel)
set_option maxRecDepth 100000 in
theorem wh_q2_9 : Cond.not (Cond.eq (wh_tm 2) (wh_tm 9)) ∈ wh_F := List.mem_of_getElem? (i := 224) (by decide +kernel)
set_option maxRecDepth 100000 in
theorem wh_q2_10 : Cond.not (Cond.eq (wh_tm 2) (wh_tm 10)) ∈ wh_F := List.mem_of_getElem? (i := 239) (by decide +kernel)
set_option maxRecDepth 100000 in
theorem wh_q2_11 : Cond.not (Cond.eq (wh_tm 2) (wh_tm 11)) ∈ wh_F := List.mem_of_getElem? (i := 256) (by decide +kernel)
set_option maxRecDepth 100000 in
theorem wh_q2_12 : Cond.not (Cond.eq (wh_tm 2) (wh_tm 12)) ∈ wh_F := List.mem_of_getElem? (i := 274) (by decide +kernel)
set_option maxRecDepth 100000 in
theorem wh_q3_4 : Cond.not (Cond.eq (wh_tm 3) (wh_tm 4)) ∈ wh_F := List.mem_of_getElem? (i := 151) (by decide +kernel)
set_option maxRecDepth 100000 in
theorem wh_q3_5 : Cond.not (Cond.eq (wh_tm 3) (wh_tm 5)) ∈ wh_F := List.mem_of_getElem? (i := 165) (by decide +kernel)
set_option maxRecDepth 100000 in
theorem wh_q3_6 : Cond.not (Cond.eq (wh_tm 3) (wh_tm 6)) ∈ wh_F := List.mem_of_getElem? (i := 178) (by decide +kernel)
set_option maxRecDepth 100000 in
theorem wh_q3_7 : Cond.not (Cond.eq (wh_tm 3) (wh_tm 7)) ∈ wh_F := List.mem_of_getElem? (i := 193) (by decide +kernel)
set_option maxRecDepth 100000 in
theorem wh_q3_8 : Cond.not (Cond.eq (wh_tm 3) (wh_tm 8)) ∈ wh_F := List.mem_of_getElem? (i := 208) (by decide +kernel)
set_option maxRecDepth 100000 in
theorem wh_q3_9 : Cond.not (Cond.eq (wh_tm 3) (wh_tm 9)) ∈ wh_F := List.mem_of_getElem? (i := 225) (by decide +kernel)
set_option maxRecDepth 100000 in
theorem wh_q3_10 : Cond.not (Cond.eq (wh_tm 3) (wh_tm 10)) ∈ wh_F := List.mem_of_getElem? (i := 240) (by decide +kernel)
set_option maxRecDepth 100000 in
theorem wh_q3_11 : Cond.not (Cond.eq (wh_tm 3) (wh_tm 11)) ∈ wh_F := List.mem_of_getElem? (i := 257) (by decide +kernel)
set_option maxRecDepth 100000 in
theorem wh_q3_12 : Cond.not (Cond.eq (wh_tm 3) (wh_tm 12)) ∈ wh_F := List.mem_of_getElem? (i := 275) (by decide +kernel)
set_option maxRecDepth 100000 in
theorem wh_q4_5 : Cond.not (Cond.eq (wh_tm 4) (wh_tm 5)) ∈ wh_F := List.mem_of_getElem? (i := 166) (by decide +kernel)
set_option maxRecDepth 100000 in
theorem wh_q4_6 : Cond.not (Cond.eq (wh_tm 4) (wh_tm 6)) ∈ wh_F := List.mem_of_getElem? (i := 179) (by decide +kernel)
set_option maxRecDepth 100000 in
theorem wh_q4_7 : Cond.not (Cond.eq (wh_tm 4) (wh_tm 7)) ∈ wh_F := List.mem_of_getElem? (i := 194) (by decide +kernel)
set_option maxRecDepth 100000 in
theorem wh_q4_8 : Cond.not (Cond.eq (wh_tm 4) (wh_tm 8)) ∈ wh_F := List.mem_of_getElem? (i := 209) (by decide +kernel)
set_option maxRecDepth 100000 in
theorem wh_q4_9 : Cond.not (Cond.eq (wh_tm 4) (wh_tm 9)) ∈ wh_F := List.mem_of_getElem? (i := 226) (by decide +kernel)
set_option maxRecDepth 100000 in
theorem wh_q4_10 : Cond.not (Cond.eq (wh_tm 4) (wh_tm 10)) ∈ wh_F := List.mem_of_getElem? (i := 241) (by decide +kernel)
set_option maxRecDepth 100000 in
theorem wh_q4_11 : Cond.not (Cond.eq (wh_tm 4) (wh_tm 11)) ∈ wh_F := List.mem_of_getElem? (i := 258) (by decide +kernel)
set_option maxRecDepth 100000 in
theorem wh_q4_12 : Cond.not (Cond.eq (wh_tm 4) (wh_tm 12)) ∈ wh_F := List.mem_of_getElem? (i := 276) (by decide +kernel)
set_option maxRecDepth 100000 in
theorem wh_q5_6 : Cond.not (Cond.eq (wh_tm 5) (wh_tm 6)) ∈ wh_F := List.mem_of_getElem? (i := 180) (by decide +kernel)
set_option maxRecDepth 100000 in
theorem wh_q5_7 : Cond.not (Cond.eq (wh_tm 5) (wh_tm 7)) ∈ wh_F := List.mem_of_getElem? (i := 195) (by decide +kernel)
set_option maxRecDepth 100000 in
theorem wh_q5_8 : Cond.not (Cond.eq (wh_tm 5) (wh_tm 8)) ∈ wh_F := List.mem_of_getElem? (i := 210) (by decide +kernel)
set_option maxRecDepth 100000 in
theorem wh_q5_9 : Cond.not (Cond.eq (wh_tm 5) (wh_tm 9)) ∈ wh_F := List.mem_of_getElem? (i := 227) (by decide +kernel)
set_option maxRecDepth 100000 in
theorem wh_q5_10 : Cond.not (Cond.eq (wh_tm 5) (wh_tm 10)) ∈ wh_F := List.mem_of_getElem? (i := 242) (by decide +kernel)
set_option maxRecDepth 100000 in
theorem wh_q5_11 : Cond.not (Cond.eq (wh_tm 5) (wh_tm 11)) ∈ wh_F := List.mem_of_getElem? (i := 259) (by decide +kernel)
set_option maxRecDepth 100000 in
theorem wh_q5_12 : Cond.not (Cond.eq (wh_tm 5) (wh_tm 12)) ∈ wh_F := List.mem_of_getElem? (i := 277) (by decide +kernel)
set_option maxRecDepth 100000 in
theorem wh_q6_7 : Cond.not (Cond.eq (wh_tm 6) (wh_tm 7)) ∈ wh_F := List.mem_of_getElem? (i := 196) (by decide +kernel)
set_option maxRecDepth 100000 in
theorem wh_q6_8 : Cond.not (Cond.eq (wh_tm 6) (wh_tm 8)) ∈ wh_F := List.mem_of_getElem? (i := 211) (by decide +kernel)
set_option maxRecDepth 100000 in
theorem wh_q6_9 : Cond.not (Cond.eq (wh_tm 6) (wh_tm 9)) ∈ wh_F := List.mem_of_getElem? (i := 228) (by decide +kernel)
set_option maxRecDepth 100000 in
theorem wh_q6_10 : Cond.not (Cond.eq (wh_tm 6) (wh_tm 10)) ∈ wh_F := List.mem_of_getElem? (i := 243) (by decide +kernel)
set_option maxRecDepth 100000 in
theorem wh_q6_11 : Cond.not (Cond.eq (wh_tm 6) (wh_tm 11)) ∈ wh_F := List.mem_of_getElem? (i := 260) (by decide +kernel)
set_option maxRecDepth 100000 in
theorem wh_q6_12 : Cond.not (Cond.eq (wh_tm 6) (wh_tm 12)) ∈ wh_F := List.mem_of_getElem? (i := 278) (by decide +kernel)
set_option maxRecDepth 100000 in
theorem wh_q7_8 : Cond.not (Cond.eq (wh_tm 7) (wh_tm 8)) ∈ wh_F := List.mem_of_getElem? (i := 212) (by decide +kernel)
set_option maxRecDepth 100000 in
theorem wh_q7_9 : Cond.not (Cond.eq (wh_tm 7) (wh_tm 9)) ∈ wh_F := List.mem_of_getElem? (i := 229) (by decide +kernel)
set_option maxRecDepth 100000 in
theorem wh_q7_10 : Cond.not (Cond.eq (wh_tm 7) (wh_tm 10)) ∈ wh_F := List.mem_of_getElem? (i := 244) (by decide +kernel)
set_option maxRecDepth 100000 in
theorem wh_q7_11 : Cond.not (Cond.eq (wh_tm 7) (wh_tm 11)) ∈ wh_F := List.mem_of_getElem? (i := 261) (by decide +kernel)
set_option maxRecDepth 100000 in
theorem wh_q7_12 : Cond.not (Cond.eq (wh_tm 7) (wh_tm 12)) ∈ wh_F := List.mem_of_getElem? (i := 279) (by decide +kernel)
set_option maxRecDepth 100000 in
theorem wh_q8_9 : Cond.not (Cond.eq (wh_tm 8) (wh_tm 9)) ∈ wh_F := List.mem_of_getElem? (i := 230) (by decide +kernel)
set_option maxRecDepth 100000 in
theorem wh_q8_10 : Cond.not (Cond.eq (wh_tm 8) (wh_tm 10)) ∈ wh_F := List.mem_of_getElem? (i := 245) (by decide +kernel)
set_option maxRecDepth 100000 in
theorem wh_q8_11 : Cond.not (Cond.eq (wh_tm 8) (wh_tm 11)) ∈ wh_F := List.mem_of_getElem? (i := 262) (by decide +kernel)
set_option maxRecDepth 100000 in
theorem wh_q8_12 : Cond.not (Cond.eq (wh_tm 8) (wh_tm 12)) ∈ wh_F := List.mem_of_getElem? (i := 280) (by decide +kernel)
set_option maxRecDepth 100000 in
theorem wh_q9_10 : Cond.not (Cond.eq (wh_tm 9) (wh_tm 10)) ∈ wh_F := List.mem_of_getElem? (i := 246) (by decide +kernel)
set_option maxRecDepth 100000 in
theorem wh_q9_11 : Cond.not (Cond.eq (wh_tm 9) (wh_tm 11)) ∈ wh_F := List.mem_of_getElem? (i := 263) (by decide +kernel)
set_option maxRecDepth 100000 in
theorem wh_q9_12 : Cond.not (Cond.eq (wh_tm 9) (wh_tm 12)) ∈ wh_F := List.mem_of_getElem? (i := 281) (by decide +kernel)
set_option maxRecDepth 100000 in
theorem wh_q10_11 : Cond.not (Cond.eq (wh_tm 10) (wh_tm 11)) ∈ wh_F := List.mem_of_getElem? (i := 264) (by decide +kernel)
set_option maxRecDepth 100000 in
theorem wh_q10_12 : Cond.not (Cond.eq (wh_tm 10) (wh_tm 12)) ∈ wh_F := List.mem_of_getElem? (i := 282) (by decide +kernel)
set_option maxRecDepth 100000 in
theorem wh_q11_12 : Cond.not (Cond.eq (wh_tm 11) (wh_tm 12)) ∈ wh_F := List.mem_of_getElem? (i := 283) (by decide +kernel)
set_option maxRecDepth 100000 in
theorem wh_f6 (i : Nat) (hi : i < 13) (j : Nat) (hj : j < 13) (hij : i ≠ j) : Cond.not (Cond.eq (wh_tm i) (wh_tm j)) ∈ wh_F ∨ Cond.not (Cond.eq (wh_tm j) (wh_tm i)) ∈ wh_F := by
  match i, j with
  | 0, 0 => exact absurd rfl hij
  | 0, 1 => exact Or.inl wh_q0_1
  | 0, 2 => exact Or.inl wh_q0_2
  | 0, 3 => exact Or.inl wh_q0_3
  | 0, 4 => exact Or.inl wh_q0_4
  | 0, 5 => exact Or.inl wh_q0_5
  | 0, 6 => exact Or.inl wh_q0_6
  | 0, 7 => exact Or.inl wh_q0_7
  | 0, 8 => exact Or.inl wh_q0_8
  | 0, 9 => exact Or.inl wh_q0_9
  | 0, 10 => exact Or.inl wh_q0_10
  | 0, 11 => exact Or.inl wh_q0_11
  | 0, 12 => exact Or.inl wh_q0_12
  | 1, 0 => exact Or.inr wh_q0_1
  | 1, 1 => exact absurd rfl hij
  | 1, 2 => exact Or.inl wh_q1_2
  | 1, 3 => exact Or.inl wh_q1_3
  | 1, 4 => exact Or.inl wh_q1_4
  | 1, 5 => exact Or.inl wh_q1_5
  | 1, 6 => exact Or.inl wh_q1_6
  | 1, 7 => exact Or.inl wh_q1_7
  | 1, 8 => exact Or.inl wh_q1_8
  | 1, 9 => exact Or.inl wh_q1_9
  | 1, 10 => exact Or.inl wh_q1_10
  | 1, 11 => exact Or.inl wh_q1_11
  | 1, 12 => exact Or.inl wh_q1_12
  | 2, 0 => exact Or.inr wh_q0_2
  | 2, 1 => exact Or.inr wh_q1_2
  | 2, 2 => exact absurd rfl hij
  | 2, 3 => exact Or.inl wh_q2_3
  | 2, 4 => exact Or.inl wh_q2_4
  | 2, 5 => exact Or.inl wh_q2_5
  | 2, 6 => exact Or.inl wh_q2_6
  | 2, 7 => exact Or.inl wh_q2_7
  | 2, 8 => exact Or.inl wh_q2_8
  | 2, 9 => exact Or.inl wh_q2_9
  | 2, 10 => exact Or.inl wh_q2_10
  | 2, 11 => exact Or.inl wh_q2_11
  | 2, 12 => exact Or.inl wh_q2_12
  | 3, 0 => exact Or.inr wh_q0_3
  | 3, 1 => exact Or.inr wh_q1_3
  | 3, 2 => exact Or.inr wh_q2_3
  | 3, 3 => exact absurd rfl hij
  | 3, 4 => exact Or.inl wh_q3_4
  | 3, 5 => exact Or.inl wh_q3_5
  | 3, 6 => exact Or.inl wh_q3_6
  | 3, 7 => exact Or.inl wh_q3_7
  | 3, 8 => exact Or.inl wh_q3_8
  | 3, 9 => exact Or.inl wh_q3_9
  | 3, 10 => exact Or.inl wh_q3_10
  | 3, 11 => exact Or.inl wh_q3_11
  | 3, 12 => exact Or.inl wh_q3_12
  | 4, 0 => exact Or.inr wh_q0_4
  | 4, 1 => exact Or.inr wh_q1_4
  | 4, 2 => exact Or.inr wh_q2_4
  | 4, 3 => exact Or.inr wh_q3_4
  | 4, 4 => exact absurd rfl hij
  | 4, 5 => exact Or.inl wh_q4_5
  | 4, 6 => exact Or.inl wh_q4_6
  | 4, 7 => exact Or.inl wh_q4_7
  | 4, 8 => exact Or.inl wh_q4_8
  | 4, 9 => exact Or.inl wh_q4_9
  | 4, 10 => exact Or.inl wh_q4_10
  | 4, 11 => exact Or.inl wh_q4_11
  | 4, 12 => exact Or.inl wh_q4_12
  | 5, 0 => exact Or.inr wh_q0_5
  | 5, 1 => exact Or.inr wh_q1_5
  | 5, 2 => exact Or.inr wh_q2_5
  | 5, 3 => exact Or.inr wh_q3_5
  | 5, 4 => exact Or.inr wh_q4_5
  | 5, 5 => exact absurd rfl hij
  | 5, 6 => exact Or.inl wh_q5_6
  | 5, 7 => exact Or.inl wh_q5_7
  | 5, 8 => exact Or.inl wh_q5_8
  | 5, 9 => exact Or.inl wh_q5_9
  | 5, 10 => exact Or.inl wh_q5_10
  | 5, 11 => exact Or.inl wh_q5_11
  | 5, 12 => exact Or.inl wh_q5_12
  | 6, 0 => exact Or.inr wh_q0_6
  | 6, 1 => exact Or.inr wh_q1_6
  | 6, 2 => exact Or.inr wh_q2_6
  | 6, 3 => exact Or.inr wh_q3_6
  | 6, 4 => exact Or.inr wh_q4_6
  | 6, 5 => exact Or.inr wh_q5_6
  | 6, 6 => exact absurd rfl hij
  | 6, 7 => exact Or.inl wh_q6_7
  | 6, 8 => exact Or.inl wh_q6_8
  | 6, 9 => exact Or.inl wh_q6_9
  | 6, 10 => exact Or.inl wh_q6_10
  | 6, 11 => exact Or.inl wh_q6_11
  | 6, 12 => exact Or.inl wh_q6_12
  | 7, 0 => exact Or.inr wh_q0_7
  | 7, 1 => exact Or.inr wh_q1_7
  | 7, 2 => exact Or.inr wh_q2_7
  | 7, 3 => exact Or.inr wh_q3_7
  | 7, 4 => exact Or.inr wh_q4_7
  | 7, 5 => exact Or.inr wh_q5_7
  | 7, 6 => exact Or.inr wh_q6_7
  | 7, 7 => exact absurd rfl hij
  | 7, 8 => exact Or.inl wh_q7_8
  | 7, 9 => exact Or.inl wh_q7_9
  | 7, 10 => exact Or.inl wh_q7_10
  | 7, 11 => exact Or.inl wh_q7_11
  | 7, 12 => exact Or.inl wh_q7_12
  | 8, 0 => exact Or.inr wh_q0_8
  | 8, 1 => exact Or.inr wh_q1_8
  | 8, 2 => exact Or.inr wh_q2_8
  | 8, 3 => exact Or.inr wh_q3_8
  | 8, 4 => exact Or.inr wh_q4_8
  | 8, 5 => exact Or.inr wh_q5_8
  | 8, 6 => exact Or.inr wh_q6_8
  | 8, 7 => exact Or.inr wh_q7_8
  | 8, 8 => exact absurd rfl hij
  | 8, 9 => exact Or.inl wh_q8_9
  | 8, 10 => exact Or.inl wh_q8_10
  | 8, 11 => exact Or.inl wh_q8_11
  | 8, 12 => exact Or.inl wh_q8_12
  | 9, 0 => exact Or.inr wh_q0_9
  | 9, 1 => exact Or.inr wh_q1_9
  | 9, 2 => exact Or.inr wh_q2_9
  | 9, 3 => exact Or.inr wh_q3_9
  | 9, 4 => exact Or.inr wh_q4_9
  | 9, 5 => exact Or.inr wh_q5_9
  | 9, 6 => exact Or.inr wh_q6_9
  | 9, 7 => exact Or.inr wh_q7_9
  | 9, 8 => exact Or.inr wh_q8_9
  | 9, 9 => exact absurd rfl hij
  | 9, 10 => exact Or.inl wh_q9_10
  | 9, 11 => exact Or.inl wh_q9_11
  | 9, 12 => exact Or.inl wh_q9_12
  | 10, 0 => exact Or.inr wh_q0_10
  | 10, 1 => exact Or.inr wh_q1_10
  | 10, 2 => exact Or.inr wh_q2_10
  | 10, 3 => exact Or.inr wh_q3_10
  | 10, 4 => exact Or.inr wh_q4_10
  | 10, 5 => exact Or.inr wh_q5_10
  | 10, 6 => exact Or.inr wh_q6_10
  | 10, 7 => exact Or.inr wh_q7_10
  | 10, 8 => exact Or.inr wh_q8_10
  | 10, 9 => exact Or.inr wh_q9_10
  | 10, 10 => exact absurd rfl hij
  | 10, 11 => exact Or.inl wh_q10_11
  | 10, 12 => exact Or.inl wh_q10_12
  | 11, 0 => exact Or.inr wh_q0_11
  | 11, 1 => exact Or.inr wh_q1_11
  | 11, 2 => exact Or.inr wh_q2_11
  | 11, 3 => exact Or.inr wh_q3_11
  | 11, 4 => exact Or.inr wh_q4_11
  | 11, 5 => exact Or.inr wh_q5_11
  | 11, 6 => exact Or.inr wh_q6_11
  | 11, 7 => exact Or.inr wh_q7_11
  | 11, 8 => exact Or.inr wh_q8_11
  | 11, 9 => exact Or.inr wh_q9_11
  | 11, 10 => exact Or.inr wh_q10_11
  | 11, 11 => exact absurd rfl hij
  | 11, 12 => exact Or.inl wh_q11_12
  | 12, 0 => exact Or.inr wh_q0_12
  | 12, 1 => exact Or.inr wh_q1_12
  | 12, 2 => exact Or.inr wh_q2_12
  | 12, 3 => exact Or.inr wh_q3_12
  | 12, 4 => exact Or.inr wh_q4_12
  | 12, 5 => exact Or.inr wh_q5_12
  | 12, 6 => exact Or.inr wh_q6_12
  | 12, 7 => exact Or.inr wh_q7_12
  | 12, 8 => exact Or.inr wh_q8_12
  | 12, 9 => exact Or.inr wh_q9_12
  | 12, 10 => exact Or.inr wh_q10_12
  | 12, 11 => exact Or.inr wh_q11_12
  | 12, 12 => exact absurd rfl hij
  | i + 13, j => omega
  | 0, j + 13 => omega
  | 1, j + 13 => omega
  | 2, j + 13 => omega
  | 3, j + 13 => omega
  | 4, j + 13 => omega
  | 5, j + 13 => omega
  | 6, j + 13 => omega
  | 7, j + 13 => omega
  | 8, j + 13 => omega
  | 9, j + 13 => omega
  | 10, j + 13 => omega
  | 11, j + 13 => omega
  | 12, j + 13 => omega
set_option maxRecDepth 100000 in
theorem wh_f7 : ∀ j : Nat, j < 6 → Cond.eq (.elem (.static "WindowsGive" "KIND_ABOVE" "[I") (.int (Int32.ofNat j))) (.int (wg_above.getD j 0)) ∈ wh_F := by decide +kernel
set_option maxRecDepth 100000 in
theorem wh_s1 : ∀ i : Nat, i < 13 → Cond.stringRef (wg_sown.getD i "") (wg_sidx.getD i 0) (wg_stx.getD i "") ∈ lw_tbl := by decide +kernel
set_option maxRecDepth 100000 in
theorem wh_n1 : ∀ w ∈ wg_nest, w ∈ lw_tbl := by decide +kernel
/-- the empty pool -/
def wg_S0 : wg_Sh := (fun _ _ => none, fun _ => 0, fun _ => 0, 0)
def wg_C0 : wg_C := fun _ _ => 0
def wg_M0 : wg_M := (fun _ _ => 0, fun _ => 0)
def H_init (Inv : wg_Sh → wg_C → wg_M → Prop) : Prop := ∃ (S1 : wg_Sh) (C1 : wg_C) (S2 : wg_Sh) (M2 : wg_M), f_X8_init NN (wg_nw wg_S0 8 0) (wg_zC wg_C0 0 (fun _ => 0)) = some (S1, C1) ∧ S1.2.2.2 = 55 ∧ f_X9_init (wg_nw S1 9 0) (wg_zM wg_M0 55) = some (S2, M2) ∧ Inv S2 C1 M2
set_option maxHeartbeats 4000000 in
set_option maxRecDepth 100000 in
/-- what the law's entry gives of the environment -/
theorem wh_env {p : Program} {s : State} {m : MethodId} {meth : Method} {c : Code} {b L : Nat} {xs : Nat → Int32} (C0 : lw_At p s m meth c b L xs) : ∃ E : wg_Ev, E.1 = s.heap.size ∧ wg_X p s m #[Value.ref b] meth c cL_law 4 RL E := by
  obtain ⟨hx, hb, hr, hml, hown, hts, hX, hbl, hlocks, hgv⟩ := id C0
  have hs := flat_of_before _ hgv
  have hA : ∀ a : Nat, a < s.heap.size → ¬ (fun q : Nat => s.heap.size ≤ q) a := fun a h => Nat.not_le.mpr h
  obtain ⟨c0, iS0, hKn0⟩ := u_known (C := RX0) (T := TX0) (N := 4) (n := 4) (fun w h => hts w (TB_lw h)) inX0 (hts _ (TB_lw k_97))
  obtain ⟨c1, iS1, hKn1⟩ := u_known (C := RX1) (T := TX1) (N := 6) (n := 6) (fun w h => hts w (TB_lw h)) inX1 (hts _ (TB_lw k_104))
  obtain ⟨c2, iS2, hKn2⟩ := u_known (C := RX2) (T := TX2) (N := 6) (n := 6) (fun w h => hts w (TB_lw h)) inX2 (hts _ (TB_lw k_195))
  obtain ⟨c3, iS3, hKn3⟩ := u_known (C := RX3) (T := TX3) (N := 4) (n := 4) (fun w h => hts w (TB_lw h)) inX3 (hts _ (TB_lw k_221))
  obtain ⟨c4, iS4, hKn4⟩ := u_known (C := RX4) (T := TX4) (N := 3) (n := 3) (fun w h => hts w (TB_lw h)) inX4 (hts _ (TB_lw k_264))
  obtain ⟨c5, iS5, hKn5⟩ := u_known (C := RX5) (T := TX5) (N := 7) (n := 7) (fun w h => hts w (TB_lw h)) inX5 (hts _ (TB_lw k_162))
  obtain ⟨c6, iS6, hKn6⟩ := u_known (C := RX6) (T := TX6) (N := 2) (n := 2) (fun w h => hts w (TB_lw h)) inX6 (hts _ (TB_lw k_434))
  obtain ⟨c7, iS7, hKn7⟩ := u_known (C := RX7) (T := TX7) (N := 3) (n := 3) (fun w h => hts w (TB_lw h)) inX7 (hts _ (TB_lw k_243))
  obtain ⟨c8, iS8, hKn8⟩ := u_known (C := RX8) (T := TX8) (N := 12) (n := 12) (fun w h => hts w (TB_lw h)) inX8 (hts _ (TB_lw k_89))
  obtain ⟨c9, iS9, hKn9⟩ := u_known (C := RX9) (T := TX9) (N := 44) (n := 44) (fun w h => hts w (TB_lw h)) inX9 (hts _ (TB_lw k_874))
  obtain ⟨dC, dI, hKc⟩ : ∃ (dC : Nat → ClassId) (dI : Nat → Nat → Nat), ∀ (k : Nat) (q : vw_C), vwCl[k]? = some q → u_Kn s q.1 q.2.1 q.2.2 (dC k) (dI k) := by
    refine ⟨fun k => [c0, c1, c2, c3, c4, c5, c6, c7, c8, c9].getD k c0, fun k => [iS0, iS1, iS2, iS3, iS4, iS5, iS6, iS7, iS8, iS9].getD k iS0, ?_⟩
    intro k q hq
    match k, hq with
    | 0, hq => cases hq; exact hKn0
    | 1, hq => cases hq; exact hKn1
    | 2, hq => cases hq; exact hKn2
    | 3, hq => cases hq; exact hKn3
    | 4, hq => cases hq; exact hKn4
    | 5, hq => cases hq; exact hKn5
    | 6, hq => cases hq; exact hKn6
    | 7, hq => cases hq; exact hKn7
    | 8, hq => cases hq; exact hKn8
    | 9, hq => cases hq; exact hKn9
    | k + 10, hq => simp [vwCl] at hq
  obtain ⟨y0, y0a, y0b⟩ := wh_prim (hts _ (wh_mem 139 (by decide +kernel) : Cond.arrayClass .int ∈ lw_tbl)) (fun C h => by cases h)
  obtain ⟨y1, y1a, y1b⟩ := wh_prim (hts _ (wh_mem 1015 (by decide +kernel) : Cond.arrayClass .boolean ∈ lw_tbl)) (fun C h => by cases h)
  have ao1 : (Cond.arrayOver (.object "WindowsGive$Pane")).before #[Value.ref b] s = true := hts _ (wh_mem 103 (by decide +kernel))
  have ao2 : (Cond.arrayOver (.object "WindowsGive$Sheet")).before #[Value.ref b] s = true := hts _ (wh_mem 261 (by decide +kernel))
  have ao3 : (Cond.arrayOver (.object "WindowsGive$Text")).before #[Value.ref b] s = true := hts _ (wh_mem 227 (by decide +kernel))
  obtain ⟨y2, y2a, y2b⟩ := wh_ref ao1
  obtain ⟨y3, y3a, y3b⟩ := wh_ref ao2
  obtain ⟨y4, y4a, y4b⟩ := wh_ref ao3
  obtain ⟨adK, adV, hStr, hStrE⟩ := vk_Sof (args := #[Value.ref b]) (s := s) (N := 13) (tm := wh_tm) (len := wg_slen) (byt := wg_sbyt) (A := fun q : Nat => s.heap.size ≤ q) (by decide) (fun i hi => hs _ (wh_f1 i hi)) (fun i hi => hs _ (wh_f2 i hi)) (fun i hi => hs _ (wh_f3 i hi)) (fun i hi => hs _ (wh_f4 i hi)) (fun i hi j hj => hs _ (wh_f5 i hi j hj)) (fun i j hi hj hij => (wh_f6 i hi j hj hij).imp (fun h => hs _ h) (fun h => hs _ h)) hA
  obtain ⟨kA, hkA, hkT⟩ := va_Tof (args := #[Value.ref b]) (s := s) (tm := .static "WindowsGive" "KIND_ABOVE" "[I") (ty := .int) (N := 6) (f := fun j => .int (wg_above.getD j 0)) (A := fun q : Nat => s.heap.size ≤ q) (by decide) (hs _ (by decide +kernel)) (va_eqt (hs _ (by decide +kernel))) (fun j hj => va_eqt (hs _ (wh_f7 j hj))) hA
  have hini8 : (Cond.initialized "WindowsGive").before #[Value.ref b] s = true := hts _ (TB_lw k_70)
  have hiniS : (Cond.initialized "java/lang/String").before #[Value.ref b] s = true := hts _ (TB_lw k_78)
  have hiniP : (Cond.initialized "jdk/internal/util/Preconditions").before #[Value.ref b] s = true := hts _ (TB_lw k_80)
  have hZ1 := va_Zof (A := fun q : Nat => s.heap.size ≤ q) (hts (Cond.laysStatic "java/lang/String" "COMPACT_STRINGS" "Z") (wh_mem 292 (by decide +kernel))) hiniS (va_eqi (z := 1) (hs _ (by decide +kernel))) hA
  have hZ2 := va_Zqof (A := fun q : Nat => s.heap.size ≤ q) (hts (Cond.laysStatic "jdk/internal/util/Preconditions" "SIOOBE_FORMATTER" "Ljava/util/function/BiFunction;") (wh_mem 308 (by decide +kernel))) hiniP (hs _ (by decide +kernel)) hA
  have hZ3 := va_Zof (A := fun q : Nat => s.heap.size ≤ q) (hts (Cond.laysStatic "WindowsGive" "KIND_ABOVE" "[I") (wh_mem 872 (by decide +kernel))) hini8 hkA hA
  have hcst : (Cond.castable "[I" "java/lang/Cloneable").before #[Value.ref b] s = true := hts _ (wh_mem 443 (by decide +kernel))
  refine ⟨(s.heap.size, (dC, dI), (fun k => [y0, y1, y2, y3, y4].getD k y0), kA, adK, adV), rfl, ⟨hx, hb, hml, hown, fun w h => hts w (TB_lw h)⟩, Nat.le_refl _, ⟨hKc, ?_⟩, ⟨⟨fun w hw => by obtain ⟨a, i, x, y, rfl⟩ := wg_nest_m w hw; exact va_Nw.of rfl (hts _ (wh_n1 _ hw)), ao1, ao2, ao3, va_Nw.of rfl hcst⟩, fun i hi => vk_R.of (hts _ (wh_s1 i hi)) (hStrE i hi), hStr, hZ1, hZ2, hZ3, hkT⟩, hlocks⟩
  intro k q hq
  match k, hq with
  | 0, hq => cases hq; exact ⟨y0a, y0b⟩
  | 1, hq => cases hq; exact ⟨y1a, y1b⟩
  | 2, hq => cases hq; exact ⟨y2a, y2b⟩
  | 3, hq => cases hq; exact ⟨y3a, y3b⟩
  | 4, hq => cases hq; exact ⟨y4a, y4b⟩
  | k + 5, hq => simp [wg_tys] at hq
set_option maxHeartbeats 4000000 in
set_option maxRecDepth 100000 in
/-- THE LAW FROM ITS ENTRY, over methods that agree -/
theorem whole_open {Inv : wg_Sh → wg_C → wg_M → Prop} (hA : H_all Inv) (hI0 : H_init Inv) {p : Program} {e : Env} {s : State} {m : MethodId} {below : List Frame} {meth : Method} {c : Code} (l : Launch) {b L : Nat} {xs : Nat → Int32} (hL : L ≤ 3072) (C0 : lw_At p s m meth c b L xs) : W p l e room_1 s m #[Value.ref b] below meth c s.heap [] 0 0 (lw_Z below #[Value.ref b] s) (entryFrame m ([Value.ref b] : List Value).toArray 4) := by
  obtain ⟨E, hE, X⟩ := wh_env C0
  obtain ⟨hx, hb, hr, hml, hown, hts, hX, hbl, hlocks, hgv⟩ := id C0
  have hbA : ¬ E.1 ≤ b := by rw [hE]; exact Nat.not_le.mpr hbl
  obtain ⟨S1, C1, S2, M2, h8, hn1, h9, hI⟩ := hI0
  have hret : ∀ (S : wg_Sh) (C : wg_C) (M : wg_M) (ad : Nat → Nat) (cells slots : Nat) (x3 : Int32), cells ≤ 600000 → slots ≤ 7302250 → GL p l e s m #[Value.ref b] below meth c (lw_Z below #[Value.ref b] s) E ad S cells slots 1298 C M [(0, .ref b), (1, .ref (ad 0)), (2, .ref (ad 55)), (3, .int x3)] [] := by
    intro S C M ad cells slots x3 hc hs
    refine wg_iconst (v := 1) X dL_law_1298 (by decide) ?_
    intro H locs ls hl hP hD hS
    refine va_forget (fun q hq => by have := hS.2.2 q hq; rw [← hE]; exact this) ?_
    refine W.widen hc hs ?_
    exact lw_ret hx hb hr hlocks dL_law_1299
  have K : wg_G p l e room_1 s m #[Value.ref b] below meth c (lw_Z below #[Value.ref b] s) 4 E (fun _ => 0) wg_S0 0 0 0 wg_C0 wg_M0 [(0, .ref b)] [] := by
    have hx0 : wg_ex wg_S0 (fun _ => 0) wg_S0 (fun _ => 0) := wg_ex_rf (fun a k b h => by cases h)
    refine wg_newC (S1 := wg_nw wg_S0 8 0) (C1 := wg_zC wg_C0 0 (fun _ => 0)) X cl8 (by decide) (by decide) df8 hx0 k_88 k_89 k_70 (Nat.le_of_ble_eq_true rfl) (Nat.le_of_ble_eq_true rfl) dL_law_0 rfl rfl (fun ad1 hx1 ha1 => ?_)
    refine wg_ren (lv' := [(0, .ref b)]) (st' := [.ref (ad1 0)]) rfl rfl ?_
    refine wg_dup X dL_law_3 rfl ?_
    refine wg_callIa (As := []) (rest := [.ref (ad1 0)]) X (c_X8_init l E ad1 _ hx1.1 NN _ wg_M0 h8) T_yX8_init k_90 dL_law_4 rfl rfl (Nat.le_of_ble_eq_true rfl) ⟨Nat.le_of_ble_eq_true rfl, Nat.le_of_ble_eq_true rfl⟩ ⟨Nat.le_of_ble_eq_true rfl, Nat.le_of_ble_eq_true rfl⟩ hx1 (fun ad2 hx2 ha2 => ?_)
    refine wg_ren (lv' := [(0, .ref b)]) (st' := [.ref (ad2 0)]) rfl (by simp only [Option.toList, List.nil_append, ha2 0 (by decide)]) ?_
    refine wg_astore_n (lv' := [(1, .ref (ad2 0)), (0, .ref b)]) X dL_law_7 rfl rfl (by decide) rfl ?_
    refine wg_newM (S1 := wg_nw S1 9 0) (M1 := wg_zM wg_M0 55) X hx2 k_873 k_874 k_86 (Nat.le_of_ble_eq_true rfl) (Nat.le_of_ble_eq_true rfl) dL_law_8 rfl (by rw [hn1]) (fun ad3 hx3 ha3 => ?_)
    rw [hn1]
    refine wg_ren (lv' := [(1, .ref (ad3 0)), (0, .ref b)]) (st' := [.ref (ad3 55)]) (by simp only [ha3 0 (by rw [hn1]; decide)]) rfl ?_
    refine wg_dup X dL_law_11 rfl ?_
    have h55 : (wg_nw S1 9 0).2.2.2 = 56 := by show S1.2.2.2 + 1 = 56; rw [hn1]
    refine wg_callIa (As := []) (rest := [.ref (ad3 55)]) X (c_X9_init l E ad3 _ hx3.1 C1 _ h9) T_yX9_init k_875 dL_law_12 rfl rfl (Nat.le_of_ble_eq_true rfl) ⟨Nat.le_of_ble_eq_true rfl, Nat.le_of_ble_eq_true rfl⟩ ⟨Nat.le_of_ble_eq_true rfl, Nat.le_of_ble_eq_true rfl⟩ hx3 (fun ad4 hx4 ha4 => ?_)
    refine wg_ren (lv' := [(1, .ref (ad4 0)), (0, .ref b)]) (st' := [.ref (ad4 55)]) (by simp only [ha4 0 (by rw [h55]; decide)]) (by simp only [Option.toList, List.nil_append, ha4 55 (by rw [h55]; decide)]) ?_
    refine wg_astore_n (lv' := [(2, .ref (ad4 55)), (1, .ref (ad4 0)), (0, .ref b)]) X dL_law_15 rfl rfl (by decide) rfl ?_
    refine wg_iconst (v := 0) X dL_law_16 (by decide) ?_
    refine wg_istore_n (lv' := [(3, .int 0), (2, .ref (ad4 55)), (1, .ref (ad4 0)), (0, .ref b)]) X dL_law_17 rfl rfl (by decide) rfl ?_
    refine wg_pick [3, 2, 1, 0] (lv' := [(0, .ref b), (1, .ref (ad4 0)), (2, .ref (ad4 55)), (3, .int 0)]) rfl ?_
    exact law_main X hX hbl hbA hL hA hret (L + 1) 0 0 0 S2 C1 M2 ad4 _ _ (by omega) rfl (by decide) rfl hI hx4.1 (Nat.le_of_ble_eq_true rfl) (Nat.le_of_ble_eq_true rfl)
  rw [lg_entry_eq]
  exact K s.heap [] _ (lv_entry [Value.ref b] (n := 4) (Nat.le_of_ble_eq_true rfl)) (fun k q h => by simp [wg_L, wg_S0] at h) ⟨fun i j p q h => by simp [wg_L, wg_S0] at h, fun k q h => by simp [wg_L, wg_S0] at h⟩ va_S.rf
