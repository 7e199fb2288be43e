/-! ===== starts, ends, calls ===== -/
/-- a contract of any method that is no native, by its walk -/
theorem wg_ofWF {l : Launch} {y : MethodName} {ws ws' : List Cond} {rm : Room} {Pc : Array Value → State → Prop} {Qc : Array Value → State → Outcome → State → Prop} {mc ms : Nat} {free : Addr → Prop} {cc : ByteArray} {maxL : Nat} {ret : Option FieldType}
    (hy : plainFor y = true) (hw : ws = Cond.code y cc maxL ret :: ws')
    (body : ∀ p e s m args below meth c s₁, BodyLoose p l y (headSpec ws rm) cc maxL ret e s m args below meth c s₁ → c.maxLocals = maxL → Pc args s →
      W p l e (headSpec ws rm).room s m args below meth c s.heap [] 0 0 (MQ below Qc args s mc ms free) (entryFrame m args maxL)) : Met l y ws rm Pc Qc mc ms free := by
  refine MetFree.of_bodySF (code := cc) (maxLocals := maxL) (ret := ret) hy ?_ ?_
  · intro args s m h hn
    obtain ⟨meth, c, h1, h2, h3, h4, h5, h6, -, -⟩ := Cond.code_spec hn (atoms_spec (ws := ws) h _ (by rw [hw]; exact List.mem_cons_self))
    exact ⟨meth, c, h1, h2, h3, h4, h5, h6⟩
  · intro p e s m args below meth c s₁ B hml hP _
    have hh0 : s₁.heap = s.heap := by rw [B.state]; rfl
    obtain ⟨t, a1, o, b1, b2, b3⟩ := body p e s m args below meth c s₁ B hml hP s₁ hh0 (Stand.of_body B)
    exact ⟨t, o, a1, b1, b2, ⟨b3.1, b3.2⟩⟩
section WGCALLS
variable {p : Program} {l : Launch} {e : Env} {R : Room} {s : State} {m : MethodId} {args : Array Value} {below : List Frame} {meth : Method} {c : Code} {Q : State → Prop} {nL : Nat} {E : wg_Ev} {ad : Nat → Nat} {S : wg_Sh} {cells slots pc : Nat} {C C0 : wg_C} {M M0 : wg_M} {lv lv' : List (Nat × Value)} {st : List Value} {cc : ByteArray} {own : String}
theorem wg_start {y : MethodName} {b : ByteArray} {n mc ms : Nat} {r : Option FieldType} {rm : Room} {av : List Value} {Qc : Array Value → State → Outcome → State → Prop} (hy : plainFor y = true) (ho : y.cls = own) (hn : (lg_sl av).length ≤ n)
    (body : ∀ (p : Program) (e : Env) (s : State) (m : MethodId) (below : List Frame) (meth : Method) (c : Code), wg_X p s m av.toArray meth c b n own E → meth.sig.returnType = r → meth.name = y.name →
      wg_G p l e rm s m av.toArray below meth c (MQ below Qc av.toArray s mc ms (wg_A E)) n E ad S 0 0 0 C M (lv_args 0 av) []) :
    Met l y (WS y b n r) rm (va_Pc av (wg_Pool E ad S C M)) Qc mc ms (wg_A E) := by
  refine wg_ofWF (cc := b) (maxL := n) (ret := r) hy rfl ?_
  intro p e s m args below meth c s₁ B hml hv
  obtain ⟨rfl, h0, hP, hD, hK, hU⟩ := hv
  have hts := atoms_spec (ws := WS y b n r) B.pre
  have hown : s.vm.findClass own = some m.cls := ho ▸ findClass_of_methodNamed B.named
  have X : wg_X p s m av.toArray meth c b n own E := ⟨⟨B.exec, B.bytes, hml, hown, fun w hw => hts w (List.mem_cons_of_mem _ hw)⟩, h0, hK, hU, B.notSynchronized⟩
  have k := body p e s m below meth c X B.returns (name_of_methodNamed B.named B.method).1
  rw [lg_entry_eq]
  exact k s.heap [] _ (lv_entry av hn) hP hD va_S.rf
theorem wg_pool_end (X : wg_X p s m args meth c cc nL own E) {H : Heap} {locs : List Loc} {t : State} (hP : va_P E.2.1 vwCl (wg_L E.2.2.1 ad S C M) H) (hD : va_D (wg_A E) (wg_L E.2.2.1 ad S C M)) (hS : va_S (wg_A E) s.heap H locs) (ht : t.heap = H) (hW : s.WarmedH t.vm) : wg_Pool E ad S C M t :=
  ⟨by rw [ht]; exact Nat.le_trans X.2.1 hS.1, by rw [ht]; exact hP, hD, va_K.moved hW.alike X.2.2.1, by rw [ht]; exact (X.2.2.2.1.kept (fun a h1 h2 => hS.2.1 a h1 h2)).warm hW⟩
theorem wg_iret (X : wg_X p s m args meth c cc nL own E) {v v0 : Int32} (hq : v = v0 ∧ C = C0 ∧ M = M0) (hr : meth.sig.returnType = some .int) (d : decode cc pc = .ok (.ireturn, 1)) : wg_G p l e R s m args below meth c (MQ below (wg_Qi E ad S v0 C0 M0) args s cells slots (wg_A E)) nL E ad S cells slots pc C M lv [.int v] := by
  obtain ⟨rfl, rfl, rfl⟩ := hq
  exact fun H locs ls hl hP hD hS => W.iret X.1.1 X.1.2.1 hr (fun t ht hW => ⟨⟨v, (), rfl, rfl, wg_pool_end X hP hD hS ht hW⟩, hS.F ht⟩) hS.2.2 d X.2.2.2.2
theorem wg_zret (X : wg_X p s m args meth c cc nL own E) {v v0 : Int32} (hq : v = v0 ∧ C = C0 ∧ M = M0) (hr : meth.sig.returnType = some .boolean) (hv : v = 0 ∨ v = 1) (d : decode cc pc = .ok (.ireturn, 1)) : wg_G p l e R s m args below meth c (MQ below (wg_Qi E ad S v0 C0 M0) args s cells slots (wg_A E)) nL E ad S cells slots pc C M lv [.int v] := by
  obtain ⟨rfl, rfl, rfl⟩ := hq
  exact fun H locs ls hl hP hD hS => W.zret X.1.1 X.1.2.1 hr (by rcases hv with rfl | rfl <;> rfl) (fun t ht hW => ⟨⟨v, (), rfl, rfl, wg_pool_end X hP hD hS ht hW⟩, hS.F ht⟩) hS.2.2 d X.2.2.2.2
theorem wg_lret (X : wg_X p s m args meth c cc nL own E) {v v0 : Int64} (hq : v = v0 ∧ C = C0 ∧ M = M0) (hr : meth.sig.returnType = some .long) (d : decode cc pc = .ok (.lreturn, 1)) : wg_G p l e R s m args below meth c (MQ below (wg_Ql E ad S v0 C0 M0) args s cells slots (wg_A E)) nL E ad S cells slots pc C M lv [.long v] := by
  obtain ⟨rfl, rfl, rfl⟩ := hq
  exact fun H locs ls hl hP hD hS => W.lret X.1.1 X.1.2.1 hr (fun t ht hW => ⟨⟨v, (), rfl, rfl, wg_pool_end X hP hD hS ht hW⟩, hS.F ht⟩) hS.2.2 d X.2.2.2.2
theorem wg_vret (X : wg_X p s m args meth c cc nL own E) (hq : C = C0 ∧ M = M0) (hr : meth.sig.returnType = none) (d : decode cc pc = .ok (.return_, 1)) : wg_G p l e R s m args below meth c (MQ below (wg_Qv E ad S C0 M0) args s cells slots (wg_A E)) nL E ad S cells slots pc C M lv [] := by
  obtain ⟨rfl, rfl⟩ := hq
  exact fun H locs ls hl hP hD hS => W.vret X.1.1 X.1.2.1 hr (fun t ht hW => ⟨⟨(), rfl, trivial, wg_pool_end X hP hD hS ht hW⟩, hS.F ht⟩) hS.2.2 d X.2.2.2.2
/-- a method that is called: its words -/
def wg_TV (Cn : String) (y : MethodName) (b : ByteArray) (n : Nat) (r : Option FieldType) (np : Nat) : Prop := Cond.instanceMethod y ∈ TB ∧ Cond.selects Cn y y ∈ TB ∧ Cond.initialized Cn ∈ TB ∧ Cond.code y b n r ∈ TB ∧ (y.cls = Cn ∧ y.cls ≠ "java/lang/invoke/MethodHandle" ∧ y.cls ≠ "java/lang/invoke/VarHandle" ∧ (parseMethodDescriptor y.desc).map (fun d => d.parameters.length) = some np)
def wg_TS (y : MethodName) (b : ByteArray) (n : Nat) (r : Option FieldType) (np : Nat) : Prop := Cond.static y ∈ TB ∧ Cond.initialized y.cls ∈ TB ∧ Cond.code y b n r ∈ TB ∧ (y.cls ≠ "java/lang/invoke/MethodHandle" ∧ y.cls ≠ "java/lang/invoke/VarHandle" ∧ (parseMethodDescriptor y.desc).map (fun d => d.parameters.length) = some np)
theorem wg_callVi (X : wg_X p s m args meth c cc nL own E) {y : MethodName} {b : ByteArray} {n np fr lo idx : Nat} {r : Option FieldType} {As rest : List Value} {r0 : Int32} {ci a : Nat} {Cn : String} {T : u_T} {ty : Nat → FieldType} (hM : wg_Ci l y b n r fr lo E ad S C M (.ref (ad a) :: As) r0 C0 M0) (ht : wg_TV Cn y b n r np) (hlk : Cond.methodLink own idx y ∈ TB) (hc : wg_cls ci Cn T ty) (ha : wg_id S a ci) (d : decode cc pc = .ok (.invokevirtual idx, 3)) (hst : st = As.reverse ++ .ref (ad a) :: rest) (hn : As.length = np) (hw : (rest.map fun v => v.category).sum ≤ 8) (hR : fr + 1 ≤ R.frames ∧ 8 + (n + 11) + lo ≤ R.locals) (hcs : cells ≤ R.cells ∧ slots ≤ R.slots) (k : wg_G p l e R s m args below meth c Q nL E ad S cells slots (pc + 3) C0 M0 lv (.int r0 :: rest)) : wg_G p l e R s m args below meth c Q nL E ad S cells slots pc C M lv st := by
  intro H locs ls hl hP hD hS
  refine va_calli (va_runV (As := As) (rest := rest) X.1 hM (cwV np X.1.2.2.2.2 (TB_V hlk ht.1 ht.2.1 ht.2.2.1 ht.2.2.2.1) rfl rfl rfl ht.2.2.2.2 hR) ⟨wg_Pool.blind, va_recv X.2.2.1 hP hc.2.1 ((wg_L_get ha.1).trans (by rw [wg_E_obj ha hc.1])), fun U hU hW => ⟨rfl, wg_pool_end X hP hD hS hU hW⟩⟩ rfl hn hl.1 hst (lv_room hw) d hcs) hS (fun q _ h => h) (fun q h => h) (fun r u t H1 locs1 ht hvm hw hB hz1 hk1 hS1 => ?_)
  obtain ⟨-, hP1, hD1, -, -⟩ := hB
  rw [ht] at hP1
  subst hw
  exact k H1 locs1 ls hl hP1 hD1 hS1
theorem wg_callSi (X : wg_X p s m args meth c cc nL own E) {y : MethodName} {b : ByteArray} {n np fr lo idx : Nat} {r : Option FieldType} {As rest : List Value} {r0 : Int32} (hM : wg_Ci l y b n r fr lo E ad S C M As r0 C0 M0) (ht : wg_TS y b n r np) (hlk : Cond.methodLink own idx y ∈ TB) (d : decode cc pc = .ok (.invokestatic idx, 3)) (hst : st = As.reverse ++ rest) (hn : As.length = np) (hw : (rest.map fun v => v.category).sum ≤ 8) (hR : fr + 1 ≤ R.frames ∧ 8 + (n + 11) + lo ≤ R.locals) (hcs : cells ≤ R.cells ∧ slots ≤ R.slots) (k : wg_G p l e R s m args below meth c Q nL E ad S cells slots (pc + 3) C0 M0 lv (.int r0 :: rest)) : wg_G p l e R s m args below meth c Q nL E ad S cells slots pc C M lv st := by
  intro H locs ls hl hP hD hS
  refine va_calli (va_runS (As := As) (rest := rest) X.1 hM (va_cwS np X.1.2.2.2.2 (TB_S hlk ht.1 ht.2.1 ht.2.2.1) rfl rfl rfl ht.2.2.2 hR) ⟨wg_Pool.blind, fun U hU hW => ⟨rfl, wg_pool_end X hP hD hS hU hW⟩⟩ rfl hn hl.1 hst (lv_room hw) d hcs) hS (fun q _ h => h) (fun q h => h) (fun r u t H1 locs1 ht hvm hw hB hz1 hk1 hS1 => ?_)
  obtain ⟨-, hP1, hD1, -, -⟩ := hB
  rw [ht] at hP1
  subst hw
  exact k H1 locs1 ls hl hP1 hD1 hS1
theorem wg_callNi (X : wg_X p s m args meth c cc nL own E) {y : MethodName} {b : ByteArray} {n np fr lo idx : Nat} {r : Option FieldType} {As rest : List Value} {r0 : Int32} {host : String} (hM : wg_Ci l y b n r fr lo E ad S C M As r0 C0 M0) (ht : wg_TS y b n r np) (hlk : Cond.methodLinkNest own idx y host ∈ wg_nest) (d : decode cc pc = .ok (.invokestatic idx, 3)) (hst : st = As.reverse ++ rest) (hn : As.length = np) (hw : (rest.map fun v => v.category).sum ≤ 8) (hR : fr + 1 ≤ R.frames ∧ 8 + (n + 11) + lo ≤ R.locals) (hcs : cells ≤ R.cells ∧ slots ≤ R.slots) (k : wg_G p l e R s m args below meth c Q nL E ad S cells slots (pc + 3) C0 M0 lv (.int r0 :: rest)) : wg_G p l e R s m args below meth c Q nL E ad S cells slots pc C M lv st := by
  intro H locs ls hl hP hD hS
  refine va_calli (va_runSN (As := As) (rest := rest) X.1 hM ⟨va_cnB np X.1.2.2.2.2 (WS_good ht.2.2.1) rfl rfl rfl (X.2.2.2.1.1.1 _ hlk) (X.1.2.2.2.2 _ ht.2.1) ht.2.2.2 hR, X.1.2.2.2.2 _ ht.1, trivial⟩ ⟨wg_Pool.blind, fun U hU hW => ⟨rfl, wg_pool_end X hP hD hS hU hW⟩⟩ rfl hn hl.1 hst (lv_room hw) d hcs) hS (fun q _ h => h) (fun q h => h) (fun r u t H1 locs1 ht hvm hw hB hz1 hk1 hS1 => ?_)
  obtain ⟨-, hP1, hD1, -, -⟩ := hB
  rw [ht] at hP1
  subst hw
  exact k H1 locs1 ls hl hP1 hD1 hS1
theorem wg_callVl (X : wg_X p s m args meth c cc nL own E) {y : MethodName} {b : ByteArray} {n np fr lo idx : Nat} {r : Option FieldType} {As rest : List Value} {r0 : Int64} {ci a : Nat} {Cn : String} {T : u_T} {ty : Nat → FieldType} (hM : wg_Cl l y b n r fr lo E ad S C M (.ref (ad a) :: As) r0 C0 M0) (ht : wg_TV Cn y b n r np) (hlk : Cond.methodLink own idx y ∈ TB) (hc : wg_cls ci Cn T ty) (ha : wg_id S a ci) (d : decode cc pc = .ok (.invokevirtual idx, 3)) (hst : st = As.reverse ++ .ref (ad a) :: rest) (hn : As.length = np) (hw : (rest.map fun v => v.category).sum ≤ 8) (hR : fr + 1 ≤ R.frames ∧ 8 + (n + 11) + lo ≤ R.locals) (hcs : cells ≤ R.cells ∧ slots ≤ R.slots) (k : wg_G p l e R s m args below meth c Q nL E ad S cells slots (pc + 3) C0 M0 lv (.long r0 :: rest)) : wg_G p l e R s m args below meth c Q nL E ad S cells slots pc C M lv st := by
  intro H locs ls hl hP hD hS
  refine va_calll (va_runV (As := As) (rest := rest) X.1 hM (cwV np X.1.2.2.2.2 (TB_V hlk ht.1 ht.2.1 ht.2.2.1 ht.2.2.2.1) rfl rfl rfl ht.2.2.2.2 hR) ⟨wg_Pool.blind, va_recv X.2.2.1 hP hc.2.1 ((wg_L_get ha.1).trans (by rw [wg_E_obj ha hc.1])), fun U hU hW => ⟨rfl, wg_pool_end X hP hD hS hU hW⟩⟩ rfl hn hl.1 hst (lv_room hw) d hcs) hS (fun q _ h => h) (fun q h => h) (fun r u t H1 locs1 ht hvm hw hB hz1 hk1 hS1 => ?_)
  obtain ⟨-, hP1, hD1, -, -⟩ := hB
  rw [ht] at hP1
  subst hw
  exact k H1 locs1 ls hl hP1 hD1 hS1
theorem wg_callSl (X : wg_X p s m args meth c cc nL own E) {y : MethodName} {b : ByteArray} {n np fr lo idx : Nat} {r : Option FieldType} {As rest : List Value} {r0 : Int64} (hM : wg_Cl l y b n r fr lo E ad S C M As r0 C0 M0) (ht : wg_TS y b n r np) (hlk : Cond.methodLink own idx y ∈ TB) (d : decode cc pc = .ok (.invokestatic idx, 3)) (hst : st = As.reverse ++ rest) (hn : As.length = np) (hw : (rest.map fun v => v.category).sum ≤ 8) (hR : fr + 1 ≤ R.frames ∧ 8 + (n + 11) + lo ≤ R.locals) (hcs : cells ≤ R.cells ∧ slots ≤ R.slots) (k : wg_G p l e R s m args below meth c Q nL E ad S cells slots (pc + 3) C0 M0 lv (.long r0 :: rest)) : wg_G p l e R s m args below meth c Q nL E ad S cells slots pc C M lv st := by
  intro H locs ls hl hP hD hS
  refine va_calll (va_runS (As := As) (rest := rest) X.1 hM (va_cwS np X.1.2.2.2.2 (TB_S hlk ht.1 ht.2.1 ht.2.2.1) rfl rfl rfl ht.2.2.2 hR) ⟨wg_Pool.blind, fun U hU hW => ⟨rfl, wg_pool_end X hP hD hS hU hW⟩⟩ rfl hn hl.1 hst (lv_room hw) d hcs) hS (fun q _ h => h) (fun q h => h) (fun r u t H1 locs1 ht hvm hw hB hz1 hk1 hS1 => ?_)
  obtain ⟨-, hP1, hD1, -, -⟩ := hB
  rw [ht] at hP1
  subst hw
  exact k H1 locs1 ls hl hP1 hD1 hS1
theorem wg_callNl (X : wg_X p s m args meth c cc nL own E) {y : MethodName} {b : ByteArray} {n np fr lo idx : Nat} {r : Option FieldType} {As rest : List Value} {r0 : Int64} {host : String} (hM : wg_Cl l y b n r fr lo E ad S C M As r0 C0 M0) (ht : wg_TS y b n r np) (hlk : Cond.methodLinkNest own idx y host ∈ wg_nest) (d : decode cc pc = .ok (.invokestatic idx, 3)) (hst : st = As.reverse ++ rest) (hn : As.length = np) (hw : (rest.map fun v => v.category).sum ≤ 8) (hR : fr + 1 ≤ R.frames ∧ 8 + (n + 11) + lo ≤ R.locals) (hcs : cells ≤ R.cells ∧ slots ≤ R.slots) (k : wg_G p l e R s m args below meth c Q nL E ad S cells slots (pc + 3) C0 M0 lv (.long r0 :: rest)) : wg_G p l e R s m args below meth c Q nL E ad S cells slots pc C M lv st := by
  intro H locs ls hl hP hD hS
  refine va_calll (va_runSN (As := As) (rest := rest) X.1 hM ⟨va_cnB np X.1.2.2.2.2 (WS_good ht.2.2.1) rfl rfl rfl (X.2.2.2.1.1.1 _ hlk) (X.1.2.2.2.2 _ ht.2.1) ht.2.2.2 hR, X.1.2.2.2.2 _ ht.1, trivial⟩ ⟨wg_Pool.blind, fun U hU hW => ⟨rfl, wg_pool_end X hP hD hS hU hW⟩⟩ rfl hn hl.1 hst (lv_room hw) d hcs) hS (fun q _ h => h) (fun q h => h) (fun r u t H1 locs1 ht hvm hw hB hz1 hk1 hS1 => ?_)
  obtain ⟨-, hP1, hD1, -, -⟩ := hB
  rw [ht] at hP1
  subst hw
  exact k H1 locs1 ls hl hP1 hD1 hS1
theorem wg_callVv (X : wg_X p s m args meth c cc nL own E) {y : MethodName} {b : ByteArray} {n np fr lo idx : Nat} {r : Option FieldType} {As rest : List Value}  {ci a : Nat} {Cn : String} {T : u_T} {ty : Nat → FieldType} (hM : wg_Cv l y b n r fr lo E ad S C M (.ref (ad a) :: As) C0 M0) (ht : wg_TV Cn y b n r np) (hlk : Cond.methodLink own idx y ∈ TB) (hc : wg_cls ci Cn T ty) (ha : wg_id S a ci) (d : decode cc pc = .ok (.invokevirtual idx, 3)) (hst : st = As.reverse ++ .ref (ad a) :: rest) (hn : As.length = np) (hw : (rest.map fun v => v.category).sum ≤ 8) (hR : fr + 1 ≤ R.frames ∧ 8 + (n + 11) + lo ≤ R.locals) (hcs : cells ≤ R.cells ∧ slots ≤ R.slots) (k : wg_G p l e R s m args below meth c Q nL E ad S cells slots (pc + 3) C0 M0 lv rest) : wg_G p l e R s m args below meth c Q nL E ad S cells slots pc C M lv st := by
  intro H locs ls hl hP hD hS
  refine va_callv (va_runV (As := As) (rest := rest) X.1 hM (cwV np X.1.2.2.2.2 (TB_V hlk ht.1 ht.2.1 ht.2.2.1 ht.2.2.2.1) rfl rfl rfl ht.2.2.2.2 hR) ⟨wg_Pool.blind, va_recv X.2.2.1 hP hc.2.1 ((wg_L_get ha.1).trans (by rw [wg_E_obj ha hc.1])), fun U hU hW => ⟨rfl, wg_pool_end X hP hD hS hU hW⟩⟩ rfl hn hl.1 hst (lv_room hw) d hcs) hS (fun q _ h => h) (fun q h => h) (fun u t H1 locs1 ht hvm hw hB hz1 hk1 hS1 => ?_)
  obtain ⟨-, hP1, hD1, -, -⟩ := hB
  rw [ht] at hP1
  exact k H1 locs1 ls hl hP1 hD1 hS1
theorem wg_callSv (X : wg_X p s m args meth c cc nL own E) {y : MethodName} {b : ByteArray} {n np fr lo idx : Nat} {r : Option FieldType} {As rest : List Value}  (hM : wg_Cv l y b n r fr lo E ad S C M As C0 M0) (ht : wg_TS y b n r np) (hlk : Cond.methodLink own idx y ∈ TB) (d : decode cc pc = .ok (.invokestatic idx, 3)) (hst : st = As.reverse ++ rest) (hn : As.length = np) (hw : (rest.map fun v => v.category).sum ≤ 8) (hR : fr + 1 ≤ R.frames ∧ 8 + (n + 11) + lo ≤ R.locals) (hcs : cells ≤ R.cells ∧ slots ≤ R.slots) (k : wg_G p l e R s m args below meth c Q nL E ad S cells slots (pc + 3) C0 M0 lv rest) : wg_G p l e R s m args below meth c Q nL E ad S cells slots pc C M lv st := by
  intro H locs ls hl hP hD hS
  refine va_callv (va_runS (As := As) (rest := rest) X.1 hM (va_cwS np X.1.2.2.2.2 (TB_S hlk ht.1 ht.2.1 ht.2.2.1) rfl rfl rfl ht.2.2.2 hR) ⟨wg_Pool.blind, fun U hU hW => ⟨rfl, wg_pool_end X hP hD hS hU hW⟩⟩ rfl hn hl.1 hst (lv_room hw) d hcs) hS (fun q _ h => h) (fun q h => h) (fun u t H1 locs1 ht hvm hw hB hz1 hk1 hS1 => ?_)
  obtain ⟨-, hP1, hD1, -, -⟩ := hB
  rw [ht] at hP1
  exact k H1 locs1 ls hl hP1 hD1 hS1
theorem wg_callNv (X : wg_X p s m args meth c cc nL own E) {y : MethodName} {b : ByteArray} {n np fr lo idx : Nat} {r : Option FieldType} {As rest : List Value}  {host : String} (hM : wg_Cv l y b n r fr lo E ad S C M As C0 M0) (ht : wg_TS y b n r np) (hlk : Cond.methodLinkNest own idx y host ∈ wg_nest) (d : decode cc pc = .ok (.invokestatic idx, 3)) (hst : st = As.reverse ++ rest) (hn : As.length = np) (hw : (rest.map fun v => v.category).sum ≤ 8) (hR : fr + 1 ≤ R.frames ∧ 8 + (n + 11) + lo ≤ R.locals) (hcs : cells ≤ R.cells ∧ slots ≤ R.slots) (k : wg_G p l e R s m args below meth c Q nL E ad S cells slots (pc + 3) C0 M0 lv rest) : wg_G p l e R s m args below meth c Q nL E ad S cells slots pc C M lv st := by
  intro H locs ls hl hP hD hS
  refine va_callv (va_runSN (As := As) (rest := rest) X.1 hM ⟨va_cnB np X.1.2.2.2.2 (WS_good ht.2.2.1) rfl rfl rfl (X.2.2.2.1.1.1 _ hlk) (X.1.2.2.2.2 _ ht.2.1) ht.2.2.2 hR, X.1.2.2.2.2 _ ht.1, trivial⟩ ⟨wg_Pool.blind, fun U hU hW => ⟨rfl, wg_pool_end X hP hD hS hU hW⟩⟩ rfl hn hl.1 hst (lv_room hw) d hcs) hS (fun q _ h => h) (fun q h => h) (fun u t H1 locs1 ht hvm hw hB hz1 hk1 hS1 => ?_)
  obtain ⟨-, hP1, hD1, -, -⟩ := hB
  rw [ht] at hP1
  exact k H1 locs1 ls hl hP1 hD1 hS1
end WGCALLS
/-! ===== the language of what methods compute ===== -/
/-- a test that must hold -/
def ck {α : Type} (c : Prop) [Decidable c] (k : Option α) : Option α := if c then k else none
theorem ck_some {α : Type} {c : Prop} [Decidable c] {k : Option α} {y : α} (h : ck c k = some y) : c ∧ k = some y := by
  unfold ck at h
  by_cases hc : c
  · rw [if_pos hc] at h; exact ⟨hc, h⟩
  · rw [if_neg hc] at h; cases h
theorem ck_pos {α : Type} {c : Prop} [Decidable c] {k : Option α} (h : c) : ck c k = k := if_pos h
/-- a number gets a name -/
def lt_ {α β : Type} (x : α) (k : α → Option β) : Option β := k x
theorem lt_some {α β : Type} {x : α} {k : α → Option β} {y : β} (h : lt_ x k = some y) : ∃ z, z = x ∧ k z = some y := ⟨x, rfl, h⟩
/-- one behind the other -/
def bd {α β : Type} (x : Option α) (k : α → Option β) : Option β := match x with
  | none => none
  | some a => k a
theorem bd_some {α β : Type} {x : Option α} {k : α → Option β} {y : β} (h : bd x k = some y) : ∃ a, x = some a ∧ k a = some y := by
  cases x with
  | none => cases h
  | some a => exact ⟨a, rfl, h⟩
theorem bd_eq {α β : Type} (a : α) (k : α → Option β) : bd (some a) k = k a := rfl
/-- a loop: at most n rounds; a round goes on (inl) or ends it (inr) -/
def lp {σ ρ : Type} (b : σ → Option (σ ⊕ ρ)) : Nat → σ → Option ρ
  | 0, _ => none
  | n + 1, x => bd (b x) (fun o => match o with
    | .inl y => lp b n y
    | .inr r => some r)
theorem lp_some {σ ρ : Type} {b : σ → Option (σ ⊕ ρ)} {n : Nat} {x : σ} {r : ρ} (h : lp b (n + 1) x = some r) : ∃ o, b x = some o ∧ (match o with | .inl y => lp b n y | .inr r => some r) = some r := bd_some h
theorem lp_inl {σ ρ : Type} {b : σ → Option (σ ⊕ ρ)} {n : Nat} {x y : σ} (h : b x = some (.inl y)) : lp b (n + 1) x = lp b n y := by rw [lp, h]; rfl
theorem lp_inr {σ ρ : Type} {b : σ → Option (σ ⊕ ρ)} {n : Nat} {x : σ} {r : ρ} (h : b x = some (.inr r)) : lp b (n + 1) x = some r := by rw [lp, h]; rfl
theorem sm_inj {α : Type} {a b : α} (h : some a = some b) : a = b := Option.some.inj h
