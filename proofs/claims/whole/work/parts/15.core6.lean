/-! ===== cells that come: the pool grows ===== -/
def wg_nw (S : wg_Sh) (kd len : Nat) : wg_Sh := (fun a k => if a = S.2.2.2 then none else S.1 a k, va_up S.2.1 S.2.2.2 len, va_up S.2.2.1 S.2.2.2 kd, S.2.2.2 + 1)
def wg_zC (C : wg_C) (n : Nat) (f : Nat → Int32) : wg_C := fun b j => if b = n then f j else C b j
def wg_zM (M : wg_M) (n : Nat) : wg_M := (fun b j => if b = n then 0 else M.1 b j, va_up M.2 n 0)
def wg_sR (S : wg_Sh) (a k : Nat) (b : Option Nat) : wg_Sh := (fun x j => if x = a then (if j = k then b else S.1 x j) else S.1 x j, S.2)
/-- references lead to cells that are there -/
def wg_wf (S : wg_Sh) : Prop := ∀ a k b, S.1 a k = some b → b < S.2.2.2
theorem wg_wf_nw {S : wg_Sh} (h : wg_wf S) (kd len : Nat) : wg_wf (wg_nw S kd len) := by
  intro a k b hb
  simp only [wg_nw] at hb ⊢
  by_cases ha : a = S.2.2.2
  · rw [if_pos ha] at hb; cases hb
  · rw [if_neg ha] at hb; exact Nat.lt_succ_of_lt (h a k b hb)
theorem wg_wf_sR {S : wg_Sh} (h : wg_wf S) (a k : Nat) {b : Option Nat} (hb : ∀ t, b = some t → t < S.2.2.2) : wg_wf (wg_sR S a k b) := by
  intro x j t ht
  simp only [wg_sR] at ht ⊢
  by_cases hx : x = a
  · rw [if_pos hx] at ht
    by_cases hj : j = k
    · rw [if_pos hj] at ht; exact hb t ht
    · rw [if_neg hj] at ht; exact h x j t ht
  · rw [if_neg hx] at ht; exact h x j t ht
/-- addresses before and behind a growth -/
def wg_ext (S : wg_Sh) (ad ad1 : Nat → Nat) : Prop := ∀ a, a < S.2.2.2 → ad1 a = ad a
/-- a growth of the whole -/
def wg_ex (S : wg_Sh) (ad : Nat → Nat) (S1 : wg_Sh) (ad1 : Nat → Nat) : Prop := wg_wf S1 ∧ S.2.2.2 ≤ S1.2.2.2 ∧ wg_ext S ad ad1
theorem wg_ex_rf {S : wg_Sh} {ad : Nat → Nat} (h : wg_wf S) : wg_ex S ad S ad := ⟨h, Nat.le_refl _, fun _ _ => rfl⟩
theorem wg_ex_tr {S S1 S2 : wg_Sh} {ad ad1 ad2 : Nat → Nat} (h1 : wg_ex S ad S1 ad1) (h2 : wg_ex S1 ad1 S2 ad2) : wg_ex S ad S2 ad2 := ⟨h2.1, Nat.le_trans h1.2.1 h2.2.1, fun a ha => (h2.2.2 a (Nat.lt_of_lt_of_le ha h1.2.1)).trans (h1.2.2 a ha)⟩
theorem wg_ex_nw {S : wg_Sh} {ad ad1 : Nat → Nat} (h : wg_wf S) (kd len : Nat) (hx : wg_ext S ad ad1) : wg_ex S ad (wg_nw S kd len) ad1 := ⟨wg_wf_nw h kd len, Nat.le_succ _, hx⟩
theorem wg_ex_sR {S : wg_Sh} {ad : Nat → Nat} (h : wg_wf S) (a k : Nat) {b : Nat} (hb : b < S.2.2.2) : wg_ex S ad (wg_sR S a k (some b)) ad := ⟨wg_wf_sR h a k (fun t ht => by cases ht; exact hb), Nat.le_refl _, fun _ _ => rfl⟩
theorem wg_ext_up (S : wg_Sh) (ad : Nat → Nat) (q : Nat) : wg_ext S ad (va_up ad S.2.2.2 q) := fun a h => by simp [va_up, Nat.ne_of_lt h]
theorem wg_E_grow {cy : Nat → ClassId} {ad : Nat → Nat} {S : wg_Sh} {C C1 : wg_C} {M M1 : wg_M} {kd len q i : Nat} (hw : wg_wf S) (hi : i < S.2.2.2) (h1 : C1 i = C i) (h2 : M1.1 i = M.1 i) (h3 : M1.2 i = M.2 i) : wg_E cy (va_up ad S.2.2.2 q) (wg_nw S kd len) C1 M1 i = wg_E cy ad S C M i := by
  have hne : i ≠ S.2.2.2 := Nat.ne_of_lt hi
  have hR : ∀ k, ((wg_nw S kd len).1 i k).map (va_up ad S.2.2.2 q) = (S.1 i k).map ad := by
    intro k
    simp only [wg_nw, if_neg hne]
    cases hk : S.1 i k with
    | none => rfl
    | some b => simp [va_up, Nat.ne_of_lt (hw i k b hk)]
  have hkd : (wg_nw S kd len).2.2.1 i = S.2.2.1 i := by simp [wg_nw, va_up, hne]
  have hln : (wg_nw S kd len).2.1 i = S.2.1 i := by simp [wg_nw, va_up, hne]
  have hO : ∀ c, wg_O (va_up ad S.2.2.2 q) (wg_nw S kd len) C1 M1 c i = wg_O ad S C M c i := by
    intro c
    refine List.map_congr_left fun k _ => ?_
    simp only [wg_V, h1, h2, h3, va_re, hR k]
  simp only [wg_E, hkd, hln, h1, h2, hO, hR]
theorem wg_L_push {cy : Nat → ClassId} {ad : Nat → Nat} {S : wg_Sh} {C C1 : wg_C} {M M1 : wg_M} {kd len q : Nat} {e : va_E} (hw : wg_wf S) (hC : ∀ i, i < S.2.2.2 → C1 i = C i) (hM : ∀ i, i < S.2.2.2 → M1.1 i = M.1 i ∧ M1.2 i = M.2 i) (he : wg_E cy (va_up ad S.2.2.2 q) (wg_nw S kd len) C1 M1 S.2.2.2 = e) : wg_L cy ad S C M ++ [(q, e)] = wg_L cy (va_up ad S.2.2.2 q) (wg_nw S kd len) C1 M1 := by
  show _ = (List.range (S.2.2.2 + 1)).map _
  rw [List.range_succ, List.map_append]
  congr 1
  · refine List.map_congr_left fun i hi => ?_
    have hi' : i < S.2.2.2 := List.mem_range.mp hi
    rw [wg_E_grow hw hi' (hC i hi') (hM i hi').1 (hM i hi').2]
    simp [va_up, Nat.ne_of_lt hi']
  · simp [he, va_up]
theorem wg_zC_row (C : wg_C) (n : Nat) (f : Nat → Int32) : wg_zC C n f n = f := by funext j; simp [wg_zC]
theorem wg_zC_ne (C : wg_C) {n i : Nat} (f : Nat → Int32) (h : i < n) : wg_zC C n f i = C i := by funext j; simp [wg_zC, Nat.ne_of_lt h]
theorem wg_nw_id (S : wg_Sh) (kd len : Nat) : wg_id (wg_nw S kd len) S.2.2.2 kd := ⟨Nat.lt_succ_self _, by simp [wg_nw, va_up]⟩
/-- what an object of a class holds when it comes -/
def wg_def (ci : Nat) (ty : Nat → FieldType) : Prop := ∀ j, j < wg_N ci → defaultValue (ty j) = (if wg_ty ci j = 1 then .null else if wg_ty ci j = 2 then .long 0 else .int 0)
/-- a contract of a method that makes cells or writes references -/
def wg_Qa (E : wg_Ev) (ad : Nat → Nat) (S : wg_Sh) (val : (Nat → Nat) → Option Value) (S0 : wg_Sh) (C0 : wg_C) (M0 : wg_M) : Array Value → State → Outcome → State → Prop := fun _ st oc t => (∃ ad1 : Nat → Nat, wg_ex S ad S0 ad1 ∧ oc = .returned (val ad1) ∧ wg_Pool E ad1 S0 C0 M0 t) ∧ va_F (wg_A E) st t
def wg_Ca (l : Launch) (y : MethodName) (b : ByteArray) (n : Nat) (r : Option FieldType) (fr lo mc ms : Nat) (E : wg_Ev) (ad : Nat → Nat) (S : wg_Sh) (C : wg_C) (M : wg_M) (av : List Value) (val : (Nat → Nat) → Option Value) (S0 : wg_Sh) (C0 : wg_C) (M0 : wg_M) : Prop := Met l y (WS y b n r) { frames := fr, cells := mc, slots := ms, locals := lo } (va_Pc av (wg_Pool E ad S C M)) (wg_Qa E ad S val S0 C0 M0) mc ms (wg_A E)
section WGGROW
variable {p : Program} {l : Launch} {e : Env} {R : Room} {s : State} {m : MethodId} {args : Array Value} {below : List Frame} {meth : Method} {c : Code} {Q : State → Prop} {nL : Nat} {E : wg_Ev} {ad adb : Nat → Nat} {S S0 S1 Sb : wg_Sh} {cells slots pc : Nat} {C C0 C1 : wg_C} {M M0 M1 : wg_M} {lv lv' : List (Nat × Value)} {st : List Value} {cc : ByteArray} {own : String}
theorem wg_hA (X : wg_X p s m args meth c cc nL own E) : ∀ q, s.heap.size ≤ q → wg_A E q := fun q h => Nat.le_trans X.2.1 h
theorem wg_widen {k n : Nat} (h1 : cells ≤ k) (h2 : slots ≤ n) (kk : wg_G p l e R s m args below meth c Q nL E ad S k n pc C M lv st) : wg_G p l e R s m args below meth c Q nL E ad S cells slots pc C M lv st := fun H locs ls hl hP hD hS => W.widen h1 h2 (kk H locs ls hl hP hD hS)
theorem wg_cs {k n : Nat} (h1 : cells = k) (h2 : slots = n) (kk : wg_G p l e R s m args below meth c Q nL E ad S k n pc C M lv st) : wg_G p l e R s m args below meth c Q nL E ad S cells slots pc C M lv st := by subst h1; subst h2; exact kk
theorem wg_objI (X : wg_X p s m args meth c cc nL own E) {idx a : Nat} (hlk : Cond.methodLink own idx Lib.objectInit ∈ TB) (h2 : Cond.instanceMethod Lib.objectInit ∈ TB) (h3 : Cond.code Lib.objectInit ⟨#[0xb1]⟩ 1 none ∈ TB) (d : decode cc pc = .ok (.invokespecial idx, 3)) (hR : 1 ≤ R.frames ∧ (st.map fun v => v.category).sum + 12 ≤ R.locals) (k : wg_G p l e R s m args below meth c Q nL E ad S cells slots (pc + 3) C M lv st) : wg_G p l e R s m args below meth c Q nL E ad S cells slots pc C M lv (.ref a :: st) :=
  fun H locs ls hl hP hD hS => W.objInit X.1.1 X.1.2.1 X.1.2.2.2.1 (X.1.2.2.2.2 _ hlk) (X.1.2.2.2.2 _ h2) (X.1.2.2.2.2 _ h3) rfl (by rw [X.1.2.2.1]; exact hl.1) rfl d hR.1 (by show 2 * 0 + _ + 12 ≤ _; omega) (k H locs ls hl hP hD hS)
theorem wg_newC (X : wg_X p s m args meth c cc nL own E) {ci idx : Nat} {Cn : String} {T : u_T} {ty : Nat → FieldType} (h : wg_cls ci Cn T ty) (h9 : ci ≠ 9) (h2 : ∀ j, j < wg_N ci → wg_ty ci j = 0 ∨ wg_ty ci j = 1) (hdf : wg_def ci ty) (hx : wg_ex Sb adb S ad) (hcl : Cond.classLink own idx Cn ∈ TB) (hin : Cond.instantiable Cn (wg_N ci) ∈ TB) (hini : Cond.initialized Cn ∈ TB) (hc : cells + 1 ≤ R.cells) (hs : slots + wg_N ci ≤ R.slots) (d : decode cc pc = .ok (.new idx, 3)) (eS : S1 = wg_nw S ci 0) (eC : C1 = wg_zC C S.2.2.2 (fun _ => 0))
    (k : ∀ ad1, wg_ex Sb adb S1 ad1 → wg_ext S ad ad1 → wg_G p l e R s m args below meth c Q nL E ad1 S1 (cells + 1) (slots + wg_N ci) (pc + 3) C1 M lv (.ref (ad1 S.2.2.2) :: st)) : wg_G p l e R s m args below meth c Q nL E ad S cells slots pc C M lv st := by
  subst eS; subst eC
  intro H locs ls hl hP hD hS
  refine va_new (ci := ci) (fs := wg_O (ad) (wg_nw S ci 0) (wg_zC C S.2.2.2 (fun _ => 0)) M ci S.2.2.2) X.1.1 X.1.2.1 X.1.2.2.2.2 h.2.2.1 ty h.2.2.2.1 X.1.2.2.2.1 (X.1.2.2.2.2 _ hcl) (X.1.2.2.2.2 _ hin) (X.1.2.2.2.2 _ hini) X.2.2.1 hP hD hS (wg_hA X) h.2.1 ?_ hc hs d (fun q H1 hP1 hD1 hS1 => ?_)
  · intro j hj
    rw [hdf j hj, vp_V, List.getD_eq_getElem?_getD, wg_O_get hj]
    rcases h2 j hj with h0 | h0
    · simp [wg_V, h0, wg_zC]
    · simp [wg_V, h0, wg_nw, va_re, va_rf]
  · have hO : wg_O ad (wg_nw S ci 0) (wg_zC C S.2.2.2 (fun _ => 0)) M ci S.2.2.2 = wg_O (va_up ad S.2.2.2 q) (wg_nw S ci 0) (wg_zC C S.2.2.2 (fun _ => 0)) M ci S.2.2.2 := by
      refine List.map_congr_left fun j _ => ?_
      simp [wg_V, wg_nw, va_re]
    have hL := wg_L_push (cy := E.2.2.1) (ad := ad) (C := C) (C1 := wg_zC C S.2.2.2 (fun _ => 0)) (M := M) (M1 := M) (kd := ci) (len := 0) (q := q) hx.1 (fun i hi => wg_zC_ne C _ hi) (fun i hi => ⟨rfl, rfl⟩) (wg_E_obj (wg_nw_id S ci 0) h.1)
    rw [hO, hL] at hP1 hD1
    have := k (va_up ad S.2.2.2 q) (wg_ex_tr hx (wg_ex_nw hx.1 _ _ (wg_ext_up S ad q))) (wg_ext_up S ad q) H1 locs ls hl hP1 hD1 hS1
    simpa [va_up] using this
theorem wg_cyI (X : wg_X p s m args meth c cc nL own E) {cA : ClassId} (hK : va_K E.2.1 vwCl (wg_tys E.2.2.1 ++ [(cA, .int)]) s) : cA = E.2.2.1 0 := by
  have h1 := (hK.2 5 (cA, .int) rfl).2
  have h2 := (X.2.2.1.2 0 (E.2.2.1 0, .int) rfl).2
  exact Option.some.inj (h1.symm.trans h2)
theorem wg_newaC (X : wg_X p s m args meth c cc nL own E) {n : Int32} {L : Nat} (hx : wg_ex Sb adb S ad) (hn : ¬ n < 0) (hL : n.toNatClampNeg = L) (hb : L * 4 ≤ 536870912) (hc : cells + 1 ≤ R.cells) (hs : slots + L ≤ R.slots) (harr : Cond.arrayClass .int ∈ TB) (d : decode cc pc = .ok (.newarray .int, 2)) (eS : S1 = wg_nw S 10 L) (eC : C1 = wg_zC C S.2.2.2 (fun _ => 0))
    (k : ∀ ad1, wg_ex Sb adb S1 ad1 → wg_ext S ad ad1 → wg_G p l e R s m args below meth c Q nL E ad1 S1 (cells + 1) (slots + L) (pc + 2) C1 M lv (.ref (ad1 S.2.2.2) :: st)) : wg_G p l e R s m args below meth c Q nL E ad S cells slots pc C M lv (.int n :: st) := by
  subst eS; subst eC
  intro H locs ls hl hP hD hS
  refine va_newa (atype := .int) (a0 := (L, .inl (fun _ => 0))) X.1.1 X.1.2.1 (X.1.2.2.2.2 _ harr) rfl X.2.2.1 hP hD hS (wg_hA X) (fun cA => rfl) hn hL hb hc hs d (fun q cA H1 hK1 hP1 hD1 hS1 => ?_)
  have hcy := wg_cyI X hK1
  subst hcy
  have hPu := wg_L_push (cy := E.2.2.1) (ad := ad) (S := S) (C := C) (C1 := wg_zC C S.2.2.2 (fun _ => 0)) (M := M) (M1 := M) (kd := 10) (len := L) (q := q) hx.1 (fun i hi => wg_zC_ne C _ hi) (fun i hi => ⟨rfl, rfl⟩) (wg_E_ia (wg_nw_id S 10 L))
  have hln : (wg_nw S 10 L).2.1 S.2.2.2 = L := by simp [wg_nw, va_up]
  rw [hln, wg_zC_row] at hPu
  rw [hPu] at hP1 hD1
  have := k (va_up ad S.2.2.2 q) (wg_ex_tr hx (wg_ex_nw hx.1 _ _ (wg_ext_up S ad q))) (wg_ext_up S ad q) H1 locs ls hl hP1 hD1 hS1
  simpa [va_up] using this
theorem wg_newaM (X : wg_X p s m args meth c cc nL own E) {n : Int32} {L : Nat} (hx : wg_ex Sb adb S ad) (hn : ¬ n < 0) (hL : n.toNatClampNeg = L) (hb : L * 4 ≤ 536870912) (hc : cells + 1 ≤ R.cells) (hs : slots + L ≤ R.slots) (harr : Cond.arrayClass .int ∈ TB) (d : decode cc pc = .ok (.newarray .int, 2)) (eS : S1 = wg_nw S 11 L) (eM : M1 = wg_zM M S.2.2.2)
    (k : ∀ ad1, wg_ex Sb adb S1 ad1 → wg_ext S ad ad1 → wg_G p l e R s m args below meth c Q nL E ad1 S1 (cells + 1) (slots + L) (pc + 2) C M1 lv (.ref (ad1 S.2.2.2) :: st)) : wg_G p l e R s m args below meth c Q nL E ad S cells slots pc C M lv (.int n :: st) := by
  subst eS; subst eM
  intro H locs ls hl hP hD hS
  refine va_newa (atype := .int) (a0 := (L, .inl (fun _ => 0))) X.1.1 X.1.2.1 (X.1.2.2.2.2 _ harr) rfl X.2.2.1 hP hD hS (wg_hA X) (fun cA => rfl) hn hL hb hc hs d (fun q cA H1 hK1 hP1 hD1 hS1 => ?_)
  have hcy := wg_cyI X hK1
  subst hcy
  have hPu := wg_L_push (cy := E.2.2.1) (ad := ad) (S := S) (C := C) (C1 := C) (M := M) (M1 := wg_zM M S.2.2.2) (kd := 11) (len := L) (q := q) hx.1 (fun i hi => rfl) (fun i hi => ⟨by funext j; simp [wg_zM, Nat.ne_of_lt hi], by simp [wg_zM, va_up, Nat.ne_of_lt hi]⟩) (wg_E_ma (wg_nw_id S 11 L))
  have hln : (wg_nw S 11 L).2.1 S.2.2.2 = L := by simp [wg_nw, va_up]
  have hz : (wg_zM M S.2.2.2).1 S.2.2.2 = fun _ => 0 := by funext j; simp [wg_zM]
  rw [hln, hz] at hPu
  rw [hPu] at hP1 hD1
  have := k (va_up ad S.2.2.2 q) (wg_ex_tr hx (wg_ex_nw hx.1 _ _ (wg_ext_up S ad q))) (wg_ext_up S ad q) H1 locs ls hl hP1 hD1 hS1
  simpa [va_up] using this
theorem wg_cyZ (X : wg_X p s m args meth c cc nL own E) {cA : ClassId} (hK : va_K E.2.1 vwCl (wg_tys E.2.2.1 ++ [(cA, .boolean)]) s) : cA = E.2.2.1 1 := by
  have h1 := (hK.2 5 (cA, .boolean) rfl).2
  have h2 := (X.2.2.1.2 1 (E.2.2.1 1, .boolean) rfl).2
  exact Option.some.inj (h1.symm.trans h2)
theorem wg_newaZ (X : wg_X p s m args meth c cc nL own E) {n : Int32} {L : Nat} (hx : wg_ex Sb adb S ad) (hn : ¬ n < 0) (hL : n.toNatClampNeg = L) (hb : L * 1 ≤ 536870912) (hc : cells + 1 ≤ R.cells) (hs : slots + L ≤ R.slots) (harr : Cond.arrayClass .boolean ∈ TB) (d : decode cc pc = .ok (.newarray .boolean, 2)) (eS : S1 = wg_nw S 12 L) (eM : M1 = wg_zM M S.2.2.2)
    (k : ∀ ad1, wg_ex Sb adb S1 ad1 → wg_ext S ad ad1 → wg_G p l e R s m args below meth c Q nL E ad1 S1 (cells + 1) (slots + L) (pc + 2) C M1 lv (.ref (ad1 S.2.2.2) :: st)) : wg_G p l e R s m args below meth c Q nL E ad S cells slots pc C M lv (.int n :: st) := by
  subst eS; subst eM
  intro H locs ls hl hP hD hS
  refine va_newa (atype := .boolean) (a0 := (L, .inl (fun _ => 0))) X.1.1 X.1.2.1 (X.1.2.2.2.2 _ harr) rfl X.2.2.1 hP hD hS (wg_hA X) (fun cA => rfl) hn hL hb hc hs d (fun q cA H1 hK1 hP1 hD1 hS1 => ?_)
  have hcy := wg_cyZ X hK1
  subst hcy
  have hPu := wg_L_push (cy := E.2.2.1) (ad := ad) (S := S) (C := C) (C1 := C) (M := M) (M1 := wg_zM M S.2.2.2) (kd := 12) (len := L) (q := q) hx.1 (fun i hi => rfl) (fun i hi => ⟨by funext j; simp [wg_zM, Nat.ne_of_lt hi], by simp [wg_zM, va_up, Nat.ne_of_lt hi]⟩) (wg_E_mz (wg_nw_id S 12 L))
  have hln : (wg_nw S 12 L).2.1 S.2.2.2 = L := by simp [wg_nw, va_up]
  have hz : (wg_zM M S.2.2.2).1 S.2.2.2 = fun _ => 0 := by funext j; simp [wg_zM]
  rw [hln, hz] at hPu
  rw [hPu] at hP1 hD1
  have := k (va_up ad S.2.2.2 q) (wg_ex_tr hx (wg_ex_nw hx.1 _ _ (wg_ext_up S ad q))) (wg_ext_up S ad q) H1 locs ls hl hP1 hD1 hS1
  simpa [va_up] using this
theorem wg_newq13 (X : wg_X p s m args meth c cc nL own E) {n : Int32} {L idx : Nat} (hx : wg_ex Sb adb S ad) (hn : ¬ n < 0) (hL : n.toNatClampNeg = L) (hb : L * 4 ≤ 536870912) (hc : cells + 1 ≤ R.cells) (hs : slots + L ≤ R.slots) (hcl : Cond.classLink own idx "WindowsGive$Pane" ∈ TB) (d : decode cc pc = .ok (.anewarray idx, 3)) (eS : S1 = wg_nw S 13 L)
    (k : ∀ ad1, wg_ex Sb adb S1 ad1 → wg_ext S ad ad1 → wg_G p l e R s m args below meth c Q nL E ad1 S1 (cells + 1) (slots + L) (pc + 3) C M lv (.ref (ad1 S.2.2.2) :: st)) : wg_G p l e R s m args below meth c Q nL E ad S cells slots pc C M lv (.int n :: st) := by
  subst eS
  intro H locs ls hl hP hD hS
  refine va_newq X.1.1 X.1.2.1 X.1.2.2.2.1 (X.1.2.2.2.2 _ hcl) X.2.2.2.1.1.2.1 X.2.2.1 hP hD hS (wg_hA X) hn hL hb hc hs d (fun q cA H1 hK1 hP1 hD1 hS1 => ?_)
  have hcy : cA = E.2.2.1 2 := by
    obtain ⟨kA, cp, z1, z2, z3, h1⟩ := (hK1.2 5 (cA, .object "WindowsGive$Pane") rfl).2
    obtain ⟨kA, cp, z1, z2, z3, h2⟩ := (X.2.2.1.2 2 (E.2.2.1 2, .object "WindowsGive$Pane") rfl).2
    exact Option.some.inj (h1.symm.trans h2)
  subst hcy
  have hPu := wg_L_push (cy := E.2.2.1) (ad := ad) (S := S) (C := C) (C1 := C) (M := M) (M1 := M) (kd := 13) (len := L) (q := q) hx.1 (fun i hi => rfl) (fun i hi => ⟨rfl, rfl⟩) (wg_E_ra (wg_nw_id S 13 L) (by decide))
  have hln : (wg_nw S 13 L).2.1 S.2.2.2 = L := by simp [wg_nw, va_up]
  have hz : (fun j => ((wg_nw S 13 L).1 S.2.2.2 j).map (va_up ad S.2.2.2 q)) = fun _ => none := by funext j; simp [wg_nw]
  rw [hln, hz] at hPu
  rw [hPu] at hP1 hD1
  have := k (va_up ad S.2.2.2 q) (wg_ex_tr hx (wg_ex_nw hx.1 _ _ (wg_ext_up S ad q))) (wg_ext_up S ad q) H1 locs ls hl hP1 hD1 hS1
  simpa [va_up] using this
theorem wg_newq14 (X : wg_X p s m args meth c cc nL own E) {n : Int32} {L idx : Nat} (hx : wg_ex Sb adb S ad) (hn : ¬ n < 0) (hL : n.toNatClampNeg = L) (hb : L * 4 ≤ 536870912) (hc : cells + 1 ≤ R.cells) (hs : slots + L ≤ R.slots) (hcl : Cond.classLink own idx "WindowsGive$Sheet" ∈ TB) (d : decode cc pc = .ok (.anewarray idx, 3)) (eS : S1 = wg_nw S 14 L)
    (k : ∀ ad1, wg_ex Sb adb S1 ad1 → wg_ext S ad ad1 → wg_G p l e R s m args below meth c Q nL E ad1 S1 (cells + 1) (slots + L) (pc + 3) C M lv (.ref (ad1 S.2.2.2) :: st)) : wg_G p l e R s m args below meth c Q nL E ad S cells slots pc C M lv (.int n :: st) := by
  subst eS
  intro H locs ls hl hP hD hS
  refine va_newq X.1.1 X.1.2.1 X.1.2.2.2.1 (X.1.2.2.2.2 _ hcl) X.2.2.2.1.1.2.2.1 X.2.2.1 hP hD hS (wg_hA X) hn hL hb hc hs d (fun q cA H1 hK1 hP1 hD1 hS1 => ?_)
  have hcy : cA = E.2.2.1 3 := by
    obtain ⟨kA, cp, z1, z2, z3, h1⟩ := (hK1.2 5 (cA, .object "WindowsGive$Sheet") rfl).2
    obtain ⟨kA, cp, z1, z2, z3, h2⟩ := (X.2.2.1.2 3 (E.2.2.1 3, .object "WindowsGive$Sheet") rfl).2
    exact Option.some.inj (h1.symm.trans h2)
  subst hcy
  have hPu := wg_L_push (cy := E.2.2.1) (ad := ad) (S := S) (C := C) (C1 := C) (M := M) (M1 := M) (kd := 14) (len := L) (q := q) hx.1 (fun i hi => rfl) (fun i hi => ⟨rfl, rfl⟩) (wg_E_ra (wg_nw_id S 14 L) (by decide))
  have hln : (wg_nw S 14 L).2.1 S.2.2.2 = L := by simp [wg_nw, va_up]
  have hz : (fun j => ((wg_nw S 14 L).1 S.2.2.2 j).map (va_up ad S.2.2.2 q)) = fun _ => none := by funext j; simp [wg_nw]
  rw [hln, hz] at hPu
  rw [hPu] at hP1 hD1
  have := k (va_up ad S.2.2.2 q) (wg_ex_tr hx (wg_ex_nw hx.1 _ _ (wg_ext_up S ad q))) (wg_ext_up S ad q) H1 locs ls hl hP1 hD1 hS1
  simpa [va_up] using this
theorem wg_newq15 (X : wg_X p s m args meth c cc nL own E) {n : Int32} {L idx : Nat} (hx : wg_ex Sb adb S ad) (hn : ¬ n < 0) (hL : n.toNatClampNeg = L) (hb : L * 4 ≤ 536870912) (hc : cells + 1 ≤ R.cells) (hs : slots + L ≤ R.slots) (hcl : Cond.classLink own idx "WindowsGive$Text" ∈ TB) (d : decode cc pc = .ok (.anewarray idx, 3)) (eS : S1 = wg_nw S 15 L)
    (k : ∀ ad1, wg_ex Sb adb S1 ad1 → wg_ext S ad ad1 → wg_G p l e R s m args below meth c Q nL E ad1 S1 (cells + 1) (slots + L) (pc + 3) C M lv (.ref (ad1 S.2.2.2) :: st)) : wg_G p l e R s m args below meth c Q nL E ad S cells slots pc C M lv (.int n :: st) := by
  subst eS
  intro H locs ls hl hP hD hS
  refine va_newq X.1.1 X.1.2.1 X.1.2.2.2.1 (X.1.2.2.2.2 _ hcl) X.2.2.2.1.1.2.2.2.1 X.2.2.1 hP hD hS (wg_hA X) hn hL hb hc hs d (fun q cA H1 hK1 hP1 hD1 hS1 => ?_)
  have hcy : cA = E.2.2.1 4 := by
    obtain ⟨kA, cp, z1, z2, z3, h1⟩ := (hK1.2 5 (cA, .object "WindowsGive$Text") rfl).2
    obtain ⟨kA, cp, z1, z2, z3, h2⟩ := (X.2.2.1.2 4 (E.2.2.1 4, .object "WindowsGive$Text") rfl).2
    exact Option.some.inj (h1.symm.trans h2)
  subst hcy
  have hPu := wg_L_push (cy := E.2.2.1) (ad := ad) (S := S) (C := C) (C1 := C) (M := M) (M1 := M) (kd := 15) (len := L) (q := q) hx.1 (fun i hi => rfl) (fun i hi => ⟨rfl, rfl⟩) (wg_E_ra (wg_nw_id S 15 L) (by decide))
  have hln : (wg_nw S 15 L).2.1 S.2.2.2 = L := by simp [wg_nw, va_up]
  have hz : (fun j => ((wg_nw S 15 L).1 S.2.2.2 j).map (va_up ad S.2.2.2 q)) = fun _ => none := by funext j; simp [wg_nw]
  rw [hln, hz] at hPu
  rw [hPu] at hP1 hD1
  have := k (va_up ad S.2.2.2 q) (wg_ex_tr hx (wg_ex_nw hx.1 _ _ (wg_ext_up S ad q))) (wg_ext_up S ad q) H1 locs ls hl hP1 hD1 hS1
  simpa [va_up] using this
/-- a reference is written: a final field of what is being made -/
theorem wg_putRF (X : wg_X p s m args meth c cc nL own E) (hx : wg_ex Sb adb S ad) {ci a idx b : Nat} (hbn : b < S.2.2.2) {Cn : String} {T : u_T} {ty : Nat → FieldType} (h : wg_cls ci Cn T ty) (ha : wg_id S a ci) (k : Nat) (hk : k < wg_N ci) (d : decode cc pc = .ok (.putfield idx, 3)) (hf : Cond.fieldLink own idx (T k).1 (T k).2.1 (T k).2.2.1 ∈ TB) (hfin : (T k).2.2.2 = true) (hin : meth.name = "<init>") (hdc : (T k).1 = own) (ht : wg_ty ci k = 1) (hn : ∀ x : Nat, narrow (ty k) (.ref x) = .ref x) (hb : ∀ x : Nat, fits (ty k) (.ref x) = true) (eS : S1 = wg_sR S a k (some b)) (kk : wg_ex Sb adb S1 ad → wg_G p l e R s m args below meth c Q nL E ad S1 cells slots (pc + 3) C M lv st) : wg_G p l e R s m args below meth c Q nL E ad S cells slots pc C M lv (.ref (ad b) :: .ref (ad a) :: st) := by
  subst eS
  intro H locs ls hl hP hD hS
  have he : (wg_L E.2.2.1 ad S C M)[a]? = some (ad a, .inr (ci, wg_O ad S C M ci a)) := (wg_L_get ha.1).trans (by rw [wg_E_obj ha h.1])
  refine va_putF (ty := ty k) X.1.1 X.1.2.1 X.1.2.2.2.2 h.2.2.1 ty h.2.2.2.1 h.2.2.2.2 X.1.2.2.2.1 X.2.2.1 hP hD hS a he h.2.1 k hk (X.1.2.2.2.2 _ hf) (fun _ h9 => h9) hfin hin hdc (h.2.2.2.1 k hk) (hn _) (hb _) (by simp [wg_O, hk]) d (fun H1 locs1 hP1 hD1 hS1 => ?_)
  have hO : (wg_O ad S C M ci a).set k (.ref (ad b)) = wg_O ad (wg_sR S a k (some b)) C M ci a := by
    refine wg_range_set ?_ fun j hj => ?_
    · simp [wg_V, ht, wg_sR, va_re, va_rf]
    · simp [wg_V, wg_sR, hj]
  have hE : ∀ j, j ≠ a → wg_E E.2.2.1 ad (wg_sR S a k (some b)) C M j = wg_E E.2.2.1 ad S C M j := by
    intro j hj
    have hR : ∀ i, (wg_sR S a k (some b)).1 j i = S.1 j i := fun i => by simp [wg_sR, hj]
    have hO2 : ∀ c0, wg_O ad (wg_sR S a k (some b)) C M c0 j = wg_O ad S C M c0 j := fun c0 => List.map_congr_left fun i _ => by simp only [wg_V, hR]
    simp only [wg_E, hO2, hR]
    rfl
  have hL : (wg_L E.2.2.1 ad S C M).set a (ad a, .inr (ci, (wg_O ad S C M ci a).set k (.ref (ad b)))) = wg_L E.2.2.1 ad (wg_sR S a k (some b)) C M := by
    refine List.ext_getElem? fun j => ?_
    by_cases hj : j = a
    · subst hj
      rw [List.getElem?_set_self (by simp [wg_L, ha.1]), wg_L_get (S := wg_sR S j k (some b)) ha.1, wg_E_obj (S := wg_sR S j k (some b)) ha h.1, hO]
    · rw [List.getElem?_set_ne (Ne.symm hj)]
      by_cases hn : j < S.2.2.2
      · rw [wg_L_get hn, wg_L_get (S := wg_sR S a k (some b)) hn, hE j hj]
      · simp [wg_L, hn, wg_sR]
  rw [hL] at hP1 hD1
  exact kk (wg_ex_tr hx (wg_ex_sR hx.1 a k hbn)) H1 locs1 ls hl hP1 hD1 hS1
/-- an int is written to a final field of what is being made -/
theorem wg_putCF (X : wg_X p s m args meth c cc nL own E) {ci a idx : Nat} {v : Int32} {Cn : String} {T : u_T} {ty : Nat → FieldType} (h : wg_cls ci Cn T ty) (ha : wg_id S a ci) (k : Nat) (hk : k < wg_N ci) (d : decode cc pc = .ok (.putfield idx, 3)) (hf : Cond.fieldLink own idx (T k).1 (T k).2.1 (T k).2.2.1 ∈ TB) (hfin : (T k).2.2.2 = true) (hin : meth.name = "<init>") (hdc : (T k).1 = own) (ht : wg_ty ci k = 0) (hn : narrow (ty k) (.int v) = .int v) (hb : fits (ty k) (.int v) = true) (ee : C1 = wg_up C a k v) (kk : wg_G p l e R s m args below meth c Q nL E ad S cells slots (pc + 3) C1 M lv st) : wg_G p l e R s m args below meth c Q nL E ad S cells slots pc C M lv (.int v :: .ref (ad a) :: st) := by
  subst ee
  intro H locs ls hl hP hD hS
  have he : (wg_L E.2.2.1 ad S C M)[a]? = some (ad a, .inr (ci, wg_O ad S C M ci a)) := (wg_L_get ha.1).trans (by rw [wg_E_obj ha h.1])
  refine va_putF (ty := ty k) X.1.1 X.1.2.1 X.1.2.2.2.2 h.2.2.1 ty h.2.2.2.1 h.2.2.2.2 X.1.2.2.2.1 X.2.2.1 hP hD hS a he h.2.1 k hk (X.1.2.2.2.2 _ hf) (fun _ h9 => h9) hfin hin hdc (h.2.2.2.1 k hk) hn hb (by simp [wg_O, hk]) d (fun H1 locs1 hP1 hD1 hS1 => ?_)
  have hL : (wg_L E.2.2.1 ad S C M).set a (ad a, .inr (ci, (wg_O ad S C M ci a).set k (.int v))) = wg_L E.2.2.1 ad S (wg_up C a k v) M := wg_L_set ha.1 (by rw [wg_E_obj ha h.1, wg_O_setC ht]) (fun j hj => wg_E_congr (wg_up_ne C k v hj) rfl rfl)
  rw [hL] at hP1 hD1
  exact kk H1 locs1 ls hl hP1 hD1 hS1
theorem wg_aast13 (X : wg_X p s m args meth c cc nL own E) (hx : wg_ex Sb adb S ad) {a b : Nat} {i : Int32} (ha : wg_id S a 13) (hb : wg_id S b 1) {n : Nat} (hn : S.2.1 a = n) (hi : vp_in i n) (d : decode cc pc = .ok (.aastore, 1)) (eS : S1 = wg_sR S a i.toNatClampNeg (some b)) (k : wg_ex Sb adb S1 ad → wg_G p l e R s m args below meth c Q nL E ad S1 cells slots (pc + 1) C M lv st) : wg_G p l e R s m args below meth c Q nL E ad S cells slots pc C M lv (.ref (ad b) :: .int i :: .ref (ad a) :: st) := by
  subst eS
  intro H locs ls hl hP hD hS
  have he : (wg_L E.2.2.1 ad S C M)[a]? = some (ad a, .inl (E.2.2.1 2, S.2.1 a, .inr (.inr (.inr (.inr (fun j => (S.1 a j).map ad)))))) := (wg_L_get ha.1).trans (by rw [wg_E_ra ha (by decide)])
  have heb : (wg_L E.2.2.1 ad S C M)[b]? = some (ad b, .inr (1, wg_O ad S C M 1 b)) := (wg_L_get hb.1).trans (by rw [wg_E_obj hb (by decide)])
  refine va_astq X.1.1 X.1.2.1 X.2.2.1 hP hD hS a 2 b 1 he rfl heb cl1.2.1 (by rw [hn]; exact hi) d (fun H1 locs1 hP1 hD1 hS1 => ?_)
  have hE : ∀ j, j ≠ a → wg_E E.2.2.1 ad (wg_sR S a i.toNatClampNeg (some b)) C M j = wg_E E.2.2.1 ad S C M j := by
    intro j hj
    have hR : ∀ x, (wg_sR S a i.toNatClampNeg (some b)).1 j x = S.1 j x := fun x => by simp [wg_sR, hj]
    have hO2 : ∀ c0, wg_O ad (wg_sR S a i.toNatClampNeg (some b)) C M c0 j = wg_O ad S C M c0 j := fun c0 => List.map_congr_left fun x _ => by simp only [wg_V, hR]
    simp only [wg_E, hO2, hR]
    rfl
  have hL : (wg_L E.2.2.1 ad S C M).set a (ad a, .inl (E.2.2.1 2, S.2.1 a, .inr (.inr (.inr (.inr (va_up (fun j => (S.1 a j).map ad) i.toNatClampNeg (some (ad b)))))))) = wg_L E.2.2.1 ad (wg_sR S a i.toNatClampNeg (some b)) C M := by
    refine List.ext_getElem? fun j => ?_
    by_cases hj : j = a
    · subst hj
      rw [List.getElem?_set_self (by simp [wg_L, ha.1]), wg_L_get (S := wg_sR S j i.toNatClampNeg (some b)) ha.1, wg_E_ra (S := wg_sR S j i.toNatClampNeg (some b)) ha (by decide)]
      have hz : (fun x => ((wg_sR S j i.toNatClampNeg (some b)).1 j x).map ad) = va_up (fun x => (S.1 j x).map ad) i.toNatClampNeg (some (ad b)) := by
        funext x
        by_cases hx : x = i.toNatClampNeg <;> simp [wg_sR, va_up, hx]
      rw [hz]
      rfl
    · rw [List.getElem?_set_ne (Ne.symm hj)]
      by_cases hn : j < S.2.2.2
      · rw [wg_L_get hn, wg_L_get (S := wg_sR S a i.toNatClampNeg (some b)) hn, hE j hj]
      · simp [wg_L, hn, wg_sR]
  rw [hL] at hP1 hD1
  exact k (wg_ex_tr hx (wg_ex_sR hx.1 a i.toNatClampNeg hb.1)) H1 locs1 ls hl hP1 hD1 hS1
theorem wg_aast14 (X : wg_X p s m args meth c cc nL own E) (hx : wg_ex Sb adb S ad) {a b : Nat} {i : Int32} (ha : wg_id S a 14) (hb : wg_id S b 4) {n : Nat} (hn : S.2.1 a = n) (hi : vp_in i n) (d : decode cc pc = .ok (.aastore, 1)) (eS : S1 = wg_sR S a i.toNatClampNeg (some b)) (k : wg_ex Sb adb S1 ad → wg_G p l e R s m args below meth c Q nL E ad S1 cells slots (pc + 1) C M lv st) : wg_G p l e R s m args below meth c Q nL E ad S cells slots pc C M lv (.ref (ad b) :: .int i :: .ref (ad a) :: st) := by
  subst eS
  intro H locs ls hl hP hD hS
  have he : (wg_L E.2.2.1 ad S C M)[a]? = some (ad a, .inl (E.2.2.1 3, S.2.1 a, .inr (.inr (.inr (.inr (fun j => (S.1 a j).map ad)))))) := (wg_L_get ha.1).trans (by rw [wg_E_ra ha (by decide)])
  have heb : (wg_L E.2.2.1 ad S C M)[b]? = some (ad b, .inr (4, wg_O ad S C M 4 b)) := (wg_L_get hb.1).trans (by rw [wg_E_obj hb (by decide)])
  refine va_astq X.1.1 X.1.2.1 X.2.2.1 hP hD hS a 3 b 4 he rfl heb cl4.2.1 (by rw [hn]; exact hi) d (fun H1 locs1 hP1 hD1 hS1 => ?_)
  have hE : ∀ j, j ≠ a → wg_E E.2.2.1 ad (wg_sR S a i.toNatClampNeg (some b)) C M j = wg_E E.2.2.1 ad S C M j := by
    intro j hj
    have hR : ∀ x, (wg_sR S a i.toNatClampNeg (some b)).1 j x = S.1 j x := fun x => by simp [wg_sR, hj]
    have hO2 : ∀ c0, wg_O ad (wg_sR S a i.toNatClampNeg (some b)) C M c0 j = wg_O ad S C M c0 j := fun c0 => List.map_congr_left fun x _ => by simp only [wg_V, hR]
    simp only [wg_E, hO2, hR]
    rfl
  have hL : (wg_L E.2.2.1 ad S C M).set a (ad a, .inl (E.2.2.1 3, S.2.1 a, .inr (.inr (.inr (.inr (va_up (fun j => (S.1 a j).map ad) i.toNatClampNeg (some (ad b)))))))) = wg_L E.2.2.1 ad (wg_sR S a i.toNatClampNeg (some b)) C M := by
    refine List.ext_getElem? fun j => ?_
    by_cases hj : j = a
    · subst hj
      rw [List.getElem?_set_self (by simp [wg_L, ha.1]), wg_L_get (S := wg_sR S j i.toNatClampNeg (some b)) ha.1, wg_E_ra (S := wg_sR S j i.toNatClampNeg (some b)) ha (by decide)]
      have hz : (fun x => ((wg_sR S j i.toNatClampNeg (some b)).1 j x).map ad) = va_up (fun x => (S.1 j x).map ad) i.toNatClampNeg (some (ad b)) := by
        funext x
        by_cases hx : x = i.toNatClampNeg <;> simp [wg_sR, va_up, hx]
      rw [hz]
      rfl
    · rw [List.getElem?_set_ne (Ne.symm hj)]
      by_cases hn : j < S.2.2.2
      · rw [wg_L_get hn, wg_L_get (S := wg_sR S a i.toNatClampNeg (some b)) hn, hE j hj]
      · simp [wg_L, hn, wg_sR]
  rw [hL] at hP1 hD1
  exact k (wg_ex_tr hx (wg_ex_sR hx.1 a i.toNatClampNeg hb.1)) H1 locs1 ls hl hP1 hD1 hS1
theorem wg_aast15 (X : wg_X p s m args meth c cc nL own E) (hx : wg_ex Sb adb S ad) {a b : Nat} {i : Int32} (ha : wg_id S a 15) (hb : wg_id S b 6) {n : Nat} (hn : S.2.1 a = n) (hi : vp_in i n) (d : decode cc pc = .ok (.aastore, 1)) (eS : S1 = wg_sR S a i.toNatClampNeg (some b)) (k : wg_ex Sb adb S1 ad → wg_G p l e R s m args below meth c Q nL E ad S1 cells slots (pc + 1) C M lv st) : wg_G p l e R s m args below meth c Q nL E ad S cells slots pc C M lv (.ref (ad b) :: .int i :: .ref (ad a) :: st) := by
  subst eS
  intro H locs ls hl hP hD hS
  have he : (wg_L E.2.2.1 ad S C M)[a]? = some (ad a, .inl (E.2.2.1 4, S.2.1 a, .inr (.inr (.inr (.inr (fun j => (S.1 a j).map ad)))))) := (wg_L_get ha.1).trans (by rw [wg_E_ra ha (by decide)])
  have heb : (wg_L E.2.2.1 ad S C M)[b]? = some (ad b, .inr (6, wg_O ad S C M 6 b)) := (wg_L_get hb.1).trans (by rw [wg_E_obj hb (by decide)])
  refine va_astq X.1.1 X.1.2.1 X.2.2.1 hP hD hS a 4 b 6 he rfl heb cl6.2.1 (by rw [hn]; exact hi) d (fun H1 locs1 hP1 hD1 hS1 => ?_)
  have hE : ∀ j, j ≠ a → wg_E E.2.2.1 ad (wg_sR S a i.toNatClampNeg (some b)) C M j = wg_E E.2.2.1 ad S C M j := by
    intro j hj
    have hR : ∀ x, (wg_sR S a i.toNatClampNeg (some b)).1 j x = S.1 j x := fun x => by simp [wg_sR, hj]
    have hO2 : ∀ c0, wg_O ad (wg_sR S a i.toNatClampNeg (some b)) C M c0 j = wg_O ad S C M c0 j := fun c0 => List.map_congr_left fun x _ => by simp only [wg_V, hR]
    simp only [wg_E, hO2, hR]
    rfl
  have hL : (wg_L E.2.2.1 ad S C M).set a (ad a, .inl (E.2.2.1 4, S.2.1 a, .inr (.inr (.inr (.inr (va_up (fun j => (S.1 a j).map ad) i.toNatClampNeg (some (ad b)))))))) = wg_L E.2.2.1 ad (wg_sR S a i.toNatClampNeg (some b)) C M := by
    refine List.ext_getElem? fun j => ?_
    by_cases hj : j = a
    · subst hj
      rw [List.getElem?_set_self (by simp [wg_L, ha.1]), wg_L_get (S := wg_sR S j i.toNatClampNeg (some b)) ha.1, wg_E_ra (S := wg_sR S j i.toNatClampNeg (some b)) ha (by decide)]
      have hz : (fun x => ((wg_sR S j i.toNatClampNeg (some b)).1 j x).map ad) = va_up (fun x => (S.1 j x).map ad) i.toNatClampNeg (some (ad b)) := by
        funext x
        by_cases hx : x = i.toNatClampNeg <;> simp [wg_sR, va_up, hx]
      rw [hz]
      rfl
    · rw [List.getElem?_set_ne (Ne.symm hj)]
      by_cases hn : j < S.2.2.2
      · rw [wg_L_get hn, wg_L_get (S := wg_sR S a i.toNatClampNeg (some b)) hn, hE j hj]
      · simp [wg_L, hn, wg_sR]
  rw [hL] at hP1 hD1
  exact k (wg_ex_tr hx (wg_ex_sR hx.1 a i.toNatClampNeg hb.1)) H1 locs1 ls hl hP1 hD1 hS1
/-- ends -/
theorem wg_aend (X : wg_X p s m args meth c cc nL own E) {H : Heap} {locs : List Loc} {t : State} {val : (Nat → Nat) → Option Value} {v : Option Value} (hx : wg_ex Sb adb S ad) (hv : v = val ad) (hq : S = S0 ∧ C = C0 ∧ M = M0) (hP : va_P E.2.1 vwCl (wg_L E.2.2.1 ad S C M) H) (hD : va_D (wg_A E) (wg_L E.2.2.1 ad S C M)) (hS : va_S (wg_A E) s.heap H locs) (ht : t.heap = H) (hW : s.WarmedH t.vm) : wg_Qa E adb Sb val S0 C0 M0 args s (.returned v) t := by
  obtain ⟨rfl, rfl, rfl⟩ := hq
  exact ⟨⟨ad, hx, by rw [hv], wg_pool_end X hP hD hS ht hW⟩, hS.F ht⟩
theorem wg_avret (X : wg_X p s m args meth c cc nL own E) {val : (Nat → Nat) → Option Value} (hx : wg_ex Sb adb S ad) (hv : val ad = none) (hq : S = S0 ∧ C = C0 ∧ M = M0) (hr : meth.sig.returnType = none) (d : decode cc pc = .ok (.return_, 1)) : wg_G p l e R s m args below meth c (MQ below (wg_Qa E adb Sb val S0 C0 M0) args s cells slots (wg_A E)) nL E ad S cells slots pc C M lv [] :=
  fun H locs ls hl hP hD hS => W.vret X.1.1 X.1.2.1 hr (fun t ht hW => wg_aend X hx hv.symm hq hP hD hS ht hW) hS.2.2 d X.2.2.2.2
theorem wg_airet (X : wg_X p s m args meth c cc nL own E) {val : (Nat → Nat) → Option Value} {v : Int32} (hx : wg_ex Sb adb S ad) (hv : val ad = some (.int v)) (hq : S = S0 ∧ C = C0 ∧ M = M0) (hr : meth.sig.returnType = some .int) (d : decode cc pc = .ok (.ireturn, 1)) : wg_G p l e R s m args below meth c (MQ below (wg_Qa E adb Sb val S0 C0 M0) args s cells slots (wg_A E)) nL E ad S cells slots pc C M lv [.int v] :=
  fun H locs ls hl hP hD hS => W.iret X.1.1 X.1.2.1 hr (fun t ht hW => wg_aend X hx hv.symm hq hP hD hS ht hW) hS.2.2 d X.2.2.2.2
theorem wg_aaret (X : wg_X p s m args meth c cc nL own E) {val : (Nat → Nat) → Option Value} {v : Value} {rt : FieldType} (hx : wg_ex Sb adb S ad) (hv : val ad = some v) (hq : S = S0 ∧ C = C0 ∧ M = M0) (hr : meth.sig.returnType = some rt) (hrt : (∃ n, rt = .object n) ∨ ∃ t, rt = .array t) (hv2 : v = .null ∨ ∃ a, v = .ref a) (d : decode cc pc = .ok (.areturn, 1)) : wg_G p l e R s m args below meth c (MQ below (wg_Qa E adb Sb val S0 C0 M0) args s cells slots (wg_A E)) nL E ad S cells slots pc C M lv [v] :=
  fun H locs ls hl hP hD hS => W.aret X.1.1 X.1.2.1 hr hrt hv2 (fun t ht hW => wg_aend X hx hv.symm hq hP hD hS ht hW) hS.2.2 d X.2.2.2.2
/-- behind a call of such a method -/
theorem wg_acall {mc ms : Nat} {rest : List Value} {a : Array Value} {val : (Nat → Nat) → Option Value} {H : Heap} {locs : List Loc} {ls : Array Slot} (hr : va_Run p l e R s m args below meth c H locs cells slots mc ms (F0 m pc ls st) rest (wg_Qa E ad S val S0 C0 M0 a) (wg_A E)) (hl : lv_has ls nL lv) (hS : va_S (wg_A E) s.heap H locs)
    (hb : wg_ex Sb adb S ad) (kk : ∀ ad1, wg_ex Sb adb S0 ad1 → wg_ext S ad ad1 → wg_G p l e R s m args below meth c Q nL E ad1 S0 (cells + mc) (slots + ms) (pc + 3) C0 M0 lv ((val ad1).toList ++ rest)) : W p l e R s m args below meth c H locs cells slots Q (F0 m pc ls st) := by
  intro T hT X
  obtain ⟨v, st₀, t, T', L, h0, X', hL, e1, e2, ⟨⟨ad1, hx, hv, -, hP1, hD1, -, -⟩, hz, hk⟩, stp⟩ := hr T hT X
  cases hv
  rw [h0] at hz hk
  obtain ⟨t2, a1, b1⟩ := kk ad1 (wg_ex_tr hb hx) hx.2.2 T'.heap (locs ++ L) ls hl (by rw [e1]; exact hP1) hD1
    ⟨Nat.le_trans hS.1 (by rw [e1]; exact hz), fun q h1 h2 => by rw [e1, hk q (Nat.lt_of_lt_of_le h1 hS.1) h2]; exact hS.2.1 q h1 h2, fun q hq => by
      rcases List.mem_append.mp hq with h | h
      · exact hS.2.2 q h
      · exact hL q h⟩ T' rfl X'
  exact ⟨t2, stp t2 a1, b1⟩
theorem wg_callVa (X : wg_X p s m args meth c cc nL own E) {y : MethodName} {b : ByteArray} {n np fr lo mc ms idx : Nat} {r : Option FieldType} {As rest : List Value} {val : (Nat → Nat) → Option Value} {ci a : Nat} {Cn : String} {T : u_T} {ty : Nat → FieldType} (hM : wg_Ca l y b n r fr lo mc ms E ad S C M (.ref (ad a) :: As) val S0 C0 M0) (ht : wg_TV Cn y b n r np) (hlk : Cond.methodLink own idx y ∈ TB) (hc : wg_cls ci Cn T ty) (ha : wg_id S a ci) (d : decode cc pc = .ok (.invokevirtual idx, 3)) (hst : st = As.reverse ++ .ref (ad a) :: rest) (hn : As.length = np) (hw : (rest.map fun v => v.category).sum ≤ 8) (hR : fr + 1 ≤ R.frames ∧ 8 + (n + 11) + lo ≤ R.locals) (hcs : cells + mc ≤ R.cells ∧ slots + ms ≤ R.slots) (hbx : wg_ex Sb adb S ad) (k : ∀ ad1, wg_ex Sb adb S0 ad1 → wg_ext S ad ad1 → wg_G p l e R s m args below meth c Q nL E ad1 S0 (cells + mc) (slots + ms) (pc + 3) C0 M0 lv ((val ad1).toList ++ rest)) : wg_G p l e R s m args below meth c Q nL E ad S cells slots pc C M lv st := by
  intro H locs ls hl hP hD hS
  exact wg_acall (va_runV (As := As) (rest := rest) X.1 hM (cwV np X.1.2.2.2.2 (TB_V hlk ht.1 ht.2.1 ht.2.2.1 ht.2.2.2.1) rfl rfl rfl ht.2.2.2.2 hR) ⟨wg_Pool.blind, va_recv X.2.2.1 hP hc.2.1 ((wg_L_get ha.1).trans (by rw [wg_E_obj ha hc.1])), fun U hU hW => ⟨rfl, wg_pool_end X hP hD hS hU hW⟩⟩ rfl hn hl.1 hst (lv_room hw) d hcs) hl hS hbx k
theorem wg_callSa (X : wg_X p s m args meth c cc nL own E) {y : MethodName} {b : ByteArray} {n np fr lo mc ms idx : Nat} {r : Option FieldType} {As rest : List Value} {val : (Nat → Nat) → Option Value} (hM : wg_Ca l y b n r fr lo mc ms E ad S C M As val S0 C0 M0) (ht : wg_TS y b n r np) (hlk : Cond.methodLink own idx y ∈ TB) (d : decode cc pc = .ok (.invokestatic idx, 3)) (hst : st = As.reverse ++ rest) (hn : As.length = np) (hw : (rest.map fun v => v.category).sum ≤ 8) (hR : fr + 1 ≤ R.frames ∧ 8 + (n + 11) + lo ≤ R.locals) (hcs : cells + mc ≤ R.cells ∧ slots + ms ≤ R.slots) (hbx : wg_ex Sb adb S ad) (k : ∀ ad1, wg_ex Sb adb S0 ad1 → wg_ext S ad ad1 → wg_G p l e R s m args below meth c Q nL E ad1 S0 (cells + mc) (slots + ms) (pc + 3) C0 M0 lv ((val ad1).toList ++ rest)) : wg_G p l e R s m args below meth c Q nL E ad S cells slots pc C M lv st := by
  intro H locs ls hl hP hD hS
  exact wg_acall (va_runS (As := As) (rest := rest) X.1 hM (va_cwS np X.1.2.2.2.2 (TB_S hlk ht.1 ht.2.1 ht.2.2.1) rfl rfl rfl ht.2.2.2 hR) ⟨wg_Pool.blind, fun U hU hW => ⟨rfl, wg_pool_end X hP hD hS hU hW⟩⟩ rfl hn hl.1 hst (lv_room hw) d hcs) hl hS hbx k
/-- a constructor that is called: its words -/
def wg_TI (y : MethodName) (b : ByteArray) (n : Nat) (np : Nat) : Prop := Cond.instanceMethod y ∈ TB ∧ Cond.initialized y.cls ∈ TB ∧ Cond.code y b n none ∈ TB ∧ y.name = "<init>" ∧ (y.cls ≠ "java/lang/invoke/MethodHandle" ∧ y.cls ≠ "java/lang/invoke/VarHandle" ∧ (parseMethodDescriptor y.desc).map (fun d => d.parameters.length) = some np)
theorem wg_callIa (X : wg_X p s m args meth c cc nL own E) {y : MethodName} {b : ByteArray} {n np fr lo mc ms idx : Nat} {As rest : List Value} {val : (Nat → Nat) → Option Value} {a : Nat} (hM : wg_Ca l y b n none fr lo mc ms E ad S C M (.ref (ad a) :: As) val S0 C0 M0) (ht : wg_TI y b n np) (hlk : Cond.methodLink own idx y ∈ TB) (d : decode cc pc = .ok (.invokespecial idx, 3)) (hst : st = As.reverse ++ .ref (ad a) :: rest) (hn : As.length = np) (hw : (rest.map fun v => v.category).sum ≤ 8) (hR : fr + 1 ≤ R.frames ∧ 8 + (n + 11) + lo ≤ R.locals) (hcs : cells + mc ≤ R.cells ∧ slots + ms ≤ R.slots) (hbx : wg_ex Sb adb S ad) (k : ∀ ad1, wg_ex Sb adb S0 ad1 → wg_ext S ad ad1 → wg_G p l e R s m args below meth c Q nL E ad1 S0 (cells + mc) (slots + ms) (pc + 3) C0 M0 lv ((val ad1).toList ++ rest)) : wg_G p l e R s m args below meth c Q nL E ad S cells slots pc C M lv st := by
  intro H locs ls hl hP hD hS
  exact wg_acall (va_runI (As := As) (rest := rest) X.1 hM (cwI np X.1.2.2.2.2 (WS_good ht.2.2.1) rfl rfl rfl (X.1.2.2.2.2 _ ht.2.1) (X.1.2.2.2.2 _ hlk) (X.1.2.2.2.2 _ ht.1) ht.2.2.2.1 ht.2.2.2.2 hR) ⟨wg_Pool.blind, fun U hU hW => ⟨rfl, wg_pool_end X hP hD hS hU hW⟩⟩ rfl hn hl.1 hst (lv_room hw) d hcs) hl hS hbx k
theorem wg_callINa (X : wg_X p s m args meth c cc nL own E) {y : MethodName} {b : ByteArray} {n np fr lo mc ms idx : Nat} {As rest : List Value} {val : (Nat → Nat) → Option Value} {a : Nat} {host : String} (hM : wg_Ca l y b n none fr lo mc ms E ad S C M (.ref (ad a) :: As) val S0 C0 M0) (ht : wg_TI y b n np) (hlk : Cond.methodLinkNest own idx y host ∈ wg_nest) (d : decode cc pc = .ok (.invokespecial idx, 3)) (hst : st = As.reverse ++ .ref (ad a) :: rest) (hn : As.length = np) (hw : (rest.map fun v => v.category).sum ≤ 8) (hR : fr + 1 ≤ R.frames ∧ 8 + (n + 11) + lo ≤ R.locals) (hcs : cells + mc ≤ R.cells ∧ slots + ms ≤ R.slots) (hbx : wg_ex Sb adb S ad) (k : ∀ ad1, wg_ex Sb adb S0 ad1 → wg_ext S ad ad1 → wg_G p l e R s m args below meth c Q nL E ad1 S0 (cells + mc) (slots + ms) (pc + 3) C0 M0 lv ((val ad1).toList ++ rest)) : wg_G p l e R s m args below meth c Q nL E ad S cells slots pc C M lv st := by
  intro H locs ls hl hP hD hS
  exact wg_acall (va_runIN (As := As) (rest := rest) X.1 hM ⟨va_cnB np X.1.2.2.2.2 (WS_good ht.2.2.1) rfl rfl rfl (X.2.2.2.1.1.1 _ hlk) (X.1.2.2.2.2 _ ht.2.1) ht.2.2.2.2 hR, ht.2.2.2.1, X.1.2.2.2.2 _ ht.1⟩ ⟨wg_Pool.blind, fun U hU hW => ⟨rfl, wg_pool_end X hP hD hS hU hW⟩⟩ rfl hn hl.1 hst (lv_room hw) d hcs) hl hS hbx k
end WGGROW
