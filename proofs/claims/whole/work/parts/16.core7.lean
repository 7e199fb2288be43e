section WGCLONE
variable {p : Program} {l : Launch} {e : Env} {R : Room} {s : State} {m : MethodId} {args : Array Value} {below : List Frame} {meth : Method} {c : Code} {Q : State → Prop} {nL : Nat} {E : wg_Ev} {ad adb : Nat → Nat} {S S0 S1 Sb : wg_Sh} {cells slots pc : Nat} {C C0 C1 : wg_C} {M M0 M1 : wg_M} {lv lv' : List (Nat × Value)} {st st' : List Value} {cc : ByteArray} {own : String}
theorem wg_ren (h1 : lv = lv') (h2 : st = st') (k : wg_G p l e R s m args below meth c Q nL E ad S cells slots pc C M lv' st') : wg_G p l e R s m args below meth c Q nL E ad S cells slots pc C M lv st := by subst h1; subst h2; exact k
theorem wg_clone (X : wg_X p s m args meth c cc nL own E) {a n idx : Nat} (hx : wg_ex Sb adb S ad) (ha : wg_id S a 10) (hn : S.2.1 a = n) (hc : cells + 1 ≤ R.cells) (hs : slots + n ≤ R.slots) (hlk : Cond.methodLink own idx ⟨"[I", "clone", "()Ljava/lang/Object;"⟩ ∈ TB) (hR : 1 ≤ R.frames ∧ (st.map fun v => v.category).sum + 14 ≤ R.locals) (d : decode cc pc = .ok (.invokevirtual idx, 3)) (eS : S1 = wg_nw S 10 n) (eC : C1 = wg_zC C S.2.2.2 (C a))
    (k : ∀ ad1, wg_ex Sb adb S1 ad1 → wg_ext S ad ad1 → wg_G p l e R s m args below meth c Q nL E ad1 S1 (cells + 1) (slots + n) (pc + 3) C1 M lv (.ref (ad1 S.2.2.2) :: st)) : wg_G p l e R s m args below meth c Q nL E ad S cells slots pc C M lv (.ref (ad a) :: st) := by
  subst eS; subst eC; subst hn
  intro H locs ls hl hP hD hS
  have he : (wg_L E.2.2.1 ad S C M)[a]? = some (ad a, .inl (E.2.2.1 0, S.2.1 a, .inl (C a))) := (wg_L_get ha.1).trans (by rw [wg_E_ia ha])
  have hnm : s.vm.findClass "[I" = some (E.2.2.1 0) := (X.2.2.1.2 0 (E.2.2.1 0, .int) rfl).2
  refine va_clone X.1.1 X.1.2.1 (X.1.2.2.1.trans hl.1.symm) X.1.2.2.2.1 (X.1.2.2.2.2 _ hlk) (X.1.2.2.2.2 _ k_439) (X.1.2.2.2.2 _ k_440) (X.1.2.2.2.2 _ k_441) (X.1.2.2.2.2 _ k_442) X.2.2.2.1.1.2.2.2.2 X.2.2.1 hP hD hS (wg_hA X) a 0 he rfl hnm ?_ hR.1 hR.2 hc hs d (fun q H1 hK1 hP1 hD1 hS1 => ?_)
  · intro i v hv
    have : ∃ x : Int32, v = .int x := by
      simp only [vp_cell, arrV, arrSlots] at hv
      obtain ⟨hi, hv⟩ := Array.getElem?_eq_some_iff.mp hv
      simp at hv
      exact ⟨_, hv.symm⟩
    obtain ⟨x, rfl⟩ := this
    rfl
  · have hPu := wg_L_push (cy := E.2.2.1) (ad := ad) (S := S) (C := C) (C1 := wg_zC C S.2.2.2 (C a)) (M := M) (M1 := M) (kd := 10) (len := S.2.1 a) (q := q) hx.1 (fun i hi => wg_zC_ne C _ hi) (fun i hi => ⟨rfl, rfl⟩) (wg_E_ia (wg_nw_id S 10 _))
    have hln : (wg_nw S 10 (S.2.1 a)).2.1 S.2.2.2 = S.2.1 a := by simp [wg_nw, va_up]
    rw [hln, wg_zC_row] at hPu
    rw [hPu] at hP1 hD1
    have := k (va_up ad S.2.2.2 q) (wg_ex_tr hx (wg_ex_nw hx.1 _ _ (wg_ext_up S ad q))) (wg_ext_up S ad q) H1 locs ls hl hP1 hD1 hS1
    simpa [va_up] using this
theorem wg_castA (X : wg_X p s m args meth c cc nL own E) {a idx : Nat} (ha : wg_id S a 10) (hcl : Cond.classLink own idx "[I" ∈ TB) (d : decode cc pc = .ok (.checkcast idx, 3)) (k : wg_G p l e R s m args below meth c Q nL E ad S cells slots (pc + 3) C M lv (.ref (ad a) :: st)) : wg_G p l e R s m args below meth c Q nL E ad S cells slots pc C M lv (.ref (ad a) :: st) :=
  fun H locs ls hl hP hD hS => va_castA X.1.1 X.1.2.1 X.1.2.2.2.1 (X.1.2.2.2.2 _ hcl) hP a ((wg_L_get ha.1).trans (by rw [wg_E_ia ha])) (X.2.2.1.2 0 (E.2.2.1 0, .int) rfl).2 d (k H locs ls hl hP hD hS)
theorem wg_aload_nQ (X : wg_X p s m args meth c cc nL own E) {n : Fin 4} {i : Nat} {o : Option Nat} (j : Nat) (d : decode cc pc = .ok (.aload_n n, 1)) (hi : (n : Nat) = i) (h : lv[j]? = some (i, va_re ad o)) (k : wg_G p l e R s m args below meth c Q nL E ad S cells slots (pc + 1) C M lv (va_re ad o :: st)) : wg_G p l e R s m args below meth c Q nL E ad S cells slots pc C M lv st := by
  cases o with
  | none => exact fun H locs ls hl hP hD hS => lv_aload_nN X.1.1 X.1.2.1 d hi (lv_at hl j h) (k H locs ls hl hP hD hS)
  | some t => exact fun H locs ls hl hP hD hS => lv_aload_n X.1.1 X.1.2.1 d hi (lv_at hl j h) (k H locs ls hl hP hD hS)
theorem wg_astore_nQ (X : wg_X p s m args meth c cc nL own E) {n : Fin 4} {i : Nat} {o : Option Nat} (d : decode cc pc = .ok (.astore_n n, 1)) (hi : (n : Nat) = i) (hn : i < nL) (h : (i, va_re ad o) :: lv.filter (fun q => !(q.1 == i) && !(q.1 + 1 == i && q.2.category == 2)) = lv') (k : wg_G p l e R s m args below meth c Q nL E ad S cells slots (pc + 1) C M lv' st) : wg_G p l e R s m args below meth c Q nL E ad S cells slots pc C M lv (va_re ad o :: st) := by
  cases o with
  | none => exact fun H locs ls hl hP hD hS => lv_astore_nN X.1.1 X.1.2.1 d hi hl hn h (fun ls hl => k H locs ls hl hP hD hS)
  | some t => exact fun H locs ls hl hP hD hS => lv_astore_n X.1.1 X.1.2.1 d hi hl hn h (fun ls hl => k H locs ls hl hP hD hS)
end WGCLONE
/-! ===== what stands where, as a test ===== -/
def wg_Txb (S : wg_Sh) (t : Nat) : Bool := decide (t + 2 < S.2.2.2) && (S.2.2.1 t == 6) && (S.1 t 0 == some (t + 1)) && (S.2.2.1 (t + 1) == 10) && (S.1 t 1 == some (t + 2)) && (S.2.2.1 (t + 2) == 10) && (S.2.1 (t + 2) == 3)
def wg_SCb (S : wg_Sh) : Bool := (List.range 52).all (fun a => decide (a < S.2.2.2) && (S.2.2.1 a == wg_kdC.getD a 0) && (S.2.1 a == wg_lnC.getD a 0)) && (List.range 52).all (fun a => (List.range 12).all fun k => ((wg_rfC.getD a []).getD k 0 == 0) || (S.1 a k == some ((wg_rfC.getD a []).getD k 0 - 1))) && (List.range 6).all (fun k => match S.1 32 k with | none => true | some t => wg_Txb S t)
def wg_SMb (S : wg_Sh) : Bool := (List.range 20).all (fun a => decide (55 + a < S.2.2.2) && (S.2.2.1 (55 + a) == wg_kdM.getD a 0) && (S.2.1 (55 + a) == wg_lnM.getD a 0)) && (List.range 44).all (fun k => (wg_rfM.getD k 0 == 0) || (S.1 55 k == some (wg_rfM.getD k 0 - 1)))
theorem wg_Txb_iff {S : wg_Sh} {t : Nat} : wg_Txb S t = true ↔ wg_Txt S t := by
  simp only [wg_Txb, wg_Txt, wg_id, Bool.and_eq_true, decide_eq_true_eq, beq_iff_eq]
  constructor
  · rintro ⟨⟨⟨⟨⟨⟨h1, h2⟩, h3⟩, h4⟩, h5⟩, h6⟩, h7⟩
    exact ⟨⟨by omega, h2⟩, h3, ⟨by omega, h4⟩, h5, ⟨h1, h6⟩, h7⟩
  · rintro ⟨⟨h1, h2⟩, h3, ⟨h4, h5⟩, h6, ⟨h7, h8⟩, h9⟩
    exact ⟨⟨⟨⟨⟨⟨h7, h2⟩, h3⟩, h5⟩, h6⟩, h8⟩, h9⟩
theorem wg_rfC_out {a k b : Nat} (h : (wg_rfC.getD a []).getD k 0 = b + 1) : a < 52 ∧ k < 12 := by
  have t : ∀ a, a < 52 → (wg_rfC.getD a []).length ≤ 12 := by decide
  by_cases ha : a < 52
  · refine ⟨ha, ?_⟩
    by_cases hk : k < (wg_rfC.getD a []).length
    · exact Nat.lt_of_lt_of_le hk (t a ha)
    · rw [List.getD_eq_getElem?_getD, List.getElem?_eq_none (Nat.not_lt.mp hk)] at h
      cases h
  · have he : wg_rfC.getD a [] = [] := by rw [List.getD_eq_getElem?_getD, List.getElem?_eq_none (Nat.le_trans (by decide) (Nat.not_lt.mp ha))]; rfl
    rw [he] at h
    cases h
theorem wg_SCb_iff {S : wg_Sh} : wg_SCb S = true ↔ wg_SC S := by
  simp only [wg_SCb, wg_SC, wg_id, Bool.and_eq_true, List.all_eq_true, List.mem_range, decide_eq_true_eq, beq_iff_eq, Bool.or_eq_true]
  constructor
  · rintro ⟨⟨h1, h2⟩, h3⟩
    refine ⟨fun a ha => ⟨⟨(h1 a ha).1.1, (h1 a ha).1.2⟩, (h1 a ha).2⟩, fun a k b hb => ?_, fun k t hk ht => ?_⟩
    · obtain ⟨ha, hk⟩ := wg_rfC_out hb
      rcases h2 a ha k hk with h | h
      · omega
      · rw [h, hb]; rfl
    · have := h3 k hk
      rw [ht] at this
      exact wg_Txb_iff.mp this
  · rintro ⟨h1, h2, h3⟩
    refine ⟨⟨fun a ha => ⟨⟨(h1 a ha).1.1, (h1 a ha).1.2⟩, (h1 a ha).2⟩, fun a ha k hk => ?_⟩, fun k hk => ?_⟩
    · by_cases h0 : (wg_rfC.getD a []).getD k 0 = 0
      · exact Or.inl h0
      · exact Or.inr (h2 a k _ (by omega))
    · cases ht : S.1 32 k with
      | none => rfl
      | some t => exact wg_Txb_iff.mpr (h3 k t hk ht)
theorem wg_SMb_iff {S : wg_Sh} : wg_SMb S = true ↔ wg_SM S := by
  simp only [wg_SMb, wg_SM, wg_id, Bool.and_eq_true, List.all_eq_true, List.mem_range, decide_eq_true_eq, beq_iff_eq, Bool.or_eq_true]
  constructor
  · rintro ⟨h1, h2⟩
    refine ⟨fun a ha => ⟨⟨(h1 a ha).1.1, (h1 a ha).1.2⟩, (h1 a ha).2⟩, fun k b hb => ?_⟩
    have hk : k < 44 := by
      by_cases hk : k < 44
      · exact hk
      · rw [List.getD_eq_getElem?_getD, List.getElem?_eq_none (Nat.le_trans (by decide) (Nat.not_lt.mp hk))] at hb
        cases hb
    rcases h2 k hk with h | h
    · omega
    · rw [h, hb]; rfl
  · rintro ⟨h1, h2⟩
    refine ⟨fun a ha => ⟨⟨(h1 a ha).1.1, (h1 a ha).1.2⟩, (h1 a ha).2⟩, fun k hk => ?_⟩
    by_cases h0 : wg_rfM.getD k 0 = 0
    · exact Or.inl h0
    · exact Or.inr (h2 k _ (by omega))
theorem T_yX8_init : wg_TI yX8_init cX8_init 2 0 := ⟨k_91, k_70, k_92, rfl, by decide +kernel⟩
theorem T_yX0_init : wg_TI yX0_init cX0_init 2 0 := ⟨k_99, k_71, k_100, rfl, by decide +kernel⟩
theorem T_yX1_init : wg_TI yX1_init cX1_init 2 1 := ⟨k_106, k_72, k_107, rfl, by decide +kernel⟩
theorem T_yX5_init : wg_TI yX5_init cX5_init 1 0 := ⟨k_164, k_73, k_165, rfl, by decide +kernel⟩
theorem T_yX2_init : wg_TI yX2_init cX2_init 1 0 := ⟨k_197, k_74, k_198, rfl, by decide +kernel⟩
theorem T_yX3_init : wg_TI yX3_init cX3_init 1 0 := ⟨k_223, k_75, k_224, rfl, by decide +kernel⟩
theorem T_yX7_init : wg_TI yX7_init cX7_init 1 0 := ⟨k_245, k_76, k_246, rfl, by decide +kernel⟩
theorem T_yX4_init : wg_TI yX4_init cX4_init 1 0 := ⟨k_266, k_77, k_267, rfl, by decide +kernel⟩
theorem T_yX6_init : wg_TI yX6_init cX6_init 3 2 := ⟨k_452, k_82, k_453, rfl, by decide +kernel⟩
theorem T_yX9_init : wg_TI yX9_init cX9_init 1 0 := ⟨k_876, k_86, k_877, rfl, by decide +kernel⟩
theorem df0 : wg_def 0 tyX0 := by unfold wg_def; decide +kernel
theorem df1 : wg_def 1 tyX1 := by unfold wg_def; decide +kernel
theorem df2 : wg_def 2 tyX2 := by unfold wg_def; decide +kernel
theorem df3 : wg_def 3 tyX3 := by unfold wg_def; decide +kernel
theorem df4 : wg_def 4 tyX4 := by unfold wg_def; decide +kernel
theorem df5 : wg_def 5 tyX5 := by unfold wg_def; decide +kernel
theorem df6 : wg_def 6 tyX6 := by unfold wg_def; decide +kernel
theorem df7 : wg_def 7 tyX7 := by unfold wg_def; decide +kernel
theorem df8 : wg_def 8 tyX8 := by unfold wg_def; decide +kernel
theorem df9 : wg_def 9 tyX9 := by unfold wg_def; decide +kernel
