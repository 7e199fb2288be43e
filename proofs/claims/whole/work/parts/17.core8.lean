section WGLAW
variable {p : Program} {l : Launch} {e : Env} {R : Room} {s : State} {m : MethodId} {args : Array Value} {below : List Frame} {meth : Method} {c : Code} {Q : State → Prop} {nL : Nat} {E : wg_Ev} {ad adb : Nat → Nat} {S S0 S1 Sb : wg_Sh} {cells slots pc : Nat} {C C0 C1 : wg_C} {M M0 M1 : wg_M} {lv lv' : List (Nat × Value)} {st st' : List Value} {cc : ByteArray} {own : String}
theorem wg_sld (X : wg_X p s m args meth c cc nL own E) {b L : Nat} {xs : Nat → Int32} (hX : va_X b L xs s s.heap) (hbl : b < s.heap.size) (hbA : ¬ E.1 ≤ b) {i : Int32} (hi : vp_in i L) (d : decode cc pc = .ok (.iaload, 1)) (k : wg_G p l e R s m args below meth c Q nL E ad S cells slots (pc + 1) C M lv (.int (xs i.toNatClampNeg) :: st)) : wg_G p l e R s m args below meth c Q nL E ad S cells slots pc C M lv (.int i :: .ref b :: st) := fun H locs ls hl hP hD hS => va_sld X.1.1 X.1.2.1 hX hbl hbA hS hi d (k H locs ls hl hP hD hS)
theorem wg_slen' (X : wg_X p s m args meth c cc nL own E) {b L : Nat} {xs : Nat → Int32} (hX : va_X b L xs s s.heap) (hbl : b < s.heap.size) (hbA : ¬ E.1 ≤ b) (d : decode cc pc = .ok (.arraylength, 1)) (k : wg_G p l e R s m args below meth c Q nL E ad S cells slots (pc + 1) C M lv (.int (Int32.ofNat L) :: st)) : wg_G p l e R s m args below meth c Q nL E ad S cells slots pc C M lv (.ref b :: st) := fun H locs ls hl hP hD hS => va_slen X.1.1 X.1.2.1 hX hbl hbA hS d (k H locs ls hl hP hD hS)
theorem wg_newM (X : wg_X p s m args meth c cc nL own E) {idx : Nat} (hx : wg_ex Sb adb S ad) (hcl : Cond.classLink own idx RX9 ∈ TB) (hin : Cond.instantiable RX9 44 ∈ TB) (hini : Cond.initialized RX9 ∈ TB) (hc : cells + 1 ≤ R.cells) (hs : slots + 44 ≤ R.slots) (d : decode cc pc = .ok (.new idx, 3)) (eS : S1 = wg_nw S 9 0) (eM : M1 = wg_zM M S.2.2.2)
    (k : ∀ ad1, wg_ex Sb adb S1 ad1 → wg_ext S ad ad1 → wg_G p l e R s m args below meth c Q nL E ad1 S1 (cells + 1) (slots + 44) (pc + 3) C M1 lv (.ref (ad1 S.2.2.2) :: st)) : wg_G p l e R s m args below meth c Q nL E ad S cells slots pc C M lv st := by
  subst eS; subst eM
  intro H locs ls hl hP hD hS
  refine va_new (ci := 9) (fs := wg_O ad (wg_nw S 9 0) C (wg_zM M S.2.2.2) 9 S.2.2.2) X.1.1 X.1.2.1 X.1.2.2.2.2 cl9.2.2.1 tyX9 cl9.2.2.2.1 X.1.2.2.2.1 (X.1.2.2.2.2 _ hcl) (X.1.2.2.2.2 _ hin) (X.1.2.2.2.2 _ hini) X.2.2.1 hP hD hS (wg_hA X) cl9.2.1 ?_ hc hs d (fun q H1 hP1 hD1 hS1 => ?_)
  · intro j hj
    rw [df9 j hj, vp_V, List.getD_eq_getElem?_getD, wg_O_get hj]
    rcases (show wg_ty 9 j = 1 ∨ wg_ty 9 j = 2 ∨ wg_ty 9 j = 3 from (show ∀ j, j < wg_N 9 → wg_ty 9 j = 1 ∨ wg_ty 9 j = 2 ∨ wg_ty 9 j = 3 by decide) j hj) with h0 | h0 | h0
    · simp [wg_V, h0, wg_nw, va_re, va_rf]
    · simp [wg_V, h0, wg_zM, va_up]
    · simp [wg_V, h0, wg_zM]
  · have hO : wg_O ad (wg_nw S 9 0) C (wg_zM M S.2.2.2) 9 S.2.2.2 = wg_O (va_up ad S.2.2.2 q) (wg_nw S 9 0) C (wg_zM M S.2.2.2) 9 S.2.2.2 := by
      refine List.map_congr_left fun j _ => ?_
      simp [wg_V, wg_nw, va_re]
    have hL := wg_L_push (cy := E.2.2.1) (ad := ad) (C := C) (C1 := C) (M := M) (M1 := wg_zM M S.2.2.2) (kd := 9) (len := 0) (q := q) hx.1 (fun i hi => rfl) (fun i hi => ⟨by funext j; simp [wg_zM, Nat.ne_of_lt hi], by simp [wg_zM, va_up, Nat.ne_of_lt hi]⟩) (wg_E_obj (wg_nw_id S 9 0) (by decide))
    rw [hO, hL] at hP1 hD1
    have := k (va_up ad S.2.2.2 q) (wg_ex_tr hx (wg_ex_nw hx.1 _ _ (wg_ext_up S ad q))) (wg_ext_up S ad q) H1 locs ls hl hP1 hD1 hS1
    rw [show va_up ad S.2.2.2 q S.2.2.2 = q from by simp [va_up]] at this
    exact this
end WGLAW
theorem wg_ix {x : Int32} {i k L : Nat} (e : x = nI i) (h : i + k < L) (hL : L ≤ 3072) : vp_in (x + nI k) L := by
  rw [e, nI_add]; exact vp_in_nI h (by omega)
