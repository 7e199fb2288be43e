theorem law_bound {L i : Nat} (hL : L ≤ 3072) (hi : i ≤ 4000) (h : ¬ (Int32.ofNat L - 6 < nI i)) : i + 6 ≤ L := by
  have h1 : (nI L - nI 6).toInt = (L : Int) - 6 := pk_sub_toInt (by omega) (by omega)
  have h2 : (nI i).toInt = (i : Int) := nI_toInt (by omega)
  have h3 : ¬ (nI L - nI 6 < nI i) := h
  rw [Int32.lt_iff_toInt_lt, h1, h2] at h3
  omega
set_option maxHeartbeats 4000000 in
set_option maxRecDepth 100000 in
/-- the law's loop, over methods that agree -/
theorem law_main {p : Program} {l : Launch} {e : Env} {s : State} {m : MethodId} {args : Array Value} {below : List Frame} {meth : Method} {c : Code} {Q : State → Prop} {E : wg_Ev} {b L : Nat} {xs : Nat → Int32} (X : wg_X p s m args meth c cL_law 4 RL E) (hX : va_X b L xs s s.heap) (hbl : b < s.heap.size) (hbA : ¬ E.1 ≤ b) (hL : L ≤ 3072) {Inv : wg_Sh → wg_C → wg_M → Prop} (hA : H_all Inv)
    (hret : ∀ (S : wg_Sh) (C : wg_C) (M : wg_M) (ad : Nat → Nat) (cells slots : Nat) (x3 : Int32), cells ≤ 600000 → slots ≤ 7302250 → GL p l e s m args below meth c Q E ad S cells slots 1298 C M [(0, .ref b), (1, .ref (ad 0)), (2, .ref (ad 55)), (3, .int x3)] []) :
    ∀ (n i j : Nat) (x3 : Int32) (S : wg_Sh) (C : wg_C) (M : wg_M) (ad : Nat → Nat) (cells slots : Nat), L + 1 ≤ i + n → i = 6 * j → j ≤ 512 → x3 = nI i → Inv S C M → wg_wf S → cells ≤ 100 + 3 * j → slots ≤ 10000 + 165 * j → GL p l e s m args below meth c Q E ad S cells slots 18 C M [(0, .ref b), (1, .ref (ad 0)), (2, .ref (ad 55)), (3, .int x3)] [] := by
  intro n
  induction n with
  | zero =>
    intro i j x3 S C M ad cells slots hn hij hj e3 hI hw hc hs
    refine wg_iload_n X 3 dL_law_18 rfl rfl ?_
    refine wg_aload_n X 0 dL_law_19 rfl rfl ?_
    refine wg_slen' X hX hbl hbA dL_law_20 ?_
    refine wg_bipush (v := 6) X dL_law_21 (by decide) ?_
    refine wg_isub X dL_law_23 ?_
    refine wg_icmp_gt X 1298 dL_law_24 (by decide) (fun _ => ?_) (fun c1 => ?_)
    · exact hret S C M ad cells slots x3 (by omega) (by omega)
    · rw [e3] at c1
      have := law_bound hL (by omega) c1
      omega
  | succ n ih =>
    intro i j x3 S C M ad cells slots hn hij hj e3 hI hw hc hs
    obtain ⟨hSh, h0, h1, h2, h3, h4, h5, h6, h7, h8, h9, h10, h11, h12, h13, h14, h15, h16, h17, h18, h19, h20, h21, h22, h23, h24, h25, h26, h27, h28⟩ := id hA
    refine wg_iload_n X 3 dL_law_18 rfl rfl ?_
    refine wg_aload_n X 0 dL_law_19 rfl rfl ?_
    refine wg_slen' X hX hbl hbA dL_law_20 ?_
    refine wg_bipush (v := 6) X dL_law_21 (by decide) ?_
    refine wg_isub X dL_law_23 ?_
    refine wg_icmp_gt X 1298 dL_law_24 (by decide) (fun _ => ?_) (fun c1 => ?_)
    · exact hret S C M ad cells slots x3 (by omega) (by omega)
    rw [e3] at c1
    have hi := law_bound hL (by omega) c1
    have hvi : vp_in x3 L := by rw [e3]; exact vp_in_nI (by omega) (by omega)
    have K : ∀ (S1 : wg_Sh) (C1 : wg_C) (M1 : wg_M) (ad1 : Nat → Nat) (cells1 slots1 : Nat), Inv S1 C1 M1 → wg_wf S1 → cells1 ≤ 100 + 3 * (j + 1) → slots1 ≤ 10000 + 165 * (j + 1) → GL p l e s m args below meth c Q E ad1 S1 cells1 slots1 1292 C1 M1 [(0, .ref b), (1, .ref (ad1 0)), (2, .ref (ad1 55)), (3, .int x3)] [] := by
      intro S1 C1 M1 ad1 cells1 slots1 hI1 hw1 hc1 hs1
      obtain ⟨x4, e4⟩ : ∃ y : Int32, y = x3 + Int32.ofInt 6 := ⟨_, rfl⟩
      refine wg_iinc (lv' := [(3, .int x4), (0, .ref b), (1, .ref (ad1 0)), (2, .ref (ad1 55))]) X 3 dL_law_1292 rfl e4 (by decide) rfl ?_
      refine wg_goto X 18 dL_law_1295 (by decide) ?_
      refine wg_pick [1, 2, 3, 0] (lv' := [(0, .ref b), (1, .ref (ad1 0)), (2, .ref (ad1 55)), (3, .int x4)]) rfl ?_
      exact ih (i + 6) (j + 1) x4 S1 C1 M1 ad1 cells1 slots1 (by omega) (by omega) (by omega) (by rw [e4, e3]; exact nI_add i 6) hI1 hw1 hc1 hs1
    refine wg_aload_n X 0 dL_law_27 rfl rfl ?_
    refine wg_iload_n X 3 dL_law_28 rfl rfl ?_
    refine wg_sld X hX hbl hbA hvi dL_law_29 ?_
    refine wg_bipush (v := 31) X dL_law_30 (by decide) ?_
    refine wg_iand X dL_law_32 ?_
    obtain ⟨v, ev⟩ : ∃ y : Int32, y = xs x3.toNatClampNeg &&& 31 := ⟨_, rfl⟩
    refine wg_top ev ?_
    have hS0 := hSh S C M hI
    by_cases q0 : v = 0
    · refine wg_tblIn (off := 131) X 164 dL_law_33 q0 (by decide) (by decide) (by decide) (by decide) ?_
      exact law_set X hX hbl hbA hL h0 hi (by omega) e3 hI hS0 hw hc hs K
    by_cases q1 : v = 1
    · refine wg_tblIn (off := 174) X 207 dL_law_33 q1 (by decide) (by decide) (by decide) (by decide) ?_
      exact law_pane X hX hbl hbA hL h1 hi (by omega) e3 hI hS0 hw hc hs K
    by_cases q2 : v = 2
    · refine wg_tblIn (off := 217) X 250 dL_law_33 q2 (by decide) (by decide) (by decide) (by decide) ?_
      exact law_told X hX hbl hbA hL h2 hi (by omega) e3 hI hS0 hw hc hs K
    by_cases q3 : v = 3
    · refine wg_tblIn (off := 250) X 283 dL_law_33 q3 (by decide) (by decide) (by decide) (by decide) ?_
      exact law_gives X hX hbl hbA hL h3 hi (by omega) e3 hI hS0 hw hc hs K
    by_cases q4 : v = 4
    · refine wg_tblIn (off := 293) X 326 dL_law_33 q4 (by decide) (by decide) (by decide) (by decide) ?_
      exact law_feed X hX hbl hbA hL h4 hi (by omega) e3 hI hS0 hw hc hs K
    by_cases q5 : v = 5
    · refine wg_tblIn (off := 316) X 349 dL_law_33 q5 (by decide) (by decide) (by decide) (by decide) ?_
      exact law_text X hX hbl hbA hL hSh h5 hi (by omega) e3 hI hS0 hw hc hs K
    by_cases q6 : v = 6
    · refine wg_tblIn (off := 329) X 362 dL_law_33 q6 (by decide) (by decide) (by decide) (by decide) ?_
      exact law_force X hX hbl hbA hL h6 hi (by omega) e3 hI hS0 hw hc hs K
    by_cases q7 : v = 7
    · refine wg_tblIn (off := 352) X 385 dL_law_33 q7 (by decide) (by decide) (by decide) (by decide) ?_
      exact law_panes X hX hbl hbA hL h7 hi (by omega) e3 hI hS0 hw hc hs K
    by_cases q8 : v = 8
    · refine wg_tblIn (off := 405) X 438 dL_law_33 q8 (by decide) (by decide) (by decide) (by decide) ?_
      exact law_cost X hX hbl hbA hL h8 hi (by omega) e3 hI hS0 hw hc hs K
    by_cases q9 : v = 9
    · refine wg_tblIn (off := 448) X 481 dL_law_33 q9 (by decide) (by decide) (by decide) (by decide) ?_
      exact law_earliest X hX hbl hbA hL h9 hi (by omega) e3 hI hS0 hw hc hs K
    by_cases q10 : v = 10
    · refine wg_tblIn (off := 491) X 524 dL_law_33 q10 (by decide) (by decide) (by decide) (by decide) ?_
      exact law_loop X hX hbl hbA hL h10 hi (by omega) e3 hI hS0 hw hc hs K
    by_cases q11 : v = 11
    · refine wg_tblIn (off := 524) X 557 dL_law_33 q11 (by decide) (by decide) (by decide) (by decide) ?_
      exact law_spots X hX hbl hbA hL h11 hi (by omega) e3 hI hS0 hw hc hs K
    by_cases q12 : v = 12
    · refine wg_tblIn (off := 557) X 590 dL_law_33 q12 (by decide) (by decide) (by decide) (by decide) ?_
      exact law_brick X hX hbl hbA hL h12 hi (by omega) e3 hI hS0 hw hc hs K
    by_cases q13 : v = 13
    · refine wg_tblIn (off := 610) X 643 dL_law_33 q13 (by decide) (by decide) (by decide) (by decide) ?_
      exact law_seen X hX hbl hbA hL h13 hi (by omega) e3 hI hS0 hw hc hs K
    by_cases q14 : v = 14
    · refine wg_tblIn (off := 663) X 696 dL_law_33 q14 (by decide) (by decide) (by decide) (by decide) ?_
      exact law_lookNext X hX hbl hbA hL h14 hi (by omega) e3 hI hS0 hw hc hs K
    by_cases q15 : v = 15
    · refine wg_tblIn (off := 716) X 749 dL_law_33 q15 (by decide) (by decide) (by decide) (by decide) ?_
      exact law_film X hX hbl hbA hL h15 hi (by omega) e3 hI hS0 hw hc hs K
    by_cases q16 : v = 16
    · refine wg_tblIn (off := 769) X 802 dL_law_33 q16 (by decide) (by decide) (by decide) (by decide) ?_
      exact law_water X hX hbl hbA hL h16 hi (by omega) e3 hI hS0 hw hc hs K
    by_cases q17 : v = 17
    · refine wg_tblIn (off := 802) X 835 dL_law_33 q17 (by decide) (by decide) (by decide) (by decide) ?_
      exact law_wettest X hX hbl hbA hL h17 hi (by omega) e3 hI hS0 hw hc hs K
    by_cases q18 : v = 18
    · refine wg_tblIn (off := 835) X 868 dL_law_33 q18 (by decide) (by decide) (by decide) (by decide) ?_
      exact law_views X hX hbl hbA hL h18 hi (by omega) e3 hI hS0 hw hc hs K
    by_cases q19 : v = 19
    · refine wg_tblIn (off := 878) X 911 dL_law_33 q19 (by decide) (by decide) (by decide) (by decide) ?_
      exact law_drawn X hX hbl hbA hL h19 hi (by omega) e3 hI hS0 hw hc hs K
    by_cases q20 : v = 20
    · refine wg_tblIn (off := 911) X 944 dL_law_33 q20 (by decide) (by decide) (by decide) (by decide) ?_
      exact law_chance X hX hbl hbA hL h20 hi (by omega) e3 hI hS0 hw hc hs K
    by_cases q21 : v = 21
    · refine wg_tblIn (off := 975) X 1008 dL_law_33 q21 (by decide) (by decide) (by decide) (by decide) ?_
      exact law_image X hX hbl hbA hL h21 hi (by omega) e3 hI hS0 hw hc hs K
    by_cases q22 : v = 22
    · refine wg_tblIn (off := 988) X 1021 dL_law_33 q22 (by decide) (by decide) (by decide) (by decide) ?_
      exact law_back X hX hbl hbA hL h22 hi (by omega) e3 hI hS0 hw hc hs K
    by_cases q23 : v = 23
    · refine wg_tblIn (off := 1001) X 1034 dL_law_33 q23 (by decide) (by decide) (by decide) (by decide) ?_
      exact law_count X hX hbl hbA hL h23 hi (by omega) e3 hI hS0 hw hc hs K
    by_cases q24 : v = 24
    · refine wg_tblIn (off := 1024) X 1057 dL_law_33 q24 (by decide) (by decide) (by decide) (by decide) ?_
      exact law_sheet X hX hbl hbA hL h24 hi (by omega) e3 hI hS0 hw hc hs K
    by_cases q25 : v = 25
    · refine wg_tblIn (off := 1067) X 1100 dL_law_33 q25 (by decide) (by decide) (by decide) (by decide) ?_
      exact law_cell X hX hbl hbA hL h25 hi (by omega) e3 hI hS0 hw hc hs K
    by_cases q26 : v = 26
    · refine wg_tblIn (off := 1110) X 1143 dL_law_33 q26 (by decide) (by decide) (by decide) (by decide) ?_
      exact law_copy X hX hbl hbA hL h26 hi (by omega) e3 hI hS0 hw hc hs K
    by_cases q27 : v = 27
    · refine wg_tblIn (off := 1173) X 1206 dL_law_33 q27 (by decide) (by decide) (by decide) (by decide) ?_
      exact law_weathers X hX hbl hbA hL h27 hi (by omega) e3 hI hS0 hw hc hs K
    by_cases q28 : v = 28
    · refine wg_tblIn (off := 1226) X 1259 dL_law_33 q28 (by decide) (by decide) (by decide) (by decide) ?_
      exact law_taken X hX hbl hbA hL h28 hi (by omega) e3 hI hS0 hw hc hs K
    refine wg_tblOut X 1292 dL_law_33 (wg_tout 0 28 (fun k hk => by
      rcases (show k = 0 ∨ k = 1 ∨ k = 2 ∨ k = 3 ∨ k = 4 ∨ k = 5 ∨ k = 6 ∨ k = 7 ∨ k = 8 ∨ k = 9 ∨ k = 10 ∨ k = 11 ∨ k = 12 ∨ k = 13 ∨ k = 14 ∨ k = 15 ∨ k = 16 ∨ k = 17 ∨ k = 18 ∨ k = 19 ∨ k = 20 ∨ k = 21 ∨ k = 22 ∨ k = 23 ∨ k = 24 ∨ k = 25 ∨ k = 26 ∨ k = 27 ∨ k = 28 by omega) with rfl | rfl | rfl | rfl | rfl | rfl | rfl | rfl | rfl | rfl | rfl | rfl | rfl | rfl | rfl | rfl | rfl | rfl | rfl | rfl | rfl | rfl | rfl | rfl | rfl | rfl | rfl | rfl | rfl
      · exact fun q => q0 (q.trans (by decide))
      · exact fun q => q1 (q.trans (by decide))
      · exact fun q => q2 (q.trans (by decide))
      · exact fun q => q3 (q.trans (by decide))
      · exact fun q => q4 (q.trans (by decide))
      · exact fun q => q5 (q.trans (by decide))
      · exact fun q => q6 (q.trans (by decide))
      · exact fun q => q7 (q.trans (by decide))
      · exact fun q => q8 (q.trans (by decide))
      · exact fun q => q9 (q.trans (by decide))
      · exact fun q => q10 (q.trans (by decide))
      · exact fun q => q11 (q.trans (by decide))
      · exact fun q => q12 (q.trans (by decide))
      · exact fun q => q13 (q.trans (by decide))
      · exact fun q => q14 (q.trans (by decide))
      · exact fun q => q15 (q.trans (by decide))
      · exact fun q => q16 (q.trans (by decide))
      · exact fun q => q17 (q.trans (by decide))
      · exact fun q => q18 (q.trans (by decide))
      · exact fun q => q19 (q.trans (by decide))
      · exact fun q => q20 (q.trans (by decide))
      · exact fun q => q21 (q.trans (by decide))
      · exact fun q => q22 (q.trans (by decide))
      · exact fun q => q23 (q.trans (by decide))
      · exact fun q => q24 (q.trans (by decide))
      · exact fun q => q25 (q.trans (by decide))
      · exact fun q => q26 (q.trans (by decide))
      · exact fun q => q27 (q.trans (by decide))
      · exact fun q => q28 (q.trans (by decide))) (by decide) (by decide)) (by decide) ?_
    exact K S C M ad cells slots hI hw (by omega) (by omega)
