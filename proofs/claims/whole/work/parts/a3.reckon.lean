/-! ===== the code is reckoned ===== -/
def StkR (D : wg_C) : List Int32 → Prop
  | [] => True
  | x :: s => D 34 s.length = x ∧ StkR D s
theorem StkR.up {D : wg_C} {h : Nat} {v : Int32} : ∀ {s : List Int32}, StkR D s → s.length ≤ h → StkR (wg_up D 34 h v) s
  | [], _, _ => True.intro
  | x :: s, h1, h2 => by
    have h2' : s.length + 1 ≤ h := h2
    exact ⟨(up_k _ _ (by omega)).trans h1.1, StkR.up h1.2 (by omega)⟩
theorem StkR.push {D : wg_C} {h : Nat} {v : Int32} {s : List Int32} (h1 : StkR D s) (h2 : s.length = h) : StkR (wg_up D 34 h v) (v :: s) := ⟨by rw [h2]; exact up_s _ _ _ _, h1.up (by omega)⟩
theorem s8_nameOf (D : wg_C) (x : Int32) : f_X3_nameOf D x = some (if rg 6 x = true then D 33 x.toNatClampNeg else 0) := by
  unfold f_X3_nameOf
  simp only [i_lt, i_le, Int32.toInt_zero, show (6 : Int32).toInt = 6 from rfl]
  by_cases g : rg 6 x = true
  · have q := (rg_iff 6 x).mp g
    rw [if_neg (by omega), if_neg (by omega), ck_pos (inb_of g (Nat.le_refl _)), if_pos g]
  · have q : ¬ (0 ≤ x.toInt ∧ x.toInt < (6 : Nat)) := fun z => g ((rg_iff 6 x).mpr z)
    rw [if_neg g]
    by_cases g1 : x.toInt < 0
    · rw [if_pos g1]
    · rw [if_neg g1, if_pos (by omega)]
theorem s8_joined (o x y : Int32) : f_X3_joined o x y = some (jnV o x y) := by
  unfold f_X3_joined jnV f_X3_truth
  simp only [if_true, show ¬ (1 : Int32) = 0 by decide, if_false, bd_eq]
  repeat' split
  all_goals rfl
section
variable {S : wg_Sh} {id e : Nat} {w : Int32} {cd : Nat → Int32}
theorem s8_j54 {D : wg_C} {a : Nat} {st : List Int32} {v x5 x6 : Int32} (hl : st.length < 160) (hstk : StkR D st) (h0 : x5 = 0 → v = x6) (h1 : ¬ x5 = 0 → v = if rg 6 x6 = true then D 33 x6.toNatClampNeg else 0) : ∃ D', f_X3_reckon_j54l9 NN S id D w (Int32.ofNat st.length) (Int32.ofNat a) x5 x6 = some (.inl (D', Int32.ofNat (st.length + 1), Int32.ofNat (a + 1))) ∧ (∀ x k, x ≠ 34 → D' x k = D x k) ∧ StkR D' (v :: st) := by
  have l160 : Int32.ofNat st.length < 160 := (oN_lt (show 160 < 2147483648 by omega) (show st.length < 2147483648 by omega)).mpr hl
  have hil : inb (Int32.ofNat st.length) 160 := oN_inb hl (by decide)
  have hcl : (Int32.ofNat st.length).toNatClampNeg = st.length := oN_cl (by omega)
  refine ⟨wg_up D 34 st.length v, ?_, fun x k z => up_r _ _ _ _ z, hstk.push rfl⟩
  unfold f_X3_reckon_j54l9
  by_cases g : x5 = 0
  · simp only [if_pos l160, if_pos g, ck_pos hil, hcl, lt_eq, h0 g, oN_s]
  · simp only [if_pos l160, if_neg g, s8_nameOf, bd_eq, ck_pos hil, hcl, lt_eq, h1 g, oN_s]
theorem s8_j105 {D : wg_C} {a : Nat} {s : List Int32} {x x5 : Int32} (hl : s.length + 1 < 160) (h1 : D 34 s.length = x) (h2 : StkR D s) : ∃ D', f_X3_reckon_j105l9 NN S id D w (Int32.ofNat (s.length + 1)) (Int32.ofNat a) x5 = some (.inl (D', Int32.ofNat (s.length + 1), Int32.ofNat (a + 1))) ∧ (∀ x k, x ≠ 34 → D' x k = D x k) ∧ StkR D' ((if x5 = 2 then -x else if x = 0 then 1 else 0) :: s) := by
  have o1 : (1 : Int32) ≤ Int32.ofNat (s.length + 1) := (oN_le (show s.length + 1 < 2147483648 by omega) (show 1 < 2147483648 by omega)).mpr (by omega)
  have e1 : Int32.ofNat (s.length + 1) - 1 = Int32.ofNat s.length := by
    rw [i_eq, i_sub, oN_t (by omega), oN_t (by omega), Int32.toInt_one]
    omega
  have o2 : inb (Int32.ofNat s.length) 160 := oN_inb (by omega) (by decide)
  have o3 : (Int32.ofNat s.length).toNatClampNeg = s.length := oN_cl (by omega)
  refine ⟨wg_up D 34 s.length (if x5 = 2 then -x else if x = 0 then 1 else 0), ?_, fun x k z => up_r _ _ _ _ z, h2.push rfl⟩
  have tr1 : f_X3_truth 1 = some 1 := rfl
  have tr0 : f_X3_truth 0 = some 0 := rfl
  unfold f_X3_reckon_j105l9
  by_cases g : x5 = 2
  · simp only [if_pos o1, e1, ck_pos o2, lt_eq, o3, h1, if_pos g, oN_s]
  · by_cases g4 : x = 0
    · simp only [if_pos o1, e1, ck_pos o2, lt_eq, o3, h1, if_neg g, if_pos g4, tr1, bd_eq, oN_s]
    · simp only [if_pos o1, e1, ck_pos o2, lt_eq, o3, h1, if_neg g, if_neg g4, tr0, bd_eq, oN_s]
theorem s8_jbin {D : wg_C} {a : Nat} {s : List Int32} {x y o : Int32} (hl : s.length + 2 < 160) (h1 : D 34 (s.length + 1) = y) (h2 : D 34 s.length = x) (h3 : StkR D s) : ∃ D', (if (2 : Int32) ≤ Int32.ofNat (s.length + 2) then (
              lt_ (Int32.ofNat (s.length + 2) + (-1 : Int32)) fun v60 =>
              ck (inb (v60 - (1 : Int32)) 160) <|
              ck (inb v60 160) <|
              bd (f_X3_joined o (D 34 (v60 - (1 : Int32)).toNatClampNeg) (D 34 v60.toNatClampNeg)) fun r65 =>
              ck (inb (v60 - (1 : Int32)) 160) <|
              lt_ (wg_up D 34 (v60 - (1 : Int32)).toNatClampNeg r65) fun C67 =>
              lt_ (Int32.ofNat a + (1 : Int32)) fun v69 =>
              (some (.inl (C67, v60, v69)) : Option ((wg_C × Int32 × Int32) ⊕ ((wg_C × Int32 × Int32) ⊕ (Int32 × wg_C)))))
            else (
              some (.inr (.inr ((0 : Int32), D))))) = some (.inl (D', Int32.ofNat (s.length + 1), Int32.ofNat (a + 1))) ∧ (∀ x k, x ≠ 34 → D' x k = D x k) ∧ StkR D' (jnV o x y :: s) := by
  have o1 : (2 : Int32) ≤ Int32.ofNat (s.length + 2) := (oN_le (show s.length + 2 < 2147483648 by omega) (show 2 < 2147483648 by omega)).mpr (by omega)
  have e2 : Int32.ofNat (s.length + 2) + (-1) = Int32.ofNat (s.length + 1) := by
    rw [i_eq, i_add, oN_t (by omega), oN_t (by omega), show (-1 : Int32).toInt = -1 from rfl]
    omega
  have e1 : Int32.ofNat (s.length + 1) - 1 = Int32.ofNat s.length := by
    rw [i_eq, i_sub, oN_t (by omega), oN_t (by omega), Int32.toInt_one]
    omega
  have o2 : inb (Int32.ofNat s.length) 160 := oN_inb (by omega) (by decide)
  have o2' : inb (Int32.ofNat (s.length + 1)) 160 := oN_inb (by omega) (by decide)
  have o3 : (Int32.ofNat s.length).toNatClampNeg = s.length := oN_cl (by omega)
  have o3' : (Int32.ofNat (s.length + 1)).toNatClampNeg = s.length + 1 := oN_cl (by omega)
  refine ⟨wg_up D 34 s.length (jnV o x y), ?_, fun x k z => up_r _ _ _ _ z, h3.push rfl⟩
  simp only [if_pos o1, e2, e1, ck_pos o2, ck_pos o2', lt_eq, o3, o3', h1, h2, s8_joined, bd_eq, oN_s]
theorem lt_e {α β : Type} (x : α) (k : α → Option β) : lt_ x k = k x := by
  unfold lt_
  rfl
theorem opV_d (c : Int32) : c - c / 16 * 16 = opV c := by
  unfold opV
  rfl
theorem s8_l9 {D : wg_C} {a h : Nat} {c : Int32} (hend : f_X6_end S D id w = some (Int32.ofNat e)) (hae : a < e) (he : e ≤ 160) (hlen : S.2.1 (id + 1) ≤ 160 ∧ e ≤ S.2.1 (id + 1)) (hcd : D (id + 1) a = c) : f_X3_reckon_l9 NN S id w D (Int32.ofNat h) (Int32.ofNat a) = if opV c = 0 then f_X3_reckon_j54l9 NN S id D w (Int32.ofNat h) (Int32.ofNat a) (opV c) (c / 16) else if opV c = 1 then f_X3_reckon_j54l9 NN S id D w (Int32.ofNat h) (Int32.ofNat a) (opV c) (c / 16) else if opV c = 2 then f_X3_reckon_j105l9 NN S id D w (Int32.ofNat h) (Int32.ofNat a) (opV c) else if opV c = 3 then f_X3_reckon_j105l9 NN S id D w (Int32.ofNat h) (Int32.ofNat a) (opV c) else (if (2 : Int32) ≤ Int32.ofNat h then (
              lt_ (Int32.ofNat h + (-1 : Int32)) fun v60 =>
              ck (inb (v60 - (1 : Int32)) 160) <|
              ck (inb v60 160) <|
              bd (f_X3_joined (opV c) (D 34 (v60 - (1 : Int32)).toNatClampNeg) (D 34 v60.toNatClampNeg)) fun r65 =>
              ck (inb (v60 - (1 : Int32)) 160) <|
              lt_ (wg_up D 34 (v60 - (1 : Int32)).toNatClampNeg r65) fun C67 =>
              lt_ (Int32.ofNat a + (1 : Int32)) fun v69 =>
              some (.inl (C67, v60, v69)))
            else (
              some (.inr (.inr ((0 : Int32), D))))) := by
  have hia : inb (Int32.ofNat a) (S.2.1 (id + 1)) := oN_inb (by omega) (by omega)
  have hle : ¬ Int32.ofNat e ≤ Int32.ofNat a := by
    rw [oN_le (show a < 2147483648 by omega) (show e < 2147483648 by omega)]
    omega
  have hcd' : D (id + 1) (Int32.ofNat a).toNatClampNeg = c := by rw [oN_cl (show a < 2147483648 by omega)]; exact hcd
  unfold f_X3_reckon_l9
  rw [hend, bd_eq, if_neg hle]
  simp only [ck_pos hia, hcd', lt_e, opV_d]
theorem stO_0 {env : Nat → Int32} {c : Int32} {st st' : List Int32} (h : stepO env c st = some st') (g : opV c = 0) : st' = c / 16 :: st := by
  unfold stepO at h
  rw [if_pos g] at h
  cases h
  rfl
theorem stO_1 {env : Nat → Int32} {c : Int32} {st st' : List Int32} (h : stepO env c st = some st') (g0 : ¬ opV c = 0) (g : opV c = 1) : st' = (if rg 6 (c / 16) = true then env (c / 16).toNatClampNeg else 0) :: st := by
  unfold stepO at h
  rw [if_neg g0, if_pos g] at h
  cases h
  rfl
theorem stO_2 {env : Nat → Int32} {c : Int32} {st st' : List Int32} (h : stepO env c st = some st') (g0 : ¬ opV c = 0) (g1 : ¬ opV c = 1) (g : opV c = 2 ∨ opV c = 3) : ∃ x s, st = x :: s ∧ st' = (if opV c = 2 then -x else if x = 0 then 1 else 0) :: s := by
  unfold stepO at h
  rw [if_neg g0, if_neg g1] at h
  by_cases g2 : opV c = 2
  · rw [if_pos g2] at h
    cases st with
    | nil => cases h
    | cons x s =>
      cases h
      exact ⟨x, s, rfl, by rw [if_pos g2]⟩
  · rw [if_neg g2, if_pos (g.resolve_left g2)] at h
    cases st with
    | nil => cases h
    | cons x s =>
      cases h
      exact ⟨x, s, rfl, by rw [if_neg g2]⟩
theorem stO_4 {env : Nat → Int32} {c : Int32} {st st' : List Int32} (h : stepO env c st = some st') (g0 : ¬ opV c = 0) (g1 : ¬ opV c = 1) (g2 : ¬ opV c = 2) (g3 : ¬ opV c = 3) : ∃ y x s, st = y :: x :: s ∧ st' = jnV (opV c) x y :: s := by
  unfold stepO at h
  rw [if_neg g0, if_neg g1, if_neg g2, if_neg g3] at h
  cases st with
  | nil => cases h
  | cons y s1 =>
    cases s1 with
    | nil => cases h
    | cons x s =>
      cases h
      exact ⟨y, x, s, rfl, rfl⟩
/-- one operation of the code -/
theorem s8_step {D : wg_C} {a : Nat} {st st' : List Int32} (hend : f_X6_end S D id w = some (Int32.ofNat e)) (hae : a < e) (he : e ≤ 160) (hlen : S.2.1 (id + 1) ≤ 160 ∧ e ≤ S.2.1 (id + 1)) (hcd : D (id + 1) a = cd a) (hstk : StkR D st) (hl : st.length < 160) (hstep : stepO (fun j => D 33 j) (cd a) st = some st') : ∃ D', f_X3_reckon_l9 NN S id w D (Int32.ofNat st.length) (Int32.ofNat a) = some (.inl (D', Int32.ofNat st'.length, Int32.ofNat (a + 1))) ∧ (∀ x k, x ≠ 34 → D' x k = D x k) ∧ StkR D' st' ∧ st'.length ≤ st.length + 1 := by
  rw [s8_l9 (c := cd a) hend hae he hlen hcd]
  by_cases g0 : opV (cd a) = 0
  · rw [if_pos g0]
    obtain ⟨D', r1, r2, r3⟩ := s8_j54 (S := S) (id := id) (w := w) (a := a) (v := cd a / 16) (x5 := opV (cd a)) (x6 := cd a / 16) hl hstk (fun _ => rfl) (fun z => absurd g0 z)
    rw [stO_0 hstep g0, List.length_cons]
    exact ⟨D', r1, r2, r3, Nat.le_refl _⟩
  · rw [if_neg g0]
    by_cases g1 : opV (cd a) = 1
    · rw [if_pos g1]
      obtain ⟨D', r1, r2, r3⟩ := s8_j54 (S := S) (id := id) (w := w) (a := a) (v := if rg 6 (cd a / 16) = true then D 33 (cd a / 16).toNatClampNeg else 0) (x5 := opV (cd a)) (x6 := cd a / 16) hl hstk (fun z => absurd z g0) (fun _ => rfl)
      rw [stO_1 hstep g0 g1, List.length_cons]
      exact ⟨D', r1, r2, r3, Nat.le_refl _⟩
    · rw [if_neg g1]
      have un : opV (cd a) = 2 ∨ opV (cd a) = 3 → ∃ D', f_X3_reckon_j105l9 NN S id D w (Int32.ofNat st.length) (Int32.ofNat a) (opV (cd a)) = some (.inl (D', Int32.ofNat st'.length, Int32.ofNat (a + 1))) ∧ (∀ x k, x ≠ 34 → D' x k = D x k) ∧ StkR D' st' ∧ st'.length ≤ st.length + 1 := fun g => by
        obtain ⟨x, s, e1, e2⟩ := stO_2 hstep g0 g1 g
        subst e1
        rw [e2, List.length_cons, List.length_cons]
        rw [List.length_cons] at hl
        obtain ⟨D', r1, r2, r3⟩ := s8_j105 (S := S) (id := id) (w := w) (a := a) (x5 := opV (cd a)) hl hstk.1 hstk.2
        exact ⟨D', r1, r2, r3, Nat.le_succ _⟩
      by_cases g2 : opV (cd a) = 2
      · rw [if_pos g2]
        exact un (Or.inl g2)
      · rw [if_neg g2]
        by_cases g3 : opV (cd a) = 3
        · rw [if_pos g3]
          exact un (Or.inr g3)
        · rw [if_neg g3]
          obtain ⟨y, x, s, e1, e2⟩ := stO_4 hstep g0 g1 g2 g3
          subst e1
          rw [e2, List.length_cons, List.length_cons, List.length_cons]
          rw [List.length_cons, List.length_cons] at hl
          obtain ⟨D', r1, r2, r3⟩ := s8_jbin (D := D) (a := a) (s := s) (x := x) (y := y) (o := opV (cd a)) hl hstk.1 hstk.2.1 hstk.2.2
          exact ⟨D', r1, r2, r3, by omega⟩
/-- the code from a on -/
theorem s8_exec : ∀ (q : Nat) (N : Nat) (D : wg_C) (a : Nat) (st : List Int32) (v : Int32), a + q = e → q < N → e ≤ 160 → (S.2.1 (id + 1) ≤ 160 ∧ e ≤ S.2.1 (id + 1)) → id + 1 ≠ 34 → id + 2 ≠ 34 → f_X6_end S D id w = some (Int32.ofNat e) → (∀ i, i < e → D (id + 1) i = cd i) → StkR D st → st.length ≤ a → exec (fun j => D 33 j) cd q a st = some [v] → ∃ D', lp (fun o => f_X3_reckon_l9 NN S id w o.1 o.2.1 o.2.2) N (D, Int32.ofNat st.length, Int32.ofNat a) = some (.inl (D', Int32.ofNat 1, Int32.ofNat e)) ∧ (∀ x k, x ≠ 34 → D' x k = D x k) ∧ D' 34 0 = v
  | 0, N, D, a, st, v, h1, h2, h3, h4, h5, h5', h6, h7, h8, h9, h10 => by
    obtain ⟨N, rfl⟩ : ∃ k, N = k + 1 := ⟨N - 1, by omega⟩
    cases h10
    have : a = e := by omega
    subst this
    refine ⟨D, lp_inr ?_, fun _ _ _ => rfl, h8.1⟩
    show f_X3_reckon_l9 NN S id w D (Int32.ofNat 1) (Int32.ofNat a) = _
    unfold f_X3_reckon_l9
    rw [h6, bd_eq, if_pos ((oN_le (show a < 2147483648 by omega) (show a < 2147483648 by omega)).mpr (Nat.le_refl _))]
  | q + 1, N, D, a, st, v, h1, h2, h3, h4, h5, h5', h6, h7, h8, h9, h10 => by
    obtain ⟨N, rfl⟩ : ∃ k, N = k + 1 := ⟨N - 1, by omega⟩
    have h10' : (stepO (fun j => D 33 j) (cd a) st).bind (exec (fun j => D 33 j) cd q (a + 1)) = some [v] := h10
    cases hs : stepO (fun j => D 33 j) (cd a) st with
    | none => rw [hs] at h10'; cases h10'
    | some st' =>
      rw [hs] at h10'
      have h11 : exec (fun j => D 33 j) cd q (a + 1) st' = some [v] := h10'
      obtain ⟨D1, r1, r2, r3, r4⟩ := s8_step (w := w) h6 (by omega) h3 h4 (h7 a (by omega)) h8 (by omega) hs
      have e33 : (fun j => D1 33 j) = fun j => D 33 j := by
        funext j
        exact r2 _ _ (by decide)
      have e6 : f_X6_end S D1 id w = f_X6_end S D id w := by
        unfold f_X6_end
        rw [r2 _ _ h5']
      obtain ⟨D2, u1, u2, u3⟩ := s8_exec q N D1 (a + 1) st' v (by omega) (by omega) h3 h4 h5 h5' (by rw [e6]; exact h6) (fun i hi => by rw [r2 _ _ h5]; exact h7 i hi) r3 (by omega) (by rw [e33]; exact h11)
      exact ⟨D2, by rw [lp_inl (y := (D1, Int32.ofNat st'.length, Int32.ofNat (a + 1))) r1]; exact u1, fun x k z => (u2 x k z).trans (r2 x k z), u3⟩
/-- a part of a text is reckoned -/
theorem s8_reckon {D : wg_C} {a : Nat} {v : Int32} (hst : f_X6_start S D id w = some (Int32.ofNat a)) (hend : f_X6_end S D id w = some (Int32.ofNat e)) (he : e ≤ 160) (hlen : S.2.1 (id + 1) ≤ 160 ∧ e ≤ S.2.1 (id + 1)) (hid : id + 1 ≠ 34) (hid' : id + 2 ≠ 34) (hcd : ∀ i, i < e → D (id + 1) i = cd i) (hv : Ev (fun j => D 33 j) cd a e v) : ∃ D1, f_X3_reckon NN S D id w = some (v, D1) ∧ ∀ x k, x ≠ 34 → D1 x k = D x k := by
  obtain ⟨h1, h2⟩ := hv
  obtain ⟨D1, r1, r2, r3⟩ := s8_exec (e - a) NN D a [] v (by omega) (by have := NN_big; omega) he hlen hid hid' hend hcd True.intro (Nat.zero_le _) (h2 [])
  refine ⟨D1, ?_, r2⟩
  unfold f_X3_reckon
  have r1' : lp (fun o => f_X3_reckon_l9 NN S id w o.1 o.2.1 o.2.2) NN (D, (0 : Int32), Int32.ofNat a) = some (.inl (D1, Int32.ofNat 1, Int32.ofNat e)) := r1
  rw [hst, bd_eq, r1']
  have fin : ∀ (k : wg_C → Int32 → Int32 → Option (Int32 × wg_C)) (kr : Int32 × wg_C → Option (Int32 × wg_C)), bs3 (some (Sum.inl (D1, Int32.ofNat 1, Int32.ofNat e))) k kr = k D1 (Int32.ofNat 1) (Int32.ofNat e) := fun _ _ => rfl
  rw [fin, if_neg (by decide), ck_pos (by decide), show (Int32.ofNat 1 - 1).toNatClampNeg = 0 from rfl, r3]
end
