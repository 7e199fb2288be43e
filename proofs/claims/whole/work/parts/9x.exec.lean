/-- what an operation does to two numbers -/
def jnV (o x y : Int32) : Int32 := if o = 4 then x + y else if o = 5 then x - y else if o = 6 then x * y else if o = 7 then (if y ≤ x then 0 else 1) else if o = 8 then (if x = y then 1 else 0) else if o = 9 then (if x = 0 then 0 else if y = 0 then 0 else 1) else (if x = 0 then (if y = 0 then 0 else 1) else 1)
def opV (c : Int32) : Int32 := c - c / 16 * 16
/-- one operation on a stack -/
def stepO (env : Nat → Int32) (c : Int32) (st : List Int32) : Option (List Int32) := if opV c = 0 then some (c / 16 :: st) else if opV c = 1 then some ((if rg 6 (c / 16) = true then env (c / 16).toNatClampNeg else 0) :: st) else if opV c = 2 then (match st with | x :: s => some (-x :: s) | [] => none) else if opV c = 3 then (match st with | x :: s => some ((if x = 0 then 1 else 0) :: s) | [] => none) else (match st with | y :: x :: s => some (jnV (opV c) x y :: s) | _ => none)
def exec (env : Nat → Int32) (cd : Nat → Int32) : Nat → Nat → List Int32 → Option (List Int32)
  | 0, _, st => some st
  | n + 1, a, st => (stepO env (cd a) st).bind (exec env cd n (a + 1))
theorem exec_add (env : Nat → Int32) (cd : Nat → Int32) (m : Nat) : ∀ n a st, exec env cd (n + m) a st = (exec env cd n a st).bind (exec env cd m (a + n))
  | 0, a, st => by
    rw [Nat.zero_add, Nat.add_zero]
    rfl
  | n + 1, a, st => by
    rw [show n + 1 + m = (n + m) + 1 by omega]
    show (stepO env (cd a) st).bind (exec env cd (n + m) (a + 1)) = ((stepO env (cd a) st).bind (exec env cd n (a + 1))).bind (exec env cd m (a + (n + 1)))
    cases stepO env (cd a) st with
    | none => rfl
    | some s =>
      show exec env cd (n + m) (a + 1) s = (exec env cd n (a + 1) s).bind (exec env cd m (a + (n + 1)))
      rw [exec_add env cd m n (a + 1) s, show a + 1 + n = a + (n + 1) by omega]
theorem exec_congr {env : Nat → Int32} {cd ce : Nat → Int32} : ∀ n a st, (∀ i, a ≤ i → i < a + n → ce i = cd i) → exec env ce n a st = exec env cd n a st
  | 0, a, st, _ => rfl
  | n + 1, a, st, h => by
    show (stepO env (ce a) st).bind (exec env ce n (a + 1)) = (stepO env (cd a) st).bind (exec env cd n (a + 1))
    rw [h a (Nat.le_refl _) (by omega)]
    congr 1
    funext s
    exact exec_congr n (a + 1) s (fun i h1 h2 => h i (by omega) (by omega))
/-- from a to b the code puts v on the stack -/
def Ev (env : Nat → Int32) (cd : Nat → Int32) (a b : Nat) (v : Int32) : Prop := a ≤ b ∧ ∀ st, exec env cd (b - a) a st = some (v :: st)
theorem Ev.congr {env : Nat → Int32} {cd ce : Nat → Int32} {a b : Nat} {v : Int32} (h : Ev env cd a b v) (k : ∀ i, i < b → ce i = cd i) : Ev env ce a b v := ⟨h.1, fun st => by rw [exec_congr (b - a) a st (fun i h1 h2 => k i (by omega))]; exact h.2 st⟩
theorem Ev.push {env : Nat → Int32} {cd : Nat → Int32} {a : Nat} {v : Int32} (h : ∀ st, stepO env (cd a) st = some (v :: st)) : Ev env cd a (a + 1) v := ⟨by omega, fun st => by
  rw [show a + 1 - a = 1 by omega]
  show (stepO env (cd a) st).bind _ = _
  rw [h st]
  rfl⟩
theorem Ev.un {env : Nat → Int32} {cd : Nat → Int32} {a b : Nat} {x y : Int32} (h : Ev env cd a b x) (k : ∀ st, stepO env (cd b) (x :: st) = some (y :: st)) : Ev env cd a (b + 1) y := ⟨by have := h.1; omega, fun st => by
  have := h.1
  rw [show b + 1 - a = (b - a) + 1 by omega, exec_add, h.2 st, show a + (b - a) = b by omega]
  show (stepO env (cd b) (x :: st)).bind _ = _
  rw [k st]
  rfl⟩
theorem Ev.bin {env : Nat → Int32} {cd : Nat → Int32} {a b c : Nat} {x y z : Int32} (h : Ev env cd a b x) (g : Ev env cd b c y) (k : ∀ st, stepO env (cd c) (y :: x :: st) = some (z :: st)) : Ev env cd a (c + 1) z := ⟨by have := h.1; have := g.1; omega, fun st => by
  have := h.1
  have := g.1
  rw [show c + 1 - a = (b - a) + ((c - b) + 1) by omega, exec_add, h.2 st, show a + (b - a) = b by omega]
  show exec env cd (c - b + 1) b (x :: st) = _
  rw [exec_add, g.2 (x :: st), show b + (c - b) = c by omega]
  show (stepO env (cd c) (y :: x :: st)).bind _ = _
  rw [k st]
  rfl⟩
theorem cd_dec {a o : Int32} (ha : 0 ≤ a.toInt ∧ a.toInt ≤ 9999) (ho : 0 ≤ o.toInt ∧ o.toInt < 16) : (a * 16 + o) / 16 = a ∧ opV (a * 16 + o) = o := by
  have e1 : (a * 16).toInt = 16 * a.toInt := by
    rw [i_mul, show (16 : Int32).toInt = 16 from rfl]
    omega
  have e2 : (a * 16 + o).toInt = 16 * a.toInt + o.toInt := by
    rw [i_add, e1]
    omega
  have e3 : ((a * 16 + o) / 16).toInt = a.toInt := by
    rw [i_divp _ _ (by omega) (by decide), e2, show (16 : Int32).toInt = 16 from rfl]
    omega
  have e4 : (a * 16 + o) / 16 = a := (i_eq _ _).mpr e3
  refine ⟨e4, ?_⟩
  unfold opV
  rw [e4, i_eq, i_sub, e2, e1]
  omega
theorem st_num (env : Nat → Int32) {a : Int32} (ha : 0 ≤ a.toInt ∧ a.toInt ≤ 9999) (st : List Int32) : stepO env (a * 16 + 0) st = some (a :: st) := by
  obtain ⟨h1, h2⟩ := cd_dec (o := 0) ha (by decide)
  unfold stepO
  rw [h2, if_pos rfl, h1]
theorem st_name (env : Nat → Int32) {j : Nat} (hj : j < 6) (st : List Int32) : stepO env (Int32.ofNat j * 16 + 1) st = some (env j :: st) := by
  have e := oN_t (show j < 2147483648 by omega)
  obtain ⟨h1, h2⟩ := cd_dec (a := Int32.ofNat j) (o := 1) (by omega) (by decide)
  unfold stepO
  rw [h2, if_neg (by decide), if_pos rfl, h1, if_pos (oN_rg hj (by decide)), oN_cl (by omega)]
theorem st_neg (env : Nat → Int32) (x : Int32) (st : List Int32) : stepO env (0 * 16 + 2) (x :: st) = some (-x :: st) := rfl
theorem st_not (env : Nat → Int32) (x : Int32) (st : List Int32) : stepO env (0 * 16 + 3) (x :: st) = some ((if x = 0 then 1 else 0) :: st) := rfl
theorem st_bin (env : Nat → Int32) {o : Int32} (ho : 4 ≤ o.toInt ∧ o.toInt ≤ 10) (x y : Int32) (st : List Int32) : stepO env (0 * 16 + o) (y :: x :: st) = some (jnV o x y :: st) := by
  obtain ⟨h1, h2⟩ := cd_dec (a := 0) (o := o) (by decide) (by omega)
  have ne : ∀ k : Int32, k.toInt < 4 → ¬ o = k := fun k hk z => by rw [z] at ho; omega
  unfold stepO
  rw [h2, if_neg (ne 0 (by decide)), if_neg (ne 1 (by decide)), if_neg (ne 2 (by decide)), if_neg (ne 3 (by decide))]
/-- the reader at token k, with len operations written -/
def CK (T : Nat → Int32) (m : Nat) (C : wg_C) (k len : Nat) : Prop := C 28 0 = -1 ∧ C 28 1 = Int32.ofNat k ∧ C 28 2 = T k ∧ C 28 3 = Int32.ofNat len ∧ k < m ∧ len ≤ k
def CBad (Pl : Nat → Int32) (C : wg_C) (j : Nat) : Prop := C 28 0 = Pl j ∧ C 28 2 = -2
def BsC (T V Pl : Nat → Int32) (m : Nat) (C : wg_C) : Prop := C 25 = T ∧ C 26 = V ∧ C 27 = Pl ∧ C 23 6 = Int32.ofNat m
def rdF (C D : wg_C) : Prop := ∀ a k, a ≠ 28 → a ≠ 29 → D a k = C a k
theorem rdF.rfl (C : wg_C) : rdF C C := fun _ _ _ _ => by trivial
theorem rdF.tr {C D E : wg_C} (h : rdF C D) (k : rdF D E) : rdF C E := fun a i q q' => (k a i q q').trans (h a i q q')
theorem rdF.up {C D : wg_C} (h : rdF C D) {a : Nat} (k : Nat) (v : Int32) (ha : a = 28 ∨ a = 29) : rdF C (wg_up D a k v) := fun x i q q' => by
  rw [up_r _ _ _ _ (by omega)]
  exact h x i q q'
theorem BsC.rd {T V Pl : Nat → Int32} {m : Nat} {C D : wg_C} (h : BsC T V Pl m C) (k : rdF C D) : BsC T V Pl m D := by
  obtain ⟨h1, h2, h3, h4⟩ := h
  refine ⟨?_, ?_, ?_, by rw [k _ _ (by decide) (by decide)]; exact h4⟩
  · rw [← h1]; funext i; exact k _ _ (by decide) (by decide)
  · rw [← h2]; funext i; exact k _ _ (by decide) (by decide)
  · rw [← h3]; funext i; exact k _ _ (by decide) (by decide)
theorem up_same {C : wg_C} {a k : Nat} {v : Int32} (h : C a k = v) : wg_up C a k v = C := by
  funext b j
  unfold wg_up
  by_cases e : b = a
  · by_cases e2 : j = k
    · rw [if_pos e, if_pos e2, e, e2, h]
    · rw [if_pos e, if_neg e2]
  · rw [if_neg e]
theorem s8_adv {T V Pl : Nat → Int32} {m : Nat} {C : wg_C} {k len : Nat} (hb : BsC T V Pl m C) (hm : m ≤ 161) (h : CK T m C k len) (hk : k + 1 < m) : ∃ D, f_X2_advance C = some D ∧ rdF C D ∧ CK T m D (k + 1) len ∧ D 29 = C 29 := by
  obtain ⟨h1, h2, h3, h4, h5, h6⟩ := h
  unfold f_X2_advance f_X2_advance_j23
  rw [h2, hb.2.2.2, oN_s, if_neg (by rw [oN_le (show k + 1 < 2147483648 by omega) (show m < 2147483648 by omega)]; omega)]
  simp only [lt_eq, up_s]
  rw [ck_pos (oN_inb (show k + 1 < 161 by omega) (by decide)), oN_cl (show k + 1 < 2147483648 by omega), up_r _ _ _ _ (show 25 ≠ 28 by decide), hb.1]
  refine ⟨_, rfl, ((rdF.rfl C).up _ _ (Or.inl rfl)).up _ _ (Or.inl rfl), ⟨?_, ?_, ?_, ?_, hk, by omega⟩, ?_⟩
  · rw [up_k _ _ (by decide), up_k _ _ (by decide)]; exact h1
  · rw [up_k _ _ (by decide), up_s]
  · rw [up_s]
  · rw [up_k _ _ (by decide), up_k _ _ (by decide)]; exact h4
  · rw [wg_up_ne _ _ _ (by decide), wg_up_ne _ _ _ (by decide)]
theorem s8_emit {T : Nat → Int32} {m : Nat} {C : wg_C} {k len : Nat} (h : CK T m C k len) (hl : len < 160) (hlk : len + 1 ≤ k) (o a : Int32) : ∃ D, f_X2_emit C o a = some D ∧ rdF C D ∧ CK T m D k (len + 1) ∧ D 29 len = a * 16 + o ∧ ∀ i, i ≠ len → D 29 i = C 29 i := by
  obtain ⟨h1, h2, h3, h4, h5, h6⟩ := h
  unfold f_X2_emit
  rw [h4, if_neg (by rw [show (160 : Int32) = Int32.ofNat 160 from rfl, oN_le (show len < 2147483648 by omega) (show 160 < 2147483648 by omega)]; omega), ck_pos (oN_inb (show len < 160 by omega) (by decide)), oN_cl (show len < 2147483648 by omega)]
  simp only [lt_eq]
  rw [up_r _ _ _ _ (show 28 ≠ 29 by decide), h4, oN_s]
  refine ⟨_, rfl, ((rdF.rfl C).up _ _ (Or.inr rfl)).up _ _ (Or.inl rfl), ⟨?_, ?_, ?_, ?_, h5, hlk⟩, ?_, fun i hi => ?_⟩
  · rw [up_k _ _ (by decide), up_r _ _ _ _ (by decide)]; exact h1
  · rw [up_k _ _ (by decide), up_r _ _ _ _ (by decide)]; exact h2
  · rw [up_k _ _ (by decide), up_r _ _ _ _ (by decide)]; exact h3
  · rw [up_s]
  · rw [up_r _ _ _ _ (by decide), up_s]
  · rw [up_r _ _ _ _ (by decide), up_k _ _ hi]
/-- an operation is written ahead of the token's being taken -/
theorem s8_emit0 {T : Nat → Int32} {m : Nat} {C : wg_C} {k len : Nat} (h : CK T m C k len) (hl : len < 160) (o a : Int32) : ∃ D, f_X2_emit C o a = some D ∧ rdF C D ∧ (D 28 0 = -1 ∧ D 28 1 = Int32.ofNat k ∧ D 28 3 = Int32.ofNat (len + 1)) ∧ D 29 len = a * 16 + o ∧ ∀ i, i ≠ len → D 29 i = C 29 i := by
  obtain ⟨h1, h2, h3, h4, h5, h6⟩ := h
  unfold f_X2_emit
  rw [h4, if_neg (by rw [show (160 : Int32) = Int32.ofNat 160 from rfl, oN_le (show len < 2147483648 by omega) (show 160 < 2147483648 by omega)]; omega), ck_pos (oN_inb (show len < 160 by omega) (by decide)), oN_cl (show len < 2147483648 by omega)]
  simp only [lt_eq]
  rw [up_r _ _ _ _ (show 28 ≠ 29 by decide), h4, oN_s]
  refine ⟨_, rfl, ((rdF.rfl C).up _ _ (Or.inr rfl)).up _ _ (Or.inl rfl), ⟨?_, ?_, ?_⟩, ?_, fun i hi => ?_⟩
  · rw [up_k _ _ (by decide), up_r _ _ _ _ (by decide)]; exact h1
  · rw [up_k _ _ (by decide), up_r _ _ _ _ (by decide)]; exact h2
  · rw [up_s]
  · rw [up_r _ _ _ _ (by decide), up_s]
  · rw [up_r _ _ _ _ (by decide), up_k _ _ hi]
theorem s8_adv0 {T V Pl : Nat → Int32} {m : Nat} {C : wg_C} {k len : Nat} (hb : BsC T V Pl m C) (hm : m ≤ 161) (h : C 28 0 = -1 ∧ C 28 1 = Int32.ofNat k ∧ C 28 3 = Int32.ofNat len) (hk : k + 1 < m) (hl : len ≤ k + 1) : ∃ D, f_X2_advance C = some D ∧ rdF C D ∧ CK T m D (k + 1) len ∧ D 29 = C 29 := by
  obtain ⟨h1, h2, h4⟩ := h
  unfold f_X2_advance f_X2_advance_j23
  rw [h2, hb.2.2.2, oN_s, if_neg (by rw [oN_le (show k + 1 < 2147483648 by omega) (show m < 2147483648 by omega)]; omega)]
  simp only [lt_eq, up_s]
  rw [ck_pos (oN_inb (show k + 1 < 161 by omega) (by decide)), oN_cl (show k + 1 < 2147483648 by omega), up_r _ _ _ _ (show 25 ≠ 28 by decide), hb.1]
  refine ⟨_, rfl, ((rdF.rfl C).up _ _ (Or.inl rfl)).up _ _ (Or.inl rfl), ⟨?_, ?_, ?_, ?_, hk, hl⟩, ?_⟩
  · rw [up_k _ _ (by decide), up_k _ _ (by decide)]; exact h1
  · rw [up_k _ _ (by decide), up_s]
  · rw [up_s]
  · rw [up_k _ _ (by decide), up_k _ _ (by decide)]; exact h4
  · rw [wg_up_ne _ _ _ (by decide), wg_up_ne _ _ _ (by decide)]
/-- an operation behind a fault -/
theorem s8_emitB {Pl : Nat → Int32} {C : wg_C} {j : Nat} (h : CBad Pl C j) {len : Nat} (hl : C 28 3 = Int32.ofNat len) (h160 : len ≤ 160) (o a : Int32) : ∃ D, f_X2_emit C o a = some D ∧ rdF C D ∧ CBad Pl D j ∧ ∃ len', D 28 3 = Int32.ofNat len' ∧ len' ≤ 160 := by
  unfold f_X2_emit
  rw [hl]
  by_cases g : 160 ≤ len
  · rw [if_pos (by rw [show (160 : Int32) = Int32.ofNat 160 from rfl, oN_le (show len < 2147483648 by omega) (show 160 < 2147483648 by omega)]; exact g)]
    exact ⟨C, rfl, rdF.rfl C, h, len, hl, h160⟩
  · rw [if_neg (by rw [show (160 : Int32) = Int32.ofNat 160 from rfl, oN_le (show len < 2147483648 by omega) (show 160 < 2147483648 by omega)]; exact g), ck_pos (oN_inb (show len < 160 by omega) (by decide)), oN_cl (show len < 2147483648 by omega)]
    simp only [lt_eq]
    rw [up_r _ _ _ _ (show 28 ≠ 29 by decide), hl, oN_s]
    refine ⟨_, rfl, ((rdF.rfl C).up _ _ (Or.inr rfl)).up _ _ (Or.inl rfl), ⟨?_, ?_⟩, len + 1, up_s _ _ _ _, by omega⟩
    · rw [up_k _ _ (by decide), up_r _ _ _ _ (by decide)]; exact h.1
    · rw [up_k _ _ (by decide), up_r _ _ _ _ (by decide)]; exact h.2
theorem s8_fail {T V Pl : Nat → Int32} {m : Nat} {C : wg_C} {k len : Nat} (hb : BsC T V Pl m C) (hm : m ≤ 161) (h : CK T m C k len) : ∃ D, f_X2_fail C = some D ∧ rdF C D ∧ CBad Pl D k ∧ D 28 3 = Int32.ofNat len := by
  obtain ⟨h1, h2, h3, h4, h5, h6⟩ := h
  unfold f_X2_fail
  rw [if_pos h1, h2, ck_pos (oN_inb (show k < 161 by omega) (by decide)), oN_cl (show k < 2147483648 by omega), hb.2.2.1]
  simp only [lt_eq]
  refine ⟨_, rfl, ((rdF.rfl C).up _ _ (Or.inl rfl)).up _ _ (Or.inl rfl), ⟨?_, up_s _ _ _ _⟩, ?_⟩
  · rw [up_k _ _ (by decide), up_s]
  · rw [up_k _ _ (by decide), up_k _ _ (by decide)]; exact h4
theorem s8_failB {C : wg_C} (h : ¬ C 28 0 = -1) (h2 : C 28 2 = -2) : f_X2_fail C = some C := by
  unfold f_X2_fail
  rw [if_neg h]
  simp only [lt_eq]
  rw [up_same h2]
