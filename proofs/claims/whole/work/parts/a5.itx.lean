/-! ===== what a new text says ===== -/
def envV (a0 a1 a2 a3 a4 a5 : Int32) (j : Nat) : Int32 := if j = 0 then a0 else if j = 1 then a1 else if j = 2 then a2 else if j = 3 then a3 else if j = 4 then a4 else a5
theorem envV_of (g : Nat → Int32) (j : Nat) (hj : j < 6) : envV (g 0) (g 1) (g 2) (g 3) (g 4) (g 5) j = g j := by
  have h : j = 0 ∨ j = 1 ∨ j = 2 ∨ j = 3 ∨ j = 4 ∨ j = 5 := by omega
  rcases h with rfl | rfl | rfl | rfl | rfl | rfl <;> rfl
def valC (cd : Nat → Int32) (s e : Nat) (env : Nat → Int32) : Int32 := match exec env cd (e - s) s [] with
  | some (v :: _) => v
  | _ => 0
def valT (cd : Nat → Int32) (e0 e1 e2 : Nat) (w a0 a1 a2 a3 a4 a5 : Int32) : Int32 := if w = 0 then valC cd 0 e0 (envV a0 a1 a2 a3 a4 a5) else if w = 1 then valC cd e0 e1 (envV a0 a1 a2 a3 a4 a5) else valC cd e1 e2 (envV a0 a1 a2 a3 a4 a5)
theorem valC_of {cd env : Nat → Int32} {s e : Nat} {v : Int32} (h : Ev env cd s e v) : valC cd s e env = v := by
  unfold valC
  rw [h.2 []]
theorem Ev.env' {e1 e2 : Nat → Int32} (h : ∀ w, w < 6 → e2 w = e1 w) {cd : Nat → Int32} {a b : Nat} {v : Int32} (k : Ev e1 cd a b v) : Ev e2 cd a b v := k.env (fun w hw => (h w hw).symm)
section
variable {f : Nat → Int32} {n m : Nat} {hs : Nat → Nat} {T V Pl : Nat → Int32}
/-- a text without fault: every reading of it by the reference says what the code says -/
def TxOK (f : Nat → Int32) (n : Nat) (cd : Nat → Int32) (e0 e1 e2 : Nat) : Prop := (e0 ≤ e1 ∧ e1 ≤ e2 ∧ e2 ≤ 160) ∧ ∀ t L, TxA f n t L → ∃ v0 v1 v2 L', (∀ w, f_X9_read NN L (Int32.ofNat t) w = some (if w = 0 then v0 else if w = 1 then v1 else v2, L')) ∧ rG L L' ∧ L'.1 55 28 = 0 ∧ Ev (fun i => L.1 55 (15 + i)) cd 0 e0 v0 ∧ Ev (fun i => L.1 55 (15 + i)) cd e0 e1 v1 ∧ Ev (fun i => L.1 55 (15 + i)) cd e1 e2 v2
theorem simOK (hT : Toks f n m hs T V Pl) {C C' : wg_C} (hb : BsC T V Pl m C) (hc : CK T m C 0 0) (h8 : chain8 C = some C') (h0 : C' 28 0 = -1) {t : Nat} {L : wg_M} (h : TxA f n t L) : ∃ e0 e1 e2, TxOK f n (C' 29) e0 e1 e2 ∧ C' 28 3 = Int32.ofNat e2 ∧ C' 30 0 = Int32.ofNat e0 ∧ C' 30 1 = Int32.ofNat e1 ∧ C' 30 2 = Int32.ofNat e2 := by
  have key : ∀ t L, TxA f n t L → ∃ L' v0 v1 v2, (∀ w, f_X9_read NN L (Int32.ofNat t) w = some (if w = 0 then v0 else if w = 1 then v1 else v2, L')) ∧ rG L L' ∧ L'.1 55 28 = 0 ∧ ∃ e0 e1 e2, e2 ≤ 160 ∧ C' 28 3 = Int32.ofNat e2 ∧ C' 30 0 = Int32.ofNat e0 ∧ C' 30 1 = Int32.ofNat e1 ∧ C' 30 2 = Int32.ofNat e2 ∧ Ev (fun i => L.1 55 (15 + i)) (C' 29) 0 e0 v0 ∧ Ev (fun i => L.1 55 (15 + i)) (C' 29) e0 e1 v1 ∧ Ev (fun i => L.1 55 (15 + i)) (C' 29) e1 e2 v2 := fun t L h => by
    obtain ⟨C'', L', v0, v1, v2, q1, q2, q3, q4, q5⟩ := simRead hT h hb hc
    rw [h8] at q1
    cases q1
    rcases q5 with ⟨_, q6, q7⟩ | ⟨p, p1, p2, _⟩
    · exact ⟨L', v0, v1, v2, q2, q4, q6, q7⟩
    · rw [h0] at p2
      have : (-1 : Int32).toInt = (Int32.ofNat p).toInt := by rw [p2]
      rw [oN_t (by omega), show (-1 : Int32).toInt = -1 from rfl] at this
      omega
  obtain ⟨_, _, _, _, -, -, -, e0, e1, e2, a1, a2, a3, a4, a5, a6, a7, a8⟩ := key t L h
  have b1 := a7.1
  have b2 := a8.1
  refine ⟨e0, e1, e2, ⟨⟨b1, b2, a1⟩, fun t L h => ?_⟩, a2, a3, a4, a5⟩
  obtain ⟨L', v0, v1, v2, r1, r2, r3, d0, d1, d2, z1, z2, z3, z4, z5, z6, z7, z8⟩ := key t L h
  have y1 := z7.1
  have y2 := z8.1
  have inj : ∀ {x y : Nat}, x ≤ 160 → y ≤ 160 → Int32.ofNat x = Int32.ofNat y → x = y := fun hx hy z => by
    rw [i_eq, oN_t (by omega), oN_t (by omega)] at z
    omega
  have i0 : d0 = e0 := inj (by omega) (by omega) (z3.symm.trans a3)
  have i1 : d1 = e1 := inj (by omega) (by omega) (z4.symm.trans a4)
  have i2 : d2 = e2 := inj (by omega) (by omega) (z5.symm.trans a5)
  subst i0 i1 i2
  exact ⟨v0, v1, v2, L', r1, r2, r3, z6, z7, z8⟩
end
/-- a new text is one on both sides -/
theorem ITx_new {S : wg_Sh} {C : wg_C} {M : wg_M} {t id n : Nat} {f cd : Nat → Int32} {e0 e1 e2 : Nat} (hk : TxOK f n cd e0 e1 e2) (h32 : S.1 32 t = some id) (hid : 52 ≤ id) (hlen : S.2.1 (id + 1) = e2) (hcd : ∀ i, i < e2 → C (id + 1) i = cd i) (h0 : C (id + 2) 0 = Int32.ofNat e0) (h1 : C (id + 2) 1 = Int32.ofNat e1) (h2 : C (id + 2) 2 = Int32.ofNat e2) (hA : TxA f n t M) : ITx S C M t := by
  obtain ⟨⟨b1, b2, b3⟩, hk⟩ := hk
  -- the code tells something for all names
  have tot : ∀ env : Nat → Int32, ∃ v0 v1 v2, Ev env cd 0 e0 v0 ∧ Ev env cd e0 e1 v1 ∧ Ev env cd e1 e2 v2 := fun env => by
    have hA' : TxA f n t ((fun a k => if a = 55 then (if 15 ≤ k then env (k - 15) else M.1 a k) else M.1 a k), M.2) := by
      obtain ⟨z1, z2, z3, z4⟩ := hA
      exact ⟨z1, z2, z3, z4⟩
    obtain ⟨v0, v1, v2, L', -, -, -, q1, q2, q3⟩ := hk t _ hA'
    have he : ∀ w, w < 6 → env w = (fun i => (if 15 ≤ 15 + i then env (15 + i - 15) else M.1 55 (15 + i))) w := fun w _ => by
      show env w = if 15 ≤ 15 + w then env (15 + w - 15) else M.1 55 (15 + w)
      rw [if_pos (by omega)]
      congr 1
      omega
    exact ⟨v0, v1, v2, q1.env' he, q2.env' he, q3.env' he⟩
  have w3 : ∀ w : Int32, 0 ≤ w.toInt → w.toInt < 3 → w = 0 ∨ w = 1 ∨ w = 2 := fun w w1 w2 => by
    simp only [i_eq, Int32.toInt_zero, Int32.toInt_one, show (2 : Int32).toInt = 2 from rfl]
    omega
  refine ⟨id, valT cd e0 e1 e2, h32, hid, fun D d1 d2 w w1 w2 => ?_, fun L l1 l2 w w1 w2 => ?_⟩
  · obtain ⟨v0, v1, v2, q0, q1, q2⟩ := tot (fun j => D 33 j)
    have hc : ∀ i, i < e2 → D (id + 1) i = cd i := fun i hi => by rw [d1]; exact hcd i hi
    have ev : ∀ {s e : Nat} {v : Int32}, Ev (fun j => D 33 j) cd s e v → valC cd s e (envV (D 33 0) (D 33 1) (D 33 2) (D 33 3) (D 33 4) (D 33 5)) = v := fun h => valC_of (h.env' (fun w hw => envV_of (fun j => D 33 j) w hw))
    have c1 : inb (0 : Int32) 3 ∧ inb (1 : Int32) 3 ∧ inb (2 : Int32) 3 := by decide
    rcases w3 w w1 w2 with rfl | rfl | rfl
    · have := s8_reckon (S := S) (id := id) (w := 0) (D := D) (a := 0) (e := e0) (cd := cd) (v := v0) rfl (by
        unfold f_X6_end
        rw [if_neg (by decide), if_neg (by decide), ck_pos c1.1, d2]
        exact congrArg some h0) (by omega) (by omega) (by omega) (by omega) (fun i hi => hc i (by omega)) q0
      unfold valT
      rw [if_pos rfl, ev q0]
      exact this
    · have := s8_reckon (S := S) (id := id) (w := 1) (D := D) (a := e0) (e := e1) (cd := cd) (v := v1) (by
        unfold f_X6_start
        rw [if_neg (by decide), if_neg (by decide), ck_pos (show inb ((1 : Int32) - 1) 3 from c1.1), d2]
        exact congrArg some h0) (by
        unfold f_X6_end
        rw [if_neg (by decide), if_neg (by decide), ck_pos c1.2.1, d2]
        exact congrArg some h1) (by omega) (by omega) (by omega) (by omega) (fun i hi => hc i (by omega)) q1
      unfold valT
      rw [if_neg (show ¬ (1 : Int32) = 0 by decide), if_pos rfl, ev q1]
      exact this
    · have := s8_reckon (S := S) (id := id) (w := 2) (D := D) (a := e1) (e := e2) (cd := cd) (v := v2) (by
        unfold f_X6_start
        rw [if_neg (by decide), if_neg (by decide), ck_pos (show inb ((2 : Int32) - 1) 3 from c1.2.1), d2]
        exact congrArg some h1) (by
        unfold f_X6_end
        rw [if_neg (by decide), if_neg (by decide), ck_pos c1.2.2, d2]
        exact congrArg some h2) (by omega) (by omega) (by omega) (by omega) (fun i hi => hc i (by omega)) q2
      unfold valT
      rw [if_neg (show ¬ (2 : Int32) = 0 by decide), if_neg (show ¬ (2 : Int32) = 1 by decide), ev q2]
      exact this
  · obtain ⟨z1, z2, z3, z4⟩ := hA
    obtain ⟨v0, v1, v2, L', r1, r2, r3, q0, q1, q2⟩ := hk t L ⟨z1, z2, l2.trans z3, fun i hi => by rw [l1 i (by omega)]; exact z4 i hi⟩
    have ev : ∀ {s e : Nat} {v : Int32}, Ev (fun i => L.1 55 (15 + i)) cd s e v → valC cd s e (envV (L.1 55 15) (L.1 55 16) (L.1 55 17) (L.1 55 18) (L.1 55 19) (L.1 55 20)) = v := fun h => valC_of (h.env' (fun w hw => envV_of (fun i => L.1 55 (15 + i)) w hw))
    refine ⟨L', ?_, r2⟩
    unfold valT
    rw [r1 w, ev q0, ev q1, ev q2]
/-- an old text stays -/
theorem reckon_S {S S1 : wg_Sh} {id : Nat} (h : S1.2.1 (id + 1) = S.2.1 (id + 1)) (D : wg_C) (w : Int32) : f_X3_reckon NN S1 D id w = f_X3_reckon NN S D id w := by
  have hl : (fun o : wg_C × Int32 × Int32 => f_X3_reckon_l9 NN S1 id w o.1 o.2.1 o.2.2) = fun o => f_X3_reckon_l9 NN S id w o.1 o.2.1 o.2.2 := by
    funext o
    unfold f_X3_reckon_l9 f_X3_reckon_j54l9 f_X3_reckon_j105l9 f_X6_end
    rw [h]
  unfold f_X3_reckon f_X6_start
  rw [hl]
theorem ITx.keep2 {S S1 : wg_Sh} {C C1 : wg_C} {M M1 : wg_M} {t : Nat} (h : ITx S C M t) (hS : wg_SC S) (ht : t < 6) (hx : S1.1 32 t = S.1 32 t) (hl : ∀ x, x < S.2.2.2 → S1.2.1 x = S.2.1 x) (hC : ∀ x k, 52 ≤ x → x < S.2.2.2 → C1 x k = C x k) (h56 : ∀ i, i < 160 → M1.1 56 (160 * t + i) = M.1 56 (160 * t + i)) (h57 : M1.1 57 t = M.1 57 t) : ITx S1 C1 M1 t := by
  obtain ⟨id, val, q1, q2, q3, q4⟩ := h
  obtain ⟨x1, x2, x3, x4, x5, x6⟩ := hS.2.2 t id ht q1
  refine ⟨id, val, hx.trans q1, q2, fun D d1 d2 w w1 w2 => ?_, fun L l1 l2 w w1 w2 => ?_⟩
  · rw [reckon_S (hl _ x3.1)]
    exact q3 D (fun k => by rw [d1, hC _ _ (by omega) x3.1]) (fun k => by rw [d2, hC _ _ (by omega) x5.1]) w w1 w2
  · exact q4 L (fun i hi => by rw [l1 i hi, h56 i hi]) (by rw [l2, h57]) w w1 w2
