/-! ===== a text comes ===== -/
def shX (S S' : wg_Sh) : Prop := S.2.2.2 ≤ S'.2.2.2 ∧ ∀ x, x < S.2.2.2 → (∀ k, S'.1 x k = S.1 x k) ∧ S'.2.1 x = S.2.1 x ∧ S'.2.2.1 x = S.2.2.1 x
theorem shX.rfl (S : wg_Sh) : shX S S := ⟨Nat.le_refl _, fun _ _ => ⟨fun _ => by trivial, by trivial, by trivial⟩⟩
theorem shX.tr {S S1 S2 : wg_Sh} (h : shX S S1) (k : shX S1 S2) : shX S S2 := ⟨Nat.le_trans h.1 k.1, fun x hx => by
  obtain ⟨a1, a2, a3⟩ := h.2 x hx
  obtain ⟨b1, b2, b3⟩ := k.2 x (Nat.lt_of_lt_of_le hx h.1)
  exact ⟨fun i => (b1 i).trans (a1 i), b2.trans a2, b3.trans a3⟩⟩
theorem nw_lo (S : wg_Sh) (kd len : Nat) : shX S (wg_nw S kd len) := ⟨Nat.le_succ _, fun x hx => ⟨fun k => if_neg (Nat.ne_of_lt hx), if_neg (Nat.ne_of_lt hx), if_neg (Nat.ne_of_lt hx)⟩⟩
theorem nw_s2 (S : wg_Sh) (kd len : Nat) : (wg_nw S kd len).2.1 S.2.2.2 = len := if_pos rfl
theorem nw_s3 (S : wg_Sh) (kd len : Nat) : (wg_nw S kd len).2.2.1 S.2.2.2 = kd := if_pos rfl
theorem nw_n (S : wg_Sh) (kd len : Nat) : (wg_nw S kd len).2.2.2 = S.2.2.2 + 1 := rfl
theorem sR_s (S : wg_Sh) (a k : Nat) (b : Option Nat) : (wg_sR S a k b).1 a k = b := (if_pos rfl).trans (if_pos rfl)
theorem sR_k (S : wg_Sh) {a k j : Nat} (b : Option Nat) (h : j ≠ k) : (wg_sR S a k b).1 a j = S.1 a j := (if_pos rfl).trans (if_neg h)
theorem sR_r (S : wg_Sh) {a x : Nat} (k j : Nat) (b : Option Nat) (h : x ≠ a) : (wg_sR S a k b).1 x j = S.1 x j := if_neg h
theorem sR_2 (S : wg_Sh) (a k : Nat) (b : Option Nat) : (wg_sR S a k b).2 = S.2 := rfl
theorem sR_lo {S0 S : wg_Sh} (h : shX S0 S) {a : Nat} (k : Nat) (b : Option Nat) (ha : S0.2.2.2 ≤ a) : shX S0 (wg_sR S a k b) := ⟨h.1, fun x hx => by
  obtain ⟨a1, a2, a3⟩ := h.2 x hx
  exact ⟨fun i => (sR_r S k i b (by omega)).trans (a1 i), a2, a3⟩⟩
theorem shX.id {S S' : wg_Sh} (h : shX S S') {a k : Nat} (q : wg_id S a k) : wg_id S' a k := ⟨Nat.lt_of_lt_of_le q.1 h.1, (h.2 a q.1).2.2.trans q.2⟩
theorem shX.txt {S S' : wg_Sh} (h : shX S S') {t : Nat} (q : wg_Txt S t) : wg_Txt S' t := by
  obtain ⟨q1, q2, q3, q4, q5, q6⟩ := q
  exact ⟨h.id q1, ((h.2 t q1.1).1 0).trans q2, h.id q3, ((h.2 t q1.1).1 1).trans q4, h.id q5, (h.2 _ q5.1).2.1.trans q6⟩
theorem shX.SC {S S' : wg_Sh} (h : shX S S') (q : wg_SC S) : wg_SC S' := by
  obtain ⟨q1, q2, q3⟩ := q
  refine ⟨fun a ha => ⟨h.id (q1 a ha).1, (h.2 a (q1 a ha).1.1).2.1.trans (q1 a ha).2⟩, fun a k b hb => ?_, fun k t hk ht => ?_⟩
  · have ha := (wg_rfC_out hb).1
    exact ((h.2 a (q1 a ha).1.1).1 k).trans (q2 a k b hb)
  · have h32 := (q1 32 (by decide)).1.1
    rw [(h.2 32 h32).1 k] at ht
    exact h.txt (q3 k t hk ht)
theorem shX.SM {S S' : wg_Sh} (h : shX S S') (q : wg_SM S) : wg_SM S' := by
  obtain ⟨q1, q2⟩ := q
  refine ⟨fun a ha => ⟨h.id (q1 a ha).1, (h.2 _ (q1 a ha).1.1).2.1.trans (q1 a ha).2⟩, fun k b hb => ?_⟩
  have := (q1 0 (by decide)).1.1
  exact ((h.2 55 this).1 k).trans (q2 k b hb)
def shpT (S : wg_Sh) (len : Nat) : wg_Sh := wg_sR (wg_sR (wg_nw (wg_nw (wg_nw S 6 0) 10 len) 10 3) S.2.2.2 0 (some (S.2.2.2 + 1))) S.2.2.2 1 (some (S.2.2.2 + 2))
theorem shpT_lo (S : wg_Sh) (len : Nat) : shX S (shpT S len) := sR_lo (sR_lo (((nw_lo S 6 0).tr (nw_lo _ 10 len)).tr (nw_lo _ 10 3)) 0 _ (Nat.le_refl _)) 1 _ (Nat.le_refl _)
theorem shpT_n (S : wg_Sh) (len : Nat) : (shpT S len).2.2.2 = S.2.2.2 + 3 := rfl
theorem shpT_len (S : wg_Sh) (len : Nat) : (shpT S len).2.1 (S.2.2.2 + 1) = len := by
  show (wg_nw (wg_nw (wg_nw S 6 0) 10 len) 10 3).2.1 (S.2.2.2 + 1) = len
  exact ((nw_lo (wg_nw (wg_nw S 6 0) 10 len) 10 3).2 _ (Nat.lt_succ_self _)).2.1.trans (nw_s2 (wg_nw S 6 0) 10 len)
theorem shpT_txt (S : wg_Sh) (len : Nat) : wg_Txt (shpT S len) S.2.2.2 := by
  have e0 : (shpT S len).2.2.1 S.2.2.2 = 6 := by
    show (wg_nw (wg_nw (wg_nw S 6 0) 10 len) 10 3).2.2.1 S.2.2.2 = 6
    exact ((nw_lo (wg_nw (wg_nw S 6 0) 10 len) 10 3).2 _ (by rw [nw_n, nw_n]; omega)).2.2.trans (((nw_lo (wg_nw S 6 0) 10 len).2 _ (Nat.lt_succ_self _)).2.2.trans (nw_s3 S 6 0))
  have e1 : (shpT S len).2.2.1 (S.2.2.2 + 1) = 10 := by
    show (wg_nw (wg_nw (wg_nw S 6 0) 10 len) 10 3).2.2.1 (S.2.2.2 + 1) = 10
    exact ((nw_lo (wg_nw (wg_nw S 6 0) 10 len) 10 3).2 _ (Nat.lt_succ_self _)).2.2.trans (nw_s3 (wg_nw S 6 0) 10 len)
  have e2 : (shpT S len).2.2.1 (S.2.2.2 + 2) = 10 := nw_s3 (wg_nw (wg_nw S 6 0) 10 len) 10 3
  have e3 : (shpT S len).2.1 (S.2.2.2 + 2) = 3 := nw_s2 (wg_nw (wg_nw S 6 0) 10 len) 10 3
  exact ⟨⟨by rw [shpT_n]; omega, e0⟩, (sR_k _ _ (by decide)).trans (sR_s _ _ _ _), ⟨by rw [shpT_n]; omega, e1⟩, sR_s _ _ _ _, ⟨by rw [shpT_n]; omega, e2⟩, e3⟩
theorem shpT_wf {S : wg_Sh} (h : wg_wf S) (len : Nat) : wg_wf (shpT S len) := by
  refine wg_wf_sR (wg_wf_sR (wg_wf_nw (wg_wf_nw (wg_wf_nw h 6 0) 10 len) 10 3) _ _ ?_) _ _ ?_
  · intro t ht
    cases ht
    show S.2.2.2 + 1 < S.2.2.2 + 1 + 1 + 1
    omega
  · intro t ht
    cases ht
    show S.2.2.2 + 2 < S.2.2.2 + 1 + 1 + 1
    omega
theorem s8_copy {S : wg_Sh} {C : wg_C} {a La k : Nat} (ha : a < S.2.2.2) (hk : S.2.2.1 a = 10) (hl : S.2.1 a = La) (hLa : La ≤ 160) (hkl : k ≤ La) : ∃ C', f_J7_copyOf S C a (Int32.ofNat k) = some (some S.2.2.2, wg_nw S 10 k, C') ∧ (∀ x j, x ≠ S.2.2.2 → C' x j = C x j) ∧ ∀ i, i < k → C' S.2.2.2 i = C a i := by
  have hne : a ≠ S.2.2.2 := Nat.ne_of_lt ha
  unfold f_J7_copyOf
  rw [ck_pos (show a < S.2.2.2 ∧ S.2.2.1 a = 10 from ⟨ha, hk⟩)]
  simp only [lt_eq, oN_cl (show k < 2147483648 by omega)]
  rw [hl]
  by_cases g : k = La
  · rw [if_pos (by rw [g]), ck_pos (show La = k from g.symm), ck_pos (show a < S.2.2.2 from ha), ck_pos (show S.2.2.2 < (wg_nw S 10 k).2.2.2 ∧ (wg_nw S 10 k).2.2.1 S.2.2.2 = 10 from ⟨Nat.lt_succ_self _, nw_s3 _ _ _⟩)]
    exact ⟨_, rfl, fun x j hx => if_neg hx, fun i _ => if_pos rfl⟩
  · have c0 : ¬ Int32.ofNat k < 0 := by
      rw [i_lt, oN_t (by omega), Int32.toInt_zero]
      omega
    have a2 := (nw_lo S 10 k).2 a ha
    rw [if_neg (fun z => g (by
      rw [i_eq, oN_t (by omega), oN_t (by omega)] at z
      omega)), ck_pos (show ¬ Int32.ofNat k < 0 ∧ k ≤ 160 from ⟨c0, by omega⟩), ck_pos (show a < S.2.2.2 from ha), ck_pos (show a < (wg_nw S 10 k).2.2.2 ∧ (wg_nw S 10 k).2.2.1 a = 10 from ⟨Nat.lt_succ_of_lt ha, a2.2.2.trans hk⟩)]
    rw [a2.2.1, hl]
    have hmin : f_J9_min_7cf53 (Int32.ofNat La) (Int32.ofNat k) = some (Int32.ofNat k) := by
      unfold f_J9_min_7cf53
      rw [if_pos ((oN_lt (show La < 2147483648 by omega) (show k < 2147483648 by omega)).mpr (by omega))]
    rw [hmin, bd_eq, ck_pos (show S.2.2.2 < (wg_nw S 10 k).2.2.2 ∧ (wg_nw S 10 k).2.2.1 S.2.2.2 = 10 from ⟨Nat.lt_succ_self _, nw_s3 _ _ _⟩), oN_cl (show k < 2147483648 by omega), nw_s2]
    rw [ck_pos (show ¬ (0 : Int32) < 0 ∧ ¬ (0 : Int32) < 0 ∧ ¬ Int32.ofNat k < 0 ∧ (0 : Int32).toNatClampNeg + k ≤ La ∧ (0 : Int32).toNatClampNeg + k ≤ k from ⟨by decide, by decide, c0, by rw [show (0 : Int32).toNatClampNeg = 0 from rfl]; omega, by rw [show (0 : Int32).toNatClampNeg = 0 from rfl]; omega⟩)]
    refine ⟨_, rfl, fun x j hx => ?_, fun i hi => ?_⟩
    · unfold wg_cp
      rw [if_neg hx]
      exact if_neg hx
    · unfold wg_cp va_cpy
      rw [if_pos rfl, show (0 : Int32).toNatClampNeg = 0 from rfl, if_pos ⟨Nat.zero_le _, by omega⟩]
      show wg_zC C S.2.2.2 (fun _ => 0) a (0 + (i - 0)) = _
      rw [show 0 + (i - 0) = i by omega]
      exact if_neg hne
/-- the class reads its tape -/
theorem s8_read {S : wg_Sh} {C : wg_C} {n : Nat} (hS : wg_SC S) (hn : n ≤ 160) (h1 : C 23 1 = Int32.ofNat n) : ∃ m hs D, Toks (C 24) n m hs (D 25) (D 26) (D 27) ∧ BsC (D 25) (D 26) (D 27) m D ∧ CK (D 25) m D 0 0 ∧ (∀ a k, ¬ (a = 23 ∧ (k = 2 ∨ k = 6)) → (a < 25 ∨ 28 < a) → D a k = C a k) ∧ (∀ E, chain8 D = some E → ¬ E 28 0 = -1 → f_X2_read NN S C = some (none, S, E)) ∧ ∀ E len, chain8 D = some E → E 28 0 = -1 → E 28 3 = Int32.ofNat len → len ≤ 160 → ∃ F, f_X2_read NN S C = some (some S.2.2.2, shpT S len, F) ∧ (∀ x k, x < S.2.2.2 → F x k = E x k) ∧ (∀ i, i < len → F (S.2.2.2 + 1) i = E 29 i) ∧ ∀ i, i < 3 → F (S.2.2.2 + 2) i = E 30 i := by
  obtain ⟨A, m, hs, c1, c2, c3, c4⟩ := s8_cut hn h1
  have hm := c4.1
  have i23 := SCi hS 23 5 rfl
  have i28 := SCi hS 28 2 rfl
  have i25 := SCi hS 25 10 rfl
  have i29 := SCi hS 29 10 rfl
  have i30 := SCi hS 30 10 rfl
  have hD : ∃ D, D = wg_up (wg_up (wg_up (wg_up A 28 1 0) 28 3 0) 28 0 (-1)) 28 2 (A 25 0) := ⟨_, rfl⟩
  obtain ⟨D, hD⟩ := hD
  have fr : ∀ a k, a ≠ 28 → D a k = A a k := fun a k z => by
    rw [hD, up_r _ _ _ _ z, up_r _ _ _ _ z, up_r _ _ _ _ z, up_r _ _ _ _ z]
  have e25 : D 25 = A 25 := by funext i; exact fr _ _ (by decide)
  have e26 : D 26 = A 26 := by funext i; exact fr _ _ (by decide)
  have e27 : D 27 = A 27 := by funext i; exact fr _ _ (by decide)
  have hck : CK (A 25) m D 0 0 := by
    refine ⟨?_, ?_, ?_, ?_, by omega, Nat.le_refl _⟩
    · rw [hD, up_k _ _ (by decide), up_s]
    · rw [hD, up_k _ _ (by decide), up_k _ _ (by decide), up_k _ _ (by decide), up_s]; rfl
    · rw [hD, up_s]
    · rw [hD, up_k _ _ (by decide), up_k _ _ (by decide), up_s]; rfl
  have head : ∀ E, chain8 D = some E → f_X2_read NN S C = if E 28 0 = (-1 : Int32) then (
      ck (28 < S.2.2.2 ∧ 23 < S.2.2.2) <|
      lt_ S.2.2.2 fun n28 =>
      lt_ (wg_nw S 6 0) fun S30 =>
      lt_ (wg_zC E S.2.2.2 (fun _ => 0)) fun C32 =>
      ck (28 < S30.2.2.2 ∧ S30.2.2.1 28 = 2) <|
      ck (S30.1 28 4 = some 29) <|
      ck (28 < S30.2.2.2 ∧ 23 < S30.2.2.2 ∧ n28 < S30.2.2.2) <|
      ck ((C32 28 3).toNatClampNeg ≤ 160) <|
      bd3 (f_J7_copyOf S30 C32 29 (C32 28 3)) fun r44 S42 C43 =>
      bd r44 fun t48 =>
      ck (28 < S42.2.2.2 ∧ S42.2.2.1 28 = 2) <|
      ck (S42.1 28 5 = some 30) <|
      ck (28 < S42.2.2.2 ∧ 23 < S42.2.2.2 ∧ t48 < S42.2.2.2 ∧ n28 < S42.2.2.2) <|
      bd3 (f_J7_copyOf S42 C43 30 (3 : Int32)) fun r56 S54 C55 =>
      bd r56 fun t60 =>
      ck (28 < S54.2.2.2 ∧ 23 < S54.2.2.2 ∧ n28 < S54.2.2.2) <|
      bd2 (f_X6_init S54 C55 n28 t48 t60) fun S64 C65 =>
      some ((some n28), S64, C65)) else some (none, S, E) := fun E hE => by
    unfold f_X2_read
    rw [ck_pos (wg_SCb_iff.mpr hS), c1, bd_eq, ck_pos (show 23 < S.2.2.2 ∧ S.2.2.1 23 = 5 from i23), ck_pos (show 28 < S.2.2.2 ∧ S.2.2.1 28 = 2 from i28)]
    simp only [lt_eq]
    rw [ck_pos (SCr hS 23 3 25 rfl), ck_pos (show 25 < S.2.2.2 ∧ S.2.2.1 25 = 10 from i25), ck_pos (SCl hS 25 161 rfl), ck_pos (by decide), show (0 : Int32).toNatClampNeg = 0 from rfl, up_r _ _ _ _ (show 25 ≠ 28 by decide), up_r _ _ _ _ (show 25 ≠ 28 by decide), up_r _ _ _ _ (show 25 ≠ 28 by decide), ← hD]
    unfold chain8 at hE
    obtain ⟨E1, x1, hE⟩ := bd_some hE
    obtain ⟨E2, x2, hE⟩ := bd_some hE
    obtain ⟨E3, x3, hE⟩ := bd_some hE
    obtain ⟨E4, x4, hE⟩ := bd_some hE
    cases hE
    rw [x1, bd_eq, x2, bd_eq, x3, bd_eq, x4, bd_eq]
  refine ⟨m, hs, D, by rw [e25, e26, e27]; exact c4, ⟨rfl, rfl, rfl, by rw [fr _ _ (by decide)]; exact c3⟩, by rw [e25]; exact hck, fun a k z1 z2 => ?_, fun E hE hne => ?_, fun E len hE he hl hlen => ?_⟩
  · rw [fr a k (by omega)]
    exact c2 a k z1 (by omega) (by omega) (by omega)
  · rw [head E hE, if_neg hne]
  · rw [head E hE, if_pos he]
    have x6 := nw_lo S 6 0
    have n52 : 51 < S.2.2.2 := (hS.1 51 (by decide)).1.1
    have z32 : ∀ k, wg_zC E S.2.2.2 (fun _ => 0) 28 k = E 28 k := fun k => if_neg (by omega)
    have l29 : S.2.1 29 = 160 := SCl hS 29 160 rfl
    have l30 : S.2.1 30 = 3 := SCl hS 30 3 rfl
    have y29 := x6.2 29 i29.1
    obtain ⟨F, f1, f2, f3⟩ := s8_copy (S := wg_nw S 6 0) (C := wg_zC E S.2.2.2 (fun _ => 0)) (a := 29) (La := 160) (k := len) (Nat.lt_succ_of_lt i29.1) (y29.2.2.trans i29.2) (y29.2.1.trans l29) (Nat.le_refl _) hlen
    have x7 : shX S (wg_nw (wg_nw S 6 0) 10 len) := x6.tr (nw_lo _ 10 len)
    have y30 := x7.2 30 i30.1
    obtain ⟨G, g1, g2, g3⟩ := s8_copy (S := wg_nw (wg_nw S 6 0) 10 len) (C := F) (a := 30) (La := 3) (k := 3) (Nat.lt_of_lt_of_le i30.1 x7.1) (y30.2.2.trans i30.2) (y30.2.1.trans l30) (by decide) (Nat.le_refl _)
    rw [ck_pos (show 28 < S.2.2.2 ∧ 23 < S.2.2.2 from ⟨i28.1, i23.1⟩)]
    simp only [lt_eq]
    rw [z32, hl, oN_cl (show len < 2147483648 by omega)]
    rw [ck_pos (show 28 < (wg_nw S 6 0).2.2.2 ∧ (wg_nw S 6 0).2.2.1 28 = 2 from x6.id i28), ck_pos (((x6.2 28 i28.1).1 4).trans (SCr hS 28 4 29 rfl)), ck_pos (show 28 < (wg_nw S 6 0).2.2.2 ∧ 23 < (wg_nw S 6 0).2.2.2 ∧ S.2.2.2 < (wg_nw S 6 0).2.2.2 from ⟨by rw [nw_n]; omega, by rw [nw_n]; omega, by rw [nw_n]; omega⟩), ck_pos hlen, f1, bd3_eq, bd_eq]
    have nn : (wg_nw (wg_nw S 6 0) 10 len).2.2.2 = S.2.2.2 + 1 + 1 := rfl
    have nn1 : (wg_nw S 6 0).2.2.2 = S.2.2.2 + 1 := rfl
    rw [ck_pos (show 28 < (wg_nw (wg_nw S 6 0) 10 len).2.2.2 ∧ (wg_nw (wg_nw S 6 0) 10 len).2.2.1 28 = 2 from x7.id i28), ck_pos (((x7.2 28 i28.1).1 5).trans (SCr hS 28 5 30 rfl)), ck_pos (show 28 < (wg_nw (wg_nw S 6 0) 10 len).2.2.2 ∧ 23 < (wg_nw (wg_nw S 6 0) 10 len).2.2.2 ∧ (wg_nw S 6 0).2.2.2 < (wg_nw (wg_nw S 6 0) 10 len).2.2.2 ∧ S.2.2.2 < (wg_nw (wg_nw S 6 0) 10 len).2.2.2 from ⟨by omega, by omega, by omega, by omega⟩)]
    rw [show (3 : Int32) = Int32.ofNat 3 from rfl, g1, bd3_eq, bd_eq]
    have nn3 : (wg_nw (wg_nw (wg_nw S 6 0) 10 len) 10 3).2.2.2 = S.2.2.2 + 1 + 1 + 1 := rfl
    rw [ck_pos (show 28 < (wg_nw (wg_nw (wg_nw S 6 0) 10 len) 10 3).2.2.2 ∧ 23 < (wg_nw (wg_nw (wg_nw S 6 0) 10 len) 10 3).2.2.2 ∧ S.2.2.2 < (wg_nw (wg_nw (wg_nw S 6 0) 10 len) 10 3).2.2.2 from ⟨by omega, by omega, by omega⟩)]
    have tx := shpT_txt S len
    have k6 : (wg_nw (wg_nw (wg_nw S 6 0) 10 len) 10 3).2.2.1 S.2.2.2 = 6 := tx.1.2
    unfold f_X6_init
    simp only [lt_eq]
    rw [ck_pos (show S.2.2.2 < (wg_nw (wg_nw (wg_nw S 6 0) 10 len) 10 3).2.2.2 ∧ (wg_nw (wg_nw (wg_nw S 6 0) 10 len) 10 3).2.2.1 S.2.2.2 = 6 from ⟨by omega, k6⟩), ck_pos (show (wg_nw S 6 0).2.2.2 < (wg_nw (wg_nw (wg_nw S 6 0) 10 len) 10 3).2.2.2 by omega)]
    rw [ck_pos (show S.2.2.2 < (wg_sR (wg_nw (wg_nw (wg_nw S 6 0) 10 len) 10 3) S.2.2.2 0 (some (wg_nw S 6 0).2.2.2)).2.2.2 ∧ (wg_sR (wg_nw (wg_nw (wg_nw S 6 0) 10 len) 10 3) S.2.2.2 0 (some (wg_nw S 6 0).2.2.2)).2.2.1 S.2.2.2 = 6 from ⟨by show S.2.2.2 < (wg_nw (wg_nw (wg_nw S 6 0) 10 len) 10 3).2.2.2; omega, k6⟩), ck_pos (show (wg_nw (wg_nw S 6 0) 10 len).2.2.2 < (wg_sR (wg_nw (wg_nw (wg_nw S 6 0) 10 len) 10 3) S.2.2.2 0 (some (wg_nw S 6 0).2.2.2)).2.2.2 from by show (wg_nw (wg_nw S 6 0) 10 len).2.2.2 < (wg_nw (wg_nw (wg_nw S 6 0) 10 len) 10 3).2.2.2; omega), bd2_eq]
    refine ⟨G, rfl, fun x k hx => ?_, fun i hi => ?_, fun i hi => ?_⟩
    · rw [g2 x k (by omega), f2 x k (by omega)]
      exact if_neg (by omega)
    · rw [g2 _ _ (by omega)]
      exact (f3 i hi).trans (if_neg (by omega))
    · exact (g3 i hi).trans ((f2 30 i (by omega)).trans (if_neg (by omega)))
