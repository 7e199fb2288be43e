def Blk (b : Int32) : Prop := b = 32 ∨ b = 10
def Ltr (b : Int32) : Prop := 97 ≤ b.toInt ∧ b.toInt ≤ 122
def Dgt (b : Int32) : Prop := 48 ≤ b.toInt ∧ b.toInt ≤ 57
def Sgn (b : Int32) : Prop := b = 40 ∨ b = 41 ∨ b = 59 ∨ b = 43 ∨ b = 45 ∨ b = 42 ∨ b = 60 ∨ b = 61
def wl (j : Nat) : Nat := wg_slen.getD (j + 1) 0
def wb (j i : Nat) : Int32 := (wg_sbyt.getD (j + 1) []).getD i 0
/-- a word stands from p to e -/
def Spl (f : Nat → Int32) (p e j : Nat) : Prop := e = p + wl j ∧ ∀ i, i < wl j → f (p + i) = wb j i
def tkW (j : Nat) : Int32 := if j < 6 then 2 else Int32.ofNat (j - 3)
def Run (Q : Int32 → Prop) (f : Nat → Int32) (n p e : Nat) : Prop := p < e ∧ e ≤ n ∧ (∀ q, p ≤ q → q < e → Q (f q)) ∧ (e = n ∨ ¬ Q (f e))
def numV (f : Nat → Int32) (p : Nat) : Nat → Nat
  | 0 => 0
  | i + 1 => 10 * numV f p i + ((f (p + i)).toInt.toNat - 48)
/-- the token from h on: what, its worth, its place, where it ends -/
def Tk (f : Nat → Int32) (n h : Nat) (tk vl : Int32) (p h' : Nat) : Prop := (h ≤ p ∧ p ≤ n ∧ (∀ q, h ≤ q → q < p → Blk (f q)) ∧ (p = n ∨ ¬ Blk (f p))) ∧ ((p = n ∧ tk = -1 ∧ h' = p) ∨ (p < n ∧ Ltr (f p) ∧ Run Ltr f n p h' ∧ ((∃ j, j < 12 ∧ Spl f p h' j ∧ tk = tkW j ∧ vl = Int32.ofNat j) ∨ (tk = -2 ∧ ∀ j, j < 12 → ¬ Spl f p h' j))) ∨ (p < n ∧ Dgt (f p) ∧ Run Dgt f n p h' ∧ ((h' - p ≤ 4 ∧ tk = 1 ∧ vl = Int32.ofNat (numV f p (h' - p))) ∨ (4 < h' - p ∧ tk = -2))) ∨ (p < n ∧ Sgn (f p) ∧ h' = p + 1 ∧ tk = f p) ∨ (p < n ∧ (¬ Ltr (f p) ∧ ¬ Dgt (f p) ∧ ¬ Sgn (f p)) ∧ tk = -2 ∧ h' = p + 1))
theorem s8_ltr (b : Int32) : ∃ v, f_X5_isLetter b = some v ∧ ((v = 1 ∧ Ltr b) ∨ (v = 0 ∧ ¬ Ltr b)) := by
  unfold f_X5_isLetter Ltr
  simp only [i_lt, show (97 : Int32).toInt = 97 from rfl, show (122 : Int32).toInt = 122 from rfl]
  by_cases h1 : b.toInt < 97
  · exact ⟨0, by rw [if_pos h1], Or.inr ⟨rfl, by omega⟩⟩
  · by_cases h2 : 122 < b.toInt
    · exact ⟨0, by rw [if_neg h1, if_pos h2], Or.inr ⟨rfl, by omega⟩⟩
    · exact ⟨1, by rw [if_neg h1, if_neg h2], Or.inl ⟨rfl, by omega⟩⟩
theorem s8_dgt (b : Int32) : ∃ v, f_X5_isDigit b = some v ∧ ((v = 1 ∧ Dgt b) ∨ (v = 0 ∧ ¬ Dgt b)) := by
  unfold f_X5_isDigit Dgt
  simp only [i_lt, show (48 : Int32).toInt = 48 from rfl, show (57 : Int32).toInt = 57 from rfl]
  by_cases h1 : b.toInt < 48
  · exact ⟨0, by rw [if_pos h1], Or.inr ⟨rfl, by omega⟩⟩
  · by_cases h2 : 57 < b.toInt
    · exact ⟨0, by rw [if_neg h1, if_pos h2], Or.inr ⟨rfl, by omega⟩⟩
    · exact ⟨1, by rw [if_neg h1, if_neg h2], Or.inl ⟨rfl, by omega⟩⟩
theorem s8_sgn (b : Int32) : ∃ v, f_X5_isSign b = some v ∧ ((v = 1 ∧ Sgn b) ∨ (v = 0 ∧ ¬ Sgn b)) := by
  unfold f_X5_isSign Sgn
  by_cases h : b = 40 ∨ b = 41 ∨ b = 59 ∨ b = 43 ∨ b = 45 ∨ b = 42 ∨ b = 60 ∨ b = 61
  · refine ⟨1, ?_, Or.inl ⟨rfl, h⟩⟩
    rcases h with rfl | rfl | rfl | rfl | rfl | rfl | rfl | rfl <;> rfl
  · refine ⟨0, ?_, Or.inr ⟨rfl, h⟩⟩
    simp only [not_or] at h
    obtain ⟨h1, h2, h3, h4, h5, h6, h7, h8⟩ := h
    simp only [h1, h2, h3, h4, h5, h6, h7, h8, if_false, ite_self]
def atF (C D : wg_C) : Prop := ∀ a k, ¬ (a = 23 ∧ k = 2) → D a k = C a k
theorem atF.rfl (C : wg_C) : atF C C := fun _ _ _ => by trivial
theorem atF.tr {C D E : wg_C} (h : atF C D) (k : atF D E) : atF C E := fun a i q => (k a i q).trans (h a i q)
theorem atF.up {C D : wg_C} (h : atF C D) (v : Int32) : atF C (wg_up D 23 2 v) := fun a i q => by
  by_cases e : a = 23
  · rw [e, up_k _ _ (fun z => q ⟨e, z⟩), ← e]; exact h a i q
  · rw [up_r _ _ _ _ e]; exact h a i q
theorem s8_skip {C : wg_C} {n h : Nat} (hn : n ≤ 160) (hh : h ≤ n) (h1 : C 23 1 = Int32.ofNat n) (h2 : C 23 2 = Int32.ofNat h) : ∃ p D, f_X5_skipBlanks NN C = some D ∧ atF C D ∧ D 23 2 = Int32.ofNat p ∧ h ≤ p ∧ p ≤ n ∧ (∀ q, h ≤ q → q < p → Blk (C 24 q)) ∧ (p = n ∨ ¬ Blk (C 24 p)) := by
  unfold f_X5_skipBlanks
  obtain ⟨D, e1, p, e2⟩ := lp_ok (b := fun (o : wg_C) => f_X5_skipBlanks_l0 NN o) (fun D => atF C D ∧ ∃ p, D 23 2 = Int32.ofNat p ∧ h ≤ p ∧ p ≤ n ∧ ∀ q, h ≤ q → q < p → Blk (C 24 q)) (fun D => 160 - (D 23 2).toInt.toNat) (fun D => ∃ p, atF C D ∧ D 23 2 = Int32.ofNat p ∧ h ≤ p ∧ p ≤ n ∧ (∀ q, h ≤ q → q < p → Blk (C 24 q)) ∧ (p = n ∨ ¬ Blk (C 24 p))) (by
    rintro D ⟨j1, p, j2, j3, j4, j5⟩
    have e1 : D 23 1 = Int32.ofNat n := by rw [j1 _ _ (by decide)]; exact h1
    have e24 : ∀ k, D 24 k = C 24 k := fun k => j1 _ _ (by omega)
    simp only [f_X5_skipBlanks_l0, f_X5_skipBlanks_j39l0, e1, j2, oN_le (show p < 2147483648 by omega) (show n < 2147483648 by omega), e24, lt_eq]
    by_cases g : n ≤ p
    · right
      rw [if_pos g]
      exact ⟨_, rfl, p, j1, j2, j3, j4, j5, Or.inl (by omega)⟩
    · rw [if_neg g, ck_pos (oN_inb (show p < 160 by omega) (by decide)), ck_pos (oN_inb (show p < 160 by omega) (by decide)), oN_cl (show p < 2147483648 by omega)]
      have go : Blk (C 24 p) → (∃ y, (some (Sum.inl (wg_up D 23 2 (Int32.ofNat p + 1))) : Option (wg_C ⊕ wg_C)) = some (.inl y) ∧ (atF C y ∧ ∃ p, y 23 2 = Int32.ofNat p ∧ h ≤ p ∧ p ≤ n ∧ ∀ q, h ≤ q → q < p → Blk (C 24 q)) ∧ 160 - (y 23 2).toInt.toNat < 160 - (D 23 2).toInt.toNat) := fun hb => by
        refine ⟨_, rfl, ⟨j1.up _, p + 1, by rw [up_s, oN_s], by omega, by omega, fun q h1 h2 => ?_⟩, ?_⟩
        · by_cases e : q = p
          · rw [e]; exact hb
          · exact j5 q h1 (by omega)
        · rw [up_s, j2, oN_s, oN_t (by omega), oN_t (by omega)]
          omega
      rw [← j2]
      rw [j2]
      by_cases b1 : C 24 p = 32
      · left
        rw [if_pos b1]
        have := go (Or.inl b1)
        rw [j2] at this
        exact this
      · rw [if_neg b1]
        by_cases b2 : C 24 p = 10
        · left
          rw [if_pos b2]
          have := go (Or.inr b2)
          rw [j2] at this
          exact this
        · right
          rw [if_neg b2]
          exact ⟨_, rfl, p, j1, j2, j3, j4, j5, Or.inr (fun z => z.elim b1 b2)⟩) NN C ⟨atF.rfl C, h, h2, Nat.le_refl _, hh, fun q h1 h2 => by omega⟩ (by have := NN_big; omega)
  rw [e1]
  exact ⟨p, D, rfl, e2⟩
theorem s8_letters {C : wg_C} {n p : Nat} (hn : n ≤ 160) (hp : p < n) (hl : Ltr (C 24 p)) (h1 : C 23 1 = Int32.ofNat n) (h2 : C 23 2 = Int32.ofNat p) (v1 : Int32) : ∃ e D, lp (fun (o : wg_C) => f_X5_cutWord_l5 NN v1 o) NN C = some D ∧ atF C D ∧ D 23 2 = Int32.ofNat e ∧ Run Ltr (C 24) n p e := by
  obtain ⟨D, e1, e, e2⟩ := lp_ok (b := fun (o : wg_C) => f_X5_cutWord_l5 NN v1 o) (fun D => atF C D ∧ ∃ e, D 23 2 = Int32.ofNat e ∧ p ≤ e ∧ e ≤ n ∧ ∀ q, p ≤ q → q < e → Ltr (C 24 q)) (fun D => 160 - (D 23 2).toInt.toNat) (fun D => ∃ e, atF C D ∧ D 23 2 = Int32.ofNat e ∧ Run Ltr (C 24) n p e) (by
    rintro D ⟨j1, e, j2, j3, j4, j5⟩
    have e1 : D 23 1 = Int32.ofNat n := by rw [j1 _ _ (by decide)]; exact h1
    have e24 : ∀ k, D 24 k = C 24 k := fun k => j1 _ _ (by omega)
    simp only [f_X5_cutWord_l5, e1, j2, oN_le (show e < 2147483648 by omega) (show n < 2147483648 by omega), e24, lt_eq]
    by_cases g : n ≤ e
    · right
      rw [if_pos g]
      exact ⟨_, rfl, e, j1, j2, by omega, j4, j5, Or.inl (by omega)⟩
    · rw [if_neg g, ck_pos (oN_inb (show e < 160 by omega) (by decide)), oN_cl (show e < 2147483648 by omega)]
      obtain ⟨v, v1, ⟨rfl, v2⟩ | ⟨rfl, v2⟩⟩ := s8_ltr (C 24 e)
      · left
        rw [v1, bd_eq, if_neg (by decide)]
        refine ⟨_, rfl, ⟨j1.up _, e + 1, by rw [up_s, oN_s], by omega, by omega, fun q h1 h2 => ?_⟩, ?_⟩
        · by_cases z : q = e
          · rw [z]; exact v2
          · exact j5 q h1 (by omega)
        · rw [up_s, oN_s, oN_t (by omega), oN_t (by omega)]
          omega
      · right
        rw [v1, bd_eq, if_pos rfl]
        have : p ≠ e := fun z => v2 (by rw [← z]; exact hl)
        exact ⟨_, rfl, e, j1, j2, by omega, j4, j5, Or.inr v2⟩) NN C ⟨atF.rfl C, p, h2, Nat.le_refl _, by omega, fun q h1 h2 => by omega⟩ (by have := NN_big; omega)
  exact ⟨e, D, e1, e2⟩
theorem numV_lt {f : Nat → Int32} {p : Nat} : ∀ i, (∀ q, p ≤ q → q < p + i → Dgt (f q)) → numV f p i < 10 ^ i
  | 0, _ => by show 0 < 1; decide
  | i + 1, h => by
    have := numV_lt i (fun q h1 h2 => h q h1 (by omega))
    have h2 := h (p + i) (by omega) (by omega)
    unfold Dgt at h2
    unfold numV
    rw [Nat.pow_succ]
    omega
theorem num_step {V c : Nat} {b : Int32} (hV : V < 1000) (hb : b.toInt = c) (h1 : 48 ≤ c) (h2 : c ≤ 57) : Int32.ofNat V * 10 + b - 48 = Int32.ofNat (10 * V + (c - 48)) := by
  have a1 : (Int32.ofNat V * 10).toInt = (10 * V : Nat) := by
    rw [i_mul, oN_t (by omega), show (10 : Int32).toInt = 10 from rfl]
    omega
  have a2 := i_addN a1 hb (by omega)
  rw [i_eq, i_sub, a2, oN_t (by omega), show (48 : Int32).toInt = 48 from rfl]
  omega
theorem s8_number {C : wg_C} {n p k : Nat} (hn : n ≤ 160) (hp : p < n) (hl : Dgt (C 24 p)) (h1 : C 23 1 = Int32.ofNat n) (h2 : C 23 2 = Int32.ofNat p) (hk : k < 161) (h6 : C 23 6 = Int32.ofNat k) : ∃ e v D, f_X5_cutNumber NN C = some (v, D) ∧ (∀ a j, ¬ (a = 23 ∧ j = 2) → ¬ (a = 26 ∧ j = k) → D a j = C a j) ∧ D 23 2 = Int32.ofNat e ∧ Run Dgt (C 24) n p e ∧ ((e - p ≤ 4 ∧ v = 1 ∧ D 26 k = Int32.ofNat (numV (C 24) p (e - p))) ∨ (4 < e - p ∧ v = -2)) := by
  unfold f_X5_cutNumber
  obtain ⟨⟨D, x⟩, e1, e, e2, e3, e4, e5⟩ := lp_ok (b := fun (o : wg_C × Int32) => f_X5_cutNumber_l7 NN (C 23 2) o.1 o.2) (fun q => atF C q.1 ∧ ∃ e, q.1 23 2 = Int32.ofNat e ∧ p ≤ e ∧ e ≤ n ∧ (∀ q, p ≤ q → q < e → Dgt (C 24 q)) ∧ (e - p ≤ 4 → q.2 = Int32.ofNat (numV (C 24) p (e - p)))) (fun q => 160 - (q.1 23 2).toInt.toNat) (fun q => ∃ e, atF C q.1 ∧ q.1 23 2 = Int32.ofNat e ∧ Run Dgt (C 24) n p e ∧ (e - p ≤ 4 → q.2 = Int32.ofNat (numV (C 24) p (e - p)))) (by
    rintro ⟨D, x⟩ ⟨j1, e, j2, j3, j4, j5, j6⟩
    simp only at j1 j2 j6
    have e1 : D 23 1 = Int32.ofNat n := by rw [j1 _ _ (by decide)]; exact h1
    have e24 : ∀ k, D 24 k = C 24 k := fun k => j1 _ _ (by omega)
    simp only [f_X5_cutNumber_l7, e1, j2, oN_le (show e < 2147483648 by omega) (show n < 2147483648 by omega), e24, lt_eq]
    by_cases g : n ≤ e
    · right
      rw [if_pos g]
      exact ⟨_, rfl, e, j1, j2, ⟨by omega, j4, j5, Or.inl (by omega)⟩, j6⟩
    · rw [if_neg g, ck_pos (oN_inb (show e < 160 by omega) (by decide)), ck_pos (oN_inb (show e < 160 by omega) (by decide)), oN_cl (show e < 2147483648 by omega)]
      obtain ⟨v, v1, ⟨rfl, v2⟩ | ⟨rfl, v2⟩⟩ := s8_dgt (C 24 e)
      · left
        rw [v1, bd_eq, if_neg (by decide)]
        refine ⟨_, rfl, ⟨j1.up _, e + 1, by show wg_up D 23 2 (Int32.ofNat e + 1) 23 2 = _; rw [up_s, oN_s], by omega, by omega, fun q h1 h2 => ?_, fun h4 => ?_⟩, ?_⟩
        · by_cases z : q = e
          · rw [z]; exact v2
          · exact j5 q h1 (by omega)
        · show x * 10 + C 24 e - 48 = _
          have q1 := j6 (by omega)
          have q2 := numV_lt (f := C 24) (p := p) (e - p) (fun q h1 h2 => j5 q h1 (by omega))
          have q3 : 10 ^ (e - p) ≤ 10 ^ 3 := Nat.pow_le_pow_right (by decide) (by omega)
          have q4 : numV (C 24) p (e + 1 - p) = 10 * numV (C 24) p (e - p) + ((C 24 e).toInt.toNat - 48) := by
            rw [show e + 1 - p = (e - p) + 1 by omega]
            show 10 * numV (C 24) p (e - p) + ((C 24 (p + (e - p))).toInt.toNat - 48) = _
            rw [show p + (e - p) = e by omega]
          unfold Dgt at v2
          rw [q1, q4]
          exact num_step (by omega) (c := (C 24 e).toInt.toNat) (by clear j6 q1 q4; omega) (by clear j6 q1 q4; omega) (by clear j6 q1 q4; omega)
        · show 160 - (wg_up D 23 2 (Int32.ofNat e + 1) 23 2).toInt.toNat < 160 - (Int32.ofNat e).toInt.toNat
          rw [up_s, oN_s, oN_t (by omega), oN_t (by omega)]
          omega
      · right
        rw [v1, bd_eq, if_pos rfl]
        have : p ≠ e := fun z => v2 (by rw [← z]; exact hl)
        exact ⟨_, rfl, e, j1, j2, ⟨by omega, j4, j5, Or.inr v2⟩, j6⟩) NN (C, 0) ⟨atF.rfl C, p, h2, Nat.le_refl _, by omega, fun q h1 h2 => by omega, fun _ => by rw [Nat.sub_self]; rfl⟩ (by have := NN_big; show 160 - _ < NN; omega)
  simp only at e2 e3 e5
  have d6 : D 23 6 = Int32.ofNat k := by rw [e2 _ _ (by decide)]; exact h6
  simp only [lt_eq]
  rw [e1, bd2_eq, d6, ck_pos (oN_inb hk (by decide)), oN_cl (show k < 2147483648 by omega), up_r _ _ _ _ (show 23 ≠ 26 by decide), e3, h2]
  have c4 : (4 : Int32) < Int32.ofNat e - Int32.ofNat p ↔ 4 < e - p := by
    have := e4.2.1
    have := e4.1
    rw [i_lt, i_sub, oN_t (by omega), oN_t (by omega), show (4 : Int32).toInt = 4 from rfl]
    clear e5
    omega
  have fr : ∀ a j, ¬ (a = 23 ∧ j = 2) → ¬ (a = 26 ∧ j = k) → wg_up D 26 k x a j = C a j := fun a j q1 q2 => by
    by_cases z : a = 26
    · rw [z, up_k _ _ (fun y => q2 ⟨z, y⟩), ← z]; exact e2 a j q1
    · rw [up_r _ _ _ _ z]; exact e2 a j q1
  by_cases g : 4 < e - p
  · rw [if_pos (c4.mpr g)]
    exact ⟨e, _, _, rfl, fr, by rw [up_r _ _ _ _ (by decide)]; exact e3, e4, Or.inr ⟨g, rfl⟩⟩
  · rw [if_neg (fun z => g (c4.mp z))]
    exact ⟨e, _, _, rfl, fr, by rw [up_r _ _ _ _ (by decide)]; exact e3, e4, Or.inl ⟨by omega, rfl, by rw [up_s]; exact e5 (by omega)⟩⟩
