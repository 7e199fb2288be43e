/-- the text that is read, of the reference -/
def TxtL (f : Nat → Int32) (n b : Nat) (L : wg_M) : Prop := L.1 55 21 = Int32.ofNat b ∧ L.1 55 22 = Int32.ofNat n ∧ b + 160 ≤ 960 ∧ n ≤ 160 ∧ ∀ i, i < n → L.1 56 (b + i) = f i ∧ 0 ≤ (f i).toInt ∧ (f i).toInt ≤ 255
def nxF (L K : wg_M) : Prop := ∀ a k, ¬ (a = 55 ∧ (k = 23 ∨ k = 24 ∨ k = 25)) → K.1 a k = L.1 a k
theorem nxF.rfl (L : wg_M) : nxF L L := fun _ _ _ => by trivial
theorem nxF.tr {C D E : wg_M} (h : nxF C D) (k : nxF D E) : nxF C E := fun a i q => (k a i q).trans (h a i q)
theorem nxF.up {C D : wg_M} (h : nxF C D) {k : Nat} (v : Int32) (hk : k = 23 ∨ k = 24 ∨ k = 25) : nxF C (wg_sM D 55 k v) := fun a i q => by
  by_cases e : a = 55
  · rw [e, sM_k _ _ (fun z => q ⟨e, by omega⟩), ← e]; exact h a i q
  · rw [sM_r _ _ _ _ e]; exact h a i q
theorem nxF.upJ {C D : wg_M} (h : nxF C D) (v : Int64) : nxF C (wg_sJ D 55 v) := fun a i q => h a i q
theorem nxF.txt {f : Nat → Int32} {n b : Nat} {L K : wg_M} (h : TxtL f n b L) (k : nxF L K) : TxtL f n b K := by
  obtain ⟨h1, h2, h3, h4, h5⟩ := h
  refine ⟨by rw [k _ _ (by decide)]; exact h1, by rw [k _ _ (by decide)]; exact h2, h3, h4, fun i hi => ?_⟩
  rw [k _ _ (by omega)]
  exact h5 i hi
theorem s9_byte {f : Nat → Int32} {n b : Nat} {L : wg_M} (h : TxtL f n b L) {i : Nat} (hi : i ≤ n) : f_X9_byteAt L (Int32.ofNat i) = some (if i < n then f i else -1) := by
  obtain ⟨h1, h2, h3, h4, h5⟩ := h
  unfold f_X9_byteAt
  simp only [h1, h2, oN_le (show i < 2147483648 by omega) (show n < 2147483648 by omega)]
  by_cases g : i < n
  · have ea : Int32.ofNat b + Int32.ofNat i = Int32.ofNat (b + i) := (Int32.ofNat_add b i).symm
    rw [if_neg (by omega), if_pos g, ea, ck_pos (oN_inb (show b + i < 960 by omega) (by decide)), oN_cl (show b + i < 2147483648 by omega), (h5 i g).1]
  · rw [if_pos (by omega), if_neg g]
/-- the token at hand, of the reference -/
def CurT (f : Nat → Int32) (n : Nat) (tk vl : Int32) (p h' : Nat) (L : wg_M) : Prop := L.1 55 25 = Int32.ofNat p ∧ p ≤ n ∧ h' ≤ n ∧ ((tk = -1 ∧ L.1 55 24 = 0) ∨ (L.1 55 24 = 1 ∧ L.1 55 23 = Int32.ofNat h' ∧ Run Ltr f n p h' ∧ ((∃ j, j < 12 ∧ Spl f p h' j ∧ tk = tkW j ∧ vl = Int32.ofNat j) ∨ (tk = -2 ∧ ∀ j, j < 12 → ¬ Spl f p h' j))) ∨ (L.1 55 24 = 2 ∧ L.1 55 23 = Int32.ofNat h' ∧ tk = 1 ∧ (L.2 55).toInt32 = vl) ∨ (L.1 55 24 = 3 ∧ L.1 55 23 = Int32.ofNat h' ∧ Sgn tk ∧ L.2 55 = tk.toInt64) ∨ (L.1 55 24 = 4 ∧ tk = -2))
theorem s_inL (b : Int32) : f_X9_in b.toInt64 97 122 = some (bI (97 ≤ b.toInt ∧ b.toInt ≤ 122)) := s_inl b 97 122 97 122 rfl rfl
theorem s_inD (b : Int32) : f_X9_in b.toInt64 48 57 = some (bI (48 ≤ b.toInt ∧ b.toInt ≤ 57)) := s_inl b 48 57 48 57 rfl rfl
theorem s9_skip {f : Nat → Int32} {n b : Nat} {L : wg_M} (h : TxtL f n b L) {h0 p : Nat} (hh : L.1 55 23 = Int32.ofNat h0) (hp : h0 ≤ p ∧ p ≤ n ∧ (∀ q, h0 ≤ q → q < p → Blk (f q)) ∧ (p = n ∨ ¬ Blk (f p))) : ∃ K, lp (fun o => f_X9_next_l0 NN o) NN L = some K ∧ nxF L K ∧ K.1 55 23 = Int32.ofNat p ∧ K.2 = L.2 := by
  obtain ⟨p1, p2, p3, p4⟩ := hp
  have hn := h.2.2.2.1
  refine lp_ok (fun K => nxF L K ∧ K.2 = L.2 ∧ ∃ q, K.1 55 23 = Int32.ofNat q ∧ h0 ≤ q ∧ q ≤ p) (fun K => 160 - (K.1 55 23).toInt.toNat) _ ?_ NN L ⟨nxF.rfl L, rfl, h0, hh, Nat.le_refl _, p1⟩ (by have := NN_big; omega)
  rintro K ⟨j1, j0, q, j2, j3, j4⟩
  have hK := j1.txt h
  simp only [f_X9_next_l0, f_X9_next_j26l0, j2, s9_byte hK (show q ≤ n by omega), bd_eq, lt_eq]
  by_cases g : q < p
  · left
    have hb := p3 q j3 g
    have go : ∃ y, (some (Sum.inl (wg_sM K 55 23 (Int32.ofNat q + 1))) : Option (wg_M ⊕ wg_M)) = some (.inl y) ∧ (nxF L y ∧ y.2 = L.2 ∧ ∃ q, y.1 55 23 = Int32.ofNat q ∧ h0 ≤ q ∧ q ≤ p) ∧ 160 - (y.1 55 23).toInt.toNat < 160 - (Int32.ofNat q).toInt.toNat := by
      refine ⟨_, rfl, ⟨j1.up _ (by omega), j0, q + 1, by rw [sM_s, oN_s], by omega, by omega⟩, ?_⟩
      rw [sM_s, oN_s, oN_t (by omega), oN_t (by omega)]
      omega
    rw [if_pos (show q < n by omega)]
    by_cases b1 : f q = 32
    · rw [if_pos b1]; exact go
    · rw [if_neg b1, if_pos (hb.resolve_left b1)]; exact go
  · right
    have : q = p := by omega
    subst this
    have hno : ∀ x : Int32, x = 32 ∨ x = 10 → ¬ (if q < n then f q else -1) = x := fun x hx hz => by
      by_cases g1 : q < n
      · rw [if_pos g1] at hz
        rcases p4 with z | z
        · omega
        · exact z (by unfold Blk; rw [hz]; exact hx)
      · rw [if_neg g1] at hz
        rcases hx with rfl | rfl <;> exact absurd hz (by decide)
    rw [if_neg (hno 32 (Or.inl rfl)), if_neg (hno 10 (Or.inr rfl))]
    exact ⟨_, rfl, j1, j2, j0⟩
theorem s9_letters {f : Nat → Int32} {n b : Nat} {L : wg_M} (h : TxtL f n b L) {p e : Nat} (hh : L.1 55 23 = Int32.ofNat p) (hr : Run Ltr f n p e) : ∃ K, lp (fun o => f_X9_next_l100 NN o) NN L = some K ∧ nxF L K ∧ K.1 55 23 = Int32.ofNat e ∧ K.1 55 24 = L.1 55 24 ∧ K.1 55 25 = L.1 55 25 := by
  obtain ⟨p1, p2, p3, p4⟩ := hr
  have hn := h.2.2.2.1
  refine lp_ok (fun K => nxF L K ∧ (K.1 55 24 = L.1 55 24 ∧ K.1 55 25 = L.1 55 25) ∧ ∃ q, K.1 55 23 = Int32.ofNat q ∧ p ≤ q ∧ q ≤ e) (fun K => 160 - (K.1 55 23).toInt.toNat) _ ?_ NN L ⟨nxF.rfl L, ⟨rfl, rfl⟩, p, hh, Nat.le_refl _, by omega⟩ (by have := NN_big; omega)
  rintro K ⟨j1, j0, q, j2, j3, j4⟩
  have hK := j1.txt h
  simp only [f_X9_next_l100, j2, s9_byte hK (show q ≤ n by omega), bd_eq, s_inL, if_bI, lt_eq]
  by_cases g : q < e
  · left
    have hb := p3 q j3 g
    unfold Ltr at hb
    rw [if_pos (show q < n by omega), if_pos hb]
    refine ⟨_, rfl, ⟨j1.up _ (by omega), ⟨by rw [sM_k _ _ (by decide)]; exact j0.1, by rw [sM_k _ _ (by decide)]; exact j0.2⟩, q + 1, by rw [sM_s, oN_s], by omega, by omega⟩, ?_⟩
    rw [sM_s, oN_s, oN_t (by omega), oN_t (by omega)]
    omega
  · right
    have : q = e := by omega
    subst this
    have hno : ¬ (97 ≤ (if q < n then f q else -1).toInt ∧ (if q < n then f q else -1).toInt ≤ 122) := fun hz => by
      by_cases g1 : q < n
      · rw [if_pos g1] at hz
        rcases p4 with z | z
        · omega
        · exact z hz
      · rw [if_neg g1, show (-1 : Int32).toInt = -1 from rfl] at hz
        omega
    rw [if_neg hno]
    exact ⟨_, rfl, j1, j2, j0.1, j0.2⟩
theorem i_bm64 (x : Int) : x.bmod (2 ^ 64) = (x + 9223372036854775808) % 18446744073709551616 - 9223372036854775808 := by grind
theorem num64 {V c : Nat} {x : Int64} {b : Int32} (hV : V < 1000) (hx : x.toInt = V) (hb : b.toInt = c) (h1 : 48 ≤ c) (h2 : c ≤ 57) : (10 * x + b.toInt64 - 48).toInt = ((10 * V + (c - 48) : Nat) : Int) := by
  have a1 : (10 * x).toInt = ((10 * V : Nat) : Int) := by
    rw [Int64.toInt_mul, hx, show (10 : Int64).toInt = 10 from rfl, i_bm64]
    omega
  have a2 : (10 * x + b.toInt64).toInt = ((10 * V + c : Nat) : Int) := by
    rw [Int64.toInt_add, a1, Int32.toInt_toInt64, hb, i_bm64]
    omega
  rw [Int64.toInt_sub, a2, show (48 : Int64).toInt = 48 from rfl, i_bm64]
  omega
theorem sJ_s (M : wg_M) (a : Nat) (v : Int64) : (wg_sJ M a v).2 a = v := by
  unfold wg_sJ va_up
  exact if_pos rfl
theorem s9_number {f : Nat → Int32} {n b : Nat} {L : wg_M} (h : TxtL f n b L) {p e : Nat} (hh : L.1 55 23 = Int32.ofNat p) (hr : Run Dgt f n p e) (h0 : L.2 55 = 0) : ∃ q : wg_M × Int32, lp (fun o => f_X9_next_l160 NN o.1 o.2) NN (L, (0 : Int32)) = some q ∧ nxF L q.1 ∧ q.1.1 55 23 = Int32.ofNat e ∧ q.1.1 55 25 = L.1 55 25 ∧ q.2 = Int32.ofNat (e - p) ∧ (e - p ≤ 4 → (q.1.2 55).toInt = ((numV f p (e - p) : Nat) : Int)) := by
  obtain ⟨p1, p2, p3, p4⟩ := hr
  have hn := h.2.2.2.1
  refine lp_ok (fun q => nxF L q.1 ∧ q.1.1 55 25 = L.1 55 25 ∧ ∃ k, q.1.1 55 23 = Int32.ofNat k ∧ p ≤ k ∧ k ≤ e ∧ q.2 = Int32.ofNat (k - p) ∧ (k - p ≤ 4 → (q.1.2 55).toInt = ((numV f p (k - p) : Nat) : Int))) (fun q => 160 - (q.1.1 55 23).toInt.toNat) _ ?_ NN (L, 0) ⟨nxF.rfl L, rfl, p, hh, Nat.le_refl _, by omega, by rw [Nat.sub_self]; rfl, fun _ => by show (L.2 55).toInt = ((numV f p (p - p) : Nat) : Int); rw [h0, Nat.sub_self]; rfl⟩ (by have := NN_big; show 160 - _ < NN; omega)
  rintro ⟨K, x⟩ ⟨j1, j0, q, j2, j3, j4, j5, j6⟩
  simp only at j1 j0 j2 j5 j6
  subst j5
  have hK := j1.txt h
  simp only [f_X9_next_l160, f_X9_next_j216l160, j2, s9_byte hK (show q ≤ n by omega), bd_eq, s_inD, if_bI, lt_eq]
  by_cases g : q < e
  · left
    have hb := p3 q j3 g
    have hb' := hb
    unfold Dgt at hb
    rw [if_pos (show q < n by omega), if_pos hb]
    have fin : ∀ y : Int64, (q + 1 - p ≤ 4 → y.toInt = ((numV f p (q + 1 - p) : Nat) : Int)) → ∃ z, (some (Sum.inl (wg_sM (wg_sJ K 55 y) 55 23 ((wg_sJ K 55 y).1 55 23 + 1), Int32.ofNat (q - p) + 1)) : Option ((wg_M × Int32) ⊕ (wg_M × Int32))) = some (.inl z) ∧ (nxF L z.1 ∧ z.1.1 55 25 = L.1 55 25 ∧ ∃ k, z.1.1 55 23 = Int32.ofNat k ∧ p ≤ k ∧ k ≤ e ∧ z.2 = Int32.ofNat (k - p) ∧ (k - p ≤ 4 → (z.1.2 55).toInt = ((numV f p (k - p) : Nat) : Int))) ∧ 160 - (z.1.1 55 23).toInt.toNat < 160 - (Int32.ofNat q).toInt.toNat := fun y hy => by
      have e1 : (wg_sM (wg_sJ K 55 y) 55 23 ((wg_sJ K 55 y).1 55 23 + 1)).1 55 23 = Int32.ofNat (q + 1) := by
        rw [sM_s]
        show K.1 55 23 + 1 = _
        rw [j2, oN_s]
      refine ⟨_, rfl, ⟨(j1.upJ y).up _ (by omega), (sM_k _ _ (by decide)).trans j0, q + 1, e1, by omega, by omega, ?_, fun h4 => ?_⟩, ?_⟩
      · show Int32.ofNat (q - p) + 1 = Int32.ofNat (q + 1 - p)
        rw [oN_s]
        congr 1
        omega
      · show ((wg_sJ K 55 y).2 55).toInt = _
        rw [sJ_s]
        exact hy h4
      · show 160 - ((wg_sM (wg_sJ K 55 y) 55 23 ((wg_sJ K 55 y).1 55 23 + 1)).1 55 23).toInt.toNat < _
        rw [e1, oN_t (by omega), oN_t (by omega)]
        omega
    have g4 : (4 : Int32) ≤ Int32.ofNat (q - p) ↔ 4 ≤ q - p := oN_le (show q - p < 2147483648 by omega) (show 4 < 2147483648 by omega)
    by_cases g5 : 4 ≤ q - p
    · rw [if_pos (g4.mpr g5)]
      exact fin _ (fun z => by omega)
    · rw [if_neg (fun z => g5 (g4.mp z))]
      refine fin _ (fun z => ?_)
      have q2 := numV_lt (f := f) (p := p) (q - p) (fun r h1 h2 => p3 r h1 (by omega))
      have q3 : 10 ^ (q - p) ≤ 10 ^ 3 := Nat.pow_le_pow_right (by decide) (by omega)
      have q4 : numV f p (q + 1 - p) = 10 * numV f p (q - p) + ((f q).toInt.toNat - 48) := by
        rw [show q + 1 - p = (q - p) + 1 by omega]
        show 10 * numV f p (q - p) + ((f (p + (q - p))).toInt.toNat - 48) = _
        rw [show p + (q - p) = q by omega]
      rw [q4]
      exact num64 (by omega) (j6 (by omega)) (c := (f q).toInt.toNat) (by omega) (by omega) (by omega)
  · right
    have : q = e := by omega
    subst this
    have hno : ¬ (48 ≤ (if q < n then f q else -1).toInt ∧ (if q < n then f q else -1).toInt ≤ 57) := fun hz => by
      by_cases g1 : q < n
      · rw [if_pos g1] at hz
        rcases p4 with z | z
        · omega
        · exact z hz
      · rw [if_neg g1, show (-1 : Int32).toInt = -1 from rfl] at hz
        omega
    rw [if_neg hno]
    exact ⟨_, rfl, j1, j2, j0, rfl, j6⟩
theorem s9_next {f : Nat → Int32} {n b : Nat} {L : wg_M} (h : TxtL f n b L) {h0 p h' : Nat} {tk vl : Int32} (hh : L.1 55 23 = Int32.ofNat h0) (ht : Tk f n h0 tk vl p h') (hn' : h' ≤ n) : ∃ K, f_X9_next NN L = some K ∧ nxF L K ∧ CurT f n tk vl p h' K := by
  obtain ⟨hp, hc⟩ := ht
  have hn := h.2.2.2.1
  obtain ⟨K, e1, e2, e3, e4⟩ := s9_skip h hh hp
  unfold f_X9_next
  rw [e1, bd_eq]
  simp only [lt_eq]
  have t1 : nxF L (wg_sM K 55 25 (K.1 55 23)) := e2.up _ (by omega)
  have t2 : (wg_sM K 55 25 (K.1 55 23)).1 55 23 = Int32.ofNat p := by rw [sM_k _ _ (by decide)]; exact e3
  rw [t2, s9_byte (t1.txt h) hp.2.1, bd_eq, e3]
  rw [e3] at t1
  have hE : ∃ E, E = wg_sM (wg_sM K 55 25 (Int32.ofNat p)) 55 24 4 := ⟨_, rfl⟩
  obtain ⟨E, hE⟩ := hE
  rw [← hE]
  have f1 : nxF L E := by rw [hE]; exact t1.up _ (by omega)
  have f23 : E.1 55 23 = Int32.ofNat p := by rw [hE, sM_k _ _ (by decide), sM_k _ _ (by decide)]; exact e3
  have f25 : E.1 55 25 = Int32.ofNat p := by rw [hE, sM_k _ _ (by decide), sM_s]
  have f24 : E.1 55 24 = 4 := by rw [hE, sM_s]
  have c0 : ∀ x : Int32, 0 ≤ x ↔ 0 ≤ x.toInt := fun x => by rw [i_le, Int32.toInt_zero]
  rcases hc with ⟨ep, rfl, eh⟩ | ⟨g, hl, hr, hw⟩ | ⟨g, hl, hr, hw⟩ | ⟨g, hl, rfl, rfl⟩ | ⟨g, ⟨n1, n2, n3⟩, rfl, rfl⟩
  · rw [if_neg (show ¬ p < n by omega), if_neg (by decide)]
    have e22 : E.1 55 22 = Int32.ofNat p := by rw [f1 _ _ (by decide), ep]; exact h.2.1
    refine ⟨_, rfl, (f1.up _ (by omega)).up _ (by omega), ?_, hp.2.1, hn', Or.inl ⟨rfl, ?_⟩⟩
    · rw [sM_s, sM_k _ _ (by decide)]; exact e22
    · rw [sM_k _ _ (by decide), sM_s]
  · have b0 := (h.2.2.2.2 p g).2
    unfold Ltr at hl
    rw [if_pos g, if_pos ((c0 _).mpr (by omega)), s_inL, bd_eq, if_bI, if_pos hl]
    have k1 : nxF L (wg_sM E 55 24 1) := f1.up _ (by omega)
    obtain ⟨F, u1, u2, u3, u4, u5⟩ := s9_letters (k1.txt h) (p := p) (e := h') (by rw [sM_k _ _ (by decide)]; exact f23) hr
    rw [u1, bd_eq]
    refine ⟨F, rfl, k1.tr u2, by rw [u5, sM_k _ _ (by decide)]; exact f25, hp.2.1, hn', Or.inr (Or.inl ⟨by rw [u4, sM_s], u3, hr, hw⟩)⟩
  · have b0 := (h.2.2.2.2 p g).2
    unfold Dgt at hl
    rw [if_pos g, if_pos ((c0 _).mpr (by omega)), s_inL, bd_eq, if_bI, if_neg (by omega), s_inD, bd_eq, if_bI, if_pos hl]
    have k1 : nxF L (wg_sJ (wg_sM E 55 24 2) 55 0) := (f1.up _ (by omega)).upJ 0
    obtain ⟨⟨F, x⟩, u1, u2, u3, u4, u5, u6⟩ := s9_number (k1.txt h) (p := p) (e := h') (by show (wg_sM E 55 24 2).1 55 23 = _; rw [sM_k _ _ (by decide)]; exact f23) hr (sJ_s _ _ _)
    simp only at u2 u3 u4 u5 u6
    rw [u1, bd2_eq, u5]
    have u4' : F.1 55 25 = Int32.ofNat p := by
      rw [u4]
      show (wg_sM E 55 24 2).1 55 25 = _
      rw [sM_k _ _ (by decide)]
      exact f25
    have g4 : Int32.ofNat (h' - p) ≤ 4 ↔ h' - p ≤ 4 := by
      rw [i_le, oN_t (by omega), show (4 : Int32).toInt = 4 from rfl]
      omega
    rcases hw with ⟨w1, rfl, rfl⟩ | ⟨w1, rfl⟩
    · rw [if_pos (g4.mpr w1)]
      refine ⟨_, rfl, (k1.tr u2).up _ (by omega), (sM_k _ _ (by decide)).trans u4', hp.2.1, hn', Or.inr (Or.inr (Or.inl ⟨sM_s _ _ _ _, (sM_k _ _ (by decide)).trans u3, rfl, ?_⟩))⟩
      show (F.2 55).toInt32 = _
      have q1 := u6 w1
      have q2 := numV_lt (f := f) (p := p) (h' - p) (fun r h1 h2 => hr.2.2.1 r h1 (by omega))
      have q3 : 10 ^ (h' - p) ≤ 10 ^ 4 := Nat.pow_le_pow_right (by decide) w1
      rw [i_eq, Int64.toInt_toInt32, q1, oN_t (by omega), i_bm]
      omega
    · rw [if_neg (fun z => by have := g4.mp z; omega)]
      exact ⟨_, rfl, (k1.tr u2).up _ (by omega), (sM_k _ _ (by decide)).trans u4', hp.2.1, hn', Or.inr (Or.inr (Or.inr (Or.inr ⟨sM_s _ _ _ _, rfl⟩)))⟩
  · have b0 := (h.2.2.2.2 p g).2
    have hs : 40 ≤ (f p).toInt ∧ (f p).toInt ≤ 47 ∨ 58 ≤ (f p).toInt ∧ (f p).toInt ≤ 61 := by
      rcases hl with z | z | z | z | z | z | z | z <;> rw [z] <;> decide
    rw [if_pos g, if_pos ((c0 _).mpr (by omega)), s_inL, bd_eq, if_bI, if_neg (by omega), s_inD, bd_eq, if_bI, if_neg (by omega)]
    have fin : ∃ K, f_X9_next_j300 NN E (f p) = some K ∧ nxF L K ∧ CurT f n (f p) vl p (p + 1) K := by
      unfold f_X9_next_j300
      simp only [lt_eq]
      refine ⟨_, rfl, ((f1.up _ (by omega)).upJ _).up _ (by omega), ?_, hp.2.1, hn', Or.inr (Or.inr (Or.inr (Or.inl ⟨?_, ?_, hl, ?_⟩)))⟩
      · rw [sM_k _ _ (by decide)]
        show (wg_sM E 55 24 3).1 55 25 = _
        rw [sM_k _ _ (by decide)]; exact f25
      · rw [sM_k _ _ (by decide)]
        show (wg_sM E 55 24 3).1 55 24 = _
        rw [sM_s]
      · rw [sM_s]
        show (wg_sM E 55 24 3).1 55 23 + 1 = _
        rw [sM_k _ _ (by decide), f23, oN_s]
      · show (wg_sJ (wg_sM E 55 24 3) 55 (f p).toInt64).2 55 = _
        exact sJ_s _ _ _
    rcases hl with z | z | z | z | z | z | z | z <;> (rw [z] at fin ⊢; exact fin)
  · have b0 := (h.2.2.2.2 p g).2
    unfold Ltr at n1
    unfold Dgt at n2
    unfold Sgn at n3
    simp only [not_or] at n3
    obtain ⟨s1, s2, s3, s4, s5, s6, s7, s8⟩ := n3
    rw [if_pos g, if_pos ((c0 _).mpr (by omega)), s_inL, bd_eq, if_bI, if_neg n1, s_inD, bd_eq, if_bI, if_neg n2, if_neg s1, if_neg s2, if_neg s3, if_neg s4, if_neg s5, if_neg s6, if_neg s7, if_neg s8]
    exact ⟨_, rfl, f1, f25, hp.2.1, hn', Or.inr (Or.inr (Or.inr (Or.inr ⟨f24, rfl⟩)))⟩
