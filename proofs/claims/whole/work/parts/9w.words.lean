theorem lg_eq (x y : Int64) : lg_cmp x y = 0 ↔ x = y := by
  unfold lg_cmp
  by_cases h : x = y
  · subst h
    simp
  · by_cases h2 : x > y
    · rw [if_pos h2]
      exact ⟨fun z => absurd z (by decide), fun z => absurd z h⟩
    · rw [if_neg h2, if_neg h]
      exact ⟨fun z => absurd z (by decide), fun z => absurd z h⟩
theorem sgn_ge {c : Int32} (h : Sgn c) : 40 ≤ c.toInt := by
  rcases h with rfl | rfl | rfl | rfl | rfl | rfl | rfl | rfl <;> decide
set_option maxRecDepth 100000 in
theorem tkW_b : ∀ j : Nat, j < 12 → 2 ≤ (tkW j).toInt ∧ (tkW j).toInt ≤ 8 := by decide +kernel
theorem i64_inj {a b : Int32} : a.toInt64 = b.toInt64 ↔ a = b := by
  constructor
  · intro h
    have : a.toInt64.toInt = b.toInt64.toInt := by rw [h]
    rw [Int32.toInt_toInt64, Int32.toInt_toInt64] at this
    exact (i_eq a b).mpr this
  · intro h
    rw [h]
theorem s9_isSign {f : Nat → Int32} {n p h' : Nat} {tk vl : Int32} {L : wg_M} (hc : CurT f n tk vl p h' L) (hb : L.1 55 28 = 0) {c : Int32} (hs : Sgn c) : f_X9_isSign L c = some (bI (tk = c)) := by
  have hg := sgn_ge hs
  have ne : tk.toInt < 40 → ¬ tk = c := fun h z => by rw [z] at h; omega
  have nk : ¬ L.1 55 24 = 3 → tk.toInt < 40 → f_X9_isSign L c = some (bI (tk = c)) := fun h1 h2 => by
    unfold f_X9_isSign
    rw [if_pos hb, if_neg h1, bI_f (ne h2)]
  obtain ⟨-, -, -, h⟩ := hc
  rcases h with ⟨rfl, k⟩ | ⟨k, -, -, h⟩ | ⟨k, -, rfl, -⟩ | ⟨k, -, h1, h2⟩ | ⟨k, rfl⟩
  · exact nk (by rw [k]; decide) (by decide)
  · refine nk (by rw [k]; decide) ?_
    rcases h with ⟨j, hj, -, rfl, -⟩ | ⟨rfl, -⟩
    · have := tkW_b j hj
      omega
    · decide
  · exact nk (by rw [k]; decide) (by decide)
  · unfold f_X9_isSign
    rw [if_pos hb, if_pos k, h2]
    by_cases e : tk = c
    · rw [if_pos ((lg_eq _ _).mpr (i64_inj.mpr e)), bI_t e]
    · rw [if_neg (fun z => e (i64_inj.mp ((lg_eq _ _).mp z))), bI_f e]
  · exact nk (by rw [k]; decide) (by decide)
theorem s9_badSign {L : wg_M} (hb : L.1 55 28 = 1) (c : Int32) : f_X9_isSign L c = some 0 := by
  unfold f_X9_isSign
  rw [if_neg (by rw [hb]; decide)]
theorem s9_badWord {L : wg_M} (hb : L.1 55 28 = 1) (a1 a2 a3 a4 a5 a6 a7 a8 : Int32) : f_X9_isWord L a1 a2 a3 a4 a5 a6 a7 a8 = some 0 := by
  unfold f_X9_isWord
  rw [if_neg (by rw [hb]; decide)]
theorem s9_badFail {L : wg_M} (hb : L.1 55 28 = 1) : f_X9_fail L = some L := by
  unfold f_X9_fail
  rw [if_neg (by rw [hb]; decide)]
def wbp (j i : Nat) : Int32 := if i < wl j then wb j i else 0
def spU (i j : Nat) : Bool := decide (i = j) || (decide (wl i ≠ wl j) || (List.range (wl i)).any fun k => decide (wb i k ≠ wb j k))
set_option maxRecDepth 100000 in
theorem sp_u : ∀ i : Nat, i < 12 → ∀ j : Nat, j < 12 → spU i j = true := by decide +kernel
theorem Spl.uniq {f : Nat → Int32} {p e i j : Nat} (hi : i < 12) (hj : j < 12) (h : Spl f p e i) (k : Spl f p e j) : i = j := by
  have u := sp_u i hi j hj
  unfold spU at u
  simp only [Bool.or_eq_true, decide_eq_true_eq, List.any_eq_true, List.mem_range] at u
  obtain ⟨h1, h2⟩ := h
  obtain ⟨k1, k2⟩ := k
  rcases u with u | u | ⟨x, x1, x2⟩
  · exact u
  · exact absurd (show wl i = wl j by omega) u
  · exact absurd ((h2 x x1).symm.trans (k2 x (by omega))) x2
set_option maxRecDepth 100000 in
theorem wb_ne : ∀ j : Nat, j < 12 → ∀ i : Nat, i < wl j → ¬ wb j i = 0 := by decide +kernel
theorem s9_isL {f : Nat → Int32} {n b p h' : Nat} {L : wg_M} (h : TxtL f n b L) (h25 : L.1 55 25 = Int32.ofNat p) (h23 : L.1 55 23 = Int32.ofNat h') (hn : h' ≤ n) {i : Nat} (hi : i < 8) (hp : p ≤ n) {x : Int32} (hx : x = Int32.ofNat i) (c : Int32) : f_X9_isLetter L x c = some (bI (if h' ≤ p + i then c = 0 else f (p + i) = c)) := by
  subst hx
  have h160 := h.2.2.2.1
  have ea : Int32.ofNat p + Int32.ofNat i = Int32.ofNat (p + i) := (Int32.ofNat_add p i).symm
  unfold f_X9_isLetter
  simp only [h25, h23, ea, oN_le (show p + i < 2147483648 by omega) (show h' < 2147483648 by omega)]
  by_cases g : h' ≤ p + i
  · simp only [g, if_true]
    unfold bI
    split <;> rfl
  · simp only [g, if_false]
    rw [s9_byte h (show p + i ≤ n by omega), bd_eq, if_pos (show p + i < n by omega)]
    unfold bI
    split <;> rfl
theorem nest8 {A0 A1 A2 A3 A4 A5 A6 A7 : Prop} [Decidable A0] [Decidable A1] [Decidable A2] [Decidable A3] [Decidable A4] [Decidable A5] [Decidable A6] [Decidable A7] (no : ¬ (A0 ∧ A1 ∧ A2 ∧ A3 ∧ A4 ∧ A5 ∧ A6 ∧ A7)) : (if A0 then if A1 then if A2 then if A3 then if A4 then if A5 then if A6 then if A7 then some (1 : Int32) else some 0 else some 0 else some 0 else some 0 else some 0 else some 0 else some 0 else some 0) = some 0 := by
  by_cases a0 : A0
  case neg => rw [if_neg a0]
  by_cases a1 : A1
  case neg => rw [if_pos a0, if_neg a1]
  by_cases a2 : A2
  case neg => rw [if_pos a0, if_pos a1, if_neg a2]
  by_cases a3 : A3
  case neg => rw [if_pos a0, if_pos a1, if_pos a2, if_neg a3]
  by_cases a4 : A4
  case neg => rw [if_pos a0, if_pos a1, if_pos a2, if_pos a3, if_neg a4]
  by_cases a5 : A5
  case neg => rw [if_pos a0, if_pos a1, if_pos a2, if_pos a3, if_pos a4, if_neg a5]
  by_cases a6 : A6
  case neg => rw [if_pos a0, if_pos a1, if_pos a2, if_pos a3, if_pos a4, if_pos a5, if_neg a6]
  by_cases a7 : A7
  case neg => rw [if_pos a0, if_pos a1, if_pos a2, if_pos a3, if_pos a4, if_pos a5, if_pos a6, if_neg a7]
  exact absurd ⟨a0, a1, a2, a3, a4, a5, a6, a7⟩ no
theorem s9_isW0 {f : Nat → Int32} {n b p h' : Nat} {L : wg_M} (h : TxtL f n b L) (h25 : L.1 55 25 = Int32.ofNat p) (h23 : L.1 55 23 = Int32.ofNat h') (hn : h' ≤ n) (hp : p ≤ n) (hb : L.1 55 28 = 0) (h24 : L.1 55 24 = 1) (hr : Run Ltr f n p h') {j : Nat} (hj : j < 12) : (Spl f p h' j ∧ f_X9_isWord L (wbp j 0) (wbp j 1) (wbp j 2) (wbp j 3) (wbp j 4) (wbp j 5) (wbp j 6) (wbp j 7) = some 1) ∨ ((¬ Spl f p h' j) ∧ f_X9_isWord L (wbp j 0) (wbp j 1) (wbp j 2) (wbp j 3) (wbp j 4) (wbp j 5) (wbp j 6) (wbp j 7) = some 0) := by
  have h160 := h.2.2.2.1
  obtain ⟨w1, w2⟩ := wl_le j hj
  have il : ∀ (i : Nat) (x : Int32), i < 8 → x = Int32.ofNat i → f_X9_isLetter L x (wbp j i) = some (bI (if h' ≤ p + i then wbp j i = 0 else f (p + i) = wbp j i)) := fun i x hi hx => s9_isL h h25 h23 hn hi hp hx _
  have e8 : L.1 55 25 + 8 < L.1 55 23 ↔ p + 8 < h' := by
    have ea : Int32.ofNat p + (8 : Int32) = Int32.ofNat (p + 8) := (Int32.ofNat_add p 8).symm
    rw [h25, h23, ea]
    exact oN_lt (by omega) (by omega)
  unfold f_X9_isWord
  simp only [hb, h24, if_true, e8, il 0 0 (by omega) rfl, il 1 1 (by omega) rfl, il 2 2 (by omega) rfl, il 3 3 (by omega) rfl, il 4 4 (by omega) rfl, il 5 5 (by omega) rfl, il 6 6 (by omega) rfl, il 7 7 (by omega) rfl, bd_eq, if_bI]
  by_cases hS : Spl f p h' j
  · left
    refine ⟨hS, ?_⟩
    obtain ⟨s1, s2⟩ := hS
    have ok : ∀ i, i < 8 → (if h' ≤ p + i then wbp j i = 0 else f (p + i) = wbp j i) := fun i hi => by
      unfold wbp
      by_cases g : h' ≤ p + i
      · rw [if_pos g, if_neg (by omega)]
      · rw [if_neg g, if_pos (by omega)]
        exact s2 i (by omega)
    rw [if_neg (show ¬ p + 8 < h' by omega), if_pos (ok 0 (by omega)), if_pos (ok 1 (by omega)), if_pos (ok 2 (by omega)), if_pos (ok 3 (by omega)), if_pos (ok 4 (by omega)), if_pos (ok 5 (by omega)), if_pos (ok 6 (by omega)), if_pos (ok 7 (by omega))]
  · right
    refine ⟨hS, ?_⟩
    have no : ¬ (¬ p + 8 < h' ∧ ∀ i, i < 8 → (if h' ≤ p + i then wbp j i = 0 else f (p + i) = wbp j i)) := fun ⟨g, hz⟩ => by
      have hl : h' = p + wl j := by
        by_cases y1 : h' < p + wl j
        · have q := hz (h' - p) (by omega)
          have r1 := hr.1
          rw [if_pos (by omega)] at q
          unfold wbp at q
          rw [if_pos (by omega)] at q
          exact absurd q (wb_ne j hj _ (by omega))
        · by_cases y2 : p + wl j < h'
          · have q := hz (wl j) (by omega)
            rw [if_neg (by omega)] at q
            unfold wbp at q
            rw [if_neg (by omega)] at q
            have := hr.2.2.1 (p + wl j) (by omega) (by omega)
            unfold Ltr at this
            rw [q, Int32.toInt_zero] at this
            omega
          · omega
      refine hS ⟨hl, fun i hi => ?_⟩
      have q := hz i (by omega)
      rw [if_neg (by omega)] at q
      unfold wbp at q
      rw [if_pos hi] at q
      exact q
    by_cases g : p + 8 < h'
    · rw [if_pos g]
    · rw [if_neg g]
      exact nest8 (fun z => no ⟨g, fun i hi => by
        have hi8 : i = 0 ∨ i = 1 ∨ i = 2 ∨ i = 3 ∨ i = 4 ∨ i = 5 ∨ i = 6 ∨ i = 7 := by omega
        rcases hi8 with rfl | rfl | rfl | rfl | rfl | rfl | rfl | rfl
        · exact z.1
        · exact z.2.1
        · exact z.2.2.1
        · exact z.2.2.2.1
        · exact z.2.2.2.2.1
        · exact z.2.2.2.2.2.1
        · exact z.2.2.2.2.2.2.1
        · exact z.2.2.2.2.2.2.2⟩)
theorem s9_isWord {f : Nat → Int32} {n b p h' : Nat} {tk vl : Int32} {L : wg_M} (h : TxtL f n b L) (hc : CurT f n tk vl p h' L) (hb : L.1 55 28 = 0) {j : Nat} (hj : j < 12) : f_X9_isWord L (wbp j 0) (wbp j 1) (wbp j 2) (wbp j 3) (wbp j 4) (wbp j 5) (wbp j 6) (wbp j 7) = some (bI (tk = tkW j ∧ (j < 6 → vl = Int32.ofNat j))) := by
  have tb := tkW_b j hj
  have nk : ¬ L.1 55 24 = 1 → ¬ tk = tkW j → f_X9_isWord L (wbp j 0) (wbp j 1) (wbp j 2) (wbp j 3) (wbp j 4) (wbp j 5) (wbp j 6) (wbp j 7) = some (bI (tk = tkW j ∧ (j < 6 → vl = Int32.ofNat j))) := fun h1 h2 => by
    unfold f_X9_isWord
    rw [if_pos hb, if_neg h1, bI_f (fun z => h2 z.1)]
  obtain ⟨c1, c2, c3, c4⟩ := hc
  have ne : ∀ {x : Int32}, (x.toInt < 2 ∨ 8 < x.toInt) → ¬ x = tkW j := fun hx z => by rw [z] at hx; omega
  rcases c4 with ⟨rfl, k⟩ | ⟨k, k2, k3, hw⟩ | ⟨k, -, rfl, -⟩ | ⟨k, -, h1, -⟩ | ⟨k, rfl⟩
  · exact nk (by rw [k]; decide) (ne (Or.inl (by decide)))
  · rcases s9_isW0 h c1 k2 c3 c2 hb k k3 hj with ⟨a1, a2⟩ | ⟨a1, a2⟩
    · rw [a2]
      rcases hw with ⟨i, hi, i1, rfl, rfl⟩ | ⟨rfl, hw⟩
      · have e := i1.uniq hi hj a1
        subst e
        rw [bI_t ⟨rfl, fun _ => rfl⟩]
      · exact absurd a1 (hw j hj)
    · rw [a2]
      rcases hw with ⟨i, hi, i1, rfl, rfl⟩ | ⟨rfl, hw⟩
      · rw [bI_f]
        rintro ⟨z1, z2⟩
        have e : i = j := by
          unfold tkW at z1
          by_cases g1 : i < 6
          · by_cases g2 : j < 6
            · have z2 := z2 g2
              rw [i_eq, oN_t (by omega), oN_t (by omega)] at z2
              omega
            · rw [if_pos g1, if_neg g2, i_eq, oN_t (by omega), show (2 : Int32).toInt = 2 from rfl] at z1
              omega
          · by_cases g2 : j < 6
            · rw [if_neg g1, if_pos g2, i_eq, oN_t (by omega), show (2 : Int32).toInt = 2 from rfl] at z1
              omega
            · rw [if_neg g1, if_neg g2, i_eq, oN_t (by omega), oN_t (by omega)] at z1
              omega
        rw [e] at i1
        exact a1 i1
      · rw [bI_f (fun z => ne (x := -2) (Or.inl (by decide)) z.1)]
  · exact nk (by rw [k]; decide) (ne (Or.inl (by decide)))
  · exact nk (by rw [k]; decide) (ne (Or.inr (by have := sgn_ge h1; omega)))
  · exact nk (by rw [k]; decide) (ne (Or.inl (by decide)))
