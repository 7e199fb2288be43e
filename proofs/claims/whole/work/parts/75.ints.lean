theorem i_lt (a b : Int32) : a < b ↔ a.toInt < b.toInt := Int32.lt_iff_toInt_lt
theorem i_le (a b : Int32) : a ≤ b ↔ a.toInt ≤ b.toInt := Int32.le_iff_toInt_le
theorem i_eq (a b : Int32) : a = b ↔ a.toInt = b.toInt := Int32.toInt_inj.symm
theorem i_bm (x : Int) : x.bmod (2 ^ 32) = (x + 2147483648) % 4294967296 - 2147483648 := by grind
theorem i_add (a b : Int32) : (a + b).toInt = (a.toInt + b.toInt + 2147483648) % 4294967296 - 2147483648 := by rw [Int32.toInt_add, i_bm]
theorem i_sub (a b : Int32) : (a - b).toInt = (a.toInt - b.toInt + 2147483648) % 4294967296 - 2147483648 := by rw [Int32.toInt_sub, i_bm]
theorem i_mul (a b : Int32) : (a * b).toInt = (a.toInt * b.toInt + 2147483648) % 4294967296 - 2147483648 := by rw [Int32.toInt_mul, i_bm]
theorem i_neg (a : Int32) : (-a).toInt = (-a.toInt + 2147483648) % 4294967296 - 2147483648 := by rw [Int32.toInt_neg, i_bm]
theorem i_cl (a : Int32) : a.toNatClampNeg = a.toInt.toNat := rfl
theorem i_up (a : Int32) : a.toInt < 2147483648 := Int32.toInt_lt a
theorem i_dn (a : Int32) : -2147483648 ≤ a.toInt := Int32.le_toInt a
theorem i_divp (a b : Int32) (h : 0 ≤ a.toInt) (hb : 0 < b.toInt) : (a / b).toInt = a.toInt / b.toInt := by
  rw [Int32.toInt_div, Int.tdiv_eq_ediv_of_nonneg h, i_bm]
  have h1 := i_up a
  have h2 : 0 ≤ a.toInt / b.toInt := Int.ediv_nonneg h (Int.le_of_lt hb)
  have h3 : a.toInt / b.toInt ≤ a.toInt := Int.ediv_le_self _ h
  omega
theorem i_modp (a b : Int32) (h : 0 ≤ a.toInt) : (a % b).toInt = a.toInt % b.toInt := by
  rw [Int32.toInt_mod, Int.tmod_eq_emod_of_nonneg h]
theorem i_inb (i : Int32) (n : Nat) : inb i n ↔ 0 ≤ i.toInt ∧ i.toInt < n := by
  unfold inb
  rw [i_lt, i_cl]
  simp only [Int32.toInt_zero]
  omega
/-- one for what holds, none for what doesn't -/
def bI (c : Prop) [Decidable c] : Int32 := if c then 1 else 0
theorem bI_01 (c : Prop) [Decidable c] : bI c = 0 ∨ bI c = 1 := by unfold bI; split <;> simp
theorem bI_eq0 (c : Prop) [Decidable c] : bI c = 0 ↔ ¬ c := by unfold bI; split <;> simp [*]
theorem bI_ne0 (c : Prop) [Decidable c] : bI c ≠ 0 ↔ c := by unfold bI; split <;> simp [*]
theorem bI_eq1 (c : Prop) [Decidable c] : bI c = 1 ↔ c := by unfold bI; split <;> simp [*]
theorem bI_congr {c d : Prop} [Decidable c] [Decidable d] (h : c ↔ d) : bI c = bI d := by unfold bI; simp only [h]
/-- from none up to below n -/
def rg (n : Nat) (d : Int32) : Bool := decide (0 ≤ d.toInt ∧ d.toInt < n)
theorem rg_iff (n : Nat) (d : Int32) : rg n d = true ↔ 0 ≤ d.toInt ∧ d.toInt < n := by simp [rg]
theorem rg_no (n : Nat) (d : Int32) : rg n d = false ↔ ¬ (0 ≤ d.toInt ∧ d.toInt < n) := by rw [← rg_iff]; simp
theorem bI_rg (n : Nat) (d : Int32) : bI (0 ≤ d.toInt ∧ d.toInt < n) = bI (rg n d = true) := bI_congr (rg_iff n d).symm
theorem bI_t {c : Prop} [Decidable c] (h : c) : bI c = 1 := if_pos h
theorem bI_f {c : Prop} [Decidable c] (h : ¬ c) : bI c = 0 := if_neg h
theorem bd2_eq {α1 α2 β : Type} (a1 : α1) (a2 : α2) (k : α1 → α2 → Option β) : bd2 (some (a1, a2)) k = k a1 a2 := rfl
theorem bd3_eq {α1 α2 α3 β : Type} (a1 : α1) (a2 : α2) (a3 : α3) (k : α1 → α2 → α3 → Option β) : bd3 (some (a1, a2, a3)) k = k a1 a2 a3 := rfl
theorem lt_eq {α β : Type} (x : α) (k : α → Option β) : lt_ x k = k x := rfl
theorem ck_bI {α : Type} {c : Prop} [Decidable c] {k : Option α} : ck (bI c = 0 ∨ bI c = 1) k = k := ck_pos (bI_01 c)
theorem lg_lt (x y : Int64) : lg_cmp x y < 0 ↔ x.toInt < y.toInt := by
  unfold lg_cmp
  simp only [gt_iff_lt, Int64.lt_iff_toInt_lt, ← Int64.toInt_inj]
  repeat' split
  all_goals (constructor <;> intro hh <;> first | omega | decide | exact absurd hh (by decide))
theorem lg_gt (x y : Int64) : 0 < lg_cmp x y ↔ y.toInt < x.toInt := by
  unfold lg_cmp
  simp only [gt_iff_lt, Int64.lt_iff_toInt_lt, ← Int64.toInt_inj]
  repeat' split
  all_goals (constructor <;> intro hh <;> first | omega | decide | exact absurd hh (by decide))
theorem s_in (a b c : Int64) : f_X9_in a b c = some (bI (b.toInt ≤ a.toInt ∧ a.toInt ≤ c.toInt)) := by
  unfold f_X9_in bI
  simp only [lg_lt, lg_gt]
  repeat' split
  all_goals first | rfl | (exfalso; omega)
theorem s9_isDay (d : Int32) : f_X9_isDay d = some (bI (rg 32 d = true)) := by
  rw [← bI_rg]
  unfold f_X9_isDay
  rw [s_in, bd_eq, ck_bI]
  congr 1
  apply bI_congr
  simp only [Int32.toInt_toInt64]
  show (0 : Int) ≤ _ ∧ _ ≤ (31 : Int) ↔ _
  omega
theorem s9_isRoom (d : Int32) : f_X9_isRoom d = some (bI (rg 6 d = true)) := by
  rw [← bI_rg]
  unfold f_X9_isRoom
  rw [s_in, bd_eq, ck_bI]
  congr 1
  apply bI_congr
  simp only [Int32.toInt_toInt64]
  show (0 : Int) ≤ _ ∧ _ ≤ (5 : Int) ↔ _
  omega
theorem s9_isSpot (d : Int32) : f_X9_isSpot d = some (bI (rg 192 d = true)) := by
  rw [← bI_rg]
  unfold f_X9_isSpot
  rw [s_in, bd_eq, ck_bI]
  congr 1
  apply bI_congr
  simp only [Int32.toInt_toInt64]
  show (0 : Int) ≤ _ ∧ _ ≤ (191 : Int) ↔ _
  omega
theorem s9_isSort (d : Int32) : f_X9_isSort d = some (bI (rg 3 d = true)) := by
  rw [← bI_rg]
  unfold f_X9_isSort
  rw [s_in, bd_eq, ck_bI]
  congr 1
  apply bI_congr
  simp only [Int32.toInt_toInt64]
  show (0 : Int) ≤ _ ∧ _ ≤ (2 : Int) ↔ _
  omega
theorem s9_isPane (M : wg_M) (n : Nat) (hn : n ≤ 8) (h : (M.1 55 13).toInt = n) (d : Int32) : f_X9_isPane M d = some (bI (rg n d = true)) := by
  rw [← bI_rg]
  unfold f_X9_isPane
  rw [s_in, bd_eq, ck_bI]
  congr 1
  apply bI_congr
  simp only [Int32.toInt_toInt64, i_sub, h]
  show (0 : Int) ≤ _ ∧ _ ≤ ((n : Int) - (1 : Int) + 2147483648) % 4294967296 - 2147483648 ↔ _
  omega
theorem s8_isDay (d : Int32) : f_X8_isDay d = some (bI (rg 32 d = true)) := by
  rw [← bI_rg]
  unfold f_X8_isDay bI
  simp only [i_lt, i_le]
  repeat' split
  all_goals first | rfl | (exfalso; simp at *; omega)
theorem s8_isRoom (d : Int32) : f_X8_isRoom d = some (bI (rg 6 d = true)) := by
  rw [← bI_rg]
  unfold f_X8_isRoom bI
  simp only [i_lt, i_le]
  repeat' split
  all_goals first | rfl | (exfalso; simp at *; omega)
theorem s8_isSpot (d : Int32) : f_X8_isSpot d = some (bI (rg 192 d = true)) := by
  rw [← bI_rg]
  unfold f_X8_isSpot bI
  simp only [i_lt, i_le]
  repeat' split
  all_goals first | rfl | (exfalso; simp at *; omega)
theorem s8_isSort (d : Int32) : f_X8_isSort d = some (bI (rg 3 d = true)) := by
  rw [← bI_rg]
  unfold f_X8_isSort bI
  simp only [i_lt, i_le]
  repeat' split
  all_goals first | rfl | (exfalso; simp at *; omega)
