def popV (x : Int32) : Int32 := (f_J6_bitCount_0f7a4 x).getD 0
theorem s8_pop (x : Int32) : f_J6_bitCount_0f7a4 x = some (popV x) := rfl
set_option maxRecDepth 100000 in
theorem s9_pop12 : ∀ k : Nat, k < 2048 → lp (fun o => f_X9_bitsOf_l4 12 o.1 o.2) 12 ((0 : Int32), Int32.ofNat k) = some (popV (Int32.ofNat k), 0) := by decide +kernel
theorem s9_pop {x : Int32} (h : rg 2048 x = true) : f_X9_bitsOf NN x = some (popV x) := by
  obtain ⟨k, hk, rfl⟩ := rg_oN h
  obtain ⟨n, hn⟩ := NN_split 12 (by decide)
  have e := lpN 12 (s9_pop12 k hk) n
  unfold f_X9_bitsOf
  rw [show (fun o : Int32 × Int32 => f_X9_bitsOf_l4 NN o.1 o.2) = (fun o => f_X9_bitsOf_l4 12 o.1 o.2) from rfl]
  rw [hn, e]
  rfl
set_option maxRecDepth 100000 in
theorem or_2048 : ∀ k : Nat, k < 2048 → ∀ j : Nat, j < 11 → rg 2048 (Int32.ofNat k ||| ((1 : Int32) <<< (Int32.ofNat j &&& 31))) = true := by decide +kernel
