/-- bits of a number, as panes -/
def bt (t p : Nat) : Bool := decide (t / 2 ^ p % 2 = 1)
def revN (t : Nat) : Nat := (t % 2) * 128 + (t / 2 % 2) * 64 + (t / 4 % 2) * 32 + (t / 8 % 2) * 16 + (t / 16 % 2) * 8 + (t / 32 % 2) * 4 + (t / 64 % 2) * 2 + t / 128 % 2
def pcN (t : Nat) : Nat := t % 2 + t / 2 % 2 + t / 4 % 2 + t / 8 % 2 + t / 16 % 2 + t / 32 % 2 + t / 64 % 2 + t / 128 % 2
def dgR (t : Nat) : Nat → Nat
  | 0 => 0
  | k + 1 => if bt t k = true then 10 * dgR t k + k + 1 else dgR t k
def vB1 (t : Nat) : Bool := decide (revN t < 256) && (decide (revN (revN t) = t) && (decide (popV (Int32.ofNat t) = Int32.ofNat (pcN t)) && decide (pcN (revN t) = pcN t)))
def vB2 (t p : Nat) : Bool := (decide ((Int32.ofNat (revN t) >>> ((7 - Int32.ofNat p) &&& 31)) &&& 1 = 1) == bt t p) && ((decide ((Int32.ofNat t >>> (Int32.ofNat p &&& 31)) &&& 1 = 0) == !bt t p) && (bt t p || (decide (Int32.ofNat t ||| ((1 : Int32) <<< (Int32.ofNat p &&& 31)) = Int32.ofNat (t + 2 ^ p)) && decide (t + 2 ^ p < 256))))
def vB3 (t p j : Nat) : Bool := bt t p || (bt (t + 2 ^ p) j == (bt t j || j == p))
set_option maxRecDepth 100000 in
theorem vF1 : ∀ t : Nat, t < 256 → vB1 t = true := by decide +kernel
set_option maxRecDepth 100000 in
theorem vF2 : ∀ t : Nat, t < 256 → ∀ p : Nat, p < 8 → vB2 t p = true := by decide +kernel
set_option maxRecDepth 100000 in
theorem vF3 : ∀ t : Nat, t < 256 → ∀ p : Nat, p < 8 → ∀ j : Nat, j < 8 → vB3 t p j = true := by decide +kernel
set_option maxRecDepth 100000 in
theorem vF6 : ∀ t : Nat, t < 256 → lp (fun q => f_X8_digitsOf_l4 20 (Int32.ofNat (revN t)) q.1 q.2) 20 ((0 : Int32), (0 : Int32)) = some (Int32.ofNat (dgR t 8), 8) := by decide +kernel
/-- every way keeps a test -/
def allF (ch : Nat → Nat → Bool) : Nat → Nat → Nat → Bool
  | 0, t, dg => ch t dg
  | l + 1, t, dg => (List.range 8).all fun p => bt t p || allF ch l (t + 2 ^ p) (10 * dg + p + 1)
/-- a way to a set, its panes alone -/
def exF (T D : Nat) : Nat → Nat → Nat → Bool
  | 0, t, dg => (t == T) && (dg == D)
  | l + 1, t, dg => (List.range 8).any fun p => !bt t p && (bt T p && exF T D l (t + 2 ^ p) (10 * dg + p + 1))
set_option maxRecDepth 100000 in
theorem vF7 : ∀ n : Nat, n < 5 → allF (fun t dg => (pcN t == n) && (decide (dgR t 8 ≤ dg) && decide (t < 256))) n 0 0 = true := by decide +kernel
set_option maxRecDepth 100000 in
theorem vF8 : ∀ t : Nat, t < 256 → 4 < pcN t ∨ exF t (dgR t 8) (pcN t) 0 0 = true := by decide +kernel
def vB9 (S U : Nat) : Bool := !(pcN S == pcN U) || (decide (4 < pcN S) || decide (dgR (revN S) 8 < dgR (revN U) 8))
set_option maxRecDepth 100000 in
theorem vF9 : ∀ S : Nat, S < 256 → ∀ U : Nat, U < S → vB9 S U = true := by decide +kernel
