theorem NN_huge : 100000000000 < NN := by decide
/-- ways: P a pane from a spot to a spot, w what it weighs; a: weights, b: days of waiting -/
def Wk (P : Nat → Nat → Nat → Prop) (w : Nat → Nat → Nat) (s0 : Nat) : Nat → Nat → Nat → Nat → Prop
  | 0, x, a, b => x = s0 ∧ a = 0 ∧ b = 0
  | n + 1, y, a, b => ∃ x, x < 192 ∧ ((∃ b', b = b' + 1 ∧ Wk P w s0 n x a b' ∧ x % 32 + 1 < 32 ∧ y = x + 1) ∨ ∃ p a', a = a' + w p x ∧ Wk P w s0 n x a' b ∧ P p x y)
/-- how far it is: nothing is less, all is come to -/
def FinS (P : Nat → Nat → Nat → Prop) (w : Nat → Nat → Nat) (s0 K R : Nat) (F : Nat → Nat) : Prop :=
  F s0 = 0 ∧ (∀ x, x < 192 → F x < R → ∃ n a b, Wk P w s0 n x a b ∧ F x = K * a + b) ∧ (∀ x, x < 192 → F x < R → x % 32 + 1 < 32 → F (x + 1) ≤ F x + 1) ∧ ∀ p x y, x < 192 → F x < R → P p x y → F y ≤ F x + K * w p x
theorem FinS.le0 {P : Nat → Nat → Nat → Prop} {w : Nat → Nat → Nat} {s0 K R : Nat} {F : Nat → Nat} (h : FinS P w s0 K R F) : ∀ n x a b, Wk P w s0 n x a b → K * a + b < R → F x ≤ K * a + b
  | 0, x, a, b, hw, hr => by
    obtain ⟨rfl, rfl, rfl⟩ := hw
    rw [h.1]
    omega
  | n + 1, y, a, b, hw, hr => by
    obtain ⟨x, hx, ⟨b', rfl, hw, hd, rfl⟩ | ⟨p, a', rfl, hw, hp⟩⟩ := hw
    · have := h.le0 n x a b' hw (by omega)
      have := h.2.2.1 x hx (by omega) hd
      omega
    · rw [Nat.mul_add] at hr ⊢
      have := h.le0 n x a' b hw (by omega)
      have := h.2.2.2 p x y hx (by omega) hp
      omega
/-- how many spots of n are nearer than v -/
def cntL (F : Nat → Nat) (v : Nat) : Nat → Nat
  | 0 => 0
  | n + 1 => cntL F v n + if F n < v then 1 else 0
theorem cntL_le (F : Nat → Nat) (v : Nat) : ∀ n, cntL F v n ≤ n
  | 0 => Nat.le_refl _
  | n + 1 => by
    unfold cntL
    have := cntL_le F v n
    split <;> omega
theorem cntL_mono (F : Nat → Nat) {u v : Nat} (h : u ≤ v) : ∀ n, cntL F u n ≤ cntL F v n
  | 0 => Nat.le_refl _
  | n + 1 => by
    unfold cntL
    have := cntL_mono F h n
    by_cases h1 : F n < u
    · rw [if_pos h1, if_pos (by omega)]
      omega
    · rw [if_neg h1]
      omega
theorem cntL_lt (F : Nat → Nat) {u v x : Nat} (h : u ≤ F x) (h2 : F x < v) : ∀ n, x < n → cntL F u n + 1 ≤ cntL F v n
  | 0, hx => absurd hx (Nat.not_lt_zero _)
  | n + 1, hx => by
    unfold cntL
    by_cases e : x = n
    · subst e
      rw [if_neg (by omega), if_pos h2]
      have := cntL_mono F (show u ≤ v by omega) x
      omega
    · have := cntL_lt F h h2 n (by omega)
      by_cases h1 : F n < u
      · rw [if_pos h1, if_pos (by omega)]
        omega
      · rw [if_neg h1]
        omega
theorem cntL_x (F : Nat → Nat) {v x : Nat} (h : v ≤ F x) : ∀ n, x < n → cntL F v n + 1 ≤ n
  | 0, hx => absurd hx (Nat.not_lt_zero _)
  | n + 1, hx => by
    unfold cntL
    by_cases e : x = n
    · subst e
      rw [if_neg (by omega)]
      have := cntL_le F v x
      omega
    · have := cntL_x F h n (by omega)
      split <;> omega
/-- what panes weigh: one at least, at most m -/
def Wgt (P : Nat → Nat → Nat → Prop) (w : Nat → Nat → Nat) (m : Nat) : Prop := ∀ p x y, P p x y → y < 192 ∧ 1 ≤ w p x ∧ w p x ≤ m
theorem FinS.tight {P : Nat → Nat → Nat → Prop} {w : Nat → Nat → Nat} {s0 K R m : Nat} {F : Nat → Nat} (h : FinS P w s0 K R F) (hW : Wgt P w m) (hK : 1 ≤ K) : ∀ n x a b, Wk P w s0 n x a b → x < 192 → K * a + b < R → F x = K * a + b → n ≤ cntL F (F x) 192
  | 0, x, a, b, hw, hx, hr, he => Nat.zero_le _
  | n + 1, y, a, b, hw, hy, hr, he => by
    obtain ⟨x, hx, ⟨b', rfl, hw, hd, rfl⟩ | ⟨p, a', rfl, hw, hp⟩⟩ := hw
    · have h1 := h.le0 n x a b' hw (by omega)
      have h2 := h.2.2.1 x hx (by omega) hd
      have := h.tight hW hK n x a b' hw hx (by omega) (by omega)
      have := cntL_lt F (u := F x) (v := F (x + 1)) (x := x) (Nat.le_refl _) (by omega) 192 hx
      omega
    · rw [Nat.mul_add] at hr he
      have h1 := h.le0 n x a' b hw (by omega)
      have h2 := h.2.2.2 p x y hx (by omega) hp
      have h3 := (hW p x y hp).2.1
      have h4 : 1 ≤ K * w p x := Nat.mul_le_mul hK h3
      have := h.tight hW hK n x a' b hw hx (by omega) (by omega)
      have := cntL_lt F (u := F x) (v := F y) (x := x) (Nat.le_refl _) (by omega) 192 hx
      omega
theorem Wk.bd {P : Nat → Nat → Nat → Prop} {w : Nat → Nat → Nat} {s0 m : Nat} (hW : Wgt P w m) : ∀ n x a b, Wk P w s0 n x a b → a + b ≤ n * (m + 1) ∧ b ≤ n
  | 0, x, a, b, hw => by
    obtain ⟨rfl, rfl, rfl⟩ := hw
    simp
  | n + 1, y, a, b, hw => by
    rw [Nat.succ_mul]
    obtain ⟨x, hx, ⟨b', rfl, hw, hd, rfl⟩ | ⟨p, a', rfl, hw, hp⟩⟩ := hw
    · have := Wk.bd hW n x a b' hw
      omega
    · have := Wk.bd hW n x a' b hw
      have := (hW p x y hp).2.2
      omega
theorem FinS.fin {P : Nat → Nat → Nat → Prop} {w : Nat → Nat → Nat} {s0 K R m : Nat} {F : Nat → Nat} (h : FinS P w s0 K R F) (hW : Wgt P w m) (hK : 1 ≤ K) {x : Nat} (hx : x < 192) (hr : F x < R) : ∃ n a b, n ≤ 191 ∧ Wk P w s0 n x a b ∧ F x = K * a + b := by
  obtain ⟨n, a, b, h1, h2⟩ := h.2.1 x hx hr
  have := h.tight hW hK n x a b h1 hx (by omega) h2
  have := cntL_x F (v := F x) (Nat.le_refl _) 192 hx
  exact ⟨n, a, b, by omega, h1, h2⟩
theorem FinS.sm {P : Nat → Nat → Nat → Prop} {w : Nat → Nat → Nat} {s0 K R m : Nat} {F : Nat → Nat} (h : FinS P w s0 K R F) (hW : Wgt P w m) (hK : 1 ≤ K) {x : Nat} (hx : x < 192) (hr : F x < R) : F x ≤ K * (191 * (m + 1)) := by
  obtain ⟨n, a, b, h0, h1, h2⟩ := h.fin hW hK hx hr
  have h3 := Wk.bd hW n x a b h1
  have h4 : n * (m + 1) ≤ 191 * (m + 1) := Nat.mul_le_mul_right _ h0
  have h5 : b ≤ K * b := Nat.le_mul_of_pos_left _ hK
  have h6 : K * (a + b) ≤ K * (191 * (m + 1)) := Nat.mul_le_mul_left _ (by omega)
  rw [Nat.mul_add] at h6
  omega
theorem FinS.le {P : Nat → Nat → Nat → Prop} {w : Nat → Nat → Nat} {s0 K R m : Nat} {F : Nat → Nat} (h : FinS P w s0 K R F) (hW : Wgt P w m) (hK : 1 ≤ K) (hR : K * (192 * (m + 1)) < R) : ∀ n x a b, Wk P w s0 n x a b → F x < R ∧ F x ≤ K * a + b
  | 0, x, a, b, hw => by
    obtain ⟨rfl, rfl, rfl⟩ := hw
    rw [h.1]
    omega
  | n + 1, y, a, b, hw => by
    have hKm : K * (192 * (m + 1)) = K * (191 * (m + 1)) + K * (m + 1) := by
      rw [show 192 * (m + 1) = 191 * (m + 1) + (m + 1) by omega, Nat.mul_add]
    have hk1 : K * (m + 1) = K * m + K := by rw [Nat.mul_add, Nat.mul_one]
    obtain ⟨x, hx, ⟨b', rfl, hw, hd, rfl⟩ | ⟨p, a', rfl, hw, hp⟩⟩ := hw
    · have h1 := h.le hW hK hR n x a b' hw
      have h2 := h.2.2.1 x hx h1.1 hd
      have h3 := h.sm hW hK hx h1.1
      omega
    · have h1 := h.le hW hK hR n x a' b hw
      have h2 := h.2.2.2 p x y hx h1.1 hp
      have h3 := h.sm hW hK hx h1.1
      have h4 : K * w p x ≤ K * m := Nat.mul_le_mul_left _ (hW p x y hp).2.2
      rw [Nat.mul_add]
      omega
/-- it comes there -/
def Rch (P : Nat → Nat → Nat → Prop) (w : Nat → Nat → Nat) (s0 x : Nat) : Prop := ∃ n a b, Wk P w s0 n x a b
theorem FinS.rch {P : Nat → Nat → Nat → Prop} {w : Nat → Nat → Nat} {s0 K R m : Nat} {F : Nat → Nat} (h : FinS P w s0 K R F) (hW : Wgt P w m) (hK : 1 ≤ K) (hR : K * (192 * (m + 1)) < R) {x : Nat} (hx : x < 192) : F x < R ↔ Rch P w s0 x := by
  constructor
  · intro hr
    obtain ⟨n, a, b, h1, h2⟩ := h.2.1 x hx hr
    exact ⟨n, a, b, h1⟩
  · rintro ⟨n, a, b, h1⟩
    exact (h.le hW hK hR n x a b h1).1
theorem FinS.eq1 {P : Nat → Nat → Nat → Prop} {w : Nat → Nat → Nat} {s0 R R' m : Nat} {F G : Nat → Nat} (h : FinS P w s0 1 R F) (g : FinS P w s0 1 R' G) (hW : Wgt P w m) (hR : 1 * (192 * (m + 1)) < R) (hR' : 1 * (192 * (m + 1)) < R') {x : Nat} (hx : x < 192) : (F x < R ↔ G x < R') ∧ (F x < R → F x = G x) := by
  refine ⟨by rw [h.rch hW (Nat.le_refl _) hR hx, g.rch hW (Nat.le_refl _) hR' hx], fun hr => ?_⟩
  obtain ⟨n, a, b, h1, h2⟩ := h.2.1 x hx hr
  have g1 := g.le hW (Nat.le_refl _) hR' n x a b h1
  obtain ⟨n', a', b', h1', h2'⟩ := g.2.1 x hx g1.1
  have g2 := h.le hW (Nat.le_refl _) hR n' x a' b' h1'
  omega
theorem Wk.n1 {P : Nat → Nat → Nat → Prop} {s0 : Nat} : ∀ n x a b, Wk P (fun _ _ => 1) s0 n x a b → a + b = n
  | 0, x, a, b, hw => by
    obtain ⟨rfl, rfl, rfl⟩ := hw
    rfl
  | n + 1, y, a, b, hw => by
    obtain ⟨x, hx, ⟨b', rfl, hw, hd, rfl⟩ | ⟨p, a', rfl, hw, hp⟩⟩ := hw
    · have := Wk.n1 n x a b' hw
      omega
    · have := Wk.n1 n x a' b hw
      show a' + 1 + b = n + 1
      omega
theorem FinS.eqK {P : Nat → Nat → Nat → Prop} {s0 R R' m : Nat} {F G : Nat → Nat} (h : FinS P (fun _ _ => 1) s0 1000 R F) (g : FinS P (fun _ _ => 1) s0 10000 R' G) (hW : Wgt P (fun _ _ => 1) m) (hR : 1000 * (192 * (m + 1)) < R) (hR' : 10000 * (192 * (m + 1)) < R') {x : Nat} (hx : x < 192) : (F x < R ↔ G x < R') ∧ (F x < R → ∃ a b, a + b ≤ 191 ∧ F x = 1000 * a + b ∧ G x = 10000 * a + b) := by
  refine ⟨by rw [h.rch hW (by decide) hR hx, g.rch hW (by decide) hR' hx], fun hr => ?_⟩
  obtain ⟨n, a, b, h0, h1, h2⟩ := h.fin hW (by decide) hx hr
  have g1 := g.le hW (by decide) hR' n x a b h1
  obtain ⟨n', a', b', h0', h1', h2'⟩ := g.fin hW (by decide) hx g1.1
  have g2 := h.le hW (by decide) hR n' x a' b' h1'
  have e1 := Wk.n1 n x a b h1
  have e2 := Wk.n1 n' x a' b' h1'
  refine ⟨a, b, by omega, h2, ?_⟩
  omega
theorem Wk.mono {P Q : Nat → Nat → Nat → Prop} {w v : Nat → Nat → Nat} {s0 : Nat} (h : ∀ p x y, P p x y → Q p x y) : ∀ n x a b, Wk P w s0 n x a b → ∃ a' b', Wk Q v s0 n x a' b'
  | 0, x, a, b, hw => ⟨0, 0, hw.1, rfl, rfl⟩
  | n + 1, y, a, b, hw => by
    obtain ⟨x, hx, ⟨b', rfl, hw, hd, rfl⟩ | ⟨p, a', rfl, hw, hp⟩⟩ := hw
    · obtain ⟨a1, b1, h1⟩ := Wk.mono h n x a b' hw
      exact ⟨a1, b1 + 1, x, hx, Or.inl ⟨b1, rfl, h1, hd, rfl⟩⟩
    · obtain ⟨a1, b1, h1⟩ := Wk.mono h n x a' b hw
      exact ⟨_, b1, x, hx, Or.inr ⟨p, a1, rfl, h1, h p x y hp⟩⟩
theorem Rch.mono {P Q : Nat → Nat → Nat → Prop} {w v : Nat → Nat → Nat} {s0 x : Nat} (h : ∀ p x y, P p x y → Q p x y) (k : Rch P w s0 x) : Rch Q v s0 x := by
  obtain ⟨n, a, b, h1⟩ := k
  obtain ⟨a', b', h2⟩ := Wk.mono (v := v) h n x a b h1
  exact ⟨n, a', b', h2⟩
/-- a row of numbers that are told by F, none above R -/
def Rw (f : Nat → Int32) (F : Nat → Nat) (R : Nat) : Prop := ∀ x, x < 192 → (f x).toInt = F x ∧ F x ≤ R
def upN (F : Nat → Nat) (y v : Nat) : Nat → Nat := fun x => if x = y then v else F x
theorem upN_s (F : Nat → Nat) (y v : Nat) : upN F y v y = v := if_pos rfl
theorem upN_k (F : Nat → Nat) {x y : Nat} (v : Nat) (h : x ≠ y) : upN F y v x = F x := if_neg h
theorem Rw.up {f : Nat → Int32} {F : Nat → Nat} {R : Nat} (h : Rw f F R) {g : Nat → Int32} {y v : Nat} {u : Int32} (hu : u.toInt = v) (hv : v ≤ R) (hg : ∀ x, g x = if x = y then u else f x) : Rw g (upN F y v) R := by
  intro x hx
  rw [hg]
  unfold upN
  by_cases e : x = y
  · rw [if_pos e, if_pos e]
    exact ⟨hu, hv⟩
  · rw [if_neg e, if_neg e]
    exact h x hx
/-- all of it together -/
def sumN (F : Nat → Nat) : Nat → Nat
  | 0 => 0
  | n + 1 => sumN F n + F n
theorem sumN_up (F : Nat → Nat) {y v : Nat} : ∀ {n : Nat}, y < n → sumN (upN F y v) n + F y = sumN F n + v
  | 0, h => absurd h (Nat.not_lt_zero _)
  | n + 1, h => by
    unfold sumN
    by_cases e : y = n
    · subst e
      rw [upN_s]
      have : ∀ k, k ≤ y → sumN (upN F y v) k = sumN F k := by
        intro k
        induction k with
        | zero => intro _; rfl
        | succ k ih =>
          intro hk
          unfold sumN
          rw [ih (by omega), upN_k _ _ (by omega)]
      rw [this y (Nat.le_refl _)]
      omega
    · rw [upN_k _ _ (fun z => e z.symm)]
      have := sumN_up F (v := v) (n := n) (y := y) (by omega)
      omega
theorem sumN_le {F : Nat → Nat} {R : Nat} : ∀ {n : Nat}, (∀ x, x < n → F x ≤ R) → sumN F n ≤ n * R
  | 0, _ => Nat.zero_le _
  | n + 1, h => by
    unfold sumN
    have := sumN_le (n := n) (fun x hx => h x (by omega))
    have := h n (by omega)
    rw [Nat.succ_mul]
    omega
/-- what is come to -/
def Ach (P : Nat → Nat → Nat → Prop) (w : Nat → Nat → Nat) (s0 K R : Nat) (F : Nat → Nat) : Prop := F s0 = 0 ∧ ∀ x, x < 192 → F x < R → ∃ n a b, Wk P w s0 n x a b ∧ F x = K * a + b
theorem Ach.wait {P : Nat → Nat → Nat → Prop} {w : Nat → Nat → Nat} {s0 K R : Nat} {F : Nat → Nat} (h : Ach P w s0 K R F) {x : Nat} (hx : x < 192) (hr : F x < R) (hd : x % 32 + 1 < 32) (hl : F x + 1 < F (x + 1)) : Ach P w s0 K R (upN F (x + 1) (F x + 1)) := by
  refine ⟨?_, fun z hz hzr => ?_⟩
  · by_cases e : s0 = x + 1
    · rw [← e, h.1] at hl
      omega
    · rw [upN_k _ _ e]
      exact h.1
  · by_cases e : z = x + 1
    · subst e
      rw [upN_s]
      obtain ⟨n, a, b, h1, h2⟩ := h.2 x hx hr
      exact ⟨n + 1, a, b + 1, ⟨x, hx, Or.inl ⟨b, rfl, h1, hd, rfl⟩⟩, by omega⟩
    · rw [upN_k _ _ e] at hzr ⊢
      exact h.2 z hz hzr
theorem Ach.pane {P : Nat → Nat → Nat → Prop} {w : Nat → Nat → Nat} {s0 K R : Nat} {F : Nat → Nat} (h : Ach P w s0 K R F) {p x y : Nat} (hx : x < 192) (hr : F x < R) (hp : P p x y) (hl : F x + K * w p x < F y) : Ach P w s0 K R (upN F y (F x + K * w p x)) := by
  refine ⟨?_, fun z hz hzr => ?_⟩
  · by_cases e : s0 = y
    · rw [← e, h.1] at hl
      omega
    · rw [upN_k _ _ e]
      exact h.1
  · by_cases e : z = y
    · subst e
      rw [upN_s]
      obtain ⟨n, a, b, h1, h2⟩ := h.2 x hx hr
      exact ⟨n + 1, a + w p x, b, ⟨x, hx, Or.inr ⟨p, a, rfl, h1, hp⟩⟩, by rw [Nat.mul_add]; omega⟩
    · rw [upN_k _ _ e] at hzr ⊢
      exact h.2 z hz hzr
