/-! ===== one behind the other, with several answers ===== -/
def bd2 {α1 α2 β : Type} (x : Option (α1 × α2)) (k : α1 → α2 → Option β) : Option β := bd x (fun o => k o.1 o.2)
theorem bd2_some {α1 α2 β : Type} {x : Option (α1 × α2)} {k : α1 → α2 → Option β} {y : β} (h : bd2 x k = some y) : ∃ a1 a2, x = some (a1, a2) ∧ k a1 a2 = some y := by
  obtain ⟨⟨a1, a2⟩, h1, h2⟩ := bd_some h
  exact ⟨a1, a2, h1, h2⟩
theorem bd2_o {α1 α2 β : Type} {x : Option (α1 × α2)} {k : α1 → α2 → Option β} {y : β} (h : bd2 x k = some y) : ∃ o, x = some o ∧ bd2 (some o) k = some y := by
  obtain ⟨o, h1, h2⟩ := bd_some h
  exact ⟨o, h1, h2⟩
theorem bd2_in {α1 α2 β : Type} {a1 : α1} {a2 : α2} {k : α1 → α2 → Option β} {y : β} (h : bd2 (some (a1, a2)) k = some y) : k a1 a2 = some y := h
def bd3 {α1 α2 α3 β : Type} (x : Option (α1 × α2 × α3)) (k : α1 → α2 → α3 → Option β) : Option β := bd x (fun o => k o.1 o.2.1 o.2.2)
theorem bd3_some {α1 α2 α3 β : Type} {x : Option (α1 × α2 × α3)} {k : α1 → α2 → α3 → Option β} {y : β} (h : bd3 x k = some y) : ∃ a1 a2 a3, x = some (a1, a2, a3) ∧ k a1 a2 a3 = some y := by
  obtain ⟨⟨a1, a2, a3⟩, h1, h2⟩ := bd_some h
  exact ⟨a1, a2, a3, h1, h2⟩
theorem bd3_o {α1 α2 α3 β : Type} {x : Option (α1 × α2 × α3)} {k : α1 → α2 → α3 → Option β} {y : β} (h : bd3 x k = some y) : ∃ o, x = some o ∧ bd3 (some o) k = some y := by
  obtain ⟨o, h1, h2⟩ := bd_some h
  exact ⟨o, h1, h2⟩
theorem bd3_in {α1 α2 α3 β : Type} {a1 : α1} {a2 : α2} {a3 : α3} {k : α1 → α2 → α3 → Option β} {y : β} (h : bd3 (some (a1, a2, a3)) k = some y) : k a1 a2 a3 = some y := h
def bd4 {α1 α2 α3 α4 β : Type} (x : Option (α1 × α2 × α3 × α4)) (k : α1 → α2 → α3 → α4 → Option β) : Option β := bd x (fun o => k o.1 o.2.1 o.2.2.1 o.2.2.2)
theorem bd4_some {α1 α2 α3 α4 β : Type} {x : Option (α1 × α2 × α3 × α4)} {k : α1 → α2 → α3 → α4 → Option β} {y : β} (h : bd4 x k = some y) : ∃ a1 a2 a3 a4, x = some (a1, a2, a3, a4) ∧ k a1 a2 a3 a4 = some y := by
  obtain ⟨⟨a1, a2, a3, a4⟩, h1, h2⟩ := bd_some h
  exact ⟨a1, a2, a3, a4, h1, h2⟩
theorem bd4_o {α1 α2 α3 α4 β : Type} {x : Option (α1 × α2 × α3 × α4)} {k : α1 → α2 → α3 → α4 → Option β} {y : β} (h : bd4 x k = some y) : ∃ o, x = some o ∧ bd4 (some o) k = some y := by
  obtain ⟨o, h1, h2⟩ := bd_some h
  exact ⟨o, h1, h2⟩
theorem bd4_in {α1 α2 α3 α4 β : Type} {a1 : α1} {a2 : α2} {a3 : α3} {a4 : α4} {k : α1 → α2 → α3 → α4 → Option β} {y : β} (h : bd4 (some (a1, a2, a3, a4)) k = some y) : k a1 a2 a3 a4 = some y := h
def bd5 {α1 α2 α3 α4 α5 β : Type} (x : Option (α1 × α2 × α3 × α4 × α5)) (k : α1 → α2 → α3 → α4 → α5 → Option β) : Option β := bd x (fun o => k o.1 o.2.1 o.2.2.1 o.2.2.2.1 o.2.2.2.2)
theorem bd5_some {α1 α2 α3 α4 α5 β : Type} {x : Option (α1 × α2 × α3 × α4 × α5)} {k : α1 → α2 → α3 → α4 → α5 → Option β} {y : β} (h : bd5 x k = some y) : ∃ a1 a2 a3 a4 a5, x = some (a1, a2, a3, a4, a5) ∧ k a1 a2 a3 a4 a5 = some y := by
  obtain ⟨⟨a1, a2, a3, a4, a5⟩, h1, h2⟩ := bd_some h
  exact ⟨a1, a2, a3, a4, a5, h1, h2⟩
theorem bd5_o {α1 α2 α3 α4 α5 β : Type} {x : Option (α1 × α2 × α3 × α4 × α5)} {k : α1 → α2 → α3 → α4 → α5 → Option β} {y : β} (h : bd5 x k = some y) : ∃ o, x = some o ∧ bd5 (some o) k = some y := by
  obtain ⟨o, h1, h2⟩ := bd_some h
  exact ⟨o, h1, h2⟩
theorem bd5_in {α1 α2 α3 α4 α5 β : Type} {a1 : α1} {a2 : α2} {a3 : α3} {a4 : α4} {a5 : α5} {k : α1 → α2 → α3 → α4 → α5 → Option β} {y : β} (h : bd5 (some (a1, a2, a3, a4, a5)) k = some y) : k a1 a2 a3 a4 a5 = some y := h
def bd6 {α1 α2 α3 α4 α5 α6 β : Type} (x : Option (α1 × α2 × α3 × α4 × α5 × α6)) (k : α1 → α2 → α3 → α4 → α5 → α6 → Option β) : Option β := bd x (fun o => k o.1 o.2.1 o.2.2.1 o.2.2.2.1 o.2.2.2.2.1 o.2.2.2.2.2)
theorem bd6_some {α1 α2 α3 α4 α5 α6 β : Type} {x : Option (α1 × α2 × α3 × α4 × α5 × α6)} {k : α1 → α2 → α3 → α4 → α5 → α6 → Option β} {y : β} (h : bd6 x k = some y) : ∃ a1 a2 a3 a4 a5 a6, x = some (a1, a2, a3, a4, a5, a6) ∧ k a1 a2 a3 a4 a5 a6 = some y := by
  obtain ⟨⟨a1, a2, a3, a4, a5, a6⟩, h1, h2⟩ := bd_some h
  exact ⟨a1, a2, a3, a4, a5, a6, h1, h2⟩
theorem bd6_o {α1 α2 α3 α4 α5 α6 β : Type} {x : Option (α1 × α2 × α3 × α4 × α5 × α6)} {k : α1 → α2 → α3 → α4 → α5 → α6 → Option β} {y : β} (h : bd6 x k = some y) : ∃ o, x = some o ∧ bd6 (some o) k = some y := by
  obtain ⟨o, h1, h2⟩ := bd_some h
  exact ⟨o, h1, h2⟩
theorem bd6_in {α1 α2 α3 α4 α5 α6 β : Type} {a1 : α1} {a2 : α2} {a3 : α3} {a4 : α4} {a5 : α5} {a6 : α6} {k : α1 → α2 → α3 → α4 → α5 → α6 → Option β} {y : β} (h : bd6 (some (a1, a2, a3, a4, a5, a6)) k = some y) : k a1 a2 a3 a4 a5 a6 = some y := h
def bd7 {α1 α2 α3 α4 α5 α6 α7 β : Type} (x : Option (α1 × α2 × α3 × α4 × α5 × α6 × α7)) (k : α1 → α2 → α3 → α4 → α5 → α6 → α7 → Option β) : Option β := bd x (fun o => k o.1 o.2.1 o.2.2.1 o.2.2.2.1 o.2.2.2.2.1 o.2.2.2.2.2.1 o.2.2.2.2.2.2)
theorem bd7_some {α1 α2 α3 α4 α5 α6 α7 β : Type} {x : Option (α1 × α2 × α3 × α4 × α5 × α6 × α7)} {k : α1 → α2 → α3 → α4 → α5 → α6 → α7 → Option β} {y : β} (h : bd7 x k = some y) : ∃ a1 a2 a3 a4 a5 a6 a7, x = some (a1, a2, a3, a4, a5, a6, a7) ∧ k a1 a2 a3 a4 a5 a6 a7 = some y := by
  obtain ⟨⟨a1, a2, a3, a4, a5, a6, a7⟩, h1, h2⟩ := bd_some h
  exact ⟨a1, a2, a3, a4, a5, a6, a7, h1, h2⟩
theorem bd7_o {α1 α2 α3 α4 α5 α6 α7 β : Type} {x : Option (α1 × α2 × α3 × α4 × α5 × α6 × α7)} {k : α1 → α2 → α3 → α4 → α5 → α6 → α7 → Option β} {y : β} (h : bd7 x k = some y) : ∃ o, x = some o ∧ bd7 (some o) k = some y := by
  obtain ⟨o, h1, h2⟩ := bd_some h
  exact ⟨o, h1, h2⟩
theorem bd7_in {α1 α2 α3 α4 α5 α6 α7 β : Type} {a1 : α1} {a2 : α2} {a3 : α3} {a4 : α4} {a5 : α5} {a6 : α6} {a7 : α7} {k : α1 → α2 → α3 → α4 → α5 → α6 → α7 → Option β} {y : β} (h : bd7 (some (a1, a2, a3, a4, a5, a6, a7)) k = some y) : k a1 a2 a3 a4 a5 a6 a7 = some y := h
def bd8 {α1 α2 α3 α4 α5 α6 α7 α8 β : Type} (x : Option (α1 × α2 × α3 × α4 × α5 × α6 × α7 × α8)) (k : α1 → α2 → α3 → α4 → α5 → α6 → α7 → α8 → Option β) : Option β := bd x (fun o => k o.1 o.2.1 o.2.2.1 o.2.2.2.1 o.2.2.2.2.1 o.2.2.2.2.2.1 o.2.2.2.2.2.2.1 o.2.2.2.2.2.2.2)
theorem bd8_some {α1 α2 α3 α4 α5 α6 α7 α8 β : Type} {x : Option (α1 × α2 × α3 × α4 × α5 × α6 × α7 × α8)} {k : α1 → α2 → α3 → α4 → α5 → α6 → α7 → α8 → Option β} {y : β} (h : bd8 x k = some y) : ∃ a1 a2 a3 a4 a5 a6 a7 a8, x = some (a1, a2, a3, a4, a5, a6, a7, a8) ∧ k a1 a2 a3 a4 a5 a6 a7 a8 = some y := by
  obtain ⟨⟨a1, a2, a3, a4, a5, a6, a7, a8⟩, h1, h2⟩ := bd_some h
  exact ⟨a1, a2, a3, a4, a5, a6, a7, a8, h1, h2⟩
theorem bd8_o {α1 α2 α3 α4 α5 α6 α7 α8 β : Type} {x : Option (α1 × α2 × α3 × α4 × α5 × α6 × α7 × α8)} {k : α1 → α2 → α3 → α4 → α5 → α6 → α7 → α8 → Option β} {y : β} (h : bd8 x k = some y) : ∃ o, x = some o ∧ bd8 (some o) k = some y := by
  obtain ⟨o, h1, h2⟩ := bd_some h
  exact ⟨o, h1, h2⟩
theorem bd8_in {α1 α2 α3 α4 α5 α6 α7 α8 β : Type} {a1 : α1} {a2 : α2} {a3 : α3} {a4 : α4} {a5 : α5} {a6 : α6} {a7 : α7} {a8 : α8} {k : α1 → α2 → α3 → α4 → α5 → α6 → α7 → α8 → Option β} {y : β} (h : bd8 (some (a1, a2, a3, a4, a5, a6, a7, a8)) k = some y) : k a1 a2 a3 a4 a5 a6 a7 a8 = some y := h
def bd9 {α1 α2 α3 α4 α5 α6 α7 α8 α9 β : Type} (x : Option (α1 × α2 × α3 × α4 × α5 × α6 × α7 × α8 × α9)) (k : α1 → α2 → α3 → α4 → α5 → α6 → α7 → α8 → α9 → Option β) : Option β := bd x (fun o => k o.1 o.2.1 o.2.2.1 o.2.2.2.1 o.2.2.2.2.1 o.2.2.2.2.2.1 o.2.2.2.2.2.2.1 o.2.2.2.2.2.2.2.1 o.2.2.2.2.2.2.2.2)
theorem bd9_some {α1 α2 α3 α4 α5 α6 α7 α8 α9 β : Type} {x : Option (α1 × α2 × α3 × α4 × α5 × α6 × α7 × α8 × α9)} {k : α1 → α2 → α3 → α4 → α5 → α6 → α7 → α8 → α9 → Option β} {y : β} (h : bd9 x k = some y) : ∃ a1 a2 a3 a4 a5 a6 a7 a8 a9, x = some (a1, a2, a3, a4, a5, a6, a7, a8, a9) ∧ k a1 a2 a3 a4 a5 a6 a7 a8 a9 = some y := by
  obtain ⟨⟨a1, a2, a3, a4, a5, a6, a7, a8, a9⟩, h1, h2⟩ := bd_some h
  exact ⟨a1, a2, a3, a4, a5, a6, a7, a8, a9, h1, h2⟩
theorem bd9_o {α1 α2 α3 α4 α5 α6 α7 α8 α9 β : Type} {x : Option (α1 × α2 × α3 × α4 × α5 × α6 × α7 × α8 × α9)} {k : α1 → α2 → α3 → α4 → α5 → α6 → α7 → α8 → α9 → Option β} {y : β} (h : bd9 x k = some y) : ∃ o, x = some o ∧ bd9 (some o) k = some y := by
  obtain ⟨o, h1, h2⟩ := bd_some h
  exact ⟨o, h1, h2⟩
theorem bd9_in {α1 α2 α3 α4 α5 α6 α7 α8 α9 β : Type} {a1 : α1} {a2 : α2} {a3 : α3} {a4 : α4} {a5 : α5} {a6 : α6} {a7 : α7} {a8 : α8} {a9 : α9} {k : α1 → α2 → α3 → α4 → α5 → α6 → α7 → α8 → α9 → Option β} {y : β} (h : bd9 (some (a1, a2, a3, a4, a5, a6, a7, a8, a9)) k = some y) : k a1 a2 a3 a4 a5 a6 a7 a8 a9 = some y := h
def bd10 {α1 α2 α3 α4 α5 α6 α7 α8 α9 α10 β : Type} (x : Option (α1 × α2 × α3 × α4 × α5 × α6 × α7 × α8 × α9 × α10)) (k : α1 → α2 → α3 → α4 → α5 → α6 → α7 → α8 → α9 → α10 → Option β) : Option β := bd x (fun o => k o.1 o.2.1 o.2.2.1 o.2.2.2.1 o.2.2.2.2.1 o.2.2.2.2.2.1 o.2.2.2.2.2.2.1 o.2.2.2.2.2.2.2.1 o.2.2.2.2.2.2.2.2.1 o.2.2.2.2.2.2.2.2.2)
theorem bd10_some {α1 α2 α3 α4 α5 α6 α7 α8 α9 α10 β : Type} {x : Option (α1 × α2 × α3 × α4 × α5 × α6 × α7 × α8 × α9 × α10)} {k : α1 → α2 → α3 → α4 → α5 → α6 → α7 → α8 → α9 → α10 → Option β} {y : β} (h : bd10 x k = some y) : ∃ a1 a2 a3 a4 a5 a6 a7 a8 a9 a10, x = some (a1, a2, a3, a4, a5, a6, a7, a8, a9, a10) ∧ k a1 a2 a3 a4 a5 a6 a7 a8 a9 a10 = some y := by
  obtain ⟨⟨a1, a2, a3, a4, a5, a6, a7, a8, a9, a10⟩, h1, h2⟩ := bd_some h
  exact ⟨a1, a2, a3, a4, a5, a6, a7, a8, a9, a10, h1, h2⟩
theorem bd10_o {α1 α2 α3 α4 α5 α6 α7 α8 α9 α10 β : Type} {x : Option (α1 × α2 × α3 × α4 × α5 × α6 × α7 × α8 × α9 × α10)} {k : α1 → α2 → α3 → α4 → α5 → α6 → α7 → α8 → α9 → α10 → Option β} {y : β} (h : bd10 x k = some y) : ∃ o, x = some o ∧ bd10 (some o) k = some y := by
  obtain ⟨o, h1, h2⟩ := bd_some h
  exact ⟨o, h1, h2⟩
theorem bd10_in {α1 α2 α3 α4 α5 α6 α7 α8 α9 α10 β : Type} {a1 : α1} {a2 : α2} {a3 : α3} {a4 : α4} {a5 : α5} {a6 : α6} {a7 : α7} {a8 : α8} {a9 : α9} {a10 : α10} {k : α1 → α2 → α3 → α4 → α5 → α6 → α7 → α8 → α9 → α10 → Option β} {y : β} (h : bd10 (some (a1, a2, a3, a4, a5, a6, a7, a8, a9, a10)) k = some y) : k a1 a2 a3 a4 a5 a6 a7 a8 a9 a10 = some y := h
def bd11 {α1 α2 α3 α4 α5 α6 α7 α8 α9 α10 α11 β : Type} (x : Option (α1 × α2 × α3 × α4 × α5 × α6 × α7 × α8 × α9 × α10 × α11)) (k : α1 → α2 → α3 → α4 → α5 → α6 → α7 → α8 → α9 → α10 → α11 → Option β) : Option β := bd x (fun o => k o.1 o.2.1 o.2.2.1 o.2.2.2.1 o.2.2.2.2.1 o.2.2.2.2.2.1 o.2.2.2.2.2.2.1 o.2.2.2.2.2.2.2.1 o.2.2.2.2.2.2.2.2.1 o.2.2.2.2.2.2.2.2.2.1 o.2.2.2.2.2.2.2.2.2.2)
theorem bd11_some {α1 α2 α3 α4 α5 α6 α7 α8 α9 α10 α11 β : Type} {x : Option (α1 × α2 × α3 × α4 × α5 × α6 × α7 × α8 × α9 × α10 × α11)} {k : α1 → α2 → α3 → α4 → α5 → α6 → α7 → α8 → α9 → α10 → α11 → Option β} {y : β} (h : bd11 x k = some y) : ∃ a1 a2 a3 a4 a5 a6 a7 a8 a9 a10 a11, x = some (a1, a2, a3, a4, a5, a6, a7, a8, a9, a10, a11) ∧ k a1 a2 a3 a4 a5 a6 a7 a8 a9 a10 a11 = some y := by
  obtain ⟨⟨a1, a2, a3, a4, a5, a6, a7, a8, a9, a10, a11⟩, h1, h2⟩ := bd_some h
  exact ⟨a1, a2, a3, a4, a5, a6, a7, a8, a9, a10, a11, h1, h2⟩
theorem bd11_o {α1 α2 α3 α4 α5 α6 α7 α8 α9 α10 α11 β : Type} {x : Option (α1 × α2 × α3 × α4 × α5 × α6 × α7 × α8 × α9 × α10 × α11)} {k : α1 → α2 → α3 → α4 → α5 → α6 → α7 → α8 → α9 → α10 → α11 → Option β} {y : β} (h : bd11 x k = some y) : ∃ o, x = some o ∧ bd11 (some o) k = some y := by
  obtain ⟨o, h1, h2⟩ := bd_some h
  exact ⟨o, h1, h2⟩
theorem bd11_in {α1 α2 α3 α4 α5 α6 α7 α8 α9 α10 α11 β : Type} {a1 : α1} {a2 : α2} {a3 : α3} {a4 : α4} {a5 : α5} {a6 : α6} {a7 : α7} {a8 : α8} {a9 : α9} {a10 : α10} {a11 : α11} {k : α1 → α2 → α3 → α4 → α5 → α6 → α7 → α8 → α9 → α10 → α11 → Option β} {y : β} (h : bd11 (some (a1, a2, a3, a4, a5, a6, a7, a8, a9, a10, a11)) k = some y) : k a1 a2 a3 a4 a5 a6 a7 a8 a9 a10 a11 = some y := h
def bs1 {α1 ρ β : Type} (x : Option ((α1) ⊕ ρ)) (k : α1 → Option β) (kr : ρ → Option β) : Option β := bd x (fun z => match z with | .inl o => k o | .inr q => kr q)
theorem bs1_o {α1 ρ β : Type} {x : Option ((α1) ⊕ ρ)} {k : α1 → Option β} {kr : ρ → Option β} {y : β} (h : bs1 x k kr = some y) : ∃ o, x = some o ∧ bs1 (some o) k kr = some y := by
  obtain ⟨o, h1, h2⟩ := bd_some h
  exact ⟨o, h1, h2⟩
theorem bs1_in {α1 ρ β : Type} {a1 : α1} {k : α1 → Option β} {kr : ρ → Option β} {y : β} (h : bs1 (some (.inl (a1))) k kr = some y) : k a1 = some y := h
theorem bs1_r {α1 ρ β : Type} {q : ρ} {k : α1 → Option β} {kr : ρ → Option β} {y : β} (h : bs1 (some (.inr q)) k kr = some y) : kr q = some y := h
def bs2 {α1 α2 ρ β : Type} (x : Option ((α1 × α2) ⊕ ρ)) (k : α1 → α2 → Option β) (kr : ρ → Option β) : Option β := bd x (fun z => match z with | .inl o => k o.1 o.2 | .inr q => kr q)
theorem bs2_o {α1 α2 ρ β : Type} {x : Option ((α1 × α2) ⊕ ρ)} {k : α1 → α2 → Option β} {kr : ρ → Option β} {y : β} (h : bs2 x k kr = some y) : ∃ o, x = some o ∧ bs2 (some o) k kr = some y := by
  obtain ⟨o, h1, h2⟩ := bd_some h
  exact ⟨o, h1, h2⟩
theorem bs2_in {α1 α2 ρ β : Type} {a1 : α1} {a2 : α2} {k : α1 → α2 → Option β} {kr : ρ → Option β} {y : β} (h : bs2 (some (.inl (a1, a2))) k kr = some y) : k a1 a2 = some y := h
theorem bs2_r {α1 α2 ρ β : Type} {q : ρ} {k : α1 → α2 → Option β} {kr : ρ → Option β} {y : β} (h : bs2 (some (.inr q)) k kr = some y) : kr q = some y := h
def bs3 {α1 α2 α3 ρ β : Type} (x : Option ((α1 × α2 × α3) ⊕ ρ)) (k : α1 → α2 → α3 → Option β) (kr : ρ → Option β) : Option β := bd x (fun z => match z with | .inl o => k o.1 o.2.1 o.2.2 | .inr q => kr q)
theorem bs3_o {α1 α2 α3 ρ β : Type} {x : Option ((α1 × α2 × α3) ⊕ ρ)} {k : α1 → α2 → α3 → Option β} {kr : ρ → Option β} {y : β} (h : bs3 x k kr = some y) : ∃ o, x = some o ∧ bs3 (some o) k kr = some y := by
  obtain ⟨o, h1, h2⟩ := bd_some h
  exact ⟨o, h1, h2⟩
theorem bs3_in {α1 α2 α3 ρ β : Type} {a1 : α1} {a2 : α2} {a3 : α3} {k : α1 → α2 → α3 → Option β} {kr : ρ → Option β} {y : β} (h : bs3 (some (.inl (a1, a2, a3))) k kr = some y) : k a1 a2 a3 = some y := h
theorem bs3_r {α1 α2 α3 ρ β : Type} {q : ρ} {k : α1 → α2 → α3 → Option β} {kr : ρ → Option β} {y : β} (h : bs3 (some (.inr q)) k kr = some y) : kr q = some y := h
def bs4 {α1 α2 α3 α4 ρ β : Type} (x : Option ((α1 × α2 × α3 × α4) ⊕ ρ)) (k : α1 → α2 → α3 → α4 → Option β) (kr : ρ → Option β) : Option β := bd x (fun z => match z with | .inl o => k o.1 o.2.1 o.2.2.1 o.2.2.2 | .inr q => kr q)
theorem bs4_o {α1 α2 α3 α4 ρ β : Type} {x : Option ((α1 × α2 × α3 × α4) ⊕ ρ)} {k : α1 → α2 → α3 → α4 → Option β} {kr : ρ → Option β} {y : β} (h : bs4 x k kr = some y) : ∃ o, x = some o ∧ bs4 (some o) k kr = some y := by
  obtain ⟨o, h1, h2⟩ := bd_some h
  exact ⟨o, h1, h2⟩
theorem bs4_in {α1 α2 α3 α4 ρ β : Type} {a1 : α1} {a2 : α2} {a3 : α3} {a4 : α4} {k : α1 → α2 → α3 → α4 → Option β} {kr : ρ → Option β} {y : β} (h : bs4 (some (.inl (a1, a2, a3, a4))) k kr = some y) : k a1 a2 a3 a4 = some y := h
theorem bs4_r {α1 α2 α3 α4 ρ β : Type} {q : ρ} {k : α1 → α2 → α3 → α4 → Option β} {kr : ρ → Option β} {y : β} (h : bs4 (some (.inr q)) k kr = some y) : kr q = some y := h
def bs5 {α1 α2 α3 α4 α5 ρ β : Type} (x : Option ((α1 × α2 × α3 × α4 × α5) ⊕ ρ)) (k : α1 → α2 → α3 → α4 → α5 → Option β) (kr : ρ → Option β) : Option β := bd x (fun z => match z with | .inl o => k o.1 o.2.1 o.2.2.1 o.2.2.2.1 o.2.2.2.2 | .inr q => kr q)
theorem bs5_o {α1 α2 α3 α4 α5 ρ β : Type} {x : Option ((α1 × α2 × α3 × α4 × α5) ⊕ ρ)} {k : α1 → α2 → α3 → α4 → α5 → Option β} {kr : ρ → Option β} {y : β} (h : bs5 x k kr = some y) : ∃ o, x = some o ∧ bs5 (some o) k kr = some y := by
  obtain ⟨o, h1, h2⟩ := bd_some h
  exact ⟨o, h1, h2⟩
theorem bs5_in {α1 α2 α3 α4 α5 ρ β : Type} {a1 : α1} {a2 : α2} {a3 : α3} {a4 : α4} {a5 : α5} {k : α1 → α2 → α3 → α4 → α5 → Option β} {kr : ρ → Option β} {y : β} (h : bs5 (some (.inl (a1, a2, a3, a4, a5))) k kr = some y) : k a1 a2 a3 a4 a5 = some y := h
theorem bs5_r {α1 α2 α3 α4 α5 ρ β : Type} {q : ρ} {k : α1 → α2 → α3 → α4 → α5 → Option β} {kr : ρ → Option β} {y : β} (h : bs5 (some (.inr q)) k kr = some y) : kr q = some y := h
def bs6 {α1 α2 α3 α4 α5 α6 ρ β : Type} (x : Option ((α1 × α2 × α3 × α4 × α5 × α6) ⊕ ρ)) (k : α1 → α2 → α3 → α4 → α5 → α6 → Option β) (kr : ρ → Option β) : Option β := bd x (fun z => match z with | .inl o => k o.1 o.2.1 o.2.2.1 o.2.2.2.1 o.2.2.2.2.1 o.2.2.2.2.2 | .inr q => kr q)
theorem bs6_o {α1 α2 α3 α4 α5 α6 ρ β : Type} {x : Option ((α1 × α2 × α3 × α4 × α5 × α6) ⊕ ρ)} {k : α1 → α2 → α3 → α4 → α5 → α6 → Option β} {kr : ρ → Option β} {y : β} (h : bs6 x k kr = some y) : ∃ o, x = some o ∧ bs6 (some o) k kr = some y := by
  obtain ⟨o, h1, h2⟩ := bd_some h
  exact ⟨o, h1, h2⟩
theorem bs6_in {α1 α2 α3 α4 α5 α6 ρ β : Type} {a1 : α1} {a2 : α2} {a3 : α3} {a4 : α4} {a5 : α5} {a6 : α6} {k : α1 → α2 → α3 → α4 → α5 → α6 → Option β} {kr : ρ → Option β} {y : β} (h : bs6 (some (.inl (a1, a2, a3, a4, a5, a6))) k kr = some y) : k a1 a2 a3 a4 a5 a6 = some y := h
theorem bs6_r {α1 α2 α3 α4 α5 α6 ρ β : Type} {q : ρ} {k : α1 → α2 → α3 → α4 → α5 → α6 → Option β} {kr : ρ → Option β} {y : β} (h : bs6 (some (.inr q)) k kr = some y) : kr q = some y := h
def bs7 {α1 α2 α3 α4 α5 α6 α7 ρ β : Type} (x : Option ((α1 × α2 × α3 × α4 × α5 × α6 × α7) ⊕ ρ)) (k : α1 → α2 → α3 → α4 → α5 → α6 → α7 → Option β) (kr : ρ → Option β) : Option β := bd x (fun z => match z with | .inl o => k o.1 o.2.1 o.2.2.1 o.2.2.2.1 o.2.2.2.2.1 o.2.2.2.2.2.1 o.2.2.2.2.2.2 | .inr q => kr q)
theorem bs7_o {α1 α2 α3 α4 α5 α6 α7 ρ β : Type} {x : Option ((α1 × α2 × α3 × α4 × α5 × α6 × α7) ⊕ ρ)} {k : α1 → α2 → α3 → α4 → α5 → α6 → α7 → Option β} {kr : ρ → Option β} {y : β} (h : bs7 x k kr = some y) : ∃ o, x = some o ∧ bs7 (some o) k kr = some y := by
  obtain ⟨o, h1, h2⟩ := bd_some h
  exact ⟨o, h1, h2⟩
theorem bs7_in {α1 α2 α3 α4 α5 α6 α7 ρ β : Type} {a1 : α1} {a2 : α2} {a3 : α3} {a4 : α4} {a5 : α5} {a6 : α6} {a7 : α7} {k : α1 → α2 → α3 → α4 → α5 → α6 → α7 → Option β} {kr : ρ → Option β} {y : β} (h : bs7 (some (.inl (a1, a2, a3, a4, a5, a6, a7))) k kr = some y) : k a1 a2 a3 a4 a5 a6 a7 = some y := h
theorem bs7_r {α1 α2 α3 α4 α5 α6 α7 ρ β : Type} {q : ρ} {k : α1 → α2 → α3 → α4 → α5 → α6 → α7 → Option β} {kr : ρ → Option β} {y : β} (h : bs7 (some (.inr q)) k kr = some y) : kr q = some y := h
def bs8 {α1 α2 α3 α4 α5 α6 α7 α8 ρ β : Type} (x : Option ((α1 × α2 × α3 × α4 × α5 × α6 × α7 × α8) ⊕ ρ)) (k : α1 → α2 → α3 → α4 → α5 → α6 → α7 → α8 → Option β) (kr : ρ → Option β) : Option β := bd x (fun z => match z with | .inl o => k o.1 o.2.1 o.2.2.1 o.2.2.2.1 o.2.2.2.2.1 o.2.2.2.2.2.1 o.2.2.2.2.2.2.1 o.2.2.2.2.2.2.2 | .inr q => kr q)
theorem bs8_o {α1 α2 α3 α4 α5 α6 α7 α8 ρ β : Type} {x : Option ((α1 × α2 × α3 × α4 × α5 × α6 × α7 × α8) ⊕ ρ)} {k : α1 → α2 → α3 → α4 → α5 → α6 → α7 → α8 → Option β} {kr : ρ → Option β} {y : β} (h : bs8 x k kr = some y) : ∃ o, x = some o ∧ bs8 (some o) k kr = some y := by
  obtain ⟨o, h1, h2⟩ := bd_some h
  exact ⟨o, h1, h2⟩
theorem bs8_in {α1 α2 α3 α4 α5 α6 α7 α8 ρ β : Type} {a1 : α1} {a2 : α2} {a3 : α3} {a4 : α4} {a5 : α5} {a6 : α6} {a7 : α7} {a8 : α8} {k : α1 → α2 → α3 → α4 → α5 → α6 → α7 → α8 → Option β} {kr : ρ → Option β} {y : β} (h : bs8 (some (.inl (a1, a2, a3, a4, a5, a6, a7, a8))) k kr = some y) : k a1 a2 a3 a4 a5 a6 a7 a8 = some y := h
theorem bs8_r {α1 α2 α3 α4 α5 α6 α7 α8 ρ β : Type} {q : ρ} {k : α1 → α2 → α3 → α4 → α5 → α6 → α7 → α8 → Option β} {kr : ρ → Option β} {y : β} (h : bs8 (some (.inr q)) k kr = some y) : kr q = some y := h
def bs9 {α1 α2 α3 α4 α5 α6 α7 α8 α9 ρ β : Type} (x : Option ((α1 × α2 × α3 × α4 × α5 × α6 × α7 × α8 × α9) ⊕ ρ)) (k : α1 → α2 → α3 → α4 → α5 → α6 → α7 → α8 → α9 → Option β) (kr : ρ → Option β) : Option β := bd x (fun z => match z with | .inl o => k o.1 o.2.1 o.2.2.1 o.2.2.2.1 o.2.2.2.2.1 o.2.2.2.2.2.1 o.2.2.2.2.2.2.1 o.2.2.2.2.2.2.2.1 o.2.2.2.2.2.2.2.2 | .inr q => kr q)
theorem bs9_o {α1 α2 α3 α4 α5 α6 α7 α8 α9 ρ β : Type} {x : Option ((α1 × α2 × α3 × α4 × α5 × α6 × α7 × α8 × α9) ⊕ ρ)} {k : α1 → α2 → α3 → α4 → α5 → α6 → α7 → α8 → α9 → Option β} {kr : ρ → Option β} {y : β} (h : bs9 x k kr = some y) : ∃ o, x = some o ∧ bs9 (some o) k kr = some y := by
  obtain ⟨o, h1, h2⟩ := bd_some h
  exact ⟨o, h1, h2⟩
theorem bs9_in {α1 α2 α3 α4 α5 α6 α7 α8 α9 ρ β : Type} {a1 : α1} {a2 : α2} {a3 : α3} {a4 : α4} {a5 : α5} {a6 : α6} {a7 : α7} {a8 : α8} {a9 : α9} {k : α1 → α2 → α3 → α4 → α5 → α6 → α7 → α8 → α9 → Option β} {kr : ρ → Option β} {y : β} (h : bs9 (some (.inl (a1, a2, a3, a4, a5, a6, a7, a8, a9))) k kr = some y) : k a1 a2 a3 a4 a5 a6 a7 a8 a9 = some y := h
theorem bs9_r {α1 α2 α3 α4 α5 α6 α7 α8 α9 ρ β : Type} {q : ρ} {k : α1 → α2 → α3 → α4 → α5 → α6 → α7 → α8 → α9 → Option β} {kr : ρ → Option β} {y : β} (h : bs9 (some (.inr q)) k kr = some y) : kr q = some y := h
theorem bd_o {α β : Type} {x : Option α} {k : α → Option β} {y : β} (h : bd x k = some y) : ∃ o, x = some o ∧ bd (some o) k = some y := by
  cases x with
  | none => cases h
  | some a => exact ⟨a, rfl, h⟩
theorem bd_in {α β : Type} {a : α} {k : α → Option β} {y : β} (h : bd (some a) k = some y) : k a = some y := h
theorem lp_zero {σ ρ : Type} {b : σ → Option (σ ⊕ ρ)} {x : σ} {r : ρ} (h : lp b 0 x = some r) : False := by cases h
theorem if_t {α : Type} {c : Prop} [Decidable c] {a b : Option α} {y : α} (hc : c) (h : (if c then a else b) = some y) : a = some y := by rwa [if_pos hc] at h
theorem if_f {α : Type} {c : Prop} [Decidable c] {a b : Option α} {y : α} (hc : ¬ c) (h : (if c then a else b) = some y) : b = some y := by rwa [if_neg hc] at h
/-- a place within -/
abbrev inb (i : Int32) (n : Nat) : Prop := ¬ (i < 0 ∨ n ≤ i.toNatClampNeg)
theorem pr_2 {α β : Type} {a c : α} {b d : β} (h : some (a, b) = some (c, d)) : a = c ∧ b = d := by cases h; exact ⟨rfl, rfl⟩
/-! ===== what stands where ===== -/
def wg_kdC : List Nat := [8, 0, 10, 13, 1, 1, 1, 1, 1, 1, 1, 1, 0, 10, 13, 1, 1, 1, 1, 1, 1, 1, 1, 5, 10, 10, 10, 10, 2, 10, 10, 3, 15, 10, 10, 7, 10, 10, 10, 14, 1, 10, 10, 10, 4, 10, 4, 10, 4, 10, 4, 10]
def wg_lnC : List Nat := [0, 0, 32, 8, 0, 0, 0, 0, 0, 0, 0, 0, 0, 32, 8, 0, 0, 0, 0, 0, 0, 0, 0, 0, 160, 161, 161, 161, 0, 160, 3, 0, 6, 6, 160, 0, 6, 192, 192, 4, 0, 32, 32, 8, 0, 40, 0, 40, 0, 40, 0, 40]
def wg_rfC : List (List Nat) := [[2, 13, 0, 24, 29, 32, 36, 40, 41, 42, 43, 44], [3, 4], [], [5, 6, 7, 8, 9, 10, 11, 12], [], [], [], [], [], [], [], [], [14, 15], [], [16, 17, 18, 19, 20, 21, 22, 23], [], [], [], [], [], [], [], [], [25, 0, 0, 26, 27, 28], [], [], [], [], [0, 0, 0, 0, 30, 31], [], [], [33, 0, 34, 35], [], [], [], [37, 38, 39], [], [], [], [45, 47, 49, 51], [], [], [], [], [46], [], [48], [], [50], [], [52], []]
def wg_kdM : List Nat := [9, 11, 11, 11, 11, 11, 11, 11, 11, 11, 11, 11, 11, 11, 11, 11, 12, 11, 11, 11]
def wg_lnM : List Nat := [0, 960, 6, 160, 32, 8, 8, 8, 8, 8, 192, 256, 32, 32, 32, 32, 4, 4, 4, 160]
def wg_rfM : List Nat := [0, 57, 58, 0, 0, 59, 0, 60, 61, 62, 63, 64, 65, 0, 0, 0, 0, 0, 0, 0, 0, 0, 0, 0, 0, 0, 0, 0, 0, 0, 66, 67, 68, 0, 0, 69, 70, 71, 0, 0, 72, 73, 74, 75]
/-- a text: its code and its ends -/
def wg_Txt (S : wg_Sh) (t : Nat) : Prop := wg_id S t 6 ∧ S.1 t 0 = some (t + 1) ∧ wg_id S (t + 1) 10 ∧ S.1 t 1 = some (t + 2) ∧ wg_id S (t + 2) 10 ∧ S.2.1 (t + 2) = 3
def wg_SC (S : wg_Sh) : Prop := (∀ a, a < 52 → wg_id S a (wg_kdC.getD a 0) ∧ S.2.1 a = wg_lnC.getD a 0) ∧ (∀ a k b, (wg_rfC.getD a []).getD k 0 = b + 1 → S.1 a k = some b) ∧ ∀ k t, k < 6 → S.1 32 k = some t → wg_Txt S t
def wg_SM (S : wg_Sh) : Prop := (∀ a, a < 20 → wg_id S (55 + a) (wg_kdM.getD a 0) ∧ S.2.1 (55 + a) = wg_lnM.getD a 0) ∧ ∀ k b, wg_rfM.getD k 0 = b + 1 → S.1 55 k = some b
theorem SCi {S : wg_Sh} (h : wg_SC S) (a k : Nat) (e : (decide (a < 52) && (wg_kdC.getD a 0 == k)) = true) : wg_id S a k := by
  simp only [Bool.and_eq_true, decide_eq_true_eq, beq_iff_eq] at e
  rw [← e.2]; exact (h.1 a e.1).1
theorem SCl {S : wg_Sh} (h : wg_SC S) (a k : Nat) (e : (decide (a < 52) && (wg_lnC.getD a 0 == k)) = true) : S.2.1 a = k := by
  simp only [Bool.and_eq_true, decide_eq_true_eq, beq_iff_eq] at e
  rw [← e.2]; exact (h.1 a e.1).2
theorem SCr {S : wg_Sh} (h : wg_SC S) (a k b : Nat) (e : (wg_rfC.getD a []).getD k 0 = b + 1) : S.1 a k = some b := h.2.1 a k b e
theorem SMi {S : wg_Sh} (h : wg_SM S) (a k : Nat) (e : (decide (55 ≤ a) && decide (a < 75) && (wg_kdM.getD (a - 55) 0 == k)) = true) : wg_id S a k := by
  simp only [Bool.and_eq_true, decide_eq_true_eq, beq_iff_eq] at e
  have := (h.1 (a - 55) (by omega)).1
  rw [← e.2]; rwa [show 55 + (a - 55) = a by omega] at this
theorem SMl {S : wg_Sh} (h : wg_SM S) (a k : Nat) (e : (decide (55 ≤ a) && decide (a < 75) && (wg_lnM.getD (a - 55) 0 == k)) = true) : S.2.1 a = k := by
  simp only [Bool.and_eq_true, decide_eq_true_eq, beq_iff_eq] at e
  have := (h.1 (a - 55) (by omega)).2
  rw [← e.2]; rwa [show 55 + (a - 55) = a by omega] at this
theorem SMr {S : wg_Sh} (h : wg_SM S) (k b : Nat) (e : wg_rfM.getD k 0 = b + 1) : S.1 55 k = some b := h.2 k b e
theorem inb_lt {i : Int32} {n : Nat} (h : inb i n) : i.toNatClampNeg < n := Nat.not_le.mp fun q => h (Or.inr q)
/-- the panes of the two houses -/
theorem SCp {S : wg_Sh} (h : wg_SC S) {k : Nat} (hk : k < 8) : S.1 3 k = some (4 + k) ∧ wg_id S (4 + k) 1 ∧ S.1 14 k = some (15 + k) ∧ wg_id S (15 + k) 1 := by
  have t : ∀ k, k < 8 → (wg_rfC.getD 3 []).getD k 0 = (4 + k) + 1 ∧ wg_kdC.getD (4 + k) 0 = 1 ∧ (wg_rfC.getD 14 []).getD k 0 = (15 + k) + 1 ∧ wg_kdC.getD (15 + k) 0 = 1 := by decide
  obtain ⟨t1, t2, t3, t4⟩ := t k hk
  refine ⟨h.2.1 _ _ _ t1, ?_, h.2.1 _ _ _ t3, ?_⟩
  · rw [← t2]; exact (h.1 _ (by omega)).1
  · rw [← t4]; exact (h.1 _ (by omega)).1
/-- a sheet, and its row -/
def wg_Sht (S : wg_Sh) (i : Nat) : Prop := wg_id S i 4 ∧ S.1 i 0 = some (i + 1) ∧ wg_id S (i + 1) 10 ∧ S.2.1 (i + 1) = 40
theorem SCs {S : wg_Sh} (h : wg_SC S) {k : Nat} (hk : k < 4) : S.1 39 k = some (44 + 2 * k) ∧ wg_Sht S (44 + 2 * k) := by
  have t : ∀ k, k < 4 → (wg_rfC.getD 39 []).getD k 0 = (44 + 2 * k) + 1 ∧ wg_kdC.getD (44 + 2 * k) 0 = 4 ∧ (wg_rfC.getD (44 + 2 * k) []).getD 0 0 = (44 + 2 * k + 1) + 1 ∧ wg_kdC.getD (44 + 2 * k + 1) 0 = 10 ∧ wg_lnC.getD (44 + 2 * k + 1) 0 = 40 := by decide
  obtain ⟨t1, t2, t3, t4, t5⟩ := t k hk
  refine ⟨h.2.1 _ _ _ t1, ?_, h.2.1 _ _ _ t3, ?_, ?_⟩
  · rw [← t2]; exact (h.1 _ (by omega)).1
  · rw [← t4]; exact (h.1 _ (by omega)).1
  · rw [← t5]; exact (h.1 _ (by omega)).2
def wg_IA (S : wg_Sh) (a n : Nat) : Prop := wg_id S a 10 ∧ S.2.1 a = n
theorem cl0 : wg_cls 0 RX0 TX0 tyX0 := ⟨by decide, rfl, inX0, tyX0_ok, nmX0⟩
theorem cl1 : wg_cls 1 RX1 TX1 tyX1 := ⟨by decide, rfl, inX1, tyX1_ok, nmX1⟩
theorem cl2 : wg_cls 2 RX2 TX2 tyX2 := ⟨by decide, rfl, inX2, tyX2_ok, nmX2⟩
theorem cl3 : wg_cls 3 RX3 TX3 tyX3 := ⟨by decide, rfl, inX3, tyX3_ok, nmX3⟩
theorem cl4 : wg_cls 4 RX4 TX4 tyX4 := ⟨by decide, rfl, inX4, tyX4_ok, nmX4⟩
theorem cl5 : wg_cls 5 RX5 TX5 tyX5 := ⟨by decide, rfl, inX5, tyX5_ok, nmX5⟩
theorem cl6 : wg_cls 6 RX6 TX6 tyX6 := ⟨by decide, rfl, inX6, tyX6_ok, nmX6⟩
theorem cl7 : wg_cls 7 RX7 TX7 tyX7 := ⟨by decide, rfl, inX7, tyX7_ok, nmX7⟩
theorem cl8 : wg_cls 8 RX8 TX8 tyX8 := ⟨by decide, rfl, inX8, tyX8_ok, nmX8⟩
theorem cl9 : wg_cls 9 RX9 TX9 tyX9 := ⟨by decide, rfl, inX9, tyX9_ok, nmX9⟩
/-! ===== the methods that are called: their words ===== -/
theorem T_yJ0_length_8abf5 : wg_TV RJ0 yJ0_length_8abf5 cJ0_length_8abf5 1 (some .int) 0 := ⟨k_284, k_285, k_78, k_286, by decide +kernel⟩
theorem T_yJ0_coder_7d493 : wg_TV RJ0 yJ0_coder_7d493 cJ0_coder_7d493 1 (some .byte) 0 := ⟨k_288, k_289, k_78, k_290, by decide +kernel⟩
theorem T_yJ0_charAt_5068e : wg_TV RJ0 yJ0_charAt_5068e cJ0_charAt_5068e 2 (some .char) 1 := ⟨k_294, k_295, k_78, k_296, by decide +kernel⟩
theorem T_yJ0_isLatin1_aae02 : wg_TV RJ0 yJ0_isLatin1_aae02 cJ0_isLatin1_aae02 1 (some .boolean) 0 := ⟨k_298, k_299, k_78, k_300, by decide +kernel⟩
theorem T_yJ1_charAt_3b067 : wg_TS yJ1_charAt_3b067 cJ1_charAt_3b067 2 (some .char) 2 := ⟨k_302, k_79, k_303, by decide +kernel⟩
theorem T_yJ0_checkIndex_df160 : wg_TS yJ0_checkIndex_df160 cJ0_checkIndex_df160 2 none 2 := ⟨k_305, k_78, k_306, by decide +kernel⟩
theorem T_yJ3_checkIndex_8e157 : wg_TS yJ3_checkIndex_8e157 cJ3_checkIndex_8e157 3 (some .int) 3 := ⟨k_310, k_80, k_311, by decide +kernel⟩
theorem T_yJ2_charAt_3b067 : wg_TS yJ2_charAt_3b067 cJ2_charAt_3b067 2 (some .char) 2 := ⟨k_313, k_81, k_314, by decide +kernel⟩
theorem T_yJ2_checkIndex_2214a : wg_TS yJ2_checkIndex_2214a cJ2_checkIndex_2214a 2 none 2 := ⟨k_316, k_81, k_317, by decide +kernel⟩
theorem T_yJ2_length_9d52b : wg_TS yJ2_length_9d52b cJ2_length_9d52b 1 (some .int) 1 := ⟨k_319, k_81, k_320, by decide +kernel⟩
theorem T_yJ2_getChar_3b067 : wg_TS yJ2_getChar_3b067 cJ2_getChar_3b067 2 (some .char) 2 := ⟨k_323, k_81, k_324, by decide +kernel⟩
theorem T_yX5_put : wg_TV RX5 yX5_put cX5_put 2 (some .boolean) 1 := ⟨k_332, k_333, k_73, k_334, by decide +kernel⟩
theorem T_yX2_read : wg_TV RX2 yX2_read cX2_read 2 (some (.object "WindowsGive$Text")) 1 := ⟨k_336, k_337, k_74, k_338, by decide +kernel⟩
theorem T_yX5_cut : wg_TV RX5 yX5_cut cX5_cut 2 none 0 := ⟨k_340, k_341, k_73, k_342, by decide +kernel⟩
theorem T_yX5_skipBlanks : wg_TV RX5 yX5_skipBlanks cX5_skipBlanks 1 none 0 := ⟨k_345, k_0, k_73, k_346, by decide +kernel⟩
theorem T_yX5_cutOne : wg_TV RX5 yX5_cutOne cX5_cutOne 2 (some .int) 0 := ⟨k_349, k_1, k_73, k_350, by decide +kernel⟩
theorem T_yX5_isLetter : wg_TS yX5_isLetter cX5_isLetter 1 (some .boolean) 1 := ⟨k_352, k_73, k_353, by decide +kernel⟩
theorem T_yX5_cutWord : wg_TV RX5 yX5_cutWord cX5_cutWord 3 (some .int) 0 := ⟨k_356, k_2, k_73, k_357, by decide +kernel⟩
theorem T_yX5_spelling : wg_TS yX5_spelling cX5_spelling 1 (some (.object "java/lang/String")) 1 := ⟨k_359, k_73, k_360, by decide +kernel⟩
theorem T_yX5_stands : wg_TV RX5 yX5_stands cX5_stands 4 (some .boolean) 2 := ⟨k_375, k_3, k_73, k_376, by decide +kernel⟩
theorem T_yX5_isDigit : wg_TS yX5_isDigit cX5_isDigit 1 (some .boolean) 1 := ⟨k_380, k_73, k_381, by decide +kernel⟩
theorem T_yX5_cutNumber : wg_TV RX5 yX5_cutNumber cX5_cutNumber 3 (some .int) 0 := ⟨k_384, k_4, k_73, k_385, by decide +kernel⟩
theorem T_yX5_isSign : wg_TS yX5_isSign cX5_isSign 1 (some .boolean) 1 := ⟨k_387, k_73, k_388, by decide +kernel⟩
theorem T_yX2_readPart : wg_TV RX2 yX2_readPart cX2_readPart 4 none 3 := ⟨k_391, k_5, k_74, k_392, by decide +kernel⟩
theorem T_yX2_expect : wg_TV RX2 yX2_expect cX2_expect 3 none 2 := ⟨k_395, k_6, k_74, k_396, by decide +kernel⟩
theorem T_yX2_advance : wg_TV RX2 yX2_advance cX2_advance 2 none 1 := ⟨k_399, k_7, k_74, k_400, by decide +kernel⟩
theorem T_yX2_fail : wg_TV RX2 yX2_fail cX2_fail 2 none 1 := ⟨k_403, k_8, k_74, k_404, by decide +kernel⟩
theorem T_yX2_readOr : wg_TV RX2 yX2_readOr cX2_readOr 4 none 2 := ⟨k_407, k_9, k_74, k_408, by decide +kernel⟩
theorem T_yX2_readAnd : wg_TV RX2 yX2_readAnd cX2_readAnd 4 none 2 := ⟨k_411, k_10, k_74, k_412, by decide +kernel⟩
theorem T_yX2_readNot : wg_TV RX2 yX2_readNot cX2_readNot 4 none 2 := ⟨k_415, k_11, k_74, k_416, by decide +kernel⟩
theorem T_yX2_emit : wg_TV RX2 yX2_emit cX2_emit 3 none 2 := ⟨k_419, k_12, k_74, k_420, by decide +kernel⟩
theorem T_yX2_readSum : wg_TV RX2 yX2_readSum cX2_readSum 5 none 2 := ⟨k_423, k_13, k_74, k_424, by decide +kernel⟩
theorem T_yX2_readTerm : wg_TV RX2 yX2_readTerm cX2_readTerm 4 none 2 := ⟨k_427, k_14, k_74, k_428, by decide +kernel⟩
theorem T_yX2_readOne : wg_TV RX2 yX2_readOne cX2_readOne 3 none 2 := ⟨k_431, k_15, k_74, k_432, by decide +kernel⟩
theorem T_yJ7_copyOf_59c91 : wg_TS yJ7_copyOf_59c91 cJ7_copyOf_59c91 3 (some (.array .int)) 2 := ⟨k_436, k_83, k_437, by decide +kernel⟩
theorem T_yJ9_min_7cf53 : wg_TS yJ9_min_7cf53 cJ9_min_7cf53 2 (some .int) 2 := ⟨k_446, k_84, k_447, by decide +kernel⟩
theorem T_yX3_add : wg_TV RX3 yX3_add cX3_add 2 (some .int) 1 := ⟨k_465, k_466, k_75, k_467, by decide +kernel⟩
theorem T_yX5_empty : wg_TV RX5 yX5_empty cX5_empty 1 none 0 := ⟨k_469, k_470, k_73, k_471, by decide +kernel⟩
theorem T_yX8_set : wg_TV RX8 yX8_set cX8_set 5 (some .int) 3 := ⟨k_510, k_511, k_70, k_512, by decide +kernel⟩
theorem T_yX8_told : wg_TV RX8 yX8_told cX8_told 3 (some .int) 2 := ⟨k_514, k_515, k_70, k_516, by decide +kernel⟩
theorem T_yX8_isDay : wg_TS yX8_isDay cX8_isDay 1 (some .boolean) 1 := ⟨k_518, k_70, k_519, by decide +kernel⟩
theorem T_yX0_has : wg_TV RX0 yX0_has cX0_has 2 (some .boolean) 1 := ⟨k_521, k_522, k_71, k_523, by decide +kernel⟩
theorem T_yX1_tell : wg_TV RX1 yX1_tell cX1_tell 2 (some .int) 1 := ⟨k_525, k_526, k_72, k_527, by decide +kernel⟩
theorem T_yX1_leads : wg_TV RX1 yX1_leads cX1_leads 1 (some .int) 0 := ⟨k_529, k_530, k_72, k_531, by decide +kernel⟩
theorem T_yX8_fits : wg_TS yX8_fits cX8_fits 2 (some .boolean) 2 := ⟨k_533, k_70, k_534, by decide +kernel⟩
theorem T_yX8_isRoom : wg_TS yX8_isRoom cX8_isRoom 1 (some .boolean) 1 := ⟨k_536, k_70, k_537, by decide +kernel⟩
theorem T_yX1_change : wg_TV RX1 yX1_change cX1_change 3 none 2 := ⟨k_539, k_540, k_72, k_541, by decide +kernel⟩
theorem T_yX8_pane : wg_TV RX8 yX8_pane cX8_pane 9 (some .int) 3 := ⟨k_543, k_544, k_70, k_545, by decide +kernel⟩
theorem T_yX8_isKind : wg_TS yX8_isKind cX8_isKind 1 (some .boolean) 1 := ⟨k_547, k_70, k_548, by decide +kernel⟩
theorem T_yX8_gives : wg_TV RX8 yX8_gives cX8_gives 5 (some .int) 3 := ⟨k_551, k_552, k_70, k_553, by decide +kernel⟩
theorem T_yX8_isSort : wg_TS yX8_isSort cX8_isSort 1 (some .boolean) 1 := ⟨k_555, k_70, k_556, by decide +kernel⟩
theorem T_yX1_on : wg_TV RX1 yX1_on cX1_on 2 (some .int) 1 := ⟨k_558, k_559, k_72, k_560, by decide +kernel⟩
theorem T_yX1_passes : wg_TV RX1 yX1_passes cX1_passes 3 (some .boolean) 2 := ⟨k_562, k_563, k_72, k_564, by decide +kernel⟩
theorem T_yX1_lets : wg_TV RX1 yX1_lets cX1_lets 3 (some .boolean) 2 := ⟨k_569, k_16, k_72, k_570, by decide +kernel⟩
theorem T_yX8_feed : wg_TV RX8 yX8_feed cX8_feed 2 (some .int) 1 := ⟨k_572, k_573, k_70, k_574, by decide +kernel⟩
theorem T_yX8_text : wg_TV RX8 yX8_text cX8_text 2 (some .int) 0 := ⟨k_576, k_577, k_70, k_578, by decide +kernel⟩
theorem T_yX8_force : wg_TV RX8 yX8_force cX8_force 3 (some .int) 1 := ⟨k_580, k_581, k_70, k_582, by decide +kernel⟩
theorem T_yX8_panes : wg_TV RX8 yX8_panes cX8_panes 6 (some .int) 4 := ⟨k_584, k_585, k_70, k_586, by decide +kernel⟩
theorem T_yX8_isSpot : wg_TS yX8_isSpot cX8_isSpot 1 (some .boolean) 1 := ⟨k_588, k_70, k_589, by decide +kernel⟩
theorem T_yX7_search : wg_TV RX7 yX7_search cX7_search 7 none 4 := ⟨k_591, k_592, k_76, k_593, by decide +kernel⟩
theorem T_yJ7_fill_53178 : wg_TS yJ7_fill_53178 cJ7_fill_53178 4 none 2 := ⟨k_596, k_83, k_597, by decide +kernel⟩
theorem T_yX7_nearest : wg_TV RX7 yX7_nearest cX7_nearest 4 (some .int) 0 := ⟨k_600, k_17, k_76, k_601, by decide +kernel⟩
theorem T_yX7_leave : wg_TV RX7 yX7_leave cX7_leave 10 none 4 := ⟨k_604, k_18, k_76, k_605, by decide +kernel⟩
theorem T_yX7_shorten : wg_TV RX7 yX7_shorten cX7_shorten 3 none 2 := ⟨k_608, k_19, k_76, k_609, by decide +kernel⟩
theorem T_yX3_worth : wg_TV RX3 yX3_worth cX3_worth 8 (some .int) 5 := ⟨k_612, k_613, k_75, k_614, by decide +kernel⟩
theorem T_yX3_reckon : wg_TV RX3 yX3_reckon cX3_reckon 8 (some .int) 2 := ⟨k_619, k_20, k_75, k_620, by decide +kernel⟩
theorem T_yX6_start : wg_TV RX6 yX6_start cX6_start 2 (some .int) 1 := ⟨k_622, k_623, k_82, k_624, by decide +kernel⟩
theorem T_yX6_end : wg_TV RX6 yX6_end cX6_end 2 (some .int) 1 := ⟨k_626, k_627, k_82, k_628, by decide +kernel⟩
theorem T_yX3_nameOf : wg_TV RX3 yX3_nameOf cX3_nameOf 2 (some .int) 1 := ⟨k_631, k_21, k_75, k_632, by decide +kernel⟩
theorem T_yX3_truth : wg_TS yX3_truth cX3_truth 1 (some .int) 1 := ⟨k_634, k_75, k_635, by decide +kernel⟩
theorem T_yX3_joined : wg_TS yX3_joined cX3_joined 3 (some .int) 3 := ⟨k_637, k_75, k_638, by decide +kernel⟩
theorem T_yJ9_max_7cf53 : wg_TS yJ9_max_7cf53 cJ9_max_7cf53 2 (some .int) 2 := ⟨k_641, k_84, k_642, by decide +kernel⟩
theorem T_yX8_cost : wg_TV RX8 yX8_cost cX8_cost 4 (some .int) 3 := ⟨k_647, k_648, k_70, k_649, by decide +kernel⟩
theorem T_yX8_earliest : wg_TV RX8 yX8_earliest cX8_earliest 4 (some .int) 3 := ⟨k_651, k_652, k_70, k_653, by decide +kernel⟩
theorem T_yX7_reach : wg_TV RX7 yX7_reach cX7_reach 7 none 4 := ⟨k_655, k_656, k_76, k_657, by decide +kernel⟩
theorem T_yX7_passAll : wg_TV RX7 yX7_passAll cX7_passAll 8 (some .boolean) 3 := ⟨k_660, k_22, k_76, k_661, by decide +kernel⟩
theorem T_yX1_firstOut : wg_TV RX1 yX1_firstOut cX1_firstOut 4 (some .int) 2 := ⟨k_663, k_664, k_72, k_665, by decide +kernel⟩
theorem T_yX8_loop : wg_TV RX8 yX8_loop cX8_loop 4 (some .int) 2 := ⟨k_668, k_669, k_70, k_670, by decide +kernel⟩
theorem T_yX7_fewestBackTo : wg_TV RX7 yX7_fewestBackTo cX7_fewestBackTo 9 (some .int) 3 := ⟨k_672, k_673, k_76, k_674, by decide +kernel⟩
theorem T_yX8_spots : wg_TV RX8 yX8_spots cX8_spots 5 (some .int) 2 := ⟨k_677, k_678, k_70, k_679, by decide +kernel⟩
theorem T_yX8_brick : wg_TV RX8 yX8_brick cX8_brick 5 (some .int) 4 := ⟨k_681, k_682, k_70, k_683, by decide +kernel⟩
theorem T_yX8_fewestToBrick : wg_TV RX8 yX8_fewestToBrick cX8_fewestToBrick 7 (some .int) 3 := ⟨k_686, k_23, k_70, k_687, by decide +kernel⟩
theorem T_yX7_comes : wg_TV RX7 yX7_comes cX7_comes 6 (some .boolean) 5 := ⟨k_689, k_690, k_76, k_691, by decide +kernel⟩
theorem T_yJ6_bitCount_0f7a4 : wg_TS yJ6_bitCount_0f7a4 cJ6_bitCount_0f7a4 1 (some .int) 1 := ⟨k_694, k_87, k_695, by decide +kernel⟩
theorem T_yX8_neededAlone : wg_TV RX8 yX8_neededAlone cX8_neededAlone 6 (some .int) 3 := ⟨k_701, k_24, k_70, k_702, by decide +kernel⟩
theorem T_yX8_seen : wg_TV RX8 yX8_seen cX8_seen 8 (some .int) 4 := ⟨k_704, k_705, k_70, k_706, by decide +kernel⟩
theorem T_yX8_refusalOfLook : wg_TV RX8 yX8_refusalOfLook cX8_refusalOfLook 6 (some .int) 5 := ⟨k_709, k_25, k_70, k_710, by decide +kernel⟩
theorem T_yX8_isSheet : wg_TS yX8_isSheet cX8_isSheet 1 (some .boolean) 1 := ⟨k_712, k_70, k_713, by decide +kernel⟩
theorem T_yX4_isMissing : wg_TV RX4 yX4_isMissing cX4_isMissing 1 (some .boolean) 0 := ⟨k_715, k_716, k_77, k_717, by decide +kernel⟩
theorem T_yX8_firstOther : wg_TV RX8 yX8_firstOther cX8_firstOther 5 (some .int) 3 := ⟨k_720, k_26, k_70, k_721, by decide +kernel⟩
theorem T_yX0_shows : wg_TV RX0 yX0_shows cX0_shows 3 (some .int) 2 := ⟨k_723, k_724, k_71, k_725, by decide +kernel⟩
theorem T_yX8_fittingShifts : wg_TV RX8 yX8_fittingShifts cX8_fittingShifts 6 (some .int) 3 := ⟨k_731, k_27, k_70, k_732, by decide +kernel⟩
theorem T_yX1_become : wg_TV RX1 yX1_become cX1_become 2 none 1 := ⟨k_734, k_735, k_72, k_736, by decide +kernel⟩
theorem T_yX8_fittingKinds : wg_TV RX8 yX8_fittingKinds cX8_fittingKinds 6 (some .int) 3 := ⟨k_739, k_28, k_70, k_740, by decide +kernel⟩
theorem T_yX8_lookNext : wg_TV RX8 yX8_lookNext cX8_lookNext 12 (some .int) 4 := ⟨k_742, k_743, k_70, k_744, by decide +kernel⟩
theorem T_yX8_unlikeShown : wg_TV RX8 yX8_unlikeShown cX8_unlikeShown 6 (some .int) 3 := ⟨k_747, k_29, k_70, k_748, by decide +kernel⟩
theorem T_yX8_film : wg_TV RX8 yX8_film cX8_film 7 (some .int) 4 := ⟨k_750, k_751, k_70, k_752, by decide +kernel⟩
theorem T_yX4_become : wg_TV RX4 yX4_become cX4_become 3 none 2 := ⟨k_754, k_755, k_77, k_756, by decide +kernel⟩
theorem T_yX4_put : wg_TV RX4 yX4_put cX4_put 3 none 2 := ⟨k_759, k_760, k_77, k_761, by decide +kernel⟩
theorem T_yX8_water : wg_TV RX8 yX8_water cX8_water 3 (some .int) 2 := ⟨k_763, k_764, k_70, k_765, by decide +kernel⟩
theorem T_yX8_flood : wg_TV RX8 yX8_flood cX8_flood 8 (some .int) 2 := ⟨k_768, k_30, k_70, k_769, by decide +kernel⟩
theorem T_yX8_wettest : wg_TV RX8 yX8_wettest cX8_wettest 6 (some .int) 2 := ⟨k_774, k_775, k_70, k_776, by decide +kernel⟩
theorem T_yX8_views : wg_TV RX8 yX8_views cX8_views 8 (some .int) 3 := ⟨k_778, k_779, k_70, k_780, by decide +kernel⟩
theorem T_yX8_fillPrices : wg_TV RX8 yX8_fillPrices cX8_fillPrices 4 none 1 := ⟨k_783, k_31, k_70, k_784, by decide +kernel⟩
theorem T_yX8_priceTogether : wg_TV RX8 yX8_priceTogether cX8_priceTogether 4 (some .int) 1 := ⟨k_787, k_32, k_70, k_788, by decide +kernel⟩
theorem T_yX8_holds : wg_TS yX8_holds cX8_holds 2 (some .boolean) 2 := ⟨k_790, k_70, k_791, by decide +kernel⟩
theorem T_yX8_digitsOf : wg_TS yX8_digitsOf cX8_digitsOf 3 (some .int) 1 := ⟨k_793, k_70, k_794, by decide +kernel⟩
theorem T_yX8_drawn : wg_TV RX8 yX8_drawn cX8_drawn 3 (some .int) 2 := ⟨k_796, k_797, k_70, k_798, by decide +kernel⟩
theorem T_yX8_drawnWater : wg_TV RX8 yX8_drawnWater cX8_drawnWater 5 (some .int) 2 := ⟨k_801, k_33, k_70, k_802, by decide +kernel⟩
theorem T_yX8_chance : wg_TV RX8 yX8_chance cX8_chance 8 (some .long) 5 := ⟨k_805, k_806, k_70, k_807, by decide +kernel⟩
theorem T_yX8_commonDivisor : wg_TS yX8_commonDivisor cX8_commonDivisor 6 (some .int) 2 := ⟨k_811, k_70, k_812, by decide +kernel⟩
theorem T_yX8_image : wg_TV RX8 yX8_image cX8_image 1 (some .int) 0 := ⟨k_814, k_815, k_70, k_816, by decide +kernel⟩
theorem T_yX0_become : wg_TV RX0 yX0_become cX0_become 3 none 1 := ⟨k_818, k_819, k_71, k_820, by decide +kernel⟩
theorem T_yX8_back : wg_TV RX8 yX8_back cX8_back 1 (some .int) 0 := ⟨k_824, k_825, k_70, k_826, by decide +kernel⟩
theorem T_yX8_count : wg_TV RX8 yX8_count cX8_count 2 (some .int) 1 := ⟨k_828, k_829, k_70, k_830, by decide +kernel⟩
theorem T_yX0_weatherTogether : wg_TV RX0 yX0_weatherTogether cX0_weatherTogether 3 (some .int) 0 := ⟨k_832, k_833, k_71, k_834, by decide +kernel⟩
theorem T_yX8_sheet : wg_TV RX8 yX8_sheet cX8_sheet 4 (some .int) 3 := ⟨k_836, k_837, k_70, k_838, by decide +kernel⟩
theorem T_yX8_isRowSort : wg_TS yX8_isRowSort cX8_isRowSort 1 (some .boolean) 1 := ⟨k_840, k_70, k_841, by decide +kernel⟩
theorem T_yX8_cell : wg_TV RX8 yX8_cell cX8_cell 5 (some .int) 3 := ⟨k_843, k_844, k_70, k_845, by decide +kernel⟩
theorem T_yX4_has : wg_TV RX4 yX4_has cX4_has 2 (some .boolean) 1 := ⟨k_847, k_848, k_77, k_849, by decide +kernel⟩
theorem T_yX8_copy : wg_TV RX8 yX8_copy cX8_copy 8 (some .int) 5 := ⟨k_851, k_852, k_70, k_853, by decide +kernel⟩
theorem T_yX4_hasRun : wg_TV RX4 yX4_hasRun cX4_hasRun 3 (some .boolean) 2 := ⟨k_855, k_856, k_77, k_857, by decide +kernel⟩
theorem T_yX8_weathers : wg_TV RX8 yX8_weathers cX8_weathers 9 (some .int) 4 := ⟨k_860, k_861, k_70, k_862, by decide +kernel⟩
theorem T_yX8_taken : wg_TV RX8 yX8_taken cX8_taken 4 (some .int) 2 := ⟨k_865, k_866, k_70, k_867, by decide +kernel⟩
theorem T_yX8_isUnder : wg_TS yX8_isUnder cX8_isUnder 4 (some .boolean) 2 := ⟨k_869, k_70, k_870, by decide +kernel⟩
theorem T_yX9_spell : wg_TV RX9 yX9_spell cX9_spell 10 none 9 := ⟨k_881, k_34, k_86, k_882, by decide +kernel⟩
theorem T_yX9_set : wg_TV RX9 yX9_set cX9_set 5 (some .int) 3 := ⟨k_1017, k_1018, k_86, k_1019, by decide +kernel⟩
theorem T_yX9_in : wg_TS yX9_in cX9_in 6 (some .boolean) 3 := ⟨k_1022, k_86, k_1023, by decide +kernel⟩
theorem T_yX9_isDay : wg_TS yX9_isDay cX9_isDay 1 (some .boolean) 1 := ⟨k_1025, k_86, k_1026, by decide +kernel⟩
theorem T_yX9_isPane : wg_TV RX9 yX9_isPane cX9_isPane 2 (some .boolean) 1 := ⟨k_1030, k_35, k_86, k_1031, by decide +kernel⟩
theorem T_yX9_told : wg_TV RX9 yX9_told cX9_told 3 (some .int) 2 := ⟨k_1036, k_1037, k_86, k_1038, by decide +kernel⟩
theorem T_yX9_leads : wg_TV RX9 yX9_leads cX9_leads 2 (some .int) 1 := ⟨k_1042, k_36, k_86, k_1043, by decide +kernel⟩
theorem T_yX9_pane : wg_TV RX9 yX9_pane cX9_pane 4 (some .int) 3 := ⟨k_1045, k_1046, k_86, k_1047, by decide +kernel⟩
theorem T_yX9_isRoom : wg_TS yX9_isRoom cX9_isRoom 1 (some .boolean) 1 := ⟨k_1051, k_86, k_1052, by decide +kernel⟩
theorem T_yX9_gives : wg_TV RX9 yX9_gives cX9_gives 4 (some .int) 3 := ⟨k_1055, k_1056, k_86, k_1057, by decide +kernel⟩
theorem T_yX9_isSort : wg_TS yX9_isSort cX9_isSort 1 (some .boolean) 1 := ⟨k_1059, k_86, k_1060, by decide +kernel⟩
theorem T_yX9_on : wg_TV RX9 yX9_on cX9_on 4 (some .int) 2 := ⟨k_1064, k_37, k_86, k_1065, by decide +kernel⟩
theorem T_yX9_passes : wg_TV RX9 yX9_passes cX9_passes 5 (some .boolean) 3 := ⟨k_1068, k_38, k_86, k_1069, by decide +kernel⟩
theorem T_yX9_feed : wg_TV RX9 yX9_feed cX9_feed 2 (some .int) 1 := ⟨k_1071, k_1072, k_86, k_1073, by decide +kernel⟩
theorem T_yX9_text : wg_TV RX9 yX9_text cX9_text 2 (some .int) 0 := ⟨k_1076, k_1077, k_86, k_1078, by decide +kernel⟩
theorem T_yX9_read : wg_TV RX9 yX9_read cX9_read 6 (some .int) 2 := ⟨k_1081, k_39, k_86, k_1082, by decide +kernel⟩
theorem T_yX9_next : wg_TV RX9 yX9_next cX9_next 3 none 0 := ⟨k_1085, k_40, k_86, k_1086, by decide +kernel⟩
theorem T_yX9_byteAt : wg_TV RX9 yX9_byteAt cX9_byteAt 2 (some .int) 1 := ⟨k_1089, k_41, k_86, k_1090, by decide +kernel⟩
theorem T_yX9_isWord : wg_TV RX9 yX9_isWord cX9_isWord 9 (some .boolean) 8 := ⟨k_1098, k_42, k_86, k_1099, by decide +kernel⟩
theorem T_yX9_isLetter : wg_TV RX9 yX9_isLetter cX9_isLetter 3 (some .boolean) 2 := ⟨k_1102, k_43, k_86, k_1103, by decide +kernel⟩
theorem T_yX9_part : wg_TV RX9 yX9_part cX9_part 3 (some .int) 1 := ⟨k_1106, k_44, k_86, k_1107, by decide +kernel⟩
theorem T_yX9_fail : wg_TV RX9 yX9_fail cX9_fail 1 none 0 := ⟨k_1110, k_45, k_86, k_1111, by decide +kernel⟩
theorem T_yX9_either : wg_TV RX9 yX9_either cX9_either 3 (some .int) 0 := ⟨k_1114, k_46, k_86, k_1115, by decide +kernel⟩
theorem T_yX9_both : wg_TV RX9 yX9_both cX9_both 3 (some .int) 0 := ⟨k_1118, k_47, k_86, k_1119, by decide +kernel⟩
theorem T_yX9_not : wg_TV RX9 yX9_not cX9_not 4 (some .int) 0 := ⟨k_1122, k_48, k_86, k_1123, by decide +kernel⟩
theorem T_yX9_opens : wg_TV RX9 yX9_opens cX9_opens 1 (some .boolean) 0 := ⟨k_1126, k_49, k_86, k_1127, by decide +kernel⟩
theorem T_yX9_added : wg_TV RX9 yX9_added cX9_added 4 (some .int) 0 := ⟨k_1130, k_50, k_86, k_1131, by decide +kernel⟩
theorem T_yX9_term : wg_TV RX9 yX9_term cX9_term 2 (some .int) 0 := ⟨k_1134, k_51, k_86, k_1135, by decide +kernel⟩
theorem T_yX9_atom : wg_TV RX9 yX9_atom cX9_atom 2 (some .int) 0 := ⟨k_1138, k_52, k_86, k_1139, by decide +kernel⟩
theorem T_yX9_isSign : wg_TV RX9 yX9_isSign cX9_isSign 2 (some .boolean) 1 := ⟨k_1142, k_53, k_86, k_1143, by decide +kernel⟩
theorem T_yX9_name : wg_TV RX9 yX9_name cX9_name 1 (some .int) 0 := ⟨k_1146, k_54, k_86, k_1147, by decide +kernel⟩
theorem T_yX9_force : wg_TV RX9 yX9_force cX9_force 3 (some .int) 1 := ⟨k_1151, k_1152, k_86, k_1153, by decide +kernel⟩
theorem T_yX9_panes : wg_TV RX9 yX9_panes cX9_panes 5 (some .int) 4 := ⟨k_1155, k_1156, k_86, k_1157, by decide +kernel⟩
theorem T_yX9_isSpot : wg_TS yX9_isSpot cX9_isSpot 1 (some .boolean) 1 := ⟨k_1159, k_86, k_1160, by decide +kernel⟩
theorem T_yX9_spreads : wg_TV RX9 yX9_spreads cX9_spreads 6 none 3 := ⟨k_1164, k_55, k_86, k_1165, by decide +kernel⟩
theorem T_yX9_says : wg_TV RX9 yX9_says cX9_says 5 (some .int) 3 := ⟨k_1168, k_56, k_86, k_1169, by decide +kernel⟩
theorem T_yX9_within : wg_TS yX9_within cX9_within 3 (some .int) 3 := ⟨k_1171, k_86, k_1172, by decide +kernel⟩
theorem T_yX9_goesOn : wg_TV RX9 yX9_goesOn cX9_goesOn 8 (some .boolean) 3 := ⟨k_1176, k_57, k_86, k_1177, by decide +kernel⟩
theorem T_yX9_eases : wg_TV RX9 yX9_eases cX9_eases 3 (some .boolean) 2 := ⟨k_1180, k_58, k_86, k_1181, by decide +kernel⟩
theorem T_yX9_cost : wg_TV RX9 yX9_cost cX9_cost 4 (some .int) 3 := ⟨k_1183, k_1184, k_86, k_1185, by decide +kernel⟩
theorem T_yX9_earliest : wg_TV RX9 yX9_earliest cX9_earliest 5 (some .int) 3 := ⟨k_1187, k_1188, k_86, k_1189, by decide +kernel⟩
theorem T_yX9_loop : wg_TV RX9 yX9_loop cX9_loop 7 (some .int) 2 := ⟨k_1191, k_1192, k_86, k_1193, by decide +kernel⟩
theorem T_yX9_spots : wg_TV RX9 yX9_spots cX9_spots 5 (some .int) 2 := ⟨k_1195, k_1196, k_86, k_1197, by decide +kernel⟩
theorem T_yX9_brick : wg_TV RX9 yX9_brick cX9_brick 7 (some .int) 4 := ⟨k_1199, k_1200, k_86, k_1201, by decide +kernel⟩
theorem T_yX9_comesBut : wg_TV RX9 yX9_comesBut cX9_comesBut 5 (some .boolean) 4 := ⟨k_1204, k_59, k_86, k_1205, by decide +kernel⟩
theorem T_yX9_bitsOf : wg_TS yX9_bitsOf cX9_bitsOf 3 (some .int) 1 := ⟨k_1207, k_86, k_1208, by decide +kernel⟩
theorem T_yX9_seen : wg_TV RX9 yX9_seen cX9_seen 9 (some .int) 4 := ⟨k_1210, k_1211, k_86, k_1212, by decide +kernel⟩
theorem T_yX9_seenBad : wg_TV RX9 yX9_seenBad cX9_seenBad 4 (some .int) 3 := ⟨k_1215, k_60, k_86, k_1216, by decide +kernel⟩
theorem T_yX9_isSheet : wg_TS yX9_isSheet cX9_isSheet 1 (some .boolean) 1 := ⟨k_1218, k_86, k_1219, by decide +kernel⟩
theorem T_yX9_wrongAt : wg_TV RX9 yX9_wrongAt cX9_wrongAt 5 (some .int) 3 := ⟨k_1223, k_61, k_86, k_1224, by decide +kernel⟩
theorem T_yX9_shows : wg_TV RX9 yX9_shows cX9_shows 3 (some .int) 2 := ⟨k_1227, k_62, k_86, k_1228, by decide +kernel⟩
theorem T_yX9_shiftsOf : wg_TV RX9 yX9_shiftsOf cX9_shiftsOf 7 (some .int) 3 := ⟨k_1231, k_63, k_86, k_1232, by decide +kernel⟩
theorem T_yX9_lookNext : wg_TV RX9 yX9_lookNext cX9_lookNext 11 (some .int) 4 := ⟨k_1234, k_1235, k_86, k_1236, by decide +kernel⟩
theorem T_yX9_unlikeOn : wg_TV RX9 yX9_unlikeOn cX9_unlikeOn 7 (some .int) 3 := ⟨k_1239, k_64, k_86, k_1240, by decide +kernel⟩
theorem T_yX9_film : wg_TV RX9 yX9_film cX9_film 6 (some .int) 4 := ⟨k_1242, k_1243, k_86, k_1244, by decide +kernel⟩
theorem T_yX9_sheet : wg_TV RX9 yX9_sheet cX9_sheet 5 (some .int) 3 := ⟨k_1246, k_1247, k_86, k_1248, by decide +kernel⟩
theorem T_yX9_water : wg_TV RX9 yX9_water cX9_water 3 (some .int) 2 := ⟨k_1251, k_1252, k_86, k_1253, by decide +kernel⟩
theorem T_yX9_rains : wg_TV RX9 yX9_rains cX9_rains 4 none 1 := ⟨k_1256, k_65, k_86, k_1257, by decide +kernel⟩
theorem T_yX9_wettest : wg_TV RX9 yX9_wettest cX9_wettest 5 (some .int) 2 := ⟨k_1259, k_1260, k_86, k_1261, by decide +kernel⟩
theorem T_yX9_wetAll : wg_TV RX9 yX9_wetAll cX9_wetAll 3 (some .int) 0 := ⟨k_1264, k_66, k_86, k_1265, by decide +kernel⟩
theorem T_yX9_views : wg_TV RX9 yX9_views cX9_views 4 (some .int) 3 := ⟨k_1267, k_1268, k_86, k_1269, by decide +kernel⟩
theorem T_yX9_viewsFrom : wg_TV RX9 yX9_viewsFrom cX9_viewsFrom 7 none 5 := ⟨k_1272, k_67, k_86, k_1273, by decide +kernel⟩
theorem T_yX9_drawn : wg_TV RX9 yX9_drawn cX9_drawn 3 (some .int) 2 := ⟨k_1275, k_1276, k_86, k_1277, by decide +kernel⟩
theorem T_yX9_draws : wg_TV RX9 yX9_draws cX9_draws 5 (some .int) 2 := ⟨k_1280, k_68, k_86, k_1281, by decide +kernel⟩
theorem T_yX9_chance : wg_TV RX9 yX9_chance cX9_chance 14 (some .long) 5 := ⟨k_1284, k_1285, k_86, k_1286, by decide +kernel⟩
theorem T_yX9_image : wg_TV RX9 yX9_image cX9_image 2 (some .int) 0 := ⟨k_1291, k_1292, k_86, k_1293, by decide +kernel⟩
theorem T_yX9_back : wg_TV RX9 yX9_back cX9_back 2 (some .int) 0 := ⟨k_1295, k_1296, k_86, k_1297, by decide +kernel⟩
theorem T_yX9_count : wg_TV RX9 yX9_count cX9_count 4 (some .int) 1 := ⟨k_1299, k_1300, k_86, k_1301, by decide +kernel⟩
theorem T_yX9_cell : wg_TV RX9 yX9_cell cX9_cell 4 (some .int) 3 := ⟨k_1304, k_1305, k_86, k_1306, by decide +kernel⟩
theorem T_yX9_copy : wg_TV RX9 yX9_copy cX9_copy 9 (some .int) 5 := ⟨k_1308, k_1309, k_86, k_1310, by decide +kernel⟩
theorem T_yX9_weathers : wg_TV RX9 yX9_weathers cX9_weathers 8 (some .int) 4 := ⟨k_1312, k_1313, k_86, k_1314, by decide +kernel⟩
theorem T_yX9_taken : wg_TV RX9 yX9_taken cX9_taken 4 (some .int) 2 := ⟨k_1317, k_1318, k_86, k_1319, by decide +kernel⟩
theorem T_yX9_over : wg_TS yX9_over cX9_over 1 (some .int) 1 := ⟨k_1321, k_86, k_1322, by decide +kernel⟩
section WGROWS3
variable {p : Program} {l : Launch} {e : Env} {R : Room} {s : State} {m : MethodId} {args : Array Value} {below : List Frame} {meth : Method} {c : Code} {Q : State → Prop} {nL : Nat} {E : wg_Ev} {ad : Nat → Nat} {S : wg_Sh} {cells slots pc : Nat} {C : wg_C} {M : wg_M} {lv lv' : List (Nat × Value)} {st : List Value} {cc : ByteArray} {own : String}
theorem wg_aalS13 (X : wg_X p s m args meth c cc nL own E) {a b : Nat} {i : Int32} (ha : wg_id S a 13) {n : Nat} (hn : S.2.1 a = n) (hi : vp_in i n) (hr : S.1 a i.toNatClampNeg = some b) (d : decode cc pc = .ok (.aaload, 1)) (k : wg_G p l e R s m args below meth c Q nL E ad S cells slots (pc + 1) C M lv (.ref (ad b) :: st)) : wg_G p l e R s m args below meth c Q nL E ad S cells slots pc C M lv (.int i :: .ref (ad a) :: st) := wg_aald13 X ha hn hi d (by rw [hr]; exact k)
theorem wg_aalS14 (X : wg_X p s m args meth c cc nL own E) {a b : Nat} {i : Int32} (ha : wg_id S a 14) {n : Nat} (hn : S.2.1 a = n) (hi : vp_in i n) (hr : S.1 a i.toNatClampNeg = some b) (d : decode cc pc = .ok (.aaload, 1)) (k : wg_G p l e R s m args below meth c Q nL E ad S cells slots (pc + 1) C M lv (.ref (ad b) :: st)) : wg_G p l e R s m args below meth c Q nL E ad S cells slots pc C M lv (.int i :: .ref (ad a) :: st) := wg_aald14 X ha hn hi d (by rw [hr]; exact k)
theorem wg_aalS15 (X : wg_X p s m args meth c cc nL own E) {a b : Nat} {i : Int32} (ha : wg_id S a 15) {n : Nat} (hn : S.2.1 a = n) (hi : vp_in i n) (hr : S.1 a i.toNatClampNeg = some b) (d : decode cc pc = .ok (.aaload, 1)) (k : wg_G p l e R s m args below meth c Q nL E ad S cells slots (pc + 1) C M lv (.ref (ad b) :: st)) : wg_G p l e R s m args below meth c Q nL E ad S cells slots pc C M lv (.int i :: .ref (ad a) :: st) := wg_aald15 X ha hn hi d (by rw [hr]; exact k)
end WGROWS3
theorem wg_tout {x : Int32} (lo hi : Int) (h : ∀ k : Nat, lo + k ≤ hi → x ≠ Int32.ofInt (lo + k)) (hl : -2147483648 ≤ lo) (hh : hi < 2147483648) : x.toInt < lo ∨ hi < x.toInt := by
  by_cases h1 : x.toInt < lo
  · exact Or.inl h1
  · by_cases h2 : hi < x.toInt
    · exact Or.inr h2
    · exfalso
      have hk := h (x.toInt - lo).toNat (by omega)
      apply hk
      rw [show lo + ((x.toInt - lo).toNat : Int) = x.toInt by omega]
      exact (Int32.ofInt_toInt x).symm
