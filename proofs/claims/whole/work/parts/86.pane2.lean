theorem IK.mono {np nq nt : Nat} {C : wg_C} {M : wg_M} (h : IK np nt C M) (hq : np ≤ nq) : IK nq nt C M := by
  rcases h with h | ⟨h, kp, h1, h2⟩
  · exact Or.inl h
  · exact Or.inr ⟨h, kp, Nat.le_trans h1 hq, h2⟩
theorem paneC_r {C : wg_C} {n : Nat} {k w r : Int32} {a j : Nat} (h1 : a ≠ 4 + n) (h2 : a ≠ 1 ∨ j ≠ 2) : paneC C n k w r a j = C a j := by
  unfold paneC
  rcases h2 with h2 | h2
  · rw [up_r _ _ _ _ h2, up_r _ _ _ _ h1, up_r _ _ _ _ h1, up_r _ _ _ _ h1, up_r _ _ _ _ h1, up_r _ _ _ _ h1]
  · rw [up_k _ _ h2, up_r _ _ _ _ h1, up_r _ _ _ _ h1, up_r _ _ _ _ h1, up_r _ _ _ _ h1, up_r _ _ _ _ h1]
theorem paneM_r {M : wg_M} {n : Nat} {k w r : Int32} {a j : Nat} (h1 : a < 60 ∨ 64 < a ∨ j ≠ n) (h2 : a ≠ 55 ∨ j ≠ 13) : (paneM M n k w r).1 a j = M.1 a j := by
  unfold paneM
  have e : ∀ (L : wg_M) (v : Int32), (wg_sM L 55 13 v).1 a j = L.1 a j := fun L v => by
    rcases h2 with h2 | h2
    · exact sM_r _ _ _ _ h2
    · exact sM_k _ _ h2
  rw [e]
  have f : ∀ (L : wg_M) (b : Nat) (v : Int32), 60 ≤ b → b ≤ 64 → (wg_sM L b n v).1 a j = L.1 a j := fun L b v q q' => by
    by_cases g : j = n
    · exact sM_r _ _ _ _ (by omega)
    · exact sM_k _ _ g
  rw [f _ 64 _ (by omega) (by omega), f _ 63 _ (by omega) (by omega), f _ 62 _ (by omega) (by omega), f _ 61 _ (by omega) (by omega), f _ 60 _ (by omega) (by omega)]
theorem IHo.pane {np : Nat} {C : wg_C} {M : wg_M} (h : IHo np C M) {k w r : Int32} (hp : paneOk k w r = true) (h8 : np < 8) : IHo (np + 1) (paneC C np k w r) (paneM M np k w r) := by
  obtain ⟨h1, h2, h3, h4, h5, h6⟩ := h
  obtain ⟨p1, p2, p3⟩ := paneOk_iff.mp hp
  rw [rg_iff] at p1
  obtain ⟨w1, w2, w3⟩ := pane_num (w := w) (by omega)
  obtain ⟨r1, r2⟩ := pane_rm (r := r) (by omega)
  refine ⟨by omega, ?_, ?_, ?_, ?_, ?_⟩
  · unfold paneC
    rw [up_s, oN_t (by omega)]
  · unfold paneC paneM
    rw [up_s, sM_s]
  · intro d hd
    have := h4 d hd
    unfold IS at *
    rw [paneC_r (by omega) (by omega), paneM_r (by omega) (by omega)]
    exact this
  · intro p hp
    by_cases e : p = np
    · subst e
      unfold paneC
      rw [up_r _ _ _ _ (by omega), up_k _ _ (by decide), up_k _ _ (by decide), up_k _ _ (by decide), up_k _ _ (by decide), up_k _ _ (by decide)]
      exact h5 p hp
    · rw [paneC_r (by omega) (by omega)]
      exact h5 p hp
  · intro p hp
    by_cases e : p = np
    · subst e
      have c : ∀ j, j ≠ 0 → paneC C p k w r (4 + p) j = wg_up (wg_up (wg_up (wg_up (wg_up C (4 + p) 1 k) (4 + p) 2 (w / 100)) (4 + p) 3 (w - w / 100 * 100 - 9)) (4 + p) 4 (r / 10)) (4 + p) 5 (r - r / 10 * 10) (4 + p) j := fun j _ => up_r _ _ _ _ (by omega)
      have c1 : paneC C p k w r (4 + p) 1 = k := by rw [c 1 (by decide), up_k _ _ (by decide), up_k _ _ (by decide), up_k _ _ (by decide), up_k _ _ (by decide), up_s]
      have c2 : paneC C p k w r (4 + p) 2 = w / 100 := by rw [c 2 (by decide), up_k _ _ (by decide), up_k _ _ (by decide), up_k _ _ (by decide), up_s]
      have c3 : paneC C p k w r (4 + p) 3 = w - w / 100 * 100 - 9 := by rw [c 3 (by decide), up_k _ _ (by decide), up_k _ _ (by decide), up_s]
      have c4 : paneC C p k w r (4 + p) 4 = r / 10 := by rw [c 4 (by decide), up_k _ _ (by decide), up_s]
      have c5 : paneC C p k w r (4 + p) 5 = r - r / 10 * 10 := by rw [c 5 (by decide), up_s]
      unfold IP PRg
      rw [c1, c2, c3, c4, c5, w1, w2, r1, r2]
      unfold paneM
      refine ⟨?_, ?_, ?_, ?_, ?_, ?_⟩
      · rw [sM_r _ _ _ _ (by decide), sM_r _ _ _ _ (by decide), sM_r _ _ _ _ (by decide), sM_r _ _ _ _ (by decide), sM_r _ _ _ _ (by decide), sM_s]
      · rw [sM_r _ _ _ _ (by decide), sM_r _ _ _ _ (by decide), sM_r _ _ _ _ (by decide), sM_r _ _ _ _ (by decide), sM_s]
      · rw [sM_r _ _ _ _ (by decide), sM_r _ _ _ _ (by decide), sM_r _ _ _ _ (by decide), sM_s]
      · rw [sM_r _ _ _ _ (by decide), sM_r _ _ _ _ (by decide), sM_s]
      · rw [sM_r _ _ _ _ (by decide), sM_s]
      · omega
    · have := h6 p (by omega)
      unfold IP at *
      have c : ∀ j, paneC C np k w r (4 + p) j = C (4 + p) j := fun j => paneC_r (by omega) (by omega)
      rw [paneM_r (by omega) (by omega), paneM_r (by omega) (by omega), paneM_r (by omega) (by omega), paneM_r (by omega) (by omega), paneM_r (by omega) (by omega), c, c, c, c, c]
      exact this
theorem h_pane : H_pane wInv := by
  intro S C M h hw a1 a2 a3
  obtain ⟨hs, np, nt, h1, h2, h3, h4, h5, h6, h7⟩ := id h
  rw [s8_pane h1, s9_pane h1]
  by_cases ho : paneOk a1 a2 a3 = true
  · by_cases h8 : np < 8
    · rw [if_pos ho, if_pos ho, if_pos h8, if_pos h8]
      refine ⟨_, _, _, rfl, rfl, hs, np + 1, nt, h1.pane ho h8, ?_, ?_, ?_, ?_, ?_, ?_⟩
      · exact IK.mono (h2.keep h1.1 (paneC_r (by omega) (by omega)) (fun a k q q' => paneC_r (by omega) (by omega)) (fun p q => paneM_r (by omega) (by omega)) (fun a k q q' => paneM_r (by omega) (by omega)) (paneM_r (by omega) (by omega)) (paneM_r (by omega) (by omega))) (by omega)
      · exact h3.keep (paneC_r (by omega) (by omega)) (paneM_r (by omega) (by omega))
      · exact h4.keep (paneC_r (by omega) (by omega)) (fun k => paneC_r (by omega) (by omega)) (paneM_r (by omega) (by omega)) (fun k => paneM_r (by omega) (by omega))
      · intro s q
        exact (h5 s q).keep (fun k => paneC_r (by omega) (by omega)) (fun k => paneC_r (by omega) (by omega)) (paneM_r (by omega) (by omega)) (paneM_r (by omega) (by omega)) (paneM_r (by omega) (by omega)) (fun i _ => paneM_r (by omega) (by omega))
      · rw [paneM_r (by omega) (by omega)]; exact h6
      · exact h7.keep (paneC_r (by omega) (by omega)) (fun a k q => paneC_r (by omega) (by omega)) (paneM_r (by omega) (by omega)) (fun k => paneM_r (by omega) (by omega)) (fun k => paneM_r (by omega) (by omega))
    · rw [if_pos ho, if_pos ho, if_neg h8, if_neg h8]
      exact ⟨_, _, _, rfl, rfl, h⟩
  · rw [if_neg ho, if_neg ho]
    exact ⟨_, _, _, rfl, rfl, h⟩
