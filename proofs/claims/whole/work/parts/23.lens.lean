/-! lengths of the rows of letters -/
theorem len_k (w o n : Nat) (h : sK SC w = 9) (ho : o < 165) (hn : (plT.getD 9 []).getD o 0 = n) : sL SC (w + o) = n := (pat_l h (by decide) (show o < (plT.getD 9 []).length from by rw [show (plT.getD 9 []).length = 165 from by decide +kernel]; exact ho)).trans hn
theorem len_way {w : Nat} (h : sK SC w = 9) : sL SC (w + 8) = 60 ∧ sL SC (w + 9) = 60 ∧ sL SC (w + 10) = 60 ∧ sL SC (w + 11) = 60 ∧ sL SC (w + 12) = 60 :=
  ⟨len_k w 8 60 h (by decide) (by decide +kernel), len_k w 9 60 h (by decide) (by decide +kernel), len_k w 10 60 h (by decide) (by decide +kernel), len_k w 11 60 h (by decide) (by decide +kernel), len_k w 12 60 h (by decide) (by decide +kernel)⟩
theorem len_p0 : ∀ p, p < 16 → ∀ j, j < 5 → (plT.getD 9 []).getD (25 + 9 * p + j) 0 = 3 := by decide +kernel
theorem len_per {w p j : Nat} (h : sK SC w = 9) (hp : p < 16) (hj : j < 5) : sL SC (w + (25 + 9 * p + j)) = 3 := len_k w (25 + 9 * p + j) 3 h (by omega) (len_p0 p hp j hj)
