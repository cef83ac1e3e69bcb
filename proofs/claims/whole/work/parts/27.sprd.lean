/-! READING what a state becomes -/
theorem live_diff {V U : VS} {c q k : Nat} (h : live U c q k) (e0 : U 0 0 0 = V 0 0 0) : live V c q k ∨ (c = 2 ∧ q < V 0 0 0 ∧ V 3 q 0 ≤ k ∧ k < U 3 q 0) ∨ (7 ≤ c ∧ c ≤ 10 ∧ q < V 0 0 0 ∧ V 6 q 0 ≤ k ∧ k < U 6 q 0) ∨ (11 ≤ c ∧ c ≤ 14 ∧ q = 0 ∧ V 0 0 1 ≤ k ∧ k < U 0 0 1) ∨ (15 ≤ c ∧ c ≤ 18 ∧ q = 0 ∧ V 0 0 2 ≤ k ∧ k < U 0 0 2) ∨ (23 ≤ c ∧ c ≤ 27 ∧ q = 0 ∧ V 0 0 3 ≤ k ∧ k < U 0 0 3) := by
  unfold live at h
  rw [e0] at h
  rcases h with h | h | h | h | h | h | h | h | h
  · exact Or.inl (Or.inl h)
  · exact Or.inl (Or.inr (Or.inl h))
  · by_cases hk : k < V 3 q 0
    · exact Or.inl (Or.inr (Or.inr (Or.inl ⟨h.1, h.2.1, hk⟩)))
    · exact Or.inr (Or.inl ⟨h.1, h.2.1, Nat.le_of_not_lt hk, h.2.2⟩)
  · exact Or.inl (Or.inr (Or.inr (Or.inr (Or.inl h))))
  · by_cases hk : k < V 6 q 0
    · exact Or.inl (Or.inr (Or.inr (Or.inr (Or.inr (Or.inl ⟨h.1, h.2.1, h.2.2.1, hk⟩)))))
    · exact Or.inr (Or.inr (Or.inl ⟨h.1, h.2.1, h.2.2.1, Nat.le_of_not_lt hk, h.2.2.2⟩))
  · by_cases hk : k < V 0 0 1
    · exact Or.inl (Or.inr (Or.inr (Or.inr (Or.inr (Or.inr (Or.inl ⟨h.1, h.2.1, h.2.2.1, hk⟩))))))
    · exact Or.inr (Or.inr (Or.inr (Or.inl ⟨h.1, h.2.1, h.2.2.1, Nat.le_of_not_lt hk, h.2.2.2⟩)))
  · by_cases hk : k < V 0 0 2
    · exact Or.inl (Or.inr (Or.inr (Or.inr (Or.inr (Or.inr (Or.inr (Or.inl ⟨h.1, h.2.1, h.2.2.1, hk⟩)))))))
    · exact Or.inr (Or.inr (Or.inr (Or.inr (Or.inl ⟨h.1, h.2.1, h.2.2.1, Nat.le_of_not_lt hk, h.2.2.2⟩))))
  · exact Or.inl (Or.inr (Or.inr (Or.inr (Or.inr (Or.inr (Or.inr (Or.inr (Or.inl h))))))))
  · by_cases hk : k < V 0 0 3
    · exact Or.inl (Or.inr (Or.inr (Or.inr (Or.inr (Or.inr (Or.inr (Or.inr (Or.inr ⟨h.1, h.2.1, h.2.2.1, hk⟩))))))))
    · exact Or.inr (Or.inr (Or.inr (Or.inr (Or.inr ⟨h.1, h.2.1, h.2.2.1, Nat.le_of_not_lt hk, h.2.2.2⟩))))
/-- no more than before -/
theorem live_sub {V U : VS} {c q k : Nat} (h : live U c q k) (e0 : U 0 0 0 = V 0 0 0) (e3 : U 3 q 0 ≤ V 3 q 0) (e6 : U 6 q 0 ≤ V 6 q 0) (e1 : U 0 0 1 ≤ V 0 0 1) (e2 : U 0 0 2 ≤ V 0 0 2) (e4 : U 0 0 3 ≤ V 0 0 3) : live V c q k := by
  rcases live_diff h e0 with h | h | h | h | h | h
  · exact h
  · omega
  · omega
  · omega
  · omega
  · omega
theorem lput_of {L : LT} {c p i a b d : Nat} (h : L a b d) : lput L c p i a b d := Or.inr h
section
variable {V : VS} {p v f c q k : Nat}
theorem hadV_o (h : c ≠ 21) (h2 : c ≠ 22) : hadV V p v c q k = V c q k := by
  unfold hadV
  split <;> exact vset_ne (by omega)
theorem hadV_1 : hadV V p v 21 q 0 = if v < 20 ∧ q = p then V 21 p 0 ||| 2 ^ v else V 21 q 0 := by
  unfold hadV
  by_cases e : v < 20
  · rw [if_pos e, vset_at]
    simp only [e, true_and, and_true]
  · rw [if_neg e, vset_ne (by omega)]
    simp only [e, false_and, if_false]
theorem hadV_2 : hadV V p v 22 q 0 = if 20 ≤ v ∧ q = p then V 22 p 0 ||| 2 ^ (v - 20) else V 22 q 0 := by
  unfold hadV
  by_cases e : v < 20
  · rw [if_pos e, vset_ne (by omega), if_neg (by omega)]
  · rw [if_neg e, vset_at]
    have : 20 ≤ v := by omega
    simp only [this, true_and, and_true]
theorem giveV_o (h : ¬ (6 ≤ c ∧ c ≤ 10)) (h2 : c ≠ 21) (h3 : c ≠ 22) : giveV V p v f c q k = V c q k := by
  unfold giveV
  rw [hadV_o h2 h3]
  simp (disch := omega) only [vset_ne]
theorem giveV_6 : giveV V p v f 6 q 0 = if q = p then V 6 p 0 + 1 else V 6 q 0 := by
  unfold giveV
  rw [hadV_o (by decide) (by decide)]
  by_cases e : q = p
  · rw [vset_eq ⟨rfl, e, rfl⟩, if_pos e]
  · simp (disch := omega) only [vset_ne, if_neg]
theorem giveV_n (h : ¬ (q = p ∧ k = V 6 p 0)) (h1 : c ≠ 6) (h2 : c ≠ 21) (h3 : c ≠ 22) : giveV V p v f c q k = V c q k := by
  unfold giveV
  rw [hadV_o h2 h3]
  simp (disch := omega) only [vset_ne]
theorem giveV_7 : giveV V p v f 7 p (V 6 p 0) = v := by
  unfold giveV
  rw [hadV_o (by decide) (by decide)]
  simp (disch := omega) only [vset_ne, vset_eq]
theorem giveV_8 : giveV V p v f 8 p (V 6 p 0) = f := by
  unfold giveV
  rw [hadV_o (by decide) (by decide)]
  simp (disch := omega) only [vset_ne, vset_eq]
theorem giveV_9 : giveV V p v f 9 p (V 6 p 0) = V 0 0 4 + V 20 0 1 := by
  unfold giveV
  rw [hadV_o (by decide) (by decide)]
  simp (disch := omega) only [vset_ne, vset_eq]
theorem giveV_10 : giveV V p v f 10 p (V 6 p 0) = V 20 0 0 := by
  unfold giveV
  rw [hadV_o (by decide) (by decide)]
  simp (disch := omega) only [vset_ne, vset_eq]
theorem giveV_21 : giveV V p v f 21 q 0 = if v < 20 ∧ q = p then V 21 p 0 ||| 2 ^ v else V 21 q 0 := by
  unfold giveV
  rw [hadV_1]
  simp (disch := omega) only [vset_ne]
theorem giveV_22 : giveV V p v f 22 q 0 = if 20 ≤ v ∧ q = p then V 22 p 0 ||| 2 ^ (v - 20) else V 22 q 0 := by
  unfold giveV
  rw [hadV_2]
  simp (disch := omega) only [vset_ne]
theorem live_give (h : live (giveV V p v f) c q k) : lput (lput (lput (lput (lput (live V) 7 p (V 6 p 0)) 8 p (V 6 p 0)) 9 p (V 6 p 0)) 10 p (V 6 p 0)) 6 p 0 c q k := by
  rcases live_diff h (giveV_o (by decide) (by decide) (by decide)) with h | h | h | h | h | h
  · exact lput_of (lput_of (lput_of (lput_of (lput_of h))))
  · rw [giveV_o (by decide) (by decide) (by decide)] at h
    omega
  · rw [giveV_6] at h
    by_cases e : q = p
    · subst e
      rw [if_pos rfl] at h
      have : c = 7 ∨ c = 8 ∨ c = 9 ∨ c = 10 := by omega
      have e2 : k = V 6 q 0 := by omega
      subst e2
      rcases this with rfl | rfl | rfl | rfl
      · exact lput_of (lput_of (lput_of (lput_of (Or.inl ⟨rfl, rfl, rfl⟩))))
      · exact lput_of (lput_of (lput_of (Or.inl ⟨rfl, rfl, rfl⟩)))
      · exact lput_of (lput_of (Or.inl ⟨rfl, rfl, rfl⟩))
      · exact lput_of (Or.inl ⟨rfl, rfl, rfl⟩)
    · rw [if_neg e] at h
      omega
  · rw [giveV_o (by decide) (by decide) (by decide)] at h
    omega
  · rw [giveV_o (by decide) (by decide) (by decide)] at h
    omega
  · rw [giveV_o (by decide) (by decide) (by decide)] at h
    omega
end
