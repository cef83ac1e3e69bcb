/-! THE CLASS: letters in a row -/
theorem c_ladd {o n m : Nat} {μ : Mm} (h0 : μ.1 o 5 = nI m) (hm : m < n) (hn : n < 2 ^ 31) (l1 : sL SC (o + 1) = n) (l2 : sL SC (o + 2) = n) (l3 : sL SC (o + 3) = n) (l4 : sL SC (o + 4) = n) (l5 : sL SC (o + 5) = n) (a b c d e : Int32) :
    Letters_add o a b c d e μ = some (sti (sti (sti (sti (sti (sti μ (o + 1) m a) (o + 2) m b) (o + 3) m c) (o + 4) m d) (o + 5) m e) o 5 (nI (m + 1))) := by
  unfold Letters_add Letters_isFull
  simp (disch := omega) only [lt_eq, bnd_eq, bni_eq, bnd2_eq, nI_ltE, nI_leE, nI_eqE, eq_0, lt_0E, le_0, z_lt, z_le, eq_m1, m1_eq, nI_add, nI_mulE, ix_nI, ix_0, chv_nI, chk_ok, chk_T, sti_e, sti_n, sti_2, stl_1, stl_e, stl_n, if_true, if_false, not_true_eq_false, not_false_eq_true, eq_self, Bool.false_eq_true, Bool.true_eq_false, h0, l1, l2, l3, l4, l5, hm]
theorem c_lfull {o n m : Nat} {μ : Mm} (h0 : μ.1 o 5 = nI m) (hm : m ≤ n) (hn : n < 2 ^ 31) (l1 : sL SC (o + 1) = n) : Letters_isFull o μ = some (if m = n then nI 1 else nI 0) := by
  unfold Letters_isFull
  by_cases e : m = n
  · have : ¬ m < n := by omega
    simp (disch := omega) only [lt_eq, bnd_eq, bni_eq, bnd2_eq, nI_ltE, nI_leE, nI_eqE, eq_0, lt_0E, le_0, z_lt, z_le, eq_m1, m1_eq, nI_add, nI_mulE, ix_nI, ix_0, chv_nI, chk_ok, chk_T, sti_e, sti_n, sti_2, stl_1, stl_e, stl_n, if_true, if_false, not_true_eq_false, not_false_eq_true, eq_self, Bool.false_eq_true, Bool.true_eq_false, h0, l1, e, this, Nat.lt_irrefl]
  · have : m < n := by omega
    simp (disch := omega) only [lt_eq, bnd_eq, bni_eq, bnd2_eq, nI_ltE, nI_leE, nI_eqE, eq_0, lt_0E, le_0, z_lt, z_le, eq_m1, m1_eq, nI_add, nI_mulE, ix_nI, ix_0, chv_nI, chk_ok, chk_T, sti_e, sti_n, sti_2, stl_1, stl_e, stl_n, if_true, if_false, not_true_eq_false, not_false_eq_true, eq_self, Bool.false_eq_true, Bool.true_eq_false, h0, l1, e, this]
theorem c_lhas {o i m : Nat} {μ : Mm} (h0 : μ.1 o 5 = nI m) (hi : i < m) (hm : m < 2 ^ 31) : Letters_has o (nI i) μ = some (nI 1) := by
  unfold Letters_has
  have : ¬ m ≤ i := by omega
  simp (disch := omega) only [lt_eq, bnd_eq, bni_eq, bnd2_eq, nI_ltE, nI_leE, nI_eqE, eq_0, lt_0E, le_0, z_lt, z_le, eq_m1, m1_eq, nI_add, nI_mulE, ix_nI, ix_0, chv_nI, chk_ok, chk_T, sti_e, sti_n, sti_2, stl_1, stl_e, stl_n, if_true, if_false, not_true_eq_false, not_false_eq_true, eq_self, Bool.false_eq_true, Bool.true_eq_false, h0, this]
/-- the i-th of m is out of the row -/
def remM (o m i : Nat) (μ : Mm) : Mm := (fun a k => if (o + 1 ≤ a ∧ a ≤ o + 5) ∧ i ≤ k ∧ k < m - 1 then μ.1 a (k + 1) else if a = o ∧ k = 5 then nI (m - 1) else μ.1 a k, μ.2)
theorem c_lrem {o n m i : Nat} {μ : Mm} (h0 : μ.1 o 5 = nI m) (hi : i < m) (hm : m ≤ n) (hn : n < 2 ^ 30) (l1 : sL SC (o + 1) = n) (l2 : sL SC (o + 2) = n) (l3 : sL SC (o + 3) = n) (l4 : sL SC (o + 4) = n) (l5 : sL SC (o + 5) = n) :
    Letters_remove o (nI i) μ = some (remM o m i μ) := by
  unfold Letters_remove
  rw [c_lhas h0 hi (by omega)]
  have hc : cpok (nI (i + 1)) (nI i) (nI (m - 1 - i)) n n := by
    refine ⟨nI_pos (by omega), nI_pos (by omega), nI_pos (by omega), ?_, ?_⟩
    · rw [ix_nI (by omega), ix_nI (by omega)]
      omega
    · rw [ix_nI (by omega), ix_nI (by omega)]
      omega
  have e : nI m - nI 1 = nI (m - 1) := nI_subE (by omega)
  have e2 : nI (m - 1) - nI i = nI (m - 1 - i) := nI_subE (by omega)
  have key : ∀ (μ2 : Mm) (a : Nat), μ2.1 o 5 = nI (m - 1) → (cpy μ2 a (i + 1) a i (m - 1 - i)).1 o 5 = nI (m - 1) ∨ a = o := by
    intro μ2 a h
    by_cases e3 : o = a
    · exact Or.inr e3.symm
    · refine Or.inl ?_
      show (if o = a then _ else μ2.1 o 5) = _
      rw [if_neg e3, h]
  have k0 : (sti μ o 5 (nI (m - 1))).1 o 5 = nI (m - 1) := sti_e ⟨rfl, rfl⟩
  have k1 := (key _ (o + 1) k0).resolve_right (by omega)
  have k2 := (key _ (o + 2) k1).resolve_right (by omega)
  have k3 := (key _ (o + 3) k2).resolve_right (by omega)
  have k4 := (key _ (o + 4) k3).resolve_right (by omega)
  have n1 : ¬ (nI 1 : Int32) = 0 := by decide
  simp (disch := omega) only [lt_eq, bnd_eq, bni_eq, bnd2_eq, h0, e, e2, l1, l2, l3, l4, l5, nI_add, ix_nI, n1, if_false, k0, k1, k2, k3, k4, chc_ok hc]
  congr 1
  refine Prod.ext ?_ rfl
  funext a k
  show _ = if _ then _ else _
  simp only [cpy, va_cpy, sti]
  clear k0 k1 k2 k3 k4 key hc e e2 h0
  by_cases hk : i ≤ k ∧ k < m - 1
  · have e3 : i + 1 + (k - i) = k + 1 := by omega
    rw [e3]
    by_cases ha : o + 1 ≤ a ∧ a ≤ o + 5
    · have : a = o + 1 ∨ a = o + 2 ∨ a = o + 3 ∨ a = o + 4 ∨ a = o + 5 := by omega
      rcases this with rfl | rfl | rfl | rfl | rfl <;> simp (disch := omega) only [if_pos, if_neg, if_true, if_false]
    · by_cases a0 : a = o
      · subst a0
        simp (disch := omega) only [if_neg, if_true, true_and, if_false]
      · simp (disch := omega) only [if_neg]
  · by_cases ha : o + 1 ≤ a ∧ a ≤ o + 5
    · have : a = o + 1 ∨ a = o + 2 ∨ a = o + 3 ∨ a = o + 4 ∨ a = o + 5 := by omega
      rcases this with rfl | rfl | rfl | rfl | rfl <;> simp (disch := omega) only [if_pos, if_neg, if_true, if_false]
    · by_cases a0 : a = o
      · subst a0
        simp (disch := omega) only [if_neg, if_true, true_and, if_false]
      · simp (disch := omega) only [if_neg]
