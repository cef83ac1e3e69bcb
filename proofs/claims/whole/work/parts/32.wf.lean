/-! WHAT HOLDS OF EVERY STATE holds behind each step -/
theorem WF.give {V : VS} {d p v f : Nat} (hw : WF d V) (hp : p < V 0 0 0) (h3 : V 6 p 0 < 3) (hv : v < V 0 0 1) : WF d (giveV V p v f) := by
  obtain ⟨w0, w1, w2, w3, w4, w5, w6, w7, w8, w9, w10⟩ := hw
  have o : ∀ {c q k : Nat}, ¬ (6 ≤ c ∧ c ≤ 10) → c ≠ 21 → c ≠ 22 → giveV V p v f c q k = V c q k := fun a b c => giveV_o a b c
  unfold WF W5 W6 W7 W8 W9 W10
  simp (disch := omega) only [o]
  refine ⟨w0, w1, w2, w3, w4, ?_, w6, ?_, w8, w9, w10⟩
  · intro q hq
    have h := w5 q hq
    rw [giveV_6, giveV_21, giveV_22]
    by_cases e : q = p
    · subst e
      have k1 : v < 20 → V 21 q 0 ||| 2 ^ v < 2 ^ 20 := fun z => Nat.or_lt_two_pow (by omega) (Nat.pow_lt_pow_right (by decide) z)
      have k2 : V 22 q 0 ||| 2 ^ (v - 20) < 2 ^ 20 := Nat.or_lt_two_pow (by omega) (Nat.pow_lt_pow_right (by decide) (by omega))
      by_cases ev : v < 20
      · have := k1 ev
        rw [if_pos rfl, if_pos ⟨ev, rfl⟩, if_neg (by omega)]
        omega
      · rw [if_pos rfl, if_neg (by omega), if_pos ⟨by omega, rfl⟩]
        omega
    · rw [if_neg e, if_neg (by omega), if_neg (by omega)]
      exact h
  · intro q k hq hk
    rw [giveV_6] at hk
    by_cases e : q = p ∧ k = V 6 p 0
    · obtain ⟨rfl, rfl⟩ := e
      rw [giveV_7, giveV_9, giveV_10]
      obtain ⟨z1, z2, z3, z4, z5, z6⟩ := w10
      exact ⟨hv, by omega, z2⟩
    · rw [giveV_n e (by decide) (by decide) (by decide), giveV_n e (by decide) (by decide) (by decide), giveV_n e (by decide) (by decide) (by decide)]
      refine w7 q k hq ?_
      by_cases e1 : q = p
      · subst e1
        rw [if_pos rfl] at hk
        omega
      · rw [if_neg e1] at hk
        exact hk
theorem WF.book {V : VS} {d v f t x : Nat} (hw : WF d V) : WF d (bookV V v f t x) := by
  obtain ⟨w0, w1, w2, w3, w4, w5, w6, w7, w8, w9, w10⟩ := hw
  have o : ∀ {c q k : Nat}, ¬ (23 ≤ c ∧ c ≤ 27) → ¬ (c = 0 ∧ k = 3) → bookV V v f t x c q k = V c q k := fun a b => bookV_o a b
  unfold WF W5 W6 W7 W8 W9 W10
  simp (disch := omega) only [o]
  refine ⟨w0, w1, w2, ?_, w4, w5, w6, w7, w8, w9, w10⟩
  rw [bookV_3]
  split <;> omega
theorem WF.lost {V : VS} {d k x : Nat} (hw : WF d V) (hk : 5 ≤ k) : WF d (vset V 0 0 k x) := by
  obtain ⟨w0, w1, w2, w3, w4, w5, w6, w7, w8, w9, w10⟩ := hw
  unfold WF W5 W6 W7 W8 W9 W10
  simp (disch := omega) only [vset_ne]
  exact ⟨w0, w1, w2, w3, w4, w5, w6, w7, w8, w9, w10⟩
theorem WF.rcb {V : VS} {d v f t : Nat} (hw : WF d V) (ht : t < V 0 0 0) (hv : v < V 0 0 1) : WF d (rcbV V v f t).1 := by
  unfold rcbV
  refine WF.book ?_
  unfold rcvV
  have := (hw.2.2.2.2.2.1 t ht).2.2.2.2.2.2.2.2.1
  split
  · exact hw
  · split
    · exact hw
    · split
      · exact hw.lost (by decide)
      · exact hw.give ht (by omega) hv
/-- what a coming letter leaves alone -/
theorem rcbV_o {V : VS} {v f t c q k : Nat} (h : ¬ (6 ≤ c ∧ c ≤ 10)) (h2 : c ≠ 21) (h3 : c ≠ 22) (h4 : ¬ (23 ≤ c ∧ c ≤ 27)) (h5 : ¬ (c = 0 ∧ (k = 3 ∨ k = 7))) : (rcbV V v f t).1 c q k = V c q k := by
  unfold rcbV
  show bookV _ _ _ _ _ c q k = _
  rw [bookV_o h4 (by omega)]
  unfold rcvV
  split
  · rfl
  · split
    · rfl
    · split
      · exact vset_ne (by omega)
      · exact giveV_o h h2 h3
theorem wmvV_o {V : VS} {s k c q j : Nat} (h : ¬ ((15 ≤ c ∧ c ≤ 18) ∧ j = s)) : wmvV V s k c q j = V c q j := if_neg (by omega)
theorem WF.wmv {V : VS} {d s k : Nat} (hw : WF d V) (hk : k < V 0 0 2) : WF d (wmvV V s k) := by
  obtain ⟨w0, w1, w2, w3, w4, w5, w6, w7, w8, w9, w10⟩ := hw
  have o : ∀ {c q j : Nat}, ¬ (15 ≤ c ∧ c ≤ 18) → wmvV V s k c q j = V c q j := fun a => wmvV_o (by omega)
  unfold WF W5 W6 W7 W8 W9 W10
  simp (disch := omega) only [o]
  refine ⟨w0, w1, w2, w3, w4, w5, w6, w7, w8, ?_, w10⟩
  intro i hi
  by_cases e : i = s
  · subst e
    unfold wmvV
    rw [if_pos ⟨by omega, rfl, rfl⟩, if_pos ⟨by omega, rfl, rfl⟩, if_pos ⟨by omega, rfl, rfl⟩, if_pos ⟨by omega, rfl, rfl⟩]
    exact w9 k hk
  · rw [wmvV_o (by omega), wmvV_o (by omega), wmvV_o (by omega), wmvV_o (by omega)]
    exact w9 i hi
section
variable {V : VS} {d : Nat}
theorem arvS_le (k : Nat) : (arvS V k).2.1 ≤ k := by
  induction k with
  | zero => exact Nat.le_refl _
  | succ k ih =>
    unfold arvS
    split
    · exact Nat.succ_le_succ ih
    · exact Nat.le_succ_of_le ih
/-- what the coming letters leave alone -/
theorem arvS_o (k : Nat) {c q j : Nat} (h : ¬ (6 ≤ c ∧ c ≤ 10)) (h2 : c ≠ 21) (h3 : c ≠ 22) (h4 : ¬ (23 ≤ c ∧ c ≤ 27)) (h5 : ¬ (c = 0 ∧ (j = 3 ∨ j = 7))) (h6 : ¬ (15 ≤ c ∧ c ≤ 18)) : (arvS V k).1 c q j = V c q j := by
  induction k with
  | zero => rfl
  | succ k ih =>
    unfold arvS
    split
    · exact (wmvV_o (by omega)).trans ih
    · exact (rcbV_o h h2 h3 h4 h5).trans ih
/-- those not looked at yet -/
theorem arvS_w (k : Nat) {c q j : Nat} (h : 15 ≤ c ∧ c ≤ 18) (hj : k ≤ j) : (arvS V k).1 c q j = V c q j := by
  induction k generalizing j with
  | zero => rfl
  | succ k ih =>
    have hs := arvS_le (V := V) k
    unfold arvS
    split
    · exact (wmvV_o (by omega)).trans (ih (by omega))
    · exact (rcbV_o (by omega) (by omega) (by omega) (by omega) (by omega)).trans (ih (by omega))
theorem arvS_wf (hw : WF d V) (k : Nat) (hk : k ≤ V 0 0 2) : WF d (arvS V k).1 := by
  induction k with
  | zero => exact hw
  | succ k ih =>
    have h := ih (by omega)
    have h9 := hw.2.2.2.2.2.2.2.2.2.1 k (by omega)
    unfold arvS
    split
    · exact h.wmv (by rw [arvS_o k (by omega) (by omega) (by omega) (by omega) (by omega) (by omega)]; omega)
    · refine h.rcb ?_ ?_
      · rw [arvS_o k (by omega) (by omega) (by omega) (by omega) (by omega) (by omega)]
        exact h9.2.2.1
      · rw [arvS_o k (by omega) (by omega) (by omega) (by omega) (by omega) (by omega)]
        exact h9.1
theorem WF.brg (hw : WF d V) : WF d (brgV V).1 := by
  have hs := arvS_le (V := V) (V 0 0 2)
  obtain ⟨w0, w1, w2, w3, w4, w5, w6, w7, w8, w9, w10⟩ := arvS_wf hw (V 0 0 2) (Nat.le_refl _)
  have e : (arvS V (V 0 0 2)).1 0 0 2 = V 0 0 2 := arvS_o _ (by omega) (by omega) (by omega) (by omega) (by omega) (by omega)
  unfold brgV WF W5 W6 W7 W8 W9 W10
  simp (disch := omega) only [vset_ne, vset_eq]
  refine ⟨w0, w1, by omega, w3, w4, w5, w6, w7, w8, ?_, w10⟩
  exact fun i hi => w9 i (by omega)
end
