/-! THE START: both as made, beside each other -/
def mz0 : Mm := (fun _ _ => 0, fun _ _ => 0)
def V0 : VS := fun c _ i => if c = 20 ∧ i < 2 then 9 else 0
def D0 : TD := (((0, 0), fun _ => 0, fun _ => 0, fun _ => 0, fun _ => 0), ((0, 0), fun _ => 0, fun _ => 0, fun _ => 0, fun _ => 0), (0, fun _ _ => 1))
theorem V0_live {c p i : Nat} (h : live V0 c p i) : (c = 0 ∧ p = 0 ∧ i < 10) ∨ (c = 20 ∧ p = 0 ∧ i < 4) := by
  unfold live at h
  have e : ∀ c p i, c ≠ 20 → V0 c p i = 0 := fun c p i h => if_neg (fun z => h z.1)
  rw [e 0 0 0 (by decide), e 3 p 0 (by decide), e 6 p 0 (by decide), e 0 0 1 (by decide), e 0 0 2 (by decide), e 0 0 3 (by decide)] at h
  omega
theorem c0_a : ∀ i, i < 10 → (mf10 0 mz0).1 (1 + oC 0 0 i) (pC 0 i) = eC 0 0 := by decide +kernel
theorem c0_b : ∀ i, i < 4 → (mf10 0 mz0).1 (1 + oC 20 0 i) (pC 20 i) = eC 20 (if i < 2 then 9 else 0) := by decide +kernel
theorem c0_c : (mf10 0 mz0).1 167 5 = nI 0 ∧ (mf10 0 mz0).1 167 6 = nI 0 ∧ (mf10 0 mz0).1 173 5 = nI 0 ∧ (mf10 0 mz0).1 173 6 = nI 0 ∧ (mf10 0 mz0).1 179 1 = nI 0 ∧ (∀ k, k < 36 → (mf10 0 mz0).1 180 k = nI 1) ∧ (mf10 0 mz0).1 181 1 = nI 0 ∧ (mf10 0 mz0).1 0 8 = nI 0 ∧ (mf10 0 mz0).1 0 9 = nI 0 ∧ (mf10 0 mz0).1 0 6 = nI 0 ∧ (mf10 0 mz0).1 532 1 = nI 0 ∧ (mf10 0 mz0).1 532 2 = nI 0 ∧ (mf10 0 mz0).1 532 3 = -1 := by decide +kernel
theorem m0_a : ∀ i, i < 9 → (mf11 0 mz0).1 (mo 0 i) (pM 0 0 i) = eM 0 i 0 := by decide +kernel
theorem m0_b : ∀ i, i < 4 → i ≠ 2 → (mf11 0 mz0).1 (mo 20 i) (pM 20 0 i) = eM 20 i (if i < 2 then 9 else 0) := by decide +kernel
theorem m0_c : (mf11 0 mz0).1 13 0 = nI 0 ∧ (mf11 0 mz0).1 13 1 = nI 0 ∧ (mf11 0 mz0).1 0 43 = nI 0 ∧ (∀ k, k < 36 → (mf11 0 mz0).1 20 k + nI 1 = nI 1) ∧ (mf11 0 mz0).1 0 17 = nI 0 ∧ (mf11 0 mz0).1 0 3 = nI 0 ∧ (mf11 0 mz0).1 0 48 = nI 0 ∧ (mf11 0 mz0).1 0 21 = nI 0 ∧ (mf11 0 mz0).1 0 40 = nI 0 ∧ (mf11 0 mz0).1 0 41 = -1 ∧ (mf11 0 mz0).1 0 5 = nI 0 ∧ (mf11 0 mz0).1 0 15 = nI 0 := by decide +kernel
theorem wrdI_at {μ : Mm} {x : Nat} : ∀ n k, k < n → (wrdI μ x n).1 x k = nI (wR k)
  | n + 1, k, h => by
    show (sti (wrdI μ x n) x n (nI (wR n))).1 x k = _
    by_cases e : k = n
    · subst e
      exact sti_e ⟨rfl, rfl⟩
    · rw [sti_n (fun z => e z.2)]
      exact wrdI_at n k (by omega)
theorem V0_wf : WF 9999 V0 ∧ LV V0 := by
  have e : ∀ c p i, c ≠ 20 → V0 c p i = 0 := fun c p i h => if_neg (fun z => h z.1)
  unfold WF W5 W6 W7 W8 W9 W10 LV
  rw [e 0 0 0 (by decide), e 0 0 1 (by decide), e 0 0 2 (by decide), e 0 0 3 (by decide), e 0 0 4 (by decide)]
  refine ⟨⟨by decide, by decide, by decide, by decide, by decide, fun p h => absurd h (Nat.not_lt_zero _), fun p i h => absurd h (Nat.not_lt_zero _), fun p i h => absurd h (Nat.not_lt_zero _), fun v h => absurd h (Nat.not_lt_zero _), fun i h => absurd h (Nat.not_lt_zero _), by decide⟩, fun p i h => absurd h (Nat.not_lt_zero _)⟩
theorem D0_w : TW D0 := ⟨⟨by decide, by decide, fun i h => absurd h (Nat.not_lt_zero _), fun l h => absurd h (Nat.not_lt_zero _)⟩, ⟨by decide, by decide, fun i h => absurd h (Nat.not_lt_zero _), fun l h => absurd h (Nat.not_lt_zero _)⟩, fun a b _ _ => ⟨Nat.le_refl 1, show 1 ≤ 20 by decide⟩⟩
theorem Sim0 : Sim (mf10 0 mz0) (mf11 0 mz0) := by
  obtain ⟨a1, a2, a3, a4, a5, a6, a7, a8, a9, a10, a11, a12, a13⟩ := c0_c
  obtain ⟨b1, b2, b3, b4, b5, b6, b7, b8, b9, b10, b11, b12⟩ := m0_c
  have e0 : V0 0 0 0 = 0 := if_neg (fun z => absurd z.1 (by decide))
  refine ⟨V0, D0, 0, fun _ => 0, 0, fun _ => 0, 0, 0, fun _ => V0, ⟨⟨fun c p i h => ?_, by decide +kernel, fun p h => ?_⟩, ⟨fun c p i h => ?_, fun p h => ?_, b11, Or.inl ⟨rfl, b12⟩⟩, V0_wf.1, V0_wf.2⟩, ⟨⟨⟨⟨a1, a2, fun i h => absurd h (Nat.not_lt_zero _), fun l h => absurd h (Nat.not_lt_zero _)⟩, ⟨a3, a4, fun i h => absurd h (Nat.not_lt_zero _), fun l h => absurd h (Nat.not_lt_zero _)⟩, a5, fun a b ha hb => a6 _ (by omega)⟩, ⟨⟨b1, fun i h => absurd h (Nat.not_lt_zero _), fun l h => absurd h (Nat.not_lt_zero _)⟩, ⟨b2, fun i h => absurd h (Nat.not_lt_zero _), fun l h => absurd h (Nat.not_lt_zero _)⟩, b3, fun a b ha hb => b4 _ (by omega)⟩, D0_w, fun k hk => ?_⟩, ⟨⟨a11, fun i h => absurd h (Nat.not_lt_zero _)⟩, ⟨b8, fun i h => absurd h (Nat.not_lt_zero _)⟩, by decide, fun i h => absurd h (Nat.not_lt_zero _)⟩, ⟨a12.trans b9.symm, a13.trans b10.symm⟩, Or.inl ⟨a10, b7⟩⟩, ⟨⟨a7, fun i h => absurd h (Nat.not_lt_zero _)⟩, ⟨b5, fun i h => absurd h (Nat.not_lt_zero _)⟩, by decide, fun i h => absurd h (Nat.not_lt_zero _)⟩, ⟨a8, a9, by decide, by decide, fun j h => absurd h (Nat.not_lt_zero _)⟩, HisM.zero b6, fun j h => absurd h (Nat.not_lt_zero _), fun i j _ h => absurd h (Nat.not_lt_zero _)⟩
  · rcases V0_live h with ⟨rfl, rfl, hi⟩ | ⟨rfl, rfl, hi⟩
    · exact ⟨Or.inl ⟨rfl, rfl, hi⟩, fun _ => (c0_a i hi).trans (by rw [show V0 0 0 i = 0 from if_neg (fun z => absurd z.1 (by decide))])⟩
    · refine ⟨by unfold pot; omega, fun _ => (c0_b i hi).trans ?_⟩
      unfold V0
      by_cases c : i < 2
      · rw [if_pos c, if_pos ⟨rfl, c⟩]
      · rw [if_neg c, if_neg (fun z => c z.2)]
  · rw [e0] at h
    omega
  · rcases V0_live h.1 with ⟨rfl, rfl, hi⟩ | ⟨rfl, rfl, hi⟩
    · refine ⟨Or.inl ⟨rfl, rfl, hi⟩, fun z => (m0_a i (by unfold own3 at z; omega)).trans ?_⟩
      rw [show V0 0 0 i = 0 from if_neg (fun z => absurd z.1 (by decide))]
    · refine ⟨by unfold pot; omega, fun z => (m0_b i hi (by unfold own3 at z; omega)).trans ?_⟩
      unfold V0
      by_cases c : i < 2
      · rw [if_pos c, if_pos ⟨rfl, c⟩]
      · rw [if_neg c, if_neg (fun z => c z.2)]
  · rw [e0] at h
    omega
  · show (sti (wrdI mz0 12 97) 0 41 (-1)).1 12 k = _
    rw [sti_n (by omega)]
    exact wrdI_at 97 k hk
