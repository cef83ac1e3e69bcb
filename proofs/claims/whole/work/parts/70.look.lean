/-! THE LOOK; a 10 .. a 14: lines of the hands, of the luck, of the post, what can be undone, what is picked -/
def lookR (V : VS) (a : Nat → Int32) (v : Int32) : Int32 :=
  if v = nI 0 then nI (V 0 0 0) else if v = nI 1 then nI (V 0 0 1) else if v = nI 2 then nI (V 0 0 4) else if v = nI 3 then nI (V 0 0 2) else if v = nI 4 then nI (sumF (heldG V (-1)) (V 0 0 0)) else if v = nI 5 then nI (V 0 0 3)
  else if v = nI 6 then nI (V 0 0 8) else if v = nI 7 then nI (V 0 0 5) else if v = nI 8 then nI (V 0 0 6) else if v = nI 9 then nI (V 0 0 7) else if v = nI 10 then a 10 else if v = nI 11 then a 11 else if v = nI 12 then a 12 else if v = nI 13 then a 13 else if v = nI 14 then a 14
  else if v = nI 20 then nI (V 20 0 0) else if v = nI 21 then nI (V 20 0 1) else if v = nI 22 then nI (V 20 0 2) else if v = nI 23 then nI (V 20 0 3) else -1
theorem in2x {v : Int32} (h : ¬ v < nI 20) (h2 : ¬ nI 24 ≤ v) : v = nI 20 ∨ v = nI 21 ∨ v = nI 22 ∨ v = nI 23 := by
  have kn : ¬ v < 0 := fun z => h (Int32.lt_of_lt_of_le z (by decide : (0 : Int32) ≤ nI 20))
  obtain ⟨j, hj, rfl⟩ := nI_ofN kn
  rw [nI_ltI hj (by decide)] at h
  rw [nI_leI (by decide) hj] at h2
  have : j = 20 ∨ j = 21 ∨ j = 22 ∨ j = 23 := by omega
  rcases this with rfl | rfl | rfl | rfl
  · exact Or.inl rfl
  · exact Or.inr (Or.inl rfl)
  · exact Or.inr (Or.inr (Or.inl rfl))
  · exact Or.inr (Or.inr (Or.inr rfl))
theorem c_look {μ : Mm} {V : VS} {a : Nat → Int32} (h : HC μ 1 V) (a0 : μ.1 167 6 = a 10) (a1 : μ.1 173 6 = a 11) (a2 : μ.1 179 1 = a 12) (a3 : μ.1 0 8 = a 13) (a4 : μ.1 181 1 = a 14) (v : Int32) : Nine_look v μ = some (lookR V a v) := by
  have j : (v < nI 20 ∨ nI 24 ≤ v) → Nine_look_j25 v μ = some (lookR V a v) := fun hv => by
    have n0 : ¬ v = nI 20 := fun z => by rw [z] at hv; revert hv; decide
    have n1 : ¬ v = nI 21 := fun z => by rw [z] at hv; revert hv; decide
    have n2 : ¬ v = nI 22 := fun z => by rw [z] at hv; revert hv; decide
    have n3 : ¬ v = nI 23 := fun z => by rw [z] at hv; revert hv; decide
    have e1 : μ.1 3 4 = _ := h.vn
    have e3 : μ.1 8 5 = _ := h.wn
    have e5 : μ.1 14 5 = _ := h.bn
    unfold Nine_look_j25 lookR
    rw [h.P, e1, h.dy, e3, c_held h, e5, h.st, h.fr, h.cu, h.lo, a0, a1, a2, a3, a4, if_neg n0, if_neg n1, if_neg n2, if_neg n3]
    simp only [bnd_eq, some_ite]
  unfold Nine_look
  by_cases c1 : v < nI 20
  · rw [if_pos c1, j (Or.inl c1)]
  · rw [if_neg c1]
    by_cases c2 : nI 24 ≤ v
    · rw [if_pos c2, j (Or.inr c2)]
    · have r : ∀ k, k < 4 → μ.1 20 k = nI (V 20 0 k) := fun k hk => h.ru hk
      rw [if_neg c2]
      rcases in2x c1 c2 with rfl | rfl | rfl | rfl
      · show some (μ.1 20 0) = _
        rw [r 0 (by decide)]
        rfl
      · show some (μ.1 20 1) = _
        rw [r 1 (by decide)]
        rfl
      · show some (μ.1 20 2) = _
        rw [r 2 (by decide)]
        rfl
      · show some (μ.1 20 3) = _
        rw [r 3 (by decide)]
        rfl
theorem m_look {ν : Mm} {V : VS} {a : Nat → Int32} (h : HM ν 0 V) (a0 : ν.1 13 0 = a 10) (a1 : ν.1 13 1 = a 11) (a2 : ν.1 0 43 = a 12) (a3 : ν.1 0 3 = a 13) (a4 : ν.1 0 17 = a 14) (v : Int32) : M_look v ν = some (lookR V a v, sti ν 0 0 (nI 0)) := by
  have h' := h.told (nI 0)
  have b0 : (sti ν 0 0 (nI 0)).1 13 0 = a 10 := a0
  have b1 : (sti ν 0 0 (nI 0)).1 13 1 = a 11 := a1
  have b2 : (sti ν 0 0 (nI 0)).1 0 43 = a 12 := a2
  have b3 : (sti ν 0 0 (nI 0)).1 0 3 = a 13 := a3
  have b4 : (sti ν 0 0 (nI 0)).1 0 17 = a 14 := a4
  have q0 := h'.P
  have q1 := h'.vn
  have q2 := h'.dy
  have q3 := h'.wn
  have q4 := m_held h' (-1)
  have q5 := h'.bn
  have q6 := h'.st
  have q7 := h'.fr
  have q8 := h'.cu
  have q9 := h'.lo
  have s0 : (sti ν 0 0 (nI 0)).1 0 13 + nI 9 = nI (V 20 0 0) := by
    rw [h'.r0]
    exact Int32.sub_add_cancel _ _
  have s1 : (sti ν 0 0 (nI 0)).1 0 14 + nI 9 = nI (V 20 0 1) := by
    rw [h'.r1]
    exact Int32.sub_add_cancel _ _
  have s2 : (sti ν 0 0 (nI 0)).1 0 15 = nI (V 20 0 2) := h'.2.2.2.elim (fun z => z.2) (fun z => absurd z.1 (by decide))
  have s3 := h'.r3
  unfold M_look lookR
  rw [lt_eq]
  simp only [chv_nI (show 6 < 712 by decide) (by decide), chv_nI (show 0 < 712 by decide) (by decide), chv_nI (show 471 < 712 by decide) (by decide), chv_nI (show 2 < 712 by decide) (by decide), chv_nI (show 1 < 712 by decide) (by decide), chv_nI (show 3 < 712 by decide) (by decide), chv_nI (show 4 < 712 by decide) (by decide), chv_nI (show 5 < 712 by decide) (by decide), chv_nI (show 0 < 2 by decide) (by decide), chv_nI (show 1 < 2 by decide) (by decide), ix_nI (show 6 < 2 ^ 31 by decide), ix_nI (show 0 < 2 ^ 31 by decide), ix_nI (show 471 < 2 ^ 31 by decide), ix_nI (show 2 < 2 ^ 31 by decide), ix_nI (show 1 < 2 ^ 31 by decide), ix_nI (show 3 < 2 ^ 31 by decide), ix_nI (show 4 < 2 ^ 31 by decide), ix_nI (show 5 < 2 ^ 31 by decide), q0, q1, q2, q3, q4, q5, q6, q7, q8, q9, b0, b1, b2, b3, b4, s0, s1, s2, s3, bnd_eq, pair_ite, z_eq]
