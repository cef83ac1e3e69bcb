/-! A VERSION TOLD -/
def vrOK (V : VS) (a b : Int32) : Bool := inI a (nI 0) (nI 9) && (inI b (nI 0) (nI 1023) && decide (V 0 0 1 < 40))
theorem vrOK_no {V : VS} {a b : Int32} (h : ¬ (inI a (nI 0) (nI 9) = true ∧ inI b (nI 0) (nI 1023) = true ∧ V 0 0 1 < 40)) : vrOK V a b = false := by
  unfold vrOK
  by_cases e1 : inI a (nI 0) (nI 9) = true
  · by_cases e2 : inI b (nI 0) (nI 1023) = true
    · rw [decide_eq_false (fun z => h ⟨e1, e2, z⟩), Bool.and_false, Bool.and_false]
    · rw [show inI b (nI 0) (nI 1023) = false by simpa using e2, Bool.false_and, Bool.and_false]
  · rw [show inI a (nI 0) (nI 9) = false by simpa using e1, Bool.false_and]
theorem c_version {μ : Mm} {V : VS} (h : HC μ 1 V) (a b : Int32) : (vrOK V a b = false ∧ Nine_version a b μ = some (-1, μ)) ∨ (vrOK V a b = true ∧ ∃ μ2, Nine_version a b μ = some (nI (V 0 0 1), μ2) ∧ HC μ2 1 (verV V (ix a) (ix b) 0 0) ∧ Act μ μ2) := by
  have v40 := h.v40
  have eN : μ.1 3 4 = nI (V 0 0 1) := h.vn
  unfold Nine_version
  by_cases c1 : inI a (nI 0) (nI 9) = true
  · obtain ⟨i, hi, rfl⟩ := inI_some c1 (by decide)
    rw [if_neg (show ¬ nI i < 0 from (show ¬ nI i < nI 0 from nI_nlt (Nat.zero_le _) (by omega))), if_neg (nI_nlt hi (by decide))]
    by_cases c2 : inI b (nI 0) (nI 1023) = true
    · obtain ⟨j, hj, rfl⟩ := inI_some c2 (by decide)
      rw [if_neg (show ¬ nI j < 0 from (show ¬ nI j < nI 0 from nI_nlt (Nat.zero_le _) (by omega))), if_neg (nI_ge (by omega) (by decide))]
      unfold Versions_isFull
      rw [eN]
      by_cases c3 : V 0 0 1 < 40
      · right
        refine ⟨by unfold vrOK; rw [c1, c2, decide_eq_true c3]; rfl, ?_⟩
        have h2 : HC (sti μ 0 8 (nI 0)) 1 V := h.past _
        obtain ⟨μ2, g1, g2, g3⟩ := c_vadd h2 c3 i j 0 0 (fI := -1) (tI := -1) (by decide) (by decide)
        have g1 : Versions_add 3 (nI i) (nI j) (-1) (-1) (sti μ 0 8 (nI 0)) = some (nI (V 0 0 1), μ2) := g1
        rw [if_pos (nI_lt c3 (by decide)), bnd_eq, if_pos (by decide)]
        unfold Nine_forgetBefore
        rw [lt_eq, bnd_eq, g1, bnd2_eq, ix_nI (by omega), ix_nI (by omega)]
        have o0 : ∀ k, μ2.1 0 k = (sti μ 0 8 (nI 0)).1 0 k := (g3 0 (fun z => by have := z.1; omega)).1
        refine ⟨μ2, rfl, g2, ?_, fun k hk => ?_, ?_⟩
        · rw [o0, sti_1, if_pos ⟨rfl, rfl⟩]
        · rw [o0, sti_1, if_neg (fun z => hk z.2)]
        · exact (Out.rf.sti (E := fun o => o = 0 ∨ inW 1 o) (Or.inl rfl)).tr (g3.mono (fun o z => Or.inr z))
      · rw [if_neg (nI_nlt (by omega) (by omega)), bnd_eq, if_neg (by decide)]
        exact Or.inl ⟨vrOK_no (fun z => c3 z.2.2), rfl⟩
    · left
      refine ⟨vrOK_no (fun z => c2 z.2.1), ?_⟩
      have c2 := of_decide_eq_false (show inI b (nI 0) (nI 1023) = false by simpa using c2)
      by_cases z1 : b < 0
      · rw [if_pos z1]
      · obtain ⟨j, hj, rfl⟩ := nI_ofN z1
        have : 1024 ≤ j := by
          refine Classical.byContradiction fun y => c2 ⟨z1, ?_⟩
          exact nI_nlt (by omega) (by decide)
        rw [if_neg z1, if_pos (nI_le this hj)]
  · left
    refine ⟨vrOK_no (fun z => c1 z.1), ?_⟩
    have c1 := of_decide_eq_false (show inI a (nI 0) (nI 9) = false by simpa using c1)
    by_cases z1 : a < 0
    · rw [if_pos z1]
    · rw [if_neg z1, if_pos (Classical.byContradiction fun y => c1 ⟨z1, y⟩)]
theorem isO1_EA {o k : Nat} (h : isO 1 o k) : EA o k := Or.inl h
theorem m_version {ν : Mm} {V : VS} (h : HM ν 0 V) (a b : Int32) : (vrOK V a b = false ∧ M_version a b ν = some (-1, sti ν 0 0 (nI 0))) ∨ (vrOK V a b = true ∧ ∃ ν2, M_version a b ν = some (nI (V 0 0 1), ν2) ∧ HM ν2 0 (verV V (ix a) (ix b) 0 0) ∧ ν2.1 0 3 = nI 0 ∧ OutM EA ν ν2) := by
  have v40 := h.v40
  have h' := h.told (nI 0)
  have eN := h'.vn
  unfold M_version
  rw [lt_eq, m_isIn, bnd_eq]
  by_cases c1 : inI a (nI 0) (nI 9) = true
  · obtain ⟨i, hi, rfl⟩ := inI_some c1 (by decide)
    rw [if_pos c1, if_neg (by decide), m_isIn, bnd_eq]
    by_cases c2 : inI b (nI 0) (nI 1023) = true
    · obtain ⟨j, hj, rfl⟩ := inI_some c2 (by decide)
      rw [if_pos c2, if_neg (by decide), chv_nI (by decide) (by decide), ix_nI (by decide), eN]
      by_cases c3 : V 0 0 1 < 40
      · right
        refine ⟨by unfold vrOK; rw [c1, c2, decide_eq_true c3]; rfl, ?_⟩
        have h2 := h'.past (nI 0)
        obtain ⟨ν2, g1, g2, g3⟩ := m_comv h2 c3 i j 0 0 (fI := -1) (tI := -1) (by decide) (by decide)
        rw [if_neg (fun z => by have := (nI_eq (by omega) (by decide)).1 z; omega), lt_eq, g1, bnd2_eq, ix_nI (by omega), ix_nI (by omega)]
        refine ⟨ν2, rfl, g2, ?_, ?_⟩
        · rw [g3 0 3 (fun z => absurd (show (0 : Nat) = 1 from z) (by decide)), sti_1, if_pos ⟨rfl, rfl⟩]
        · exact ((OutM.rf.sti (E := EA) (Or.inr (Or.inr ⟨rfl, Or.inl rfl⟩))).sti (Or.inr (Or.inr ⟨rfl, Or.inr (Or.inl rfl)⟩))).tr (g3.mono (fun o k z => isO1_EA z))
      · rw [if_pos (by rw [show V 0 0 1 = 40 by omega])]
        exact Or.inl ⟨vrOK_no (fun z => c3 z.2.2), rfl⟩
    · rw [if_neg c2, if_pos (by decide)]
      exact Or.inl ⟨vrOK_no (fun z => c2 z.2.1), rfl⟩
  · rw [if_neg c1, if_pos (by decide)]
    exact Or.inl ⟨vrOK_no (fun z => c1 z.1), rfl⟩
