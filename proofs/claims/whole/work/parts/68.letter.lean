/-! ONE LETTER -/
def hasLB (V : VS) (v i : Int32) : Bool := pnV V v && bnI (V 6 (ix v) 0) i
theorem hasLB_some {V : VS} {v i : Int32} (hP : V 0 0 0 ≤ 16) (h3 : ∀ p, p < V 0 0 0 → V 6 p 0 ≤ 3) (h : hasLB V v i = true) : ∃ p j, p < V 0 0 0 ∧ j < V 6 p 0 ∧ v = nI p ∧ i = nI j := by
  unfold hasLB at h
  rw [Bool.and_eq_true] at h
  obtain ⟨p, hp, rfl⟩ := pnV_some hP h.1
  have h2 := h.2
  rw [ix_nI (by omega)] at h2
  have := h3 p hp
  obtain ⟨j, hj, rfl⟩ := bnI_some (by omega) h2
  exact ⟨p, j, hp, hj, rfl, rfl⟩
theorem c_hasLet {μ : Mm} {V : VS} (h : HC μ 1 V) (v i : Int32) : World_hasLetter 1 v i μ = some (if hasLB V v i = true then nI 1 else nI 0) := by
  have P16 := h.P16
  unfold World_hasLetter hasLB
  rw [c_hasP h, bnd_eq]
  by_cases c1 : pnV V v = true
  · obtain ⟨p, hp, rfl⟩ := pnV_some P16 c1
    have h3 := h.h3 hp
    have ec := h.hc hp
    rw [if_pos (show inI (nI p) (nI 0) (nI (V 0 0 0) - nI 1) = true from c1), if_neg (by decide), chv_nI (by omega) (by decide), ix_nI (by omega), c_hasL ec (by omega), bnd_eq, c1, Bool.true_and]
    by_cases c2 : bnI (V 6 p 0) i = true
    · rw [if_pos c2, if_neg (by decide)]
    · rw [if_neg c2, if_pos (by decide)]
  · rw [if_neg (show ¬ inI v (nI 0) (nI (V 0 0 0) - nI 1) = true from c1), if_pos (by decide), show pnV V v = false by simpa using c1, Bool.false_and, if_neg (by decide)]
theorem m_hasLet {ν : Mm} {th : Nat} {V : VS} (h : HM ν th V) (v i : Int32) : M_hasLetter v i ν = some (if hasLB V v i = true then nI 1 else nI 0) := by
  have P16 := h.P16
  unfold M_hasLetter hasLB
  rw [m_isP h, bnd_eq]
  by_cases c1 : pnV V v = true
  · obtain ⟨p, hp, rfl⟩ := pnV_some P16 c1
    have h3 := h.h3 hp
    have ec := h.hc hp
    rw [if_pos c1, if_neg (by decide), nI_add, chv_nI (by omega) (by decide), ix_nI (by omega), ec, m_isIn, bnd_eq, c1, Bool.true_and, ix_nI (by omega)]
    by_cases c2 : bnI (V 6 p 0) i = true
    · rw [if_pos (show inI i (nI 0) (nI (V 6 p 0) - nI 1) = true from c2), if_neg (by decide), if_pos c2]
    · rw [if_neg (show ¬ inI i (nI 0) (nI (V 6 p 0) - nI 1) = true from c2), if_pos (by decide), if_neg c2]
  · rw [if_neg c1, if_pos (by decide), show pnV V v = false by simpa using c1, Bool.false_and, if_neg (by decide)]
def letR (V : VS) (T : TT) (v i k : Int32) : Int32 :=
  if hasLB V v i = true then
    (if k = nI 0 then nI (V 7 (ix v) (ix i)) else if k = nI 1 then nI (V 8 (ix v) (ix i)) - nI 1 else if k = nI 2 then nI (V 9 (ix v) (ix i)) else if k = nI 3 then nI (V 10 (ix v) (ix i))
    else if k = nI 4 then nI (T.1 (nmV V (ix v) (ix i))) else if k = nI 5 then nI (T.2.1 (nmV V (ix v) (ix i))) else if k = nI 6 then stampR V T (ix v) (V 10 (ix v) (ix i)) else -2)
  else -2
theorem apart_1 : apart 1 166 := by unfold apart; omega
theorem c_letter {μ : Mm} {V : VS} {T : TT} {d : Nat} (h : HC μ 1 V) (hw : WF d V) (hT : TC μ 166 T) (hB : TB T) (v i k : Int32) : ∃ μ2, Nine_letter v i k μ = some (letR V T v i k, μ2) ∧ HC μ2 1 V ∧ Out (EW 1 166) μ μ2 := by
  have P16 := h.P16
  unfold Nine_letter letR
  rw [c_hasLet h, bnd_eq]
  by_cases c1 : hasLB V v i = true
  · obtain ⟨p, j, hp, hj, rfl, rfl⟩ := hasLB_some P16 (fun p hp => h.h3 hp) c1
    have h3 := h.h3 hp
    have e0 : μ.1 (1 + (21 + 9 * p) + 4) j = _ := h.lv hp hj
    have e1 : μ.1 (1 + (21 + 9 * p) + 5) j = _ := h.lf hp hj
    have e2 : μ.1 (1 + (21 + 9 * p) + 7) j = _ := h.ld hp hj
    have e3 : μ.1 (1 + (21 + 9 * p) + 8) j = _ := h.ll hp hj
    have hl := h.lens (p := p) (by omega)
    have l0 : sL SC (1 + (21 + 9 * p) + 4) = 3 := hl.1
    have l1 : sL SC (1 + (21 + 9 * p) + 5) = 3 := hl.2.1
    have l2 : sL SC (1 + (21 + 9 * p) + 7) = 3 := hl.2.2.2.1
    have l3 : sL SC (1 + (21 + 9 * p) + 8) = 3 := hl.2.2.2.2
    have w7 := (hw.2.2.2.2.2.2.2.1 p j hp hj).2.2
    rw [if_pos c1, if_neg (by decide), if_pos c1, chv_nI (by omega) (by decide), ix_nI (by omega), ix_nI (by omega), l0, l1, l2, l3, e0, e1, e2, e3]
    simp only [chv_nI (show j < 3 by omega) (by decide)]
    by_cases k0 : k = nI 0
    · rw [if_pos k0, if_pos k0]
      exact ⟨μ, rfl, h, Out.rf⟩
    · rw [if_neg k0, if_neg k0]
      by_cases k1 : k = nI 1
      · rw [if_pos k1, if_pos k1]
        exact ⟨μ, rfl, h, Out.rf⟩
      · rw [if_neg k1, if_neg k1]
        by_cases k2 : k = nI 2
        · rw [if_pos k2, if_pos k2]
          exact ⟨μ, rfl, h, Out.rf⟩
        · rw [if_neg k2, if_neg k2]
          by_cases k3 : k = nI 3
          · rw [if_pos k3, if_pos k3]
            exact ⟨μ, rfl, h, Out.rf⟩
          · rw [if_neg k3, if_neg k3]
            by_cases k4 : k = nI 4
            · obtain ⟨μ2, g1, g2, g3⟩ := c_copies h hw hp hj hT apart_1
              rw [if_pos k4, if_pos k4, g1, bnd2_eq]
              exact ⟨μ2, rfl, g2, g3⟩
            · rw [if_neg k4, if_neg k4]
              by_cases k5 : k = nI 5
              · obtain ⟨μ2, g1, g2, g3⟩ := c_ill h hw hp hj hT apart_1
                rw [if_pos k5, if_pos k5, g1, bnd2_eq]
                exact ⟨μ2, rfl, g2, g3⟩
              · rw [if_neg k5, if_neg k5]
                by_cases k6 : k = nI 6
                · have g1 : World_leastStamps 1 (nI p) (nI j) 179 μ = _ := c_stamps h hw.2.2.2.2.2.1 hw.2.2.2.2.2.2.1 hT hB hp hj w7
                  rw [if_pos k6, if_pos k6, g1, bnd_eq]
                  exact ⟨μ, rfl, h, Out.rf⟩
                · rw [if_neg k6, if_neg k6]
                  exact ⟨μ, rfl, h, Out.rf⟩
  · rw [if_neg c1, if_pos (by decide), if_neg c1]
    exact ⟨μ, rfl, h, Out.rf⟩
theorem in7 {k : Int32} : inI k (nI 0) (nI 6) = true ↔ k = nI 0 ∨ k = nI 1 ∨ k = nI 2 ∨ k = nI 3 ∨ k = nI 4 ∨ k = nI 5 ∨ k = nI 6 := by
  constructor
  · intro z
    obtain ⟨j, hj, rfl⟩ := inI_some z (by decide)
    have : j = 0 ∨ j = 1 ∨ j = 2 ∨ j = 3 ∨ j = 4 ∨ j = 5 ∨ j = 6 := by omega
    rcases this with rfl | rfl | rfl | rfl | rfl | rfl | rfl
    · exact Or.inl rfl
    · exact Or.inr (Or.inl rfl)
    · exact Or.inr (Or.inr (Or.inl rfl))
    · exact Or.inr (Or.inr (Or.inr (Or.inl rfl)))
    · exact Or.inr (Or.inr (Or.inr (Or.inr (Or.inl rfl))))
    · exact Or.inr (Or.inr (Or.inr (Or.inr (Or.inr (Or.inl rfl)))))
    · exact Or.inr (Or.inr (Or.inr (Or.inr (Or.inr (Or.inr rfl)))))
  · rintro (rfl | rfl | rfl | rfl | rfl | rfl | rfl) <;> decide
theorem EQ_0 {ν : Mm} (v : Int32) : OutM EQ ν (sti ν 0 0 v) := OutM.rf.sti (E := EQ) (Or.inr ⟨rfl, rfl⟩)
theorem isA_EQ {o k : Nat} (h : isA o k) : EQ o k := by
  unfold isA at h
  unfold EQ ET
  omega
theorem m_letter {ν : Mm} {V : VS} {T : TT} {d : Nat} (h : HM ν 0 V) (hw : WF d V) (hT : TM ν T) (hB : TB T) (v i k : Int32) : ∃ ν2, M_letter v i k ν = some (letR V T v i k, ν2) ∧ HM ν2 0 V ∧ OutM EQ ν ν2 := by
  have h' := h.told (nI 0)
  have hT' := hT.told (nI 0)
  have P16 := h.P16
  have O0 := EQ_0 (ν := ν) (nI 0)
  unfold M_letter letR
  rw [lt_eq, m_hasLet h', bnd_eq]
  by_cases c1 : hasLB V v i = true
  · obtain ⟨p, j, hp, hj, rfl, rfl⟩ := hasLB_some P16 (fun p hp => h.h3 hp) c1
    have h3 := h.h3 hp
    have e0 := h'.lv hp hj
    have e1 := h'.lf hp hj
    have e2 := h'.ld hp hj
    have e3 := h'.ll hp hj
    have w7 := (hw.2.2.2.2.2.2.2.1 p j hp hj).2.2
    rw [if_pos c1, if_neg (by decide), if_pos c1, ix_nI (by omega), ix_nI (by omega), m_isIn, bnd_eq]
    by_cases c2 : inI k (nI 0) (nI 6) = true
    · unfold M_letterAt
      rw [if_pos c2, if_neg (by decide), bnd_eq]
      simp only [nI_add, nI_mulE, Nat.add_zero, z_eq]
      rcases in7.1 c2 with rfl | rfl | rfl | rfl | rfl | rfl | rfl
      · rw [if_pos (by decide), chv_nI (by omega) (by decide), ix_nI (by omega), e0, if_pos (by decide)]
        exact ⟨_, rfl, h', O0⟩
      · rw [if_neg (by decide), if_pos (by decide), chv_nI (by omega) (by decide), ix_nI (by omega), e1, if_neg (by decide), if_pos (by decide)]
        exact ⟨_, rfl, h', O0⟩
      · rw [if_neg (by decide), if_neg (by decide), if_pos (by decide), chv_nI (by omega) (by decide), ix_nI (by omega), e2, if_neg (by decide), if_neg (by decide), if_pos (by decide)]
        exact ⟨_, rfl, h', O0⟩
      · rw [if_neg (by decide), if_neg (by decide), if_neg (by decide), if_pos (by decide), chv_nI (by omega) (by decide), ix_nI (by omega), e3, if_neg (by decide), if_neg (by decide), if_neg (by decide), if_pos (by decide)]
        exact ⟨_, rfl, h', O0⟩
      · obtain ⟨ν2, g1, g2, g3⟩ := m_write h' hw hp hj hT'
        rw [if_neg (by decide), if_neg (by decide), if_neg (by decide), if_neg (by decide), if_pos (by decide), g1, bnd2_eq, if_neg (by decide), if_neg (by decide), if_neg (by decide), if_neg (by decide), if_pos (by decide)]
        exact ⟨ν2, rfl, g2, O0.tr (g3.mono (fun o k z => isA_EQ z))⟩
      · obtain ⟨ν2, g1, g2, g3⟩ := m_ill h' hw hp hj hT'
        rw [if_neg (by decide), if_neg (by decide), if_neg (by decide), if_neg (by decide), if_neg (by decide), if_pos (by decide), g1, bnd2_eq, if_neg (by decide), if_neg (by decide), if_neg (by decide), if_neg (by decide), if_neg (by decide), if_pos (by decide)]
        exact ⟨ν2, rfl, g2, O0.tr (g3.mono (fun o k z => isA_EQ z))⟩
      · have g1 := m_stamps h' hw.2.2.2.2.2.1 hw.2.2.2.2.2.2.1 hT' hB hp (n := V 10 p j) (by omega)
        rw [if_neg (by decide), if_neg (by decide), if_neg (by decide), if_neg (by decide), if_neg (by decide), if_neg (by decide), chv_nI (by omega) (by decide), ix_nI (by omega), e3, g1, bnd_eq, if_neg (by decide), if_neg (by decide), if_neg (by decide), if_neg (by decide), if_neg (by decide), if_neg (by decide), if_pos (by decide)]
        exact ⟨_, rfl, h', O0⟩
    · have c3 := fun z => c2 (in7.2 z)
      rw [if_neg c2, if_pos (by decide), if_neg (fun z => c3 (Or.inl z)), if_neg (fun z => c3 (Or.inr (Or.inl z))), if_neg (fun z => c3 (Or.inr (Or.inr (Or.inl z)))), if_neg (fun z => c3 (Or.inr (Or.inr (Or.inr (Or.inl z))))), if_neg (fun z => c3 (Or.inr (Or.inr (Or.inr (Or.inr (Or.inl z)))))), if_neg (fun z => c3 (Or.inr (Or.inr (Or.inr (Or.inr (Or.inr (Or.inl z))))))), if_neg (fun z => c3 (Or.inr (Or.inr (Or.inr (Or.inr (Or.inr (Or.inr z)))))))]
      exact ⟨_, rfl, h', O0⟩
  · rw [if_neg c1, if_pos (by decide), if_neg c1]
    exact ⟨_, rfl, h', O0⟩
