/-! WHAT IS TOLD OF A PERSON; the look -/
theorem inI_lo {j a b : Nat} (hj : j < 2 ^ 31) (ha : a < 2 ^ 31) (hb : b < 2 ^ 31) : inI (nI j) (nI a) (nI b) = true ↔ a ≤ j ∧ j ≤ b := by
  unfold inI
  rw [decide_eq_true_iff, nI_ltI hj ha, nI_ltI hb hj]
  omega
def ofB (V : VS) (p : Nat) (k : Int32) : Int32 := if k = nI 6 then nI (V 6 p 0) else if k = nI 7 then nI (V 3 p 0) else if k = nI 8 then nI (V 4 p 0) else if k = nI 9 then nI (hadN V p) else if k = nI 10 then nI (V 5 p 0) else -1
def ofA (V : VS) (p : Nat) (k : Int32) : Int32 := if inI k (nI 20) (nI (19 + V 3 p 0)) = true then nI (V 2 p (ix k - 20)) else if inI k (nI 0) (nI 5) = true then nI (V 1 p (ix k)) else ofB V p k
def ofR (V : VS) (v k : Int32) : Int32 := if pnV V v = true then ofA V (ix v) k else -1
theorem c_of {μ : Mm} {V : VS} {d : Nat} (h : HC μ 1 V) (hw : WF d V) (v k : Int32) : Nine_of v k μ = some (ofR V v k) := by
  have P16 := h.P16
  unfold Nine_of ofR
  rw [c_hasP h, bnd_eq]
  by_cases c1 : pnV V v = true
  · obtain ⟨p, hp, rfl⟩ := pnV_some P16 c1
    have h9 := h.r9 hp
    have e6 : μ.1 (1 + (21 + 9 * p) + 3) 5 = _ := h.hc hp
    have e7 := h.rc hp
    have e8 := h.nx hp
    have e9 := c_had h hw.2.2.2.2.2.1 hp
    have eX := h.sn hp
    have hB : Nine_of_j66 k (1 + (21 + 9 * p)) μ = some (ofB V p k) := by
      unfold Nine_of_j66 ofB
      rw [e6, e7, e8, e9, eX]
      simp only [bnd_eq, some_ite]
    have hA : inI k (nI 0) (nI 5) = false → Nine_of_j50 k (1 + (21 + 9 * p)) μ = some (ofB V p k) := fun z => by
      unfold Nine_of_j50
      have z := of_decide_eq_false z
      by_cases z1 : k < 0
      · rw [if_pos z1, hB]
      · rw [if_neg z1, if_pos (Classical.byContradiction fun y => z ⟨z1, y⟩), hB]
    rw [if_pos (show inI (nI p) (nI 0) (nI (V 0 0 0) - nI 1) = true from c1), if_neg (by decide), chv_nI (by omega) (by decide), ix_nI (by omega), if_pos c1, e7]
    unfold ofA
    by_cases k0 : k < nI 20
    · rw [if_pos k0, if_neg (show ¬ inI k (nI 20) (nI (19 + V 3 p 0)) = true from fun z => (of_decide_eq_true z).1 k0)]
      by_cases k1 : inI k (nI 0) (nI 5) = true
      · obtain ⟨j, hj, rfl⟩ := inI_some k1 (by decide)
        have et := h.told hp (j := j) (by omega)
        unfold Nine_of_j50
        rw [if_neg (show ¬ nI j < 0 from (show ¬ nI j < nI 0 from nI_nlt (Nat.zero_le _) (by omega))), if_neg (nI_nlt (by omega) (by decide)), chv_nI (by omega) (by decide), ix_nI (by omega), et, if_pos k1]
      · rw [hA (by simpa using k1), if_neg k1]
    · have kn : ¬ k < 0 := fun z => k0 (Int32.lt_of_lt_of_le z (by decide : (0 : Int32) ≤ nI 20))
      obtain ⟨j, hj, rfl⟩ := nI_ofN kn
      rw [nI_ltI hj (by decide)] at k0
      have k5 : ¬ inI (nI j) (nI 0) (nI 5) = true := by
        rw [inI_lo hj (by decide) (by decide)]
        omega
      rw [if_neg (show ¬ nI j < nI 20 from nI_nlt (by omega) hj), nI_subE (by omega)]
      by_cases k2 : V 3 p 0 ≤ j - 20
      · rw [if_pos (nI_le k2 (by omega)), hA (by simpa using k5), if_neg, if_neg k5]
        rw [inI_lo hj (by decide) (by omega)]
        omega
      · have er := h.row hp (i := j - 20) (by omega)
        rw [if_neg (nI_ge (by omega) (by omega)), chv_nI (by omega) (by decide), ix_nI (by omega), er, if_pos, ix_nI (by omega)]
        rw [inI_lo hj (by decide) (by omega)]
        omega
  · rw [if_neg (show ¬ inI v (nI 0) (nI (V 0 0 0) - nI 1) = true from c1), if_pos (by decide), if_neg c1]
theorem m_of {ν : Mm} {V : VS} {d : Nat} (h : HM ν 0 V) (hw : WF d V) (v k : Int32) : M_of v k ν = some (ofR V v k, sti ν 0 0 (nI 0)) := by
  have h' := h.told (nI 0)
  have P16 := h.P16
  unfold M_of ofR
  rw [lt_eq, m_isP h', bnd_eq]
  by_cases c1 : pnV V v = true
  · obtain ⟨p, hp, rfl⟩ := pnV_some P16 c1
    have h9 := h.r9 hp
    have w5 := hw.2.2.2.2.2.1 p hp
    have e0 := h'.town hp
    have e1 := h'.kind hp
    have e2 := h'.lazy hp
    have e3 := h'.papr hp
    have e4 := h'.coin hp
    have e5 := h'.stp hp
    have e6 := h'.hc hp
    have e7 := h'.rc hp
    have e8 := h'.nx hp
    have e9 := m_had h' hw.2.2.2.2.2.1 hp
    have eX := h'.sn hp
    rw [if_pos c1, if_neg (by decide), if_pos c1, ix_nI (by omega)]
    unfold ofA
    by_cases hk : inI k (nI 0) (nI 10) = true
    · obtain ⟨j, hj, rfl⟩ := inI_some hk (by decide)
      have hin : ¬ inI (nI j) (nI 20) (nI (19 + V 3 p 0)) = true := by
        rw [inI_lo (by omega) (by decide) (by omega)]
        omega
      rw [if_neg hin, e9]
      unfold ofB
      simp only [nI_add, z_eq]
      rw [chv_nI (by omega) (by decide), chv_nI (by omega) (by decide), chv_nI (by omega) (by decide), chv_nI (by omega) (by decide), chv_nI (by omega) (by decide), chv_nI (by omega) (by decide), chv_nI (by omega) (by decide), chv_nI (by omega) (by decide), chv_nI (by omega) (by decide), ix_nI (show 183 + p < 2 ^ 31 by omega), ix_nI (show 199 + p < 2 ^ 31 by omega), ix_nI (show 263 + p < 2 ^ 31 by omega), ix_nI (show 167 + p < 2 ^ 31 by omega), ix_nI (show 247 + p < 2 ^ 31 by omega), e0, e1, e2, e3, e4, e6, e7, e8, eX]
      have : j = 0 ∨ j = 1 ∨ j = 2 ∨ j = 3 ∨ j = 4 ∨ j = 5 ∨ j = 6 ∨ j = 7 ∨ j = 8 ∨ j = 9 ∨ j = 10 := by omega
      rcases this with rfl | rfl | rfl | rfl | rfl | rfl | rfl | rfl | rfl | rfl | rfl
      · rw [if_pos (by decide), if_pos (by decide)]
        rfl
      · rw [if_neg (by decide), if_pos (by decide), if_pos (by decide)]
        rfl
      · rw [if_neg (by decide), if_neg (by decide), if_pos (by decide), if_pos (by decide)]
        rfl
      · rw [if_neg (by decide), if_neg (by decide), if_neg (by decide), if_pos (by decide), if_pos (by decide)]
        rfl
      · rw [if_neg (by decide), if_neg (by decide), if_neg (by decide), if_neg (by decide), if_pos (by decide), if_pos (by decide)]
        rfl
      · rw [if_neg (by decide), if_neg (by decide), if_neg (by decide), if_neg (by decide), if_neg (by decide), if_pos (by decide), if_pos (by decide)]
        unfold M_isStopped
        rw [e5]
        by_cases z : V 1 p 5 = 0
        · rw [z, if_neg (by decide), bnd_eq, show ix (nI 5) = 5 from rfl, z]
          rfl
        · have z1 : V 1 p 5 = 1 := by omega
          rw [z1, if_pos rfl, bnd_eq, show ix (nI 5) = 5 from rfl, z1]
          show (if nI 1 = (0 : Int32) then _ else _) = _
          rw [if_neg (by decide)]
      · rw [if_neg (by decide), if_neg (by decide), if_neg (by decide), if_neg (by decide), if_neg (by decide), if_neg (by decide), if_pos (by decide), if_neg (by decide), if_pos (by decide)]
      · rw [if_neg (by decide), if_neg (by decide), if_neg (by decide), if_neg (by decide), if_neg (by decide), if_neg (by decide), if_neg (by decide), if_pos (by decide), if_neg (by decide), if_neg (by decide), if_pos (by decide)]
      · rw [if_neg (by decide), if_neg (by decide), if_neg (by decide), if_neg (by decide), if_neg (by decide), if_neg (by decide), if_neg (by decide), if_neg (by decide), if_pos (by decide), if_neg (by decide), if_neg (by decide), if_neg (by decide), if_pos (by decide)]
      · rw [if_neg (by decide), if_neg (by decide), if_neg (by decide), if_neg (by decide), if_neg (by decide), if_neg (by decide), if_neg (by decide), if_neg (by decide), if_neg (by decide), if_pos (by decide), if_neg (by decide), if_neg (by decide), if_neg (by decide), if_neg (by decide), if_pos (by decide), bnd_eq]
      · rw [if_neg (by decide), if_neg (by decide), if_neg (by decide), if_neg (by decide), if_neg (by decide), if_neg (by decide), if_neg (by decide), if_neg (by decide), if_neg (by decide), if_neg (by decide), if_pos (by decide), if_neg (by decide), if_neg (by decide), if_neg (by decide), if_neg (by decide), if_neg (by decide), if_pos (by decide)]
    · have nk : ∀ j, j ≤ 10 → ¬ k = nI j := fun j hj z => hk (by rw [z, inI_lo (by omega) (by decide) (by decide)]; omega)
      have n5 : ¬ inI k (nI 0) (nI 5) = true := fun z => by
        obtain ⟨j, hj, e⟩ := inI_some z (by decide)
        exact nk j (by omega) e
      unfold ofB
      rw [if_neg (show ¬ k = 0 from nk 0 (by decide)), if_neg (nk 1 (by decide)), if_neg (nk 2 (by decide)), if_neg (nk 3 (by decide)), if_neg (nk 4 (by decide)), if_neg (nk 5 (by decide)), if_neg (nk 6 (by decide)), if_neg (nk 7 (by decide)), if_neg (nk 8 (by decide)), if_neg (nk 9 (by decide)), if_neg (nk 10 (by decide)), chv_nI (by omega) (by decide), e7, nI_add, m_isIn, bnd_eq, if_neg n5, if_neg (nk 6 (by decide)), if_neg (nk 7 (by decide)), if_neg (nk 8 (by decide)), if_neg (nk 9 (by decide)), if_neg (nk 10 (by decide))]
      by_cases c2 : inI k (nI 20) (nI (19 + V 3 p 0)) = true
      · have kn : ¬ k < 0 := fun z => (of_decide_eq_true c2).1 (Int32.lt_of_lt_of_le z (by decide : (0 : Int32) ≤ nI 20))
        obtain ⟨j, hj, rfl⟩ := nI_ofN kn
        have hjj := (inI_lo hj (by decide) (by omega)).1 c2
        have er := h'.row hp (i := j - 20) (by omega)
        rw [if_pos c2, if_neg (by decide), if_pos c2, nI_mulE, nI_add, nI_subE (by omega), chv_nI (by omega) (by decide), ix_nI (by omega), ix_nI (by omega), show 9 * p + j - 20 = 9 * p + (j - 20) by omega, er]
      · rw [if_neg c2, if_pos (by decide), if_neg c2]
  · rw [if_neg c1, if_pos (by decide), if_neg c1]
