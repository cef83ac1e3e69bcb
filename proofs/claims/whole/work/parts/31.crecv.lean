/-! THE CLASS: what becomes of a letter that comes -/
theorem c_r108 {μ : Mm} {w : Nat} {V : VS} {i : Nat} (h : HC μ w V) (hi : i < V 0 0 2) (x : Nat) : ∃ μ2, World_receive_j108 w (nI i) (nI (V 16 0 i)) (nI (V 17 0 i)) (nI x) μ = some (nI x, μ2) ∧ HC μ2 w (bookV V (V 15 0 i) (V 16 0 i) (V 17 0 i) x) ∧ Out (inW w) μ μ2 := by
  obtain ⟨μ2, h1, h2, h3⟩ := c_book h (V 15 0 i) (V 16 0 i) (V 17 0 i) x
  have e8 := h.wv hi
  have e1 := h.dy
  have l1 := h.lenw.1
  have w60 := h.w60
  refine ⟨μ2, ?_, h2, h3⟩
  unfold World_receive_j108
  rw [show w + 8 = w + 7 + 1 from rfl, l1]
  simp (disch := omega) only [lt_eq, bnd_eq, bni_eq, bnd2_eq, nI_ltE, nI_leE, nI_eqE, eq_0, lt_0E, le_0, z_lt, z_le, eq_m1, m1_eq, nI_add, nI_mulE, ix_nI, ix_0, chv_nI, chk_ok, chk_T, sti_e, sti_n, sti_2, stl_1, stl_e, stl_n, if_true, if_false, not_true_eq_false, not_false_eq_true, eq_self, Bool.false_eq_true, Bool.true_eq_false, e8, e1, h1]
theorem c_hasBit (x : Int32) (i : Nat) : Nine_hasBit x (nI i) = some (if hb x i then nI 1 else nI 0) := by
  unfold Nine_hasBit hb
  by_cases e : (x >>> (nI i &&& 31)) &&& nI 1 = nI 1
  · rw [if_pos e, if_pos (decide_eq_true e)]
  · rw [if_neg e, if_neg (by rw [decide_eq_false e]; decide)]
theorem c_recv {μ : Mm} {w : Nat} {V : VS} {i : Nat} (h : HC μ w V) (hw : W5 V) (hi : i < V 0 0 2) (ht : V 17 0 i < V 0 0 0) (hv : V 15 0 i < V 0 0 1) : ∃ μ2, World_receive w (nI i) μ = some (nI (rcbV V (V 15 0 i) (V 16 0 i) (V 17 0 i)).2, μ2) ∧ HC μ2 w (rcbV V (V 15 0 i) (V 16 0 i) (V 17 0 i)).1 ∧ Out (inW w) μ μ2 := by
  have e8 := h.wv hi
  have e9 := h.wf hi
  have e10 := h.wt hi
  have t16 : V 17 0 i < 16 := Nat.lt_of_lt_of_le ht h.P16
  have w60 := h.w60
  have eT := h.told ht (j := 1) (by decide)
  have eS := h.sn ht
  have eL := h.lo
  obtain ⟨l1, l2, l3, l4, l5⟩ := h.lenw
  have m3 := h.h3 ht
  have hf := c_lfull (h.hc ht) m3 (by decide) (h.lens t16).1
  unfold rcbV rcvV World_receive
  rw [show w + 8 = w + 7 + 1 from rfl, show w + 9 = w + 7 + 2 from rfl, show w + 10 = w + 7 + 3 from rfl, l1, l2, l3, show w + 7 + 1 = w + 8 from rfl, show w + 7 + 2 = w + 9 from rfl, show w + 7 + 3 = w + 10 from rfl]
  by_cases c1 : V 1 (V 17 0 i) 1 = 1
  · obtain ⟨μ2, h1, h2, h3⟩ := c_r108 h hi 1
    refine ⟨μ2, ?_, ?_, h3⟩
    · simp (disch := omega) only [lt_eq, bnd_eq, bni_eq, bnd2_eq, nI_ltE, nI_leE, nI_eqE, eq_0, lt_0E, le_0, z_lt, z_le, eq_m1, m1_eq, nI_add, nI_mulE, ix_nI, ix_0, chv_nI, chk_ok, chk_T, sti_e, sti_n, sti_2, stl_1, stl_e, stl_n, if_true, if_false, not_true_eq_false, not_false_eq_true, eq_self, Bool.false_eq_true, Bool.true_eq_false, e8, e9, e10, eT, c1, h1]
    · simp only [c1, if_true]
      exact h2
  · have b1 := hw _ ht
    by_cases c2 : hb (nI (V 5 (V 17 0 i) 0)) (V 16 0 i) = true
    · obtain ⟨μ2, h1, h2, h3⟩ := c_r108 h hi 2
      refine ⟨μ2, ?_, ?_, h3⟩
      · simp (disch := omega) only [lt_eq, bnd_eq, bni_eq, bnd2_eq, nI_ltE, nI_leE, nI_eqE, eq_0, lt_0E, le_0, z_lt, z_le, eq_m1, m1_eq, nI_add, nI_mulE, ix_nI, ix_0, chv_nI, chk_ok, chk_T, sti_e, sti_n, sti_2, stl_1, stl_e, stl_n, if_true, if_false, not_true_eq_false, not_false_eq_true, eq_self, Bool.false_eq_true, Bool.true_eq_false, e8, e9, e10, eT, c1, eS, c_hasBit, c2, Nat.reduceEqDiff, h1]
      · simp only [c1, c2, if_true, if_false, eq_self, Bool.false_eq_true]
        exact h2
    · by_cases c3 : V 6 (V 17 0 i) 0 = 3
      · obtain ⟨a1, a2⟩ := h.put1 0 0 7 (V 0 0 7 + 1) (o := w) (k := 10) (v := nI (V 0 0 7 + 1)) (Or.inl ⟨rfl, rfl, by decide⟩) rfl rfl rfl ⟨by decide, by decide⟩ (by omega)
        obtain ⟨μ2, h1, h2, h3⟩ := c_r108 (i := i) a1 (by rw [vset_ne (by omega)]; exact hi) 3
        rw [vset_ne (by omega), vset_ne (by omega)] at h1
        rw [vset_ne (by omega), vset_ne (by omega), vset_ne (by omega)] at h2
        refine ⟨μ2, ?_, ?_, a2.tr h3⟩
        · simp (disch := omega) only [lt_eq, bnd_eq, bni_eq, bnd2_eq, nI_ltE, nI_leE, nI_eqE, eq_0, lt_0E, le_0, z_lt, z_le, eq_m1, m1_eq, nI_add, nI_mulE, ix_nI, ix_0, chv_nI, chk_ok, chk_T, sti_e, sti_n, sti_2, stl_1, stl_e, stl_n, if_true, if_false, not_true_eq_false, not_false_eq_true, eq_self, Bool.false_eq_true, Bool.true_eq_false, e8, e9, e10, eT, c1, eS, c_hasBit, c2, Nat.reduceEqDiff, hf, c3, eL, h1]
        · simp only [c1, c2, c3, if_true, if_false, eq_self, Bool.false_eq_true]
          exact h2
      · obtain ⟨μ1, g1, g2, g3⟩ := c_give (v := V 15 0 i) (f := V 16 0 i + 1) (fi := nI (V 16 0 i)) h hw ht (by omega) hv (by rw [nI_subE (by omega)]; rfl)
        obtain ⟨μ2, h1, h2, h3⟩ := c_r108 (i := i) g2 (by rw [giveV_o (by omega) (by omega) (by omega)]; exact hi) 0
        rw [giveV_o (by omega) (by omega) (by omega), giveV_o (by omega) (by omega) (by omega)] at h1
        rw [giveV_o (by omega) (by omega) (by omega), giveV_o (by omega) (by omega) (by omega), giveV_o (by omega) (by omega) (by omega)] at h2
        refine ⟨μ2, ?_, ?_, g3.tr h3⟩
        · simp (disch := omega) only [lt_eq, bnd_eq, bni_eq, bnd2_eq, nI_ltE, nI_leE, nI_eqE, eq_0, lt_0E, le_0, z_lt, z_le, eq_m1, m1_eq, nI_add, nI_mulE, ix_nI, ix_0, chv_nI, chk_ok, chk_T, sti_e, sti_n, sti_2, stl_1, stl_e, stl_n, if_true, if_false, not_true_eq_false, not_false_eq_true, eq_self, Bool.false_eq_true, Bool.true_eq_false, e8, e9, e10, eT, c1, eS, c_hasBit, c2, Nat.reduceEqDiff, hf, c3, g1, h1]
        · simp only [c1, c2, c3, if_true, if_false, eq_self, Bool.false_eq_true]
          exact h2
