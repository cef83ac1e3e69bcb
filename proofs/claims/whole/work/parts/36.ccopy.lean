/-! THE CLASS: copies -/
theorem c_vfull {μ : Mm} {w : Nat} {V : VS} (h : HC μ w V) : Versions_isFull (w + 2) μ = some (if V 0 0 1 = 40 then nI 1 else nI 0) := by
  have e := h.vn
  have v40 := h.v40
  unfold Versions_isFull
  by_cases c : V 0 0 1 = 40
  · have : ¬ V 0 0 1 < 40 := by omega
    simp (disch := omega) only [lt_eq, bnd_eq, bni_eq, bnd2_eq, nI_ltE, nI_leE, nI_eqE, eq_0, lt_0E, le_0, z_lt, z_le, eq_m1, m1_eq, nI_add, nI_mulE, ix_nI, ix_0, chv_nI, chk_ok, chk_T, sti_e, sti_n, sti_2, stl_1, stl_e, stl_n, if_true, if_false, not_true_eq_false, not_false_eq_true, eq_self, Bool.false_eq_true, Bool.true_eq_false, e, c, Nat.lt_irrefl]
  · have : V 0 0 1 < 40 := by omega
    simp (disch := omega) only [lt_eq, bnd_eq, bni_eq, bnd2_eq, nI_ltE, nI_leE, nI_eqE, eq_0, lt_0E, le_0, z_lt, z_le, eq_m1, m1_eq, nI_add, nI_mulE, ix_nI, ix_0, chv_nI, chk_ok, chk_T, sti_e, sti_n, sti_2, stl_1, stl_e, stl_n, if_true, if_false, not_true_eq_false, not_false_eq_true, eq_self, Bool.false_eq_true, Bool.true_eq_false, e, c, this]
theorem live_ver {V : VS} {e x f t c q k : Nat} (h : live (verV V e x f t) c q k) : lput (lput (lput (lput (lput (live V) 11 0 (V 0 0 1)) 12 0 (V 0 0 1)) 13 0 (V 0 0 1)) 14 0 (V 0 0 1)) 0 0 1 c q k := by
  rcases live_diff h (verV_o (by omega) (by omega)) with h | h | h | h | h | h
  · exact lput_of (lput_of (lput_of (lput_of (lput_of h))))
  · rw [verV_o (by omega) (by omega)] at h
    omega
  · rw [verV_o (by omega) (by omega)] at h
    omega
  · rw [verV_1] at h
    obtain ⟨c1, c2, rfl, k1, k2⟩ := h
    have e2 : k = V 0 0 1 := by omega
    have : c = 11 ∨ c = 12 ∨ c = 13 ∨ c = 14 := by omega
    subst e2
    rcases this with rfl | rfl | rfl | rfl
    · exact lput_of (lput_of (lput_of (lput_of (Or.inl ⟨rfl, rfl, rfl⟩))))
    · exact lput_of (lput_of (lput_of (Or.inl ⟨rfl, rfl, rfl⟩)))
    · exact lput_of (lput_of (Or.inl ⟨rfl, rfl, rfl⟩))
    · exact lput_of (Or.inl ⟨rfl, rfl, rfl⟩)
  · rw [verV_o (by omega) (by omega)] at h
    omega
  · rw [verV_o (by omega) (by omega)] at h
    omega
theorem c_vadd {μ : Mm} {w : Nat} {V : VS} (h : HC μ w V) (hv : V 0 0 1 < 40) (e x f t : Nat) {fI tI : Int32} (hf : fI = nI f - nI 1) (ht : tI = nI t - nI 1) : ∃ μ2, Versions_add (w + 2) (nI e) (nI x) fI tI μ = some (nI (V 0 0 1), μ2) ∧ HC μ2 w (verV V e x f t) ∧ Out (inW w) μ μ2 := by
  have e0 := h.vn
  have ef := c_vfull h
  rw [if_neg (by omega)] at ef
  have pp : ∀ c, 11 ≤ c → c ≤ 14 → pot c 0 (V 0 0 1) := fun c c1 c2 => Or.inr (Or.inr (Or.inr (Or.inr (Or.inr (Or.inl ⟨c1, c2, rfl, hv⟩)))))
  have es : nI (V 0 0 1 + 1) - nI 1 = nI (V 0 0 1) := nI_subE (by omega)
  unfold Versions_add
  simp (disch := omega) only [lt_eq, bnd_eq, bni_eq, bnd2_eq, nI_ltE, nI_leE, nI_eqE, eq_0, lt_0E, le_0, z_lt, z_le, eq_m1, m1_eq, nI_add, nI_mulE, ix_nI, ix_0, chv_nI, chk_ok, chk_T, sti_e, sti_n, sti_2, stl_1, stl_e, stl_n, if_true, if_false, not_true_eq_false, not_false_eq_true, eq_self, Bool.false_eq_true, Bool.true_eq_false, e0, ef, es]
  refine ⟨_, rfl, ⟨?_, h.2.1, ?_⟩, ?_⟩
  · have a1 := h.1.put 11 0 (V 0 0 1) e (o := w + 2 + 1) (k := V 0 0 1) (v := nI e) (pp 11 (by decide) (by decide)) (by show _ = w + 3; omega) rfl rfl ⟨by decide, by decide⟩
    have a2 := a1.put 12 0 (V 0 0 1) x (o := w + 2 + 2) (k := V 0 0 1) (v := nI x) (pp 12 (by decide) (by decide)) (by show _ = w + 4; omega) rfl rfl ⟨by decide, by decide⟩
    have a3 := a2.put 13 0 (V 0 0 1) f (o := w + 2 + 3) (k := V 0 0 1) (v := fI) (pp 13 (by decide) (by decide)) (by show _ = w + 5; omega) rfl hf ⟨by decide, by decide⟩
    have a4 := a3.put 14 0 (V 0 0 1) t (o := w + 2 + 4) (k := V 0 0 1) (v := tI) (pp 14 (by decide) (by decide)) (by show _ = w + 6; omega) rfl ht ⟨by decide, by decide⟩
    have a5 := a4.put 0 0 1 (V 0 0 1 + 1) (o := w + 2) (k := 4) (v := nI (V 0 0 1 + 1)) (Or.inl ⟨rfl, rfl, by decide⟩) rfl rfl rfl ⟨by decide, by decide⟩
    exact HP.mono a5 (fun c q k hl => live_ver hl) (fun c q k hl ho => rfl)
  · intro q hq
    rw [verV_o (by omega) (by omega)] at hq
    rw [verV_o (by omega) (by omega), verV_o (by omega) (by omega)]
    exact h.2.2 q hq
  · exact (Out.rf.sti ⟨by omega, by omega⟩ |>.sti ⟨by omega, by omega⟩ |>.sti ⟨by omega, by omega⟩ |>.sti ⟨by omega, by omega⟩ |>.sti ⟨by omega, by omega⟩)
theorem c_draw {μ : Mm} {w : Nat} {V : VS} (h : HC μ w V) {m : Nat} (h0 : 0 < m) (hm : m < 2 ^ 31) : ∃ μ2, World_draw w (nI m) μ = some (nI (drwN (V 0 0 8) / 256 % m), μ2) ∧ HC μ2 w (d1V V) ∧ Out (inW w) μ μ2 := by
  have e := h.st
  have hlt := drwN_lt (V 0 0 8)
  have e1 : nI (V 0 0 8 * 1664525 + 1013904223) = nI (drwN (V 0 0 8)) := (nI_mod _).symm
  have e2 := ushr8 hlt
  have e3 := pk_rem (a := drwN (V 0 0 8) / 256) (d := m) (by omega) h0 hm
  have n0 : ¬ m = 0 := by omega
  obtain ⟨a1, a2⟩ := h.put1 0 0 8 (drwN (V 0 0 8)) (o := w) (k := 6) (v := nI (drwN (V 0 0 8))) (Or.inl ⟨rfl, rfl, by decide⟩) rfl rfl rfl ⟨by decide, by decide⟩ (by omega)
  refine ⟨_, ?_, a1, a2⟩
  unfold World_draw
  simp (disch := omega) only [lt_eq, bnd_eq, bni_eq, bnd2_eq, nI_ltE, nI_leE, nI_eqE, eq_0, lt_0E, le_0, z_lt, z_le, eq_m1, m1_eq, nI_add, nI_mulE, ix_nI, ix_0, chv_nI, chk_ok, chk_T, sti_e, sti_n, sti_2, stl_1, stl_e, stl_n, if_true, if_false, not_true_eq_false, not_false_eq_true, eq_self, Bool.false_eq_true, Bool.true_eq_false, e, e1, e2, e3, n0]
theorem c_copy {μ : Mm} {w : Nat} {V : VS} {v q d : Nat} (h : HC μ w V) (hw : WF d V) (hv : v < V 0 0 1) (hq : q < V 0 0 0) : ∃ μ2, World_versionOfCopy w (nI v) (nI q) μ = some (nI (copV V v q).2, μ2) ∧ HC μ2 w (copV V v q).1 ∧ Out (inW w) μ μ2 := by
  have er := h.ru (j := 2) (by decide)
  have wr := hw.2.2.2.2.2.2.2.2.2.2.2.2.2.2.1
  have w8 := hw.2.2.2.2.2.2.2.2.1 v hv
  have v40 := h.v40
  unfold copV World_versionOfCopy
  by_cases c1 : V 20 0 2 = 0
  · refine ⟨μ, ?_, ?_, Out.rf⟩
    · simp (disch := omega) only [lt_eq, bnd_eq, bni_eq, bnd2_eq, nI_ltE, nI_leE, nI_eqE, eq_0, lt_0E, le_0, z_lt, z_le, eq_m1, m1_eq, nI_add, nI_mulE, ix_nI, ix_0, chv_nI, chk_ok, chk_T, sti_e, sti_n, sti_2, stl_1, stl_e, stl_n, if_true, if_false, not_true_eq_false, not_false_eq_true, eq_self, Bool.false_eq_true, Bool.true_eq_false, er, c1]
    · simp only [c1, if_true]
      exact h
  · obtain ⟨μ1, g1, g2, g3⟩ := c_draw h (m := 1000) (by decide) (by decide)
    have er1 := g2.ru (j := 2) (by decide)
    rw [d1V_o (by omega)] at er1
    have hlt : drwN (V 0 0 8) / 256 % 1000 < 1000 := Nat.mod_lt _ (by decide)
    by_cases c2 : V 20 0 2 ≤ drwN (V 0 0 8) / 256 % 1000
    · have n2 : ¬ drwN (V 0 0 8) / 256 % 1000 < V 20 0 2 := by omega
      refine ⟨μ1, ?_, ?_, g3⟩
      · simp (disch := omega) only [lt_eq, bnd_eq, bni_eq, bnd2_eq, nI_ltE, nI_leE, nI_eqE, eq_0, lt_0E, le_0, z_lt, z_le, eq_m1, m1_eq, nI_add, nI_mulE, ix_nI, ix_0, chv_nI, chk_ok, chk_T, sti_e, sti_n, sti_2, stl_1, stl_e, stl_n, if_true, if_false, not_true_eq_false, not_false_eq_true, eq_self, Bool.false_eq_true, Bool.true_eq_false, er, c1, g1, er1, n2, c2]
      · simp only [c1, c2, if_true, if_false]
        exact g2
    · have n2 : drwN (V 0 0 8) / 256 % 1000 < V 20 0 2 := by omega
      obtain ⟨μ2, f1, f2, f3⟩ := c_draw g2 (m := 10) (by decide) (by decide)
      rw [d1V_8] at f1
      have ef := c_vfull f2
      rw [d1V_o (by omega), d1V_o (by omega)] at ef
      have hl2 : drwN (drwN (V 0 0 8)) / 256 % 10 < 10 := Nat.mod_lt _ (by decide)
      by_cases c3 : V 0 0 1 = 40
      · refine ⟨μ2, ?_, ?_, g3.tr f3⟩
        · simp (disch := omega) only [lt_eq, bnd_eq, bni_eq, bnd2_eq, nI_ltE, nI_leE, nI_eqE, eq_0, lt_0E, le_0, z_lt, z_le, eq_m1, m1_eq, nI_add, nI_mulE, ix_nI, ix_0, chv_nI, chk_ok, chk_T, sti_e, sti_n, sti_2, stl_1, stl_e, stl_n, if_true, if_false, not_true_eq_false, not_false_eq_true, eq_self, Bool.false_eq_true, Bool.true_eq_false, er, c1, g1, er1, n2, c2, f1, ef, c3, Nat.reduceEqDiff]
        · simp only [c1, c2, c3, if_true, if_false]
          exact f2
      · have ec := f2.vc (v := v) (by rw [d1V_o (by omega), d1V_o (by omega)]; exact hv)
        have em := f2.vm (v := v) (by rw [d1V_o (by omega), d1V_o (by omega)]; exact hv)
        rw [d1V_o (by omega), d1V_o (by omega)] at ec em
        have hx : ∀ m, m < 10 → nI (V 12 0 v) ^^^ (nI 1 <<< (nI m &&& 31)) = nI (V 12 0 v ^^^ 2 ^ m) := fun m hm => by rw [shl1 m (by omega), nI_xor]
        have hj := jmax_sub (a := V 11 0 v) (b := 1) (by omega) (by decide)
        obtain ⟨μ3, k1, k2, k3⟩ := c_vadd f2 (by rw [d1V_o (by omega), d1V_o (by omega)]; omega) (if drwN (drwN (V 0 0 8)) / 256 % 10 = 0 then V 11 0 v - 1 else V 11 0 v) (V 12 0 v ^^^ 2 ^ (drwN (drwN (V 0 0 8)) / 256 % 10)) (v + 1) (q + 1) (fI := nI v) (tI := nI q) (by rw [nI_subE (by omega)]; rfl) (by rw [nI_subE (by omega)]; rfl)
        rw [d1V_o (by omega), d1V_o (by omega)] at k1
        refine ⟨μ3, ?_, ?_, (g3.tr f3).tr k3⟩
        · by_cases c4 : drwN (drwN (V 0 0 8)) / 256 % 10 = 0
          · rw [if_pos c4] at k1
            have hx0 := hx 0 (by decide)
            rw [c4] at k1 f1
            unfold World_versionOfCopy_j71
            simp (disch := omega) only [lt_eq, bnd_eq, bni_eq, bnd2_eq, nI_ltE, nI_leE, nI_eqE, eq_0, lt_0E, le_0, z_lt, z_le, eq_m1, m1_eq, nI_add, nI_mulE, ix_nI, ix_0, chv_nI, chk_ok, chk_T, sti_e, sti_n, sti_2, stl_1, stl_e, stl_n, if_true, if_false, not_true_eq_false, not_false_eq_true, eq_self, Bool.false_eq_true, Bool.true_eq_false, er, c1, g1, er1, n2, c2, f1, ef, c3, Nat.reduceEqDiff, ec, em, hj, hx0, k1]
          · rw [if_neg c4] at k1
            unfold World_versionOfCopy_j71
            simp (disch := omega) only [lt_eq, bnd_eq, bni_eq, bnd2_eq, nI_ltE, nI_leE, nI_eqE, eq_0, lt_0E, le_0, z_lt, z_le, eq_m1, m1_eq, nI_add, nI_mulE, ix_nI, ix_0, chv_nI, chk_ok, chk_T, sti_e, sti_n, sti_2, stl_1, stl_e, stl_n, if_true, if_false, not_true_eq_false, not_false_eq_true, eq_self, Bool.false_eq_true, Bool.true_eq_false, er, c1, g1, er1, n2, c2, f1, ef, c3, Nat.reduceEqDiff, ec, em, hj, hx, k1, c4]
        · simp only [c1, c2, c3, if_false]
          exact k2
