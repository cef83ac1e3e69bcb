/-! THE CLASS: a copy is sent -/
theorem live_way2 {V : VS} {v f t e c q k : Nat} (h : live (wayV V v f t e) c q k) : lput (lput (lput (lput (lput (live V) 15 0 (V 0 0 2)) 16 0 (V 0 0 2)) 17 0 (V 0 0 2)) 18 0 (V 0 0 2)) 0 0 2 c q k := by
  rcases live_diff h (wayV_o (by omega) (by omega)) with h | h | h | h | h | h
  · exact lput_of (lput_of (lput_of (lput_of (lput_of h))))
  · rw [wayV_o (by omega) (by omega)] at h
    omega
  · rw [wayV_o (by omega) (by omega)] at h
    omega
  · rw [wayV_o (by omega) (by omega)] at h
    omega
  · rw [wayV_2] at h
    obtain ⟨c1, c2, rfl, k1, k2⟩ := h
    have e2 : k = V 0 0 2 := by omega
    have : c = 15 ∨ c = 16 ∨ c = 17 ∨ c = 18 := by omega
    subst e2
    rcases this with rfl | rfl | rfl | rfl
    · exact lput_of (lput_of (lput_of (lput_of (Or.inl ⟨rfl, rfl, rfl⟩))))
    · exact lput_of (lput_of (lput_of (Or.inl ⟨rfl, rfl, rfl⟩)))
    · exact lput_of (lput_of (Or.inl ⟨rfl, rfl, rfl⟩))
    · exact lput_of (Or.inl ⟨rfl, rfl, rfl⟩)
  · rw [wayV_o (by omega) (by omega)] at h
    omega
theorem c_wadd {μ : Mm} {w : Nat} {V : VS} (h : HC μ w V) (h2 : V 0 0 2 < 60) (v f t e : Nat) (x : Int32) : ∃ μ2, Letters_add (w + 7) (nI v) (nI f) (nI t) (nI e) x μ = some μ2 ∧ HC μ2 w (wayV V v f t e) ∧ Out (inW w) μ μ2 := by
  obtain ⟨l1, l2, l3, l4, l5⟩ := h.lenw
  have pp : ∀ c, 15 ≤ c → c ≤ 18 → pot c 0 (V 0 0 2) := fun c c1 c2 => Or.inr (Or.inr (Or.inr (Or.inr (Or.inr (Or.inr (Or.inl ⟨c1, c2, rfl, h2⟩))))))
  refine ⟨_, c_ladd h.wn h2 (by decide) l1 l2 l3 l4 l5 _ _ _ _ _, ⟨?_, h.2.1, ?_⟩, ?_⟩
  · have a1 := h.1.put 15 0 (V 0 0 2) v (o := w + 7 + 1) (k := V 0 0 2) (v := nI v) (pp 15 (by decide) (by decide)) (by show _ = w + 8; omega) rfl rfl ⟨by decide, by decide⟩
    have a2 := a1.put 16 0 (V 0 0 2) f (o := w + 7 + 2) (k := V 0 0 2) (v := nI f) (pp 16 (by decide) (by decide)) (by show _ = w + 9; omega) rfl rfl ⟨by decide, by decide⟩
    have a3 := a2.put 17 0 (V 0 0 2) t (o := w + 7 + 3) (k := V 0 0 2) (v := nI t) (pp 17 (by decide) (by decide)) (by show _ = w + 10; omega) rfl rfl ⟨by decide, by decide⟩
    have a4 := a3.put 18 0 (V 0 0 2) e (o := w + 7 + 4) (k := V 0 0 2) (v := nI e) (pp 18 (by decide) (by decide)) (by show _ = w + 11; omega) rfl rfl ⟨by decide, by decide⟩
    have a5 := a4.free (o := w + 7 + 5) (k := V 0 0 2) x (by omega) (by unfold freeC; omega)
    have a6 := a5.put 0 0 2 (V 0 0 2 + 1) (o := w + 7) (k := 5) (v := nI (V 0 0 2 + 1)) (Or.inl ⟨rfl, rfl, by decide⟩) rfl rfl rfl ⟨by decide, by decide⟩
    exact HP.mono a6 (fun c q k hl => live_way2 hl) (fun c q k hl ho => rfl)
  · intro q hq
    rw [wayV_o (by omega) (by omega)] at hq
    rw [wayV_o (by omega) (by omega), wayV_o (by omega) (by omega)]
    exact h.2.2 q hq
  · exact (Out.rf.sti ⟨by omega, by omega⟩ |>.sti ⟨by omega, by omega⟩ |>.sti ⟨by omega, by omega⟩ |>.sti ⟨by omega, by omega⟩ |>.sti ⟨by omega, by omega⟩ |>.sti ⟨by omega, by omega⟩)
theorem live_p {V : VS} {c p : Nat} (hp : p < V 0 0 0) (hc : (3 ≤ c ∧ c ≤ 6) ∨ c = 21 ∨ c = 22) : live V c p 0 := Or.inr (Or.inr (Or.inr (Or.inl ⟨hc, hp, rfl⟩)))
theorem live_t {V : VS} {p k : Nat} (hp : p < V 0 0 0) (hk : k < 6) : live V 1 p k := Or.inr (Or.inl ⟨rfl, hp, hk⟩)
theorem live_l {V : VS} {c p k : Nat} (hp : p < V 0 0 0) (hc : 7 ≤ c ∧ c ≤ 10) (hk : k < V 6 p 0) : live V c p k := Or.inr (Or.inr (Or.inr (Or.inr (Or.inl ⟨hc.1, hc.2, hp, hk⟩))))
theorem live_0 {V : VS} {k : Nat} (hk : k < 10) : live V 0 0 k := Or.inl ⟨rfl, rfl, hk⟩
theorem c_snt {μ : Mm} {w : Nat} {V : VS} {p i t d : Nat} (h : HC μ w V) (hw : WF d V) (hp : p < V 0 0 0) (hi : i < V 6 p 0) (h3 : 1 ≤ V 1 p 3) (h10 : 1 ≤ V 10 p i) : ∃ μ2, World_sendCopy_j106 w (nI p) (nI i) (w + (21 + 9 * p)) (nI t) μ = some μ2 ∧ HC μ2 w (sntV V p i t) ∧ Out (inW w) μ μ2 := by
  have p16 : p < 16 := Nat.lt_of_lt_of_le hp h.P16
  have m3 := h.h3 hp
  have w5 := hw.2.2.2.2.2.1 p hp
  have l5 : sL SC (w + (21 + 9 * p) + 8) = 3 := (h.lens p16).2.2.2.2
  have es := h.sn hp
  have er := h.rc hp
  have en := h.nx hp
  have et := h.told hp (j := 3) (by decide)
  have el := h.ll hp hi
  have ew := h.wr
  have q3 : nI (V 1 p 3) - nI 1 = nI (V 1 p 3 - 1) := nI_subE h3
  have q10 : nI (V 10 p i) - nI 1 = nI (V 10 p i - 1) := nI_subE h10
  obtain ⟨a1, b1⟩ := h.put1 5 p 0 (orN (V 5 p 0) t) (o := w + (21 + 9 * p)) (k := 5) (v := nI (orN (V 5 p 0) t)) (live_p hp (by omega)) rfl rfl rfl ⟨by decide, by decide⟩ (by omega)
  obtain ⟨a2, b2⟩ := a1.put1 4 p 0 (if V 4 p 0 + 1 < V 3 p 0 then V 4 p 0 + 1 else 0) (o := w + (21 + 9 * p)) (k := 4) (v := nI (if V 4 p 0 + 1 < V 3 p 0 then V 4 p 0 + 1 else 0)) (live_p (by rw [vset_ne (by omega)]; exact hp) (by omega)) rfl rfl rfl ⟨by decide, by decide⟩ (by omega)
  obtain ⟨a3, b3⟩ := a2.put1 1 p 3 (V 1 p 3 - 1) (o := w + (21 + 9 * p) + 1) (k := 3) (v := nI (V 1 p 3 - 1)) (live_t (by rw [vset_ne (by omega), vset_ne (by omega)]; exact hp) (by decide)) (by show _ = w + (22 + 9 * p); omega) rfl rfl ⟨by decide, by decide⟩ (by omega)
  obtain ⟨a4, b4⟩ := a3.put1 10 p i (V 10 p i - 1) (o := w + (21 + 9 * p) + 8) (k := i) (v := nI (V 10 p i - 1)) (live_l (by rw [vset_ne (by omega), vset_ne (by omega), vset_ne (by omega)]; exact hp) (by omega) (by rw [vset_ne (by omega), vset_ne (by omega), vset_ne (by omega)]; exact hi)) (by show _ = w + (29 + 9 * p); omega) rfl rfl ⟨by decide, by decide⟩ (by omega)
  obtain ⟨a5, b5⟩ := a4.put1 0 0 9 (orN (V 0 0 9) p) (o := w) (k := 11) (v := nI (orN (V 0 0 9) p)) (live_0 (by decide)) rfl rfl rfl ⟨by decide, by decide⟩ (by omega)
  refine ⟨_, ?_, a5, (((b1.tr b2).tr b3).tr b4).tr b5⟩
  unfold World_sendCopy_j106 World_sendCopy_j148
  by_cases e : V 4 p 0 + 1 < V 3 p 0
  · have n : ¬ V 3 p 0 ≤ V 4 p 0 + 1 := by omega
    rw [if_pos e]
    simp (disch := omega) only [lt_eq, bnd_eq, bni_eq, bnd2_eq, nI_ltE, nI_leE, nI_eqE, eq_0, lt_0E, le_0, z_lt, z_le, eq_m1, m1_eq, nI_add, nI_mulE, ix_nI, ix_0, chv_nI, chk_ok, chk_T, sti_e, sti_n, sti_2, stl_1, stl_e, stl_n, if_true, if_false, not_true_eq_false, not_false_eq_true, eq_self, Bool.false_eq_true, Bool.true_eq_false, es, er, en, et, el, ew, q3, q10, l5, nI_orN, n]
  · have n : V 3 p 0 ≤ V 4 p 0 + 1 := by omega
    rw [if_neg e]
    simp (disch := omega) only [lt_eq, bnd_eq, bni_eq, bnd2_eq, nI_ltE, nI_leE, nI_eqE, eq_0, lt_0E, le_0, z_lt, z_le, eq_m1, m1_eq, nI_add, nI_mulE, ix_nI, ix_0, chv_nI, chk_ok, chk_T, sti_e, sti_n, sti_2, stl_1, stl_e, stl_n, if_true, if_false, not_true_eq_false, not_false_eq_true, eq_self, Bool.false_eq_true, Bool.true_eq_false, es, er, en, et, el, ew, q3, q10, l5, nI_orN, n]
theorem c_send {μ : Mm} {w t d : Nat} {V : VS} {T : TT} {p i : Nat} (h : HC μ w V) (hw : WF d V) (hd : d < 2 ^ 30) (hp : p < V 0 0 0) (hi : i < V 6 p 0) (hr : 0 < V 3 p 0) (h3 : 1 ≤ V 1 p 3) (h10 : 1 ≤ V 10 p i) (hT : TC μ t T) (hB : TB T) (ha : apart w t) : ∃ μ2, World_sendCopy w (nI p) (nI i) (t + 13) μ = some μ2 ∧ HC μ2 w (sndV T V p i) ∧ Out (inW w) μ μ2 := by
  have p16 : p < 16 := Nat.lt_of_lt_of_le hp h.P16
  have m3 := h.h3 hp
  have w5 := hw.2.2.2.2.2.1 p hp
  have w6 := hw.2.2.2.2.2.2.1 p (V 4 p 0) hp (by omega)
  have w7 := hw.2.2.2.2.2.2.2.1 p i hp hi
  have t16 : V 2 p (V 4 p 0) < 16 := Nat.lt_of_lt_of_le w6.1 h.P16
  have w5t := hw.2.2.2.2.2.1 _ w6.1
  have l1 : sL SC (w + (21 + 9 * p) + 4) = 3 := (h.lens p16).1
  have e7 := h.lv hp hi
  obtain ⟨μ1, g1, g2, g3⟩ := c_copy h hw w7.1 hp
  have hwc := hw.cop (p := p) w7.1
  have oU : ∀ {c q j : Nat}, ¬ (11 ≤ c ∧ c ≤ 14) → ¬ (c = 0 ∧ (j = 1 ∨ j = 8)) → (copV V (V 7 p i) p).1 c q j = V c q j := fun a b => copV_o a b
  have c1U : (copV V (V 7 p i) p).2 < (copV V (V 7 p i) p).1 0 0 1 := copV_1 hw.2.1 w7.1
  unfold World_sendCopy sndV
  generalize copV V (V 7 p i) p = U at g1 g2 hwc oU c1U ⊢
  have en := g2.nx (p := p) (by rw [oU (by omega) (by omega)]; exact hp)
  rw [oU (by omega) (by omega)] at en
  have er := g2.row (p := p) (i := V 4 p 0) (by rw [oU (by omega) (by omega)]; exact hp) (by rw [oU (by omega) (by omega)]; omega)
  rw [oU (by omega) (by omega)] at er
  have ef := c_lfull g2.wn g2.w60 (by decide) g2.lenw.1
  rw [oU (by omega) (by omega)] at ef
  by_cases c1 : V 0 0 2 = 60
  · have el := g2.lo
    rw [oU (by omega) (by omega)] at el
    obtain ⟨a1, b1⟩ := g2.put1 0 0 7 (V 0 0 7 + 1) (o := w) (k := 10) (v := nI (V 0 0 7 + 1)) (live_0 (by decide)) rfl rfl rfl ⟨by decide, by decide⟩ (by omega)
    have o : ∀ {c q j : Nat}, ¬ (11 ≤ c ∧ c ≤ 14) → ¬ (c = 0 ∧ (j = 1 ∨ j = 8 ∨ j = 7)) → vset U.1 0 0 7 (V 0 0 7 + 1) c q j = V c q j := by
      intro c q j x1 x2
      rw [vset_ne (by omega), oU x1 (by omega)]
    obtain ⟨μ3, k1, k2, k3⟩ := c_snt (p := p) (i := i) (t := V 2 p (V 4 p 0)) a1 (hwc.lost (by decide)) (by rw [o (by omega) (by omega)]; exact hp) (by rw [o (by omega) (by omega)]; exact hi) (by rw [o (by omega) (by omega)]; exact h3) (by rw [o (by omega) (by omega)]; exact h10)
    refine ⟨μ3, ?_, ?_, (g3.tr b1).tr k3⟩
    · rw [chv_nI p16 (by decide), ix_nI (by omega), l1, chv_nI (by omega) (by decide), ix_nI (by omega), e7, g1, bnd2_eq, en, chv_nI (by omega) (by decide), ix_nI (by omega), er, lt_eq, ef, if_pos c1, bnd_eq, if_neg (by decide), el, lt_eq, nI_add]
      exact k1
    · unfold pstV
      rw [oU (by omega) (by omega), if_pos c1, oU (by omega) (by omega)]
      exact k2
  · have w60 := h.w60
    have et := g2.told (p := p) (j := 0) (by rw [oU (by omega) (by omega)]; exact hp) (by decide)
    rw [oU (by omega) (by omega)] at et
    have et2 := g2.told (p := V 2 p (V 4 p 0)) (j := 0) (by rw [oU (by omega) (by omega)]; exact w6.1) (by decide)
    rw [oU (by omega) (by omega)] at et2
    have ed := g2.dy
    rw [oU (by omega) (by omega)] at ed
    have hX := (hT μ1 (g3.mono (fun o e => EW_law ha (EW_w e)))).2.2 (V 1 p 0) (V 1 (V 2 p (V 4 p 0)) 0) w5.1 w5t.1
    obtain ⟨μ2, f1, f2, f3⟩ := c_wadd g2 (by rw [oU (by omega) (by omega)]; omega) U.2 p (V 2 p (V 4 p 0)) (V 0 0 4 + T.2.2 (V 1 p 0) (V 1 (V 2 p (V 4 p 0)) 0)) (nI 0)
    have o : ∀ {c q j : Nat}, ¬ (11 ≤ c ∧ c ≤ 18) → ¬ (c = 0 ∧ (j = 1 ∨ j = 8 ∨ j = 2)) → wayV U.1 U.2 p (V 2 p (V 4 p 0)) (V 0 0 4 + T.2.2 (V 1 p 0) (V 1 (V 2 p (V 4 p 0)) 0)) c q j = V c q j := by
      intro c q j x1 x2
      rw [wayV_o (by omega) (by omega), oU (by omega) (by omega)]
    have b := hB.2 (V 1 p 0) (V 1 (V 2 p (V 4 p 0)) 0) w5.1 w5t.1
    have w4 := hw.2.2.2.2.1
    have hww := hwc.way (v := U.2) (f := p) (t := V 2 p (V 4 p 0)) (e := V 0 0 4 + T.2.2 (V 1 p 0) (V 1 (V 2 p (V 4 p 0)) 0)) (by rw [oU (by omega) (by omega)]; omega) c1U (by rw [oU (by omega) (by omega)]; exact hp) (by rw [oU (by omega) (by omega)]; exact w6.1) (by omega)
    obtain ⟨μ3, k1, k2, k3⟩ := c_snt (p := p) (i := i) (t := V 2 p (V 4 p 0)) f2 hww (by rw [o (by omega) (by omega)]; exact hp) (by rw [o (by omega) (by omega)]; exact hi) (by rw [o (by omega) (by omega)]; exact h3) (by rw [o (by omega) (by omega)]; exact h10)
    refine ⟨μ3, ?_, ?_, (g3.tr f3).tr k3⟩
    · rw [chv_nI p16 (by decide), ix_nI (by omega), l1, chv_nI (by omega) (by decide), ix_nI (by omega), e7, g1, bnd2_eq, en, chv_nI (by omega) (by decide), ix_nI (by omega), er, lt_eq, ef, if_neg c1, bnd_eq, if_pos (by decide), chv_nI (by decide) (by decide), chv_nI t16 (by decide), chv_nI (by decide) (by decide), ix_nI (by decide), et, ix_nI (by omega), et2, hX, bnd_eq, ed, nI_add, f1, bnd_eq]
      exact k1
    · unfold pstV
      rw [oU (by omega) (by omega), if_neg c1, oU (by omega) (by omega), oU (by omega) (by omega), oU (by omega) (by omega)]
      exact k2
