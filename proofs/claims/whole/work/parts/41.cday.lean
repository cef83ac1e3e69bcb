/-! THE CLASS: a day -/
theorem c_isw {μ : Mm} {w : Nat} {V : VS} {p : Nat} (h : HC μ w V) (hw : W5 V) (hp : p < V 0 0 0) : Person_isWriting (w + (21 + 9 * p)) μ = some (if V 1 p 1 ≠ 2 ∧ V 1 p 5 = 0 ∧ 0 < V 3 p 0 then nI 1 else nI 0) := by
  have t1 := h.told hp (j := 1) (by decide)
  have t5 := h.told hp (j := 5) (by decide)
  have er := h.rc hp
  have w5 := hw p hp
  unfold Person_isWriting
  rw [chv_nI (by decide) (by decide), ix_nI (by decide), t1]
  by_cases c1 : V 1 p 1 = 2
  · rw [if_pos (by rw [c1]), if_neg (fun z => z.1 c1)]
  · rw [if_neg (fun z => c1 ((nI_eq (by omega) (by decide)).1 z)), chv_nI (by decide) (by decide), ix_nI (by decide), t5]
    by_cases c2 : V 1 p 5 = 0
    · rw [if_pos (by rw [c2]; rfl), er]
      by_cases c3 : 0 < V 3 p 0
      · rw [if_neg (nI_nle c3 (by omega)), if_pos ⟨c1, c2, c3⟩]
      · rw [if_pos (by rw [show V 3 p 0 = 0 by omega]; decide), if_neg (fun z => c3 z.2.2)]
    · rw [if_neg (nI_ne0 (by omega) (by omega)), if_neg (fun z => c2 z.2.1)]
theorem arvS_came {V : VS} (k : Nat) : (arvS V k).2.2 ≤ k := by
  induction k with
  | zero => exact Nat.le_refl _
  | succ k ih =>
    unfold arvS
    split
    · exact Nat.le_succ_of_le ih
    · dsimp only
      split <;> omega
theorem WF.mono {V : VS} {d e : Nat} (hw : WF d V) (h : d ≤ e) : WF e V := by
  obtain ⟨w0, w1, w2, w3, w4, w5, w6, w7, w8, w9, w10⟩ := hw
  refine ⟨w0, w1, w2, w3, by omega, w5, w6, fun p i hp hi => ?_, w8, fun i hi => ?_, w10⟩
  · have := w7 p i hp hi
    omega
  · have := w9 i hi
    omega
theorem WF.dayB {V : VS} {d : Nat} (hw : WF d V) : WF d (dayB V).1 := by
  unfold Jvm.Pilot.CNineCopiesLaw_law_r8239_772bdc.dayB
  split
  · exact hw.brg
  · exact hw
/-- what the coming post leaves alone -/
theorem dayB_o {V : VS} {c q j : Nat} (h : ¬ (6 ≤ c ∧ c ≤ 10)) (h2 : c ≠ 21) (h3 : c ≠ 22) (h4 : ¬ (23 ≤ c ∧ c ≤ 27)) (h5 : ¬ (c = 0 ∧ (j = 2 ∨ j = 3 ∨ j = 7))) (h6 : ¬ (15 ≤ c ∧ c ≤ 18)) : (dayB V).1 c q j = V c q j := by
  unfold dayB
  split
  · rw [brgV_o (by omega), arvS_o _ h h2 h3 h4 (by omega) h6]
  · rfl
theorem WF.dayW {V : VS} {d : Nat} {T : TT} (hw : WF d V) (hB : TB T) : WF d (dayW T V) ∧ (dayW T V) 0 0 0 = V 0 0 0 ∧ (dayW T V) 0 0 4 = V 0 0 4 := by
  have e0 : (Jvm.Pilot.CNineCopiesLaw_law_r8239_772bdc.dayB V).1 0 0 0 = V 0 0 0 := dayB_o (by omega) (by omega) (by omega) (by omega) (by omega) (by omega)
  have e4 : (Jvm.Pilot.CNineCopiesLaw_law_r8239_772bdc.dayB V).1 0 0 4 = V 0 0 4 := dayB_o (by omega) (by omega) (by omega) (by omega) (by omega) (by omega)
  obtain ⟨k1, k2⟩ := wraV_k (T := T) hw.dayB hB (V 0 0 0) (Nat.le_of_eq e0.symm)
  unfold Jvm.Pilot.CNineCopiesLaw_law_r8239_772bdc.dayW
  refine ⟨k1, ?_, ?_⟩
  · rw [k2 0 0 0 (by unfold wraK; omega), e0]
  · rw [k2 0 0 4 (by unfold wraK; omega), e4]
theorem WF.dayV {V : VS} {d : Nat} {T : TT} (hw : WF d V) (hB : TB T) : WF (d + 1) (dayV T V) ∧ (dayV T V) 0 0 0 = V 0 0 0 ∧ (dayV T V) 0 0 4 = V 0 0 4 + 1 := by
  obtain ⟨h1, h2, h3⟩ := hw.dayW hB
  obtain ⟨k1, k2⟩ := cuaV_k (T := T) h1 (V 0 0 0) (Nat.le_of_eq h2.symm)
  have w4 := hw.2.2.2.2.1
  unfold Jvm.Pilot.CNineCopiesLaw_law_r8239_772bdc.dayV
  refine ⟨?_, ?_, ?_⟩
  · obtain ⟨w0, w1, w2, w3, w4', w5, w6, w7, w8, w9, w10⟩ := k1.mono (Nat.le_succ d)
    unfold WF W5 W6 W7 W8 W9 W10
    simp (disch := omega) only [vset_ne, vset_eq]
    exact ⟨w0, w1, w2, w3, by omega, w5, w6, w7, w8, w9, w10⟩
  · rw [vset_ne (by omega), k2 0 0 0 (by unfold cuaK; omega), h2]
  · exact vset_eq ⟨rfl, rfl, rfl⟩
theorem c_day17 {μ : Mm} {w t d : Nat} {V : VS} {T : TT} (h : HC μ w V) (hw : WF d V) (hd : d < 2 ^ 30) (hT : TC μ t T) (hB : TB T) (ha : apart w t) (r : Int32) :
    ∃ μ2, World_passDay_j17 w t r μ = some (r, μ2) ∧ HC μ2 w (vset (cuaV T (wraV T V (V 0 0 0)) (V 0 0 0)) 0 0 4 (V 0 0 4 + 1)) ∧ Out (EW w t) μ μ2 := by
  have p16 := h.P16
  have key := iter_inv (f := fun s : Int32 × Mm => World_passDay_l20 w t r s.1 s.2)
    (fun n s => s.1 = nI n ∧ HC s.2 w (wraV T V n) ∧ Out (EW w t) μ s.2)
    (fun m => HC m w (wraV T V (V 0 0 0)) ∧ Out (EW w t) μ m) (V 0 0 0) ?_ ?_ 1000000 (nI 0, μ) ⟨rfl, h, Out.rf⟩ (by omega)
  · obtain ⟨m, h1, h2, h4⟩ := key
    obtain ⟨k1, k2⟩ := wraV_k (T := T) hw hB (V 0 0 0) (Nat.le_refl _)
    have hT2 := hT.out h4 (fun o e => EW_law ha e)
    have e0 := k2 0 0 0 (by unfold wraK; omega)
    have e4 := k2 0 0 4 (by unfold wraK; omega)
    generalize wraV T V (V 0 0 0) = U at h2 k1 k2 e0 e4 ⊢
    have key2 := iter_inv (f := fun s : Int32 × Mm => World_passDay_l54 w t r s.1 s.2)
      (fun n s => s.1 = nI n ∧ HC s.2 w (cuaV T U n) ∧ Out (EW w t) m s.2)
      (fun m2 => HC m2 w (cuaV T U (V 0 0 0)) ∧ Out (EW w t) m m2) (V 0 0 0) ?_ ?_ 1000000 (nI 0, m) ⟨rfl, h2, Out.rf⟩ (by omega)
    · obtain ⟨m2, f1, f2, f4⟩ := key2
      obtain ⟨q1, q2⟩ := cuaV_k (T := T) k1 (V 0 0 0) (Nat.le_of_eq e0.symm)
      have ey := f2.dy
      rw [q2 0 0 4 (by unfold cuaK; omega), e4] at ey
      obtain ⟨a1, b1⟩ := f2.put1 0 0 4 (V 0 0 4 + 1) (o := w) (k := 7) (v := nI (V 0 0 4 + 1)) (live_0 (by decide)) rfl rfl rfl ⟨by decide, by decide⟩ (by omega)
      refine ⟨_, ?_, a1, (h4.tr f4).tr (b1.mono (fun o e => EW_w e))⟩
      unfold World_passDay_j17
      rw [h1, bni_eq, f1, bni_eq, ey, nI_add, lt_eq]
    · rintro n ⟨nI', m2⟩ hn ⟨rfl, hC, hO⟩
      have hC : HC m2 w (cuaV T U n) := hC
      have hO : Out (EW w t) m m2 := hO
      obtain ⟨i1, i2⟩ := cuaV_k (T := T) k1 n (by omega)
      have eP := hC.P
      have e00 := i2 0 0 0 (by unfold cuaK; omega)
      have hpn : n < cuaV T U n 0 0 0 := by omega
      have t1 := hC.told hpn (j := 1) (by decide)
      have w5 := i1.2.2.2.2.2.1 n hpn
      refine Or.inl ?_
      show ∃ s2, World_passDay_l54 _ _ _ _ _ = _ ∧ _
      unfold World_passDay_l54 World_passDay_j86
      rw [eP, e00, e0, if_neg (nI_ge hn (by omega)), chv_nI (by omega) (by decide), chv_nI (by decide) (by decide), ix_nI (by omega), ix_nI (by decide), t1]
      by_cases c1 : cuaV T U n 1 n 1 = 2
      · refine ⟨(nI (n + 1), m2), ?_, rfl, ?_, hO⟩
        · rw [if_pos (by rw [c1]), nI_add]
        · show HC m2 w (cuaV T U (n + 1))
          unfold cuaV
          rw [if_neg (fun z => z c1)]
          exact hC
      · obtain ⟨m3, g1, g2, g3⟩ := c_cup (T := T) hC i1 hd hpn (hT2.out hO (fun o e => EW_law ha e)) hB ha
        refine ⟨(nI (n + 1), m3), ?_, rfl, ?_, hO.tr g3⟩
        · rw [if_neg (fun z => c1 ((nI_eq (by omega) (by decide)).1 z)), g1, bnd_eq, nI_add]
        · show HC m3 w (cuaV T U (n + 1))
          unfold cuaV
          rw [if_pos c1]
          exact g2
    · rintro ⟨nI', m2⟩ ⟨rfl, hC, hO⟩
      have hC : HC m2 w (cuaV T U (V 0 0 0)) := hC
      obtain ⟨i1, i2⟩ := cuaV_k (T := T) k1 (V 0 0 0) (Nat.le_of_eq e0.symm)
      have eP := hC.P
      have e00 := i2 0 0 0 (by unfold cuaK; omega)
      refine ⟨m2, ?_, hC, hO⟩
      show World_passDay_l54 _ _ _ _ _ = _
      unfold World_passDay_l54
      rw [eP, e00, e0, if_pos (nI_le (Nat.le_refl _) (by omega))]
  · rintro n ⟨nI', m2⟩ hn ⟨rfl, hC, hO⟩
    have hC : HC m2 w (wraV T V n) := hC
    have hO : Out (EW w t) μ m2 := hO
    obtain ⟨i1, i2⟩ := wraV_k (T := T) hw hB n (by omega)
    have eP := hC.P
    have e00 := i2 0 0 0 (by unfold wraK; omega)
    have hpn : n < wraV T V n 0 0 0 := by omega
    have ei := c_isw hC i1.2.2.2.2.2.1 hpn
    refine Or.inl ?_
    show ∃ s2, World_passDay_l20 _ _ _ _ _ = _ ∧ _
    unfold World_passDay_l20 World_passDay_j46
    rw [eP, e00, if_neg (nI_ge hn (by omega)), chv_nI (by omega) (by decide), ix_nI (by omega), ei, bnd_eq]
    by_cases c1 : wraV T V n 1 n 1 ≠ 2 ∧ wraV T V n 1 n 5 = 0 ∧ 0 < wraV T V n 3 n 0
    · obtain ⟨m3, g1, g2, g3⟩ := c_wrp (T := T) hC i1 hd hpn c1.2.2 (hT.out hO (fun o e => EW_law ha e)) hB ha
      refine ⟨(nI (n + 1), m3), ?_, rfl, ?_, hO.tr g3⟩
      · rw [if_pos c1, if_neg (by decide), g1, bnd_eq, nI_add]
      · show HC m3 w (wraV T V (n + 1))
        unfold wraV
        rw [if_pos c1]
        exact g2
    · refine ⟨(nI (n + 1), m2), ?_, rfl, ?_, hO⟩
      · rw [if_neg c1, if_pos (by decide), nI_add]
      · show HC m2 w (wraV T V (n + 1))
        unfold wraV
        rw [if_neg c1]
        exact hC
  · rintro ⟨nI', m2⟩ ⟨rfl, hC, hO⟩
    have hC : HC m2 w (wraV T V (V 0 0 0)) := hC
    obtain ⟨i1, i2⟩ := wraV_k (T := T) hw hB (V 0 0 0) (Nat.le_refl _)
    have eP := hC.P
    have e00 := i2 0 0 0 (by unfold wraK; omega)
    refine ⟨m2, ?_, hC, hO⟩
    show World_passDay_l20 _ _ _ _ _ = _
    unfold World_passDay_l20
    rw [eP, e00, if_pos (nI_le (Nat.le_refl _) (by omega))]
theorem c_day {μ : Mm} {w t d : Nat} {V : VS} {T : TT} (h : HC μ w V) (hw : WF d V) (hd : d < 2 ^ 30) (hT : TC μ t T) (hB : TB T) (ha : apart w t) :
    ∃ μ2, World_passDay w t μ = some (nI (dayB V).2, μ2) ∧ HC μ2 w (dayV T V) ∧ Out (EW w t) μ μ2 := by
  have er := h.ru (j := 3) (by decide)
  have w10 := hw.2.2.2.2.2.2.2.2.2.2.2.2.2.2.2
  have e0 : (dayB V).1 0 0 0 = V 0 0 0 := dayB_o (by omega) (by omega) (by omega) (by omega) (by omega) (by omega)
  have e4 : (dayB V).1 0 0 4 = V 0 0 4 := dayB_o (by omega) (by omega) (by omega) (by omega) (by omega) (by omega)
  unfold World_passDay
  rw [chv_nI (by decide) (by decide), ix_nI (by decide), er]
  by_cases c1 : V 20 0 3 = 0
  · obtain ⟨m, g1, g2, g3⟩ := c_bring h hw hd
    have eB : dayB V = brgV V := if_pos c1
    obtain ⟨m2, f1, f2, f3⟩ := c_day17 (T := T) g2 hw.brg hd (hT.out g3 (fun o e => EW_law ha (EW_w e))) hB ha (nI (brgV V).2)
    rw [← eB, e0, e4] at f2
    refine ⟨m2, ?_, f2, (g3.mono (fun o e => EW_w e)).tr f3⟩
    rw [if_pos (by rw [c1]; rfl), g1, bnd2_eq, f1, eB]
  · have eB : dayB V = (V, 0) := if_neg c1
    obtain ⟨m2, f1, f2, f3⟩ := c_day17 (T := T) h hw hd hT hB ha (nI 0)
    refine ⟨m2, ?_, ?_, f3⟩
    · rw [if_neg (nI_ne0 (by omega) (by omega)), f1, eB]
    · unfold dayV dayW
      rw [eB]
      exact f2
