/-! WHAT THE ACTS KEEP, second part -/
theorem inI_le {x l m : Nat} (h : inI (nI x) (nI l) (nI m) = true) (hx : x < 2 ^ 31) (hl : l < 2 ^ 31) (hm : m < 2 ^ 31) : l ≤ x ∧ x ≤ m := by
  obtain ⟨a, b⟩ := of_decide_eq_true (show decide (¬ nI x < nI l ∧ ¬ nI m < nI x) = true from h)
  refine ⟨Nat.le_of_not_lt fun z => a (nI_lt z hl), Nat.le_of_not_lt fun z => b (nI_lt z hx)⟩
theorem prOK_yes {V : VS} {a b c : Int32} (h : prOK V a b c = true) : V 0 0 0 < 16 ∧ ix a < 6 ∧ ix b < 3 ∧ ix c < 100 := by
  unfold prOK at h
  rw [Bool.and_eq_true, Bool.and_eq_true, Bool.and_eq_true] at h
  obtain ⟨h1, h2, h3, h4⟩ := h
  obtain ⟨i, hi, rfl⟩ := inI_some h1 (by decide)
  obtain ⟨j, hj, rfl⟩ := inI_some h2 (by decide)
  obtain ⟨k, hk, rfl⟩ := inI_some h3 (by decide)
  rw [ix_nI (by omega), ix_nI (by omega), ix_nI (by omega)]
  exact ⟨of_decide_eq_true h4, by omega, by omega, by omega⟩
theorem wf_prV {V : VS} {d : Nat} {a b c : Int32} (hw : WF d V) (h : prOK V a b c = true) : WF d (prV V (ix a) (ix b) (ix c)) := by
  obtain ⟨h1, h2, h3, h4⟩ := prOK_yes h
  exact wf_pers hw h1 h2 h3 h4
theorem wf_vrV {V : VS} {d : Nat} {a b : Int32} (hw : WF d V) (h : vrOK V a b = true) : WF d (verV V (ix a) (ix b) 0 0) := by
  unfold vrOK at h
  rw [Bool.and_eq_true, Bool.and_eq_true] at h
  obtain ⟨h1, h2, h3⟩ := h
  obtain ⟨i, hi, rfl⟩ := inI_some h1 (by decide)
  obtain ⟨j, hj, rfl⟩ := inI_some h2 (by decide)
  rw [ix_nI (by omega), ix_nI (by omega)]
  exact hw.ver (of_decide_eq_true h3) (by omega) (by omega) (Nat.zero_le _)
theorem lv_vrV {V : VS} {e x f t : Nat} (h : LV V) : LV (verV V e x f t) := LV.same (U := verV V e x f t) h (verV_o (by omega) (by omega)) (fun p => verV_o (by omega) (by omega)) (fun p i => verV_o (by omega) (by omega))
theorem bnd_set : ∀ k, k < 10 → ∃ l m, leastI k = nI l ∧ mostI k = nI m ∧ l < 10000 ∧ m < 10000 ∧ (k = 0 → m < 6) ∧ (k = 1 → m < 3) ∧ (k = 2 → m < 100) ∧ (k = 3 → m < 100) ∧ (k = 5 → m < 2) ∧ (k = 6 → 1 ≤ l ∧ m ≤ 9) ∧ (k = 7 → 1 ≤ l ∧ m ≤ 20) ∧ (k = 8 → m ≤ 1000) ∧ (k = 9 → m < 2) := by
  intro k hk
  refine ⟨ix (leastI k), ix (mostI k), ?_⟩
  revert k hk
  decide +kernel
theorem wf_stV {V : VS} {d : Nat} {a b c : Int32} (hw : WF d V) (h : stOK V a b c = true) : WF d (stV V (ix a) (ix b) (ix c)) := by
  unfold stOK at h
  rw [Bool.and_eq_true, Bool.and_eq_true] at h
  obtain ⟨h1, h2, -⟩ := h
  obtain ⟨k, hk, rfl⟩ := inI_some h1 (by decide)
  rw [ix_nI (by omega)] at h2 ⊢
  have hk : k < 10 := by omega
  obtain ⟨x, hx, rfl⟩ := can_nn hk h2
  obtain ⟨l, m, e1, e2, hl, hm, B⟩ := bnd_set k hk
  rw [e1, e2] at h2
  obtain ⟨b1, b2⟩ := inI_le h2 (by omega) (by omega) (by omega)
  rw [ix_nI (by omega)]
  unfold stV
  split
  · exact wf_told hw (by omega)
  · exact wf_rule hw (by omega)
theorem lv_stV {V : VS} {k p x : Nat} (h : LV V) : LV (stV V k p x) := by
  unfold stV
  split
  · exact h.put (by omega) (by omega) (by omega)
  · exact h.put (by omega) (by omega) (by omega)
theorem wf_adV {V : VS} {d : Nat} {a b : Int32} (hw : WF d V) (h : adOK V a b = true) : WF d (adV V (ix a) b) := by
  unfold adOK at h
  rw [Bool.and_eq_true] at h
  obtain ⟨h1, h2⟩ := h
  obtain ⟨p, hp, rfl⟩ := pnV_some hw.1 h1
  have hP := hw.1
  rw [ix_nI (by omega)] at h2 ⊢
  unfold adV
  by_cases c : b = -1
  · rw [if_pos c]
    exact wf_row0 hw
  · rw [if_neg c]
    rw [decide_eq_false c, Bool.false_or, Bool.and_eq_true, Bool.and_eq_true] at h2
    obtain ⟨h3, h4, h5⟩ := h2
    obtain ⟨q, hq, rfl⟩ := pnV_some hw.1 h3
    rw [ix_nI (by omega)]
    refine wf_row hw (of_decide_eq_true h5) hq (fun z => ?_)
    subst z
    rw [decide_eq_true rfl] at h4
    cases h4
theorem lv_adV {V : VS} {p : Nat} {b : Int32} (h : LV V) : LV (adV V p b) := by
  unfold adV
  split
  · exact (h.put (by omega) (by omega) (by omega)).put (by omega) (by omega) (by omega)
  · exact (h.put (by omega) (by omega) (by omega)).put (by omega) (by omega) (by omega)
/-! versions never grow fewer over a day -/
theorem copV_v {V : VS} {v q : Nat} : V 0 0 1 ≤ (copV V v q).1 0 0 1 := by
  unfold copV
  split
  · exact Nat.le_refl _
  · split
    · exact Nat.le_of_eq (d1V_o (by omega)).symm
    · split
      · exact Nat.le_of_eq ((d1V_o (by omega)).trans (d1V_o (by omega))).symm
      · simp only [verV_1]
        rw [d1V_o (by omega), d1V_o (by omega)]
        exact Nat.le_succ _
theorem sndV_v {T : TT} {V : VS} {p i : Nat} : V 0 0 1 ≤ sndV T V p i 0 0 1 := by
  unfold sndV
  rw [sntV_o (by omega) (by omega) (by omega) (by omega) (by omega), pstV_o (by omega) (by omega)]
  exact copV_v
theorem wr1V_v {T : TT} {V : VS} {p i : Nat} : V 0 0 1 ≤ wr1V T V p i 0 0 1 := itn_inv (fun _ (U : VS) => V 0 0 1 ≤ U 0 0 1) (Nat.le_refl _) _ (fun _ U _ h => Nat.le_trans h sndV_v)
theorem wr2V_v {T : TT} {p : Nat} {s : VS × Nat} : s.1 0 0 1 ≤ (wr2V T p s).1 0 0 1 := by
  by_cases c : wr1V T s.1 p s.2 10 p s.2 = 0
  · rw [wr2V_pos c]
    show s.1 0 0 1 ≤ vset (remV (wr1V T s.1 p s.2) p s.2) 0 0 5 (wr1V T s.1 p s.2 0 0 5 + 1) 0 0 1
    rw [vset_ne (by omega), remV_o (by omega)]
    exact wr1V_v
  · rw [wr2V_neg c]
    exact wr1V_v
theorem wrpV_v {T : TT} {V : VS} {p : Nat} : V 0 0 1 ≤ wrpV T V p 0 0 1 := itn_inv (f := wr2V T p) (a := (V, 0)) (fun _ s => V 0 0 1 ≤ s.1 0 0 1) (Nat.le_refl _) _ (fun _ s _ h => Nat.le_trans h wr2V_v)
theorem wraV_v {T : TT} {V : VS} (n : Nat) : V 0 0 1 ≤ wraV T V n 0 0 1 := by
  induction n with
  | zero => exact Nat.le_refl _
  | succ n ih =>
    unfold wraV
    split
    · exact Nat.le_trans ih wrpV_v
    · exact ih
theorem dayV_v {T : TT} {V : VS} {d : Nat} (hw : WF d V) (hB : TB T) : V 0 0 1 ≤ dayV T V 0 0 1 := by
  obtain ⟨h1, h2, h3⟩ := hw.dayW hB
  have k := (cuaV_k (T := T) h1 (V 0 0 0) (Nat.le_of_eq h2.symm)).2 0 0 1 (by unfold cuaK; omega)
  have e : dayV T V 0 0 1 = dayW T V 0 0 1 := (vset_ne (by omega)).trans k
  rw [e]
  unfold Jvm.Pilot.CNineCopiesLaw_law_r8239_772bdc.dayW
  exact Nat.le_trans (Nat.le_of_eq (dayB_o (by omega) (by omega) (by omega) (by omega) (by omega) (by omega)).symm) (wraV_v _)
theorem days_v {T : TT} {V : VS} {d n : Nat} (hw : WF d V) (hB : TB T) (h : V 0 0 4 + n ≤ d) (hl : LV V) : V 0 0 1 ≤ itn n (dayV T) V 0 0 1 := by
  induction n with
  | zero => exact Nat.le_refl _
  | succ n ih => exact Nat.le_trans (ih (by omega)) (dayV_v (itn_dayD hw hB (show V 0 0 4 + n ≤ d by omega) hl).1 hB)
/-! the check's cells that bear a state lie in the image -/
theorem inIm_of {c p i : Nat} (h : pot c p i) (h1 : own3 c i) : inIm (mo c i) (pM c p i) := by
  revert h1
  refine pot_cases (Z := fun c p i => own3 c i → inIm (mo c i) (pM c p i)) h ?h0 ?h01 ?h02 ?h03 ?h04 ?h05 ?h06 ?h07 ?h08 ?h09 ?h10 ?h11 ?h12 ?h13 ?h14 ?h15 ?h2 ?h3 ?h4 ?h5 ?h6 ?h7 ?h8 ?h9 ?hX ?hv11 ?hv12 ?hv13 ?hv14 ?hw15 ?hw16 ?hw17 ?hw18 ?hr ?h21 ?h22 ?hb23 ?hb24 ?hb25 ?hb26 ?hb27
  case h15 => exact fun p _ h1 => absurd ⟨rfl, rfl⟩ h1.1
  case h09 => exact fun h1 => absurd ⟨rfl, rfl⟩ h1.2.2
  case h0 => exact fun _ => Or.inr (Or.inl ⟨rfl, Or.inl rfl⟩)
  case h01 => exact fun _ => Or.inl ⟨rfl, by decide⟩
  case h02 => exact fun _ => Or.inl ⟨rfl, by decide⟩
  case h03 => exact fun _ => Or.inl ⟨rfl, by decide⟩
  case h04 => exact fun _ => Or.inl ⟨rfl, by decide⟩
  case h05 => exact fun _ => Or.inl ⟨rfl, by decide⟩
  case h06 => exact fun _ => Or.inl ⟨rfl, by decide⟩
  case h07 => exact fun _ => Or.inl ⟨rfl, by decide⟩
  case h08 => exact fun _ => Or.inl ⟨rfl, by decide⟩
  case h10 => exact fun p hp _ => Or.inr (Or.inr (Or.inl ⟨by decide, hp⟩))
  case h11 => exact fun p hp _ => Or.inr (Or.inr (Or.inl ⟨by decide, hp⟩))
  case h12 => exact fun p hp _ => Or.inr (Or.inr (Or.inl ⟨by decide, hp⟩))
  case h3 => exact fun p hp _ => Or.inr (Or.inr (Or.inl ⟨by decide, hp⟩))
  case h13 => exact fun p hp _ => Or.inl ⟨rfl, show 183 + p < 712 by omega⟩
  case h14 => exact fun p hp _ => Or.inl ⟨rfl, show 199 + p < 712 by omega⟩
  case h4 => exact fun p hp _ => Or.inl ⟨rfl, show 167 + p < 712 by omega⟩
  case h5 => exact fun p hp _ => Or.inl ⟨rfl, show 247 + p < 712 by omega⟩
  case h6 => exact fun p hp _ => Or.inl ⟨rfl, show 263 + p < 712 by omega⟩
  case h21 => exact fun p hp _ => Or.inl ⟨rfl, show 215 + p < 712 by omega⟩
  case h22 => exact fun p hp _ => Or.inl ⟨rfl, show 231 + p < 712 by omega⟩
  case h2 => exact fun p i hp hi _ => Or.inr (Or.inr (Or.inr (Or.inl ⟨rfl, show 9 * p + i < 144 by omega⟩)))
  case h7 => exact fun p i hp hi _ => Or.inl ⟨rfl, show 279 + 4 * (3 * p + i) + 0 < 712 by omega⟩
  case h8 => exact fun p i hp hi _ => Or.inl ⟨rfl, show 279 + 4 * (3 * p + i) + 1 < 712 by omega⟩
  case h9 => exact fun p i hp hi _ => Or.inl ⟨rfl, show 279 + 4 * (3 * p + i) + 2 < 712 by omega⟩
  case hX => exact fun p i hp hi _ => Or.inl ⟨rfl, show 279 + 4 * (3 * p + i) + 3 < 712 by omega⟩
  case hv11 => exact fun i hi _ => Or.inl ⟨rfl, show 7 + i < 712 by omega⟩
  case hv12 => exact fun i hi _ => Or.inl ⟨rfl, show 47 + i < 712 by omega⟩
  case hv13 => exact fun i hi _ => Or.inl ⟨rfl, show 87 + i < 712 by omega⟩
  case hv14 => exact fun i hi _ => Or.inl ⟨rfl, show 127 + i < 712 by omega⟩
  case hw15 => exact fun i hi _ => Or.inl ⟨rfl, show 472 + 4 * i + 0 < 712 by omega⟩
  case hw16 => exact fun i hi _ => Or.inl ⟨rfl, show 472 + 4 * i + 1 < 712 by omega⟩
  case hw17 => exact fun i hi _ => Or.inl ⟨rfl, show 472 + 4 * i + 2 < 712 by omega⟩
  case hw18 => exact fun i hi _ => Or.inl ⟨rfl, show 472 + 4 * i + 3 < 712 by omega⟩
  case hr => exact fun i hi _ => Or.inr (Or.inl ⟨rfl, show 13 + i = 6 ∨ 13 + i = 10 ∨ (13 ≤ 13 + i ∧ 13 + i ≤ 17) ∨ 13 + i = 43 by omega⟩)
  case hb23 => exact fun i hi _ => Or.inr (Or.inr (Or.inr (Or.inr (Or.inr (Or.inr (Or.inl ⟨rfl, show 5 * i + 0 < 1000 by omega⟩))))))
  case hb24 => exact fun i hi _ => Or.inr (Or.inr (Or.inr (Or.inr (Or.inr (Or.inr (Or.inl ⟨rfl, show 5 * i + 1 < 1000 by omega⟩))))))
  case hb25 => exact fun i hi _ => Or.inr (Or.inr (Or.inr (Or.inr (Or.inr (Or.inr (Or.inl ⟨rfl, show 5 * i + 2 < 1000 by omega⟩))))))
  case hb26 => exact fun i hi _ => Or.inr (Or.inr (Or.inr (Or.inr (Or.inr (Or.inr (Or.inl ⟨rfl, show 5 * i + 3 < 1000 by omega⟩))))))
  case hb27 => exact fun i hi _ => Or.inr (Or.inr (Or.inr (Or.inr (Or.inr (Or.inr (Or.inl ⟨rfl, show 5 * i + 4 < 1000 by omega⟩))))))
