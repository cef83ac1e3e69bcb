/-! ALL LETTERS HAVE COPIES LEFT, from day to day; hand and burn -/
theorem LV.same {V U : VS} (h : LV V) (e0 : U 0 0 0 = V 0 0 0) (e6 : ∀ p, U 6 p 0 = V 6 p 0) (e10 : ∀ p i, U 10 p i = V 10 p i) : LV U := fun p i hp hi => by
  rw [e0] at hp
  rw [e6] at hi
  rw [e10]
  exact h p i hp hi
theorem LV.put {V : VS} (h : LV V) {c q k x : Nat} (h0 : ¬ (c = 0 ∧ k = 0)) (h6 : c ≠ 6) (h10 : c ≠ 10) : LV (vset V c q k x) := LV.same (U := vset V c q k x) h (vset_ne (by omega)) (fun p => vset_ne (by omega)) (fun p i => vset_ne (by omega))
theorem LV.give {V : VS} {p v f : Nat} (h : LV V) (h2 : 1 ≤ V 20 0 0) : LV (giveV V p v f) := fun q i hq hi => by
  rw [giveV_o (by omega) (by omega) (by omega)] at hq
  rw [giveV_6] at hi
  by_cases e : q = p ∧ i = V 6 p 0
  · obtain ⟨rfl, rfl⟩ := e
    rw [giveV_10]
    exact h2
  · rw [giveV_n e (by decide) (by decide) (by decide)]
    by_cases e2 : q = p
    · subst e2
      rw [if_pos rfl] at hi
      exact h q i hq (by omega)
    · rw [if_neg e2] at hi
      exact h q i hq hi
/-- behind the i-th one being out of his hands, the others being so -/
theorem LV.rem0 {V : VS} {p i : Nat} (h : ∀ q j, q < V 0 0 0 → j < V 6 q 0 → ¬ (q = p ∧ j = i) → 1 ≤ V 10 q j) : LV (remV V p i) := fun q j hq hj => by
  rw [remV_o (by omega)] at hq
  rw [remV_6] at hj
  by_cases e2 : q = p
  · subst e2
    rw [if_pos rfl] at hj
    rw [remV_l (by omega)]
    by_cases e : i ≤ j
    · rw [if_pos e]
      exact h q (j + 1) hq (by omega) (by omega)
    · rw [if_neg e]
      exact h q j hq (by omega) (by omega)
  · rw [if_neg e2] at hj
    rw [remV_o (by omega)]
    exact h q j hq hj (fun z => e2 z.1)
theorem LV.rem {V : VS} {p i : Nat} (h : LV V) : LV (remV V p i) := LV.rem0 (fun q j hq hj _ => h q j hq hj)
theorem LV.rcb {V : VS} {v f t : Nat} (h : LV V) (h2 : 1 ≤ V 20 0 0) : LV (rcbV V v f t).1 := by
  have k : LV (rcvV V v f t).1 := by
    unfold rcvV
    split
    · exact h
    · split
      · exact h
      · split
        · exact h.put (by omega) (by omega) (by omega)
        · exact h.give h2
  unfold rcbV
  exact k.same (bookV_o (by omega) (by omega)) (fun p => bookV_o (by omega) (by omega)) (fun p i => bookV_o (by omega) (by omega))
theorem arvS_r {V : VS} (k : Nat) : (arvS V k).1 20 0 0 = V 20 0 0 := arvS_o k (by omega) (by omega) (by omega) (by omega) (by omega) (by omega)
theorem LV.arv {V : VS} (h : LV V) (h2 : 1 ≤ V 20 0 0) (k : Nat) : LV (arvS V k).1 := by
  induction k with
  | zero => exact h
  | succ k ih =>
    unfold arvS
    split
    · exact LV.same (U := wmvV (arvS V k).1 (arvS V k).2.1 k) ih (wmvV_o (by omega)) (fun p => wmvV_o (by omega)) (fun p i => wmvV_o (by omega))
    · exact ih.rcb (by rw [arvS_r]; exact h2)
theorem LV.dayB {V : VS} (h : LV V) (h2 : 1 ≤ V 20 0 0) : LV (dayB V).1 := by
  unfold Jvm.Pilot.CNineCopiesLaw_law_r8239_772bdc.dayB
  split
  · exact LV.put (V := (arvS V (V 0 0 2)).1) (h.arv h2 (V 0 0 2)) (by omega) (by omega) (by omega)
  · exact h
theorem LV.wr2 {V : VS} {d p n : Nat} {T : TT} (h : LV V) (hw : WF d V) (hB : TB T) (hp : p < V 0 0 0) (hr : 0 < V 3 p 0) (hn : n ≤ V 6 p 0) : LV (itn n (wr2V T p) (V, 0)).1 := by
  induction n with
  | zero => exact h
  | succ n ih =>
    have ih := ih (by omega)
    obtain ⟨i1, i2, i3⟩ := itn_wr2 hw hB hp hr n (by omega)
    have e1 := i2 0 0 0 (by unfold wrpK; omega)
    have e2 := i2 3 p 0 (by unfold wrpK; omega)
    show LV (wr2V T p (itn n (wr2V T p) (V, 0))).1
    generalize itn n (wr2V T p) (V, 0) = s at ih i1 i2 i3 e1 e2 ⊢
    have hi : s.2 < s.1 6 p 0 := by omega
    obtain ⟨k1, k2⟩ := wr1V_k i1 hB (by rw [e1]; exact hp) hi (by rw [e2]; exact hr)
    have k0 := k2 0 0 0 (by unfold sndK; omega)
    have k6 : ∀ q, _ := fun q => k2 6 q 0 (by unfold sndK; omega)
    have k10 : ∀ q j, ¬ (q = p ∧ j = s.2) → wr1V T s.1 p s.2 10 q j = s.1 10 q j := fun q j z => k2 10 q j (by unfold sndK; omega)
    by_cases z : wr1V T s.1 p s.2 10 p s.2 = 0
    · rw [wr2V_pos z]
      refine LV.put (LV.rem0 (V := wr1V T s.1 p s.2) (p := p) (i := s.2) (fun q j hq hj y => ?_)) (by omega) (by omega) (by omega)
      rw [k10 q j y]
      exact ih q j (by rw [← k0]; exact hq) (by rw [← k6]; exact hj)
    · rw [wr2V_neg z]
      intro q j hq hj
      have hq : q < wr1V T s.1 p s.2 0 0 0 := hq
      have hj : j < wr1V T s.1 p s.2 6 q 0 := hj
      show 1 ≤ wr1V T s.1 p s.2 10 q j
      by_cases y : q = p ∧ j = s.2
      · obtain ⟨rfl, rfl⟩ := y
        omega
      · rw [k10 q j y]
        exact ih q j (by rw [← k0]; exact hq) (by rw [← k6]; exact hj)
theorem LV.wra {V : VS} {d : Nat} {T : TT} (h : LV V) (hw : WF d V) (hB : TB T) (n : Nat) (hn : n ≤ V 0 0 0) : LV (wraV T V n) := by
  induction n with
  | zero => exact h
  | succ n ih =>
    have ih := ih (by omega)
    obtain ⟨k1, k2⟩ := wraV_k hw hB n (by omega)
    have k0 := k2 0 0 0 (by unfold wraK; omega)
    unfold wraV
    split
    · rename_i c
      exact ih.wr2 k1 hB (by rw [k0]; omega) c.2.2 (Nat.le_refl _)
    · exact ih
theorem LV.cu2 {V : VS} {p n : Nat} {T : TT} (h : LV V) : LV (itn n (cu2V T p) (V, 0)).1 := by
  induction n with
  | zero => exact h
  | succ n ih =>
    show LV (cu2V T p (itn n (cu2V T p) (V, 0))).1
    generalize itn n (cu2V T p) (V, 0) = s at ih ⊢
    by_cases z : s.1 0 0 4 < s.1 9 p s.2
    · rw [cu2V_pos z]
      exact ih
    · rw [cu2V_neg z]
      exact LV.put (LV.rem (p := p) (i := s.2) (V := vset s.1 1 p 4 (s.1 1 p 4 - T.2.1 (nmV s.1 p s.2))) (ih.put (by omega) (by omega) (by omega))) (by omega) (by omega) (by omega)
theorem LV.cua {V : VS} {T : TT} (h : LV V) (n : Nat) : LV (cuaV T V n) := by
  induction n with
  | zero => exact h
  | succ n ih =>
    unfold cuaV
    split
    · exact LV.cu2 ih
    · exact ih
theorem LV.day {V : VS} {d : Nat} {T : TT} (h : LV V) (hw : WF d V) (hB : TB T) : LV (dayV T V) := by
  have w10 := hw.2.2.2.2.2.2.2.2.2.2
  have h1 : LV (dayW T V) := (h.dayB w10.1).wra hw.dayB hB _ (Nat.le_of_eq dayB_P.symm)
  exact (h1.cua (T := T) (V 0 0 0)).put (by omega) (by omega) (by omega)
/-! hand and burn -/
def hnOK (V : VS) (a b : Int32) : Bool := pnV V a && bnI (V 0 0 1) b && decide (V 1 (ix a) 1 ≠ 1 ∧ V 6 (ix a) 0 < 3)
theorem hnOK_some {V : VS} {a b : Int32} (hP : V 0 0 0 ≤ 16) (hv : V 0 0 1 ≤ 40) (h : hnOK V a b = true) : ∃ p v, p < V 0 0 0 ∧ v < V 0 0 1 ∧ a = nI p ∧ b = nI v ∧ V 1 p 1 ≠ 1 ∧ V 6 p 0 < 3 := by
  unfold hnOK at h
  simp only [Bool.and_eq_true, decide_eq_true_eq] at h
  obtain ⟨⟨h1, h2⟩, h3, h4⟩ := h
  obtain ⟨p, hp, rfl⟩ := pnV_some hP h1
  obtain ⟨v, hv2, rfl⟩ := bnI_some (by omega) h2
  rw [ix_nI (by omega)] at h3 h4
  exact ⟨p, v, hp, hv2, rfl, rfl, h3, h4⟩
theorem c_hand {μ : Mm} {V : VS} {u nx d : Nat} {H : Nat → VS} (h : HC μ 1 V) (hw : WF d V) (hH : HisC μ u nx H) (a b : Int32) :
    (hnOK V a b = false ∧ Nine_hand a b μ = some (nI 0, μ)) ∨ (hnOK V a b = true ∧ ∃ μ2, Nine_hand a b μ = some (nI 1, μ2) ∧ HC μ2 1 (giveV V (ix a) (ix b) 0) ∧ HisC μ2 (pshU u) ((nx + 1) % 6) (pshH u H V) ∧ (∀ k, k ≠ 8 → k ≠ 9 → μ2.1 0 k = μ.1 0 k) ∧ Out (fun o => o = 0 ∨ EP o ∨ inW 1 o) μ μ2) := by
  have hP := hw.1
  have hv40 := hw.2.1
  unfold Nine_hand
  rw [c_hasP h, bnd_eq]
  by_cases h1 : pnV V a = true
  · have h1' : inI a (nI 0) (nI (V 0 0 0) - nI 1) = true := h1
    obtain ⟨p, hp, rfl⟩ := pnV_some hP h1
    rw [if_pos h1', if_neg (by decide), c_hasV (w := 1) h, bnd_eq]
    by_cases h2 : bnI (V 0 0 1) b = true
    · obtain ⟨v, hv, rfl⟩ := bnI_some (by omega) h2
      have w5 := hw.2.2.2.2.2.1 p hp
      rw [if_pos h2, if_neg (by decide), chv_nI (by omega) (by decide), chv_nI (by decide) (by decide), ix_nI (by omega), ix_nI (by decide), h.told hp (by decide)]
      by_cases h3 : V 1 p 1 = 1
      · left
        refine ⟨by unfold hnOK; rw [ix_nI (by omega)]; simp [h3], ?_⟩
        rw [if_pos (by rw [h3])]
      · rw [if_neg (fun z => h3 ((nI_eq (by omega) (by decide)).1 z))]
        unfold Letters_isFull
        rw [h.hc hp, (h.lens (by omega)).1]
        by_cases h4 : V 6 p 0 < 3
        · right
          refine ⟨by unfold hnOK; rw [ix_nI (by omega), h1, h2]; simp [h3, h4], ?_⟩
          rw [if_pos (nI_lt h4 (by decide)), bnd_eq, if_00]
          obtain ⟨μ1, g1, g2, g3, g4, g5⟩ := c_push h hH
          obtain ⟨μ2, f1, f2, f3⟩ := c_give (f := 0) (fi := -1) g2 hw.2.2.2.2.2.1 hp h4 hv (by decide)
          rw [g1, bnd_eq, f1, bnd_eq, ix_nI (by omega)]
          have o0 : ∀ k, μ2.1 0 k = μ1.1 0 k := (f3 0 (fun z => by have := z.1; omega)).1
          refine ⟨μ2, rfl, f2, g3.out f3 (fun o z y => by
            unfold EP at z
            unfold inW at y
            omega) (o0 8) (o0 9), fun k z1 z2 => (o0 k).trans (g4 k z1 z2), (g5.mono (fun o z => z.elim Or.inl (fun y => Or.inr (Or.inl y)))).tr (f3.mono (fun o z => Or.inr (Or.inr z)))⟩
        · left
          refine ⟨by unfold hnOK; rw [ix_nI (by omega)]; simp [h4], ?_⟩
          rw [if_neg (nI_nlt (by omega) (by omega)), bnd_eq, if_neg (by decide)]
    · left
      refine ⟨by unfold hnOK; simp [Bool.eq_false_iff.2 h2], ?_⟩
      rw [if_neg h2, if_00]
  · left
    refine ⟨by unfold hnOK; simp [Bool.eq_false_iff.2 h1], ?_⟩
    rw [if_neg (show ¬ inI a (nI 0) (nI (V 0 0 0) - nI 1) = true from h1), if_00]
def EH (o k : Nat) : Prop := o = 1 ∨ o = 2 ∨ (o = 0 ∧ (k = 0 ∨ k = 3))
theorem m_hand {ν : Mm} {V : VS} {u d : Nat} {H : Nat → VS} (h : HM ν 0 V) (hw : WF d V) (hH : HisM ν u H) (a b : Int32) :
    (hnOK V a b = false ∧ M_hand a b ν = some (nI 0, sti ν 0 0 (nI 0))) ∨ (hnOK V a b = true ∧ ∃ ν2, M_hand a b ν = some (nI 1, ν2) ∧ HM ν2 0 (giveV V (ix a) (ix b) 0) ∧ HisM ν2 (pshU u) (pshH u H V) ∧ OutM EH ν ν2) := by
  have hP := hw.1
  have hv40 := hw.2.1
  have h0 := h.told (nI 0)
  have hH0 : HisM (sti ν 0 0 (nI 0)) u H := hH.out (OutM.rf.sti (E := fun o k => o = 0 ∧ k = 0) ⟨rfl, rfl⟩) (fun k z => by omega) (fun z => by omega)
  unfold M_hand
  rw [lt_eq, m_isP h0, bnd_eq]
  by_cases h1 : pnV V a = true
  · obtain ⟨p, hp, rfl⟩ := pnV_some hP h1
    rw [if_pos h1, if_neg (by decide), m_hasV h0, bnd_eq]
    by_cases h2 : bnI (V 0 0 1) b = true
    · obtain ⟨v, hv, rfl⟩ := bnI_some (by omega) h2
      have w5 := hw.2.2.2.2.2.1 p hp
      rw [if_pos h2, if_neg (by decide), chv_nI (by omega) (by decide), ix_nI (by omega), h0.kind hp]
      by_cases h3 : V 1 p 1 = 1
      · left
        refine ⟨by unfold hnOK; rw [ix_nI (by omega)]; simp [h3], ?_⟩
        rw [if_pos (by rw [h3])]
      · rw [if_neg (fun z => h3 ((nI_eq (by omega) (by decide)).1 z)), nI_add, chv_nI (by omega) (by decide), ix_nI (by omega), h0.hc hp]
        by_cases h4 : V 6 p 0 < 3
        · right
          refine ⟨by unfold hnOK; rw [ix_nI (by omega), h1, h2]; simp [h3, h4], ?_⟩
          rw [if_neg (fun z => by have := (nI_eq (by omega) (by decide)).1 z; omega)]
          obtain ⟨ν1, g1, g2, g3, g4⟩ := m_push h0 hH0
          obtain ⟨ν2, f1, f2, f3⟩ := m_holds (f := 0) (fI := -1) g2 hp h4 hv (by decide)
          rw [g1, bnd_eq, f1, bnd_eq, ix_nI (by omega)]
          refine ⟨ν2, rfl, f2, g3.out f3 (fun k z => by unfold isO at z; omega) (fun z => by unfold isO at z; omega), ?_⟩
          refine ((OutM.rf.sti (by unfold EH; omega)).tr (g4.mono (fun o k z => ?_))).tr (f3.mono (fun o k z => ?_))
          · unfold EP2 at z
            unfold EH
            omega
          · unfold isO at z
            unfold EH
            omega
        · left
          refine ⟨by unfold hnOK; rw [ix_nI (by omega)]; simp [h4], ?_⟩
          rw [if_pos (by rw [show V 6 p 0 = 3 by omega])]
    · left
      refine ⟨by unfold hnOK; simp [Bool.eq_false_iff.2 h2], ?_⟩
      rw [if_neg h2, if_00]
  · left
    refine ⟨by unfold hnOK; simp [Bool.eq_false_iff.2 h1], ?_⟩
    rw [if_neg h1, if_00]
theorem c_burn {μ : Mm} {V : VS} {u nx d : Nat} {H : Nat → VS} (h : HC μ 1 V) (hw : WF d V) (hH : HisC μ u nx H) (a b : Int32) :
    (hasLB V a b = false ∧ Nine_burn a b μ = some (nI 0, μ)) ∨ (hasLB V a b = true ∧ ∃ μ2, Nine_burn a b μ = some (nI 1, μ2) ∧ HC μ2 1 (remV V (ix a) (ix b)) ∧ HisC μ2 (pshU u) ((nx + 1) % 6) (pshH u H V) ∧ (∀ k, k ≠ 8 → k ≠ 9 → μ2.1 0 k = μ.1 0 k) ∧ Out (fun o => o = 0 ∨ EP o ∨ inW 1 o) μ μ2) := by
  unfold Nine_burn
  rw [c_hasLet h, bnd_eq]
  by_cases h1 : hasLB V a b = true
  · right
    refine ⟨h1, ?_⟩
    obtain ⟨p, i, hp, hi, rfl, rfl⟩ := hasLB_some hw.1 (fun p hp => h.h3 hp) h1
    have h3 := h.h3 hp
    have hP := hw.1
    obtain ⟨μ1, g1, g2, g3, g4, g5⟩ := c_push h hH
    obtain ⟨μ2, f1, f2, f3⟩ := c_remP g2 hp hi
    rw [if_pos h1, if_neg (by decide), g1, bnd_eq, chv_nI (by omega) (by decide), ix_nI (by omega), ix_nI (by omega), f1, bnd_eq]
    have o0 : ∀ k, μ2.1 0 k = μ1.1 0 k := (f3 0 (fun z => by have := z.1; omega)).1
    exact ⟨μ2, rfl, f2, g3.out f3 (fun o z y => by
      unfold EP at z
      unfold inW at y
      omega) (o0 8) (o0 9), fun k z1 z2 => (o0 k).trans (g4 k z1 z2), (g5.mono (fun o z => z.elim Or.inl (fun y => Or.inr (Or.inl y)))).tr (f3.mono (fun o z => Or.inr (Or.inr z)))⟩
  · left
    refine ⟨Bool.eq_false_iff.2 h1, ?_⟩
    rw [if_neg h1, if_00]
theorem m_burn {ν : Mm} {V : VS} {u d : Nat} {H : Nat → VS} (h : HM ν 0 V) (hw : WF d V) (hH : HisM ν u H) (a b : Int32) :
    (hasLB V a b = false ∧ M_burn a b ν = some (nI 0, sti ν 0 0 (nI 0))) ∨ (hasLB V a b = true ∧ ∃ ν2, M_burn a b ν = some (nI 1, ν2) ∧ HM ν2 0 (remV V (ix a) (ix b)) ∧ HisM ν2 (pshU u) (pshH u H V) ∧ OutM EH ν ν2) := by
  have h0 := h.told (nI 0)
  have hH0 : HisM (sti ν 0 0 (nI 0)) u H := hH.out (OutM.rf.sti (E := fun o k => o = 0 ∧ k = 0) ⟨rfl, rfl⟩) (fun k z => by omega) (fun z => by omega)
  unfold M_burn
  rw [lt_eq, m_hasLet h0, bnd_eq]
  by_cases h1 : hasLB V a b = true
  · right
    refine ⟨h1, ?_⟩
    obtain ⟨p, i, hp, hi, rfl, rfl⟩ := hasLB_some hw.1 (fun p hp => h.h3 hp) h1
    have h3 := h.h3 hp
    have hP := hw.1
    obtain ⟨ν1, g1, g2, g3, g4⟩ := m_push h0 hH0
    obtain ⟨ν2, f1, f2, f3⟩ := m_loses g2 hp hi
    rw [if_pos h1, if_neg (by decide), g1, bnd_eq, f1, bnd_eq, ix_nI (by omega), ix_nI (by omega)]
    refine ⟨ν2, rfl, f2, g3.out f3 (fun k z => by unfold isO at z; omega) (fun z => by unfold isO at z; omega), ?_⟩
    refine ((OutM.rf.sti (by unfold EH; omega)).tr (g4.mono (fun o k z => ?_))).tr (f3.mono (fun o k z => ?_))
    · unfold EP2 at z
      unfold EH
      omega
    · unfold isO at z
      unfold EH
      omega
  · left
    refine ⟨Bool.eq_false_iff.2 h1, ?_⟩
    rw [if_neg h1, if_00]
theorem WF.hand {V : VS} {d : Nat} {a b : Int32} (hw : WF d V) (h : hnOK V a b = true) : WF d (giveV V (ix a) (ix b) 0) := by
  obtain ⟨p, v, hp, hv, rfl, rfl, h1, h2⟩ := hnOK_some hw.1 hw.2.1 h
  rw [ix_nI (by have := hw.1; omega), ix_nI (by have := hw.2.1; omega)]
  exact hw.give hp h2 hv
theorem WF.burn {V : VS} {d : Nat} {a b : Int32} (hw : WF d V) (h : hasLB V a b = true) : WF d (remV V (ix a) (ix b)) := by
  obtain ⟨p, i, hp, hi, rfl, rfl⟩ := hasLB_some hw.1 (fun p hp => (hw.2.2.2.2.2.1 p hp).2.2.2.2.2.2.2.2.1) h
  rw [ix_nI (by have := hw.1; omega), ix_nI (by have := (hw.2.2.2.2.2.1 p hp).2.2.2.2.2.2.2.2.1; omega)]
  exact hw.rem hi
