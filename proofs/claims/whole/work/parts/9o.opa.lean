/-! THE THIRTY-TWO OPERATIONS: acts -/
theorem wf_state {V : VS} {d x : Nat} (hw : WF d V) : WF d (vset V 0 0 8 x) := hw.lost (by decide)
theorem stV_v {V : VS} {k p x : Nat} : stV V k p x 0 0 1 = V 0 0 1 := by
  unfold stV
  split <;> exact vset_ne (by omega)
theorem adV_v {V : VS} {p : Nat} {b : Int32} : adV V p b 0 0 1 = V 0 0 1 := by
  unfold adV
  split
  · rw [vset_ne (by omega), vset_ne (by omega)]
  · rw [vset_ne (by omega), vset_ne (by omega)]
theorem op_state {μ ν : Mm} (h : Sim μ ν) (a : Int32) : ∃ R μ2 ν2, Nine_state a μ = some (R, μ2) ∧ M_state a ν = some (R, ν2) ∧ Sim μ2 ν2 := by
  obtain ⟨V, D, n, pv, tn, tp, u, nx, H, h⟩ := h
  have q := h
  obtain ⟨⟨hc, hm, hw, hl⟩, ⟨⟨tc, tm, htw, -⟩, -⟩, ⟨k1, k2, k3⟩, s1, s2, s3⟩ := q
  obtain ⟨μ2, e1, e2, e3⟩ := c_state hc a
  obtain ⟨ν2, f1, f2, f3, f4⟩ := m_state hm a
  exact ⟨_, μ2, ν2, e1, f1, sim_act h e2 e3 f2 f3 f4 (wf_state hw) (hl.put (by omega) (by omega) (by omega)) (Nat.le_of_eq (vset_ne (by omega)).symm)⟩
theorem op_person {μ ν : Mm} (h : Sim μ ν) (a b c : Int32) : ∃ R μ2 ν2, Nine_person a b c μ = some (R, μ2) ∧ M_person a b c ν = some (R, ν2) ∧ Sim μ2 ν2 := by
  obtain ⟨V, D, n, pv, tn, tp, u, nx, H, h⟩ := h
  have q := h
  obtain ⟨⟨hc, hm, hw, hl⟩, ⟨⟨tc, tm, htw, -⟩, -⟩, ⟨k1, k2, k3⟩, s1, s2, s3⟩ := q
  rcases c_person hc a b c with ⟨no, e1⟩ | ⟨yes, μ2, e1, e2, e3⟩
  · rcases m_person hm a b c with ⟨-, f1⟩ | ⟨yes, -⟩
    · exact ⟨_, _, _, e1, f1, sim_q1 h⟩
    · rw [no] at yes
      cases yes
  · rcases m_person hm a b c with ⟨no, -⟩ | ⟨-, ν2, f1, f2, f3, f4⟩
    · rw [no] at yes
      cases yes
    · exact ⟨_, μ2, ν2, e1, f1, sim_act h e2 e3 f2 f3 f4 (wf_prV hw yes) (lv_pers hl) (Nat.le_of_eq (prV_o (by omega) (by omega)).symm)⟩
theorem op_set {μ ν : Mm} (h : Sim μ ν) (a b c : Int32) : ∃ R μ2 ν2, Nine_set a b c μ = some (R, μ2) ∧ M_set a b c ν = some (R, ν2) ∧ Sim μ2 ν2 := by
  obtain ⟨V, D, n, pv, tn, tp, u, nx, H, h⟩ := h
  have q := h
  obtain ⟨⟨hc, hm, hw, hl⟩, ⟨⟨tc, tm, htw, -⟩, -⟩, ⟨k1, k2, k3⟩, s1, s2, s3⟩ := q
  rcases c_set hc a b c with ⟨no, e1⟩ | ⟨yes, μ2, e1, e2, e3⟩
  · rcases m_set hm a b c with ⟨-, f1⟩ | ⟨yes, -⟩
    · exact ⟨_, _, _, e1, f1, sim_q1 h⟩
    · rw [no] at yes
      cases yes
  · rcases m_set hm a b c with ⟨no, -⟩ | ⟨-, ν2, f1, f2, f3, f4⟩
    · rw [no] at yes
      cases yes
    · exact ⟨_, μ2, ν2, e1, f1, sim_act h e2 e3 f2 f3 f4 (wf_stV hw yes) (lv_stV hl) (Nat.le_of_eq stV_v.symm)⟩
theorem op_address {μ ν : Mm} (h : Sim μ ν) (a b : Int32) : ∃ R μ2 ν2, Nine_address a b μ = some (R, μ2) ∧ M_address a b ν = some (R, ν2) ∧ Sim μ2 ν2 := by
  obtain ⟨V, D, n, pv, tn, tp, u, nx, H, h⟩ := h
  have q := h
  obtain ⟨⟨hc, hm, hw, hl⟩, ⟨⟨tc, tm, htw, -⟩, -⟩, ⟨k1, k2, k3⟩, s1, s2, s3⟩ := q
  rcases c_address hc hw a b with ⟨no, e1⟩ | ⟨yes, μ2, e1, e2, e3⟩
  · rcases m_address hm hw a b with ⟨-, f1⟩ | ⟨yes, -⟩
    · exact ⟨_, _, _, e1, f1, sim_q1 h⟩
    · rw [no] at yes
      cases yes
  · rcases m_address hm hw a b with ⟨no, -⟩ | ⟨-, ν2, f1, f2, f3, f4⟩
    · rw [no] at yes
      cases yes
    · exact ⟨_, μ2, ν2, e1, f1, sim_act h e2 e3 f2 f3 f4 (wf_adV hw yes) (lv_adV hl) (Nat.le_of_eq adV_v.symm)⟩
theorem op_version {μ ν : Mm} (h : Sim μ ν) (a b : Int32) : ∃ R μ2 ν2, Nine_version a b μ = some (R, μ2) ∧ M_version a b ν = some (R, ν2) ∧ Sim μ2 ν2 := by
  obtain ⟨V, D, n, pv, tn, tp, u, nx, H, h⟩ := h
  have q := h
  obtain ⟨⟨hc, hm, hw, hl⟩, ⟨⟨tc, tm, htw, -⟩, -⟩, ⟨k1, k2, k3⟩, s1, s2, s3⟩ := q
  rcases c_version hc a b with ⟨no, e1⟩ | ⟨yes, μ2, e1, e2, e3⟩
  · rcases m_version hm a b with ⟨-, f1⟩ | ⟨yes, -⟩
    · exact ⟨_, _, _, e1, f1, sim_q1 h⟩
    · rw [no] at yes
      cases yes
  · rcases m_version hm a b with ⟨no, -⟩ | ⟨-, ν2, f1, f2, f3, f4⟩
    · rw [no] at yes
      cases yes
    · exact ⟨_, μ2, ν2, e1, f1, sim_act h e2 e3 f2 f3 f4 (wf_vrV hw yes) (lv_vrV hl) (by rw [verV_1]; exact Nat.le_succ _)⟩
theorem op_hand {μ ν : Mm} (h : Sim μ ν) (a b : Int32) : ∃ R μ2 ν2, Nine_hand a b μ = some (R, μ2) ∧ M_hand a b ν = some (R, ν2) ∧ Sim μ2 ν2 := by
  obtain ⟨V, D, n, pv, tn, tp, u, nx, H, h⟩ := h
  have q := h
  obtain ⟨⟨hc, hm, hw, hl⟩, ⟨⟨tc, tm, htw, -⟩, -⟩, ⟨k1, k2, k3⟩, s1, s2, s3⟩ := q
  rcases c_hand hc hw s1 a b with ⟨no, e1⟩ | ⟨yes, μ2, e1, e2, e3, e4, e5⟩
  · rcases m_hand hm hw s2 a b with ⟨-, f1⟩ | ⟨yes, -⟩
    · exact ⟨_, _, _, e1, f1, sim_q1 h⟩
    · rw [no] at yes
      cases yes
  · rcases m_hand hm hw s2 a b with ⟨no, -⟩ | ⟨-, ν2, f1, f2, f3, f4⟩
    · rw [no] at yes
      cases yes
    · refine ⟨_, μ2, ν2, e1, f1, sim_past h e2 (e5.mono (fun o z => ?_)) e4 f2 (f4.mono (fun o k z => ?_)) ⟨e3, f3, (s3.push s1.2.2.2.1 hw hl).to Stat.give⟩ (hw.hand yes) (hl.give hw.2.2.2.2.2.2.2.2.2.2.1) (Nat.le_of_eq (giveV_o (by omega) (by omega) (by omega)).symm)⟩
      · unfold EW
        rcases z with z | z | z
        · exact Or.inl z
        · exact Or.inr (Or.inl z)
        · exact Or.inr (Or.inr (Or.inl z))
      · unfold EH at z
        unfold ED
        omega
theorem op_burn {μ ν : Mm} (h : Sim μ ν) (a b : Int32) : ∃ R μ2 ν2, Nine_burn a b μ = some (R, μ2) ∧ M_burn a b ν = some (R, ν2) ∧ Sim μ2 ν2 := by
  obtain ⟨V, D, n, pv, tn, tp, u, nx, H, h⟩ := h
  have q := h
  obtain ⟨⟨hc, hm, hw, hl⟩, ⟨⟨tc, tm, htw, -⟩, -⟩, ⟨k1, k2, k3⟩, s1, s2, s3⟩ := q
  rcases c_burn hc hw s1 a b with ⟨no, e1⟩ | ⟨yes, μ2, e1, e2, e3, e4, e5⟩
  · rcases m_burn hm hw s2 a b with ⟨-, f1⟩ | ⟨yes, -⟩
    · exact ⟨_, _, _, e1, f1, sim_q1 h⟩
    · rw [no] at yes
      cases yes
  · rcases m_burn hm hw s2 a b with ⟨no, -⟩ | ⟨-, ν2, f1, f2, f3, f4⟩
    · rw [no] at yes
      cases yes
    · refine ⟨_, μ2, ν2, e1, f1, sim_past h e2 (e5.mono (fun o z => ?_)) e4 f2 (f4.mono (fun o k z => ?_)) ⟨e3, f3, (s3.push s1.2.2.2.1 hw hl).to Stat.rem⟩ (hw.burn yes) (hl.rem) (Nat.le_of_eq (remV_o (by omega)).symm)⟩
      · unfold EW
        rcases z with z | z | z
        · exact Or.inl z
        · exact Or.inr (Or.inl z)
        · exact Or.inr (Or.inr (Or.inl z))
      · unfold EH at z
        unfold ED
        omega
theorem days_no {a : Int32} (h : inI a (nI 1) (nI 60) = false) (μ : Mm) : Nine_days a μ = some (-1, μ) := by
  unfold Nine_days
  have h := of_decide_eq_false (show decide (¬ a < nI 1 ∧ ¬ nI 60 < a) = false from h)
  by_cases c1 : a < nI 1
  · rw [if_pos c1]
  · rw [if_neg c1, if_pos (Classical.byContradiction fun y => h ⟨c1, y⟩)]
theorem op_days {μ ν : Mm} (h : Sim μ ν) (a : Int32) : ∃ R μ2 ν2, Nine_days a μ = some (R, μ2) ∧ M_days a ν = some (R, ν2) ∧ Sim μ2 ν2 := by
  obtain ⟨V, D, n, pv, tn, tp, u, nx, H, h⟩ := h
  have q := h
  obtain ⟨⟨hc, hm, hw, hl⟩, ⟨⟨tc, tm, htw, -⟩, -⟩, ⟨k1, k2, k3⟩, s1, s2, s3⟩ := q
  have dyC := hc.dy
  have dyM := (hm.told (nI 0)).dy
  have d9 := hw.2.2.2.2.1
  rcases c : inI a (nI 1) (nI 60) with _ | _
  · refine ⟨_, _, _, days_no c μ, ?_, sim_q1 h⟩
    unfold M_days
    rw [lt_eq, m_isIn, bnd_eq, c, if_neg (show ¬ (false = true) from fun z => by cases z), if_00]
  · obtain ⟨a1, a2⟩ := of_decide_eq_true (show decide (¬ a < nI 1 ∧ ¬ nI 60 < a) = true from c)
    have a0 : ¬ a < 0 := fun z => a1 (Int32.lt_trans z (by decide))
    obtain ⟨m, hm31, rfl⟩ := nI_ofN a0
    have m1 : 1 ≤ m := Nat.le_of_not_lt fun z => a1 (nI_lt z (by decide))
    have m6 : m ≤ 60 := Nat.le_of_not_lt fun z => a2 (nI_lt z hm31)
    by_cases cd : V 0 0 4 + m ≤ 9999
    · obtain ⟨μ2, nx2, e1, e2, e3, e4, e5⟩ := c_days hc hw s1 (tc.TC htw (by decide +kernel) (by decide +kernel)) (TofD_B htw) m1 m6 cd hl
      obtain ⟨ν2, f1, f2, f3, f4, f5⟩ := m_days hm hw s2 s3 (tm.TM htw) (TofD_B htw) m1 m6 cd hl
      have w2 := itn_dayD (T := TofD D) hw (TofD_B htw) cd hl
      exact ⟨_, μ2, ν2, e1, f1, sim_past h e2 e5 e4 f2 f5 ⟨e3, f3, f4⟩ w2.1 w2.2.1 (days_v hw (TofD_B htw) cd hl)⟩
    · refine ⟨-1, μ, sti ν 0 0 (nI 0), ?_, ?_, sim_q1 h⟩
      · unfold Nine_days
        rw [if_neg a1, if_neg a2, dyC, nI_add, if_neg (nI_ge (by omega) (by omega))]
      · unfold M_days
        rw [lt_eq, m_isIn, bnd_eq, c, if_pos rfl, if_neg (by decide), chv_nI (by decide) (by decide), ix_nI (by decide), dyM, nI_add, if_neg (nI_ge (by omega) (by omega))]
