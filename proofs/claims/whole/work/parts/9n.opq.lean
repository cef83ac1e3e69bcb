/-! THE THIRTY-TWO OPERATIONS, beside each other: questions -/
theorem op_of {μ ν : Mm} (h : Sim μ ν) (a b : Int32) : ∃ R ν2, Nine_of a b μ = some R ∧ M_of a b ν = some (R, ν2) ∧ Sim μ ν2 := by
  obtain ⟨V, D, n, pv, tn, tp, u, nx, H, h⟩ := h
  have q := h
  obtain ⟨⟨hc, hm, hw, hl⟩, ⟨⟨tc, tm, htw, -⟩, -⟩, ⟨k1, k2, k3⟩, s1, s2, s3⟩ := q
  exact ⟨_, _, c_of hc hw a b, m_of hm hw a b, sim_q1 h⟩
theorem op_onWay {μ ν : Mm} (h : Sim μ ν) (a b : Int32) : ∃ R ν2, Nine_onWay a b μ = some R ∧ M_onWay a b ν = some (R, ν2) ∧ Sim μ ν2 := by
  obtain ⟨V, D, n, pv, tn, tp, u, nx, H, h⟩ := h
  have q := h
  obtain ⟨⟨hc, hm, hw, hl⟩, ⟨⟨tc, tm, htw, -⟩, -⟩, ⟨k1, k2, k3⟩, s1, s2, s3⟩ := q
  exact ⟨_, _, c_onway hc a b, m_onway hm a b, sim_q1 h⟩
theorem op_kind {μ ν : Mm} (h : Sim μ ν) (a b : Int32) : ∃ R ν2, Nine_kind a b μ = some R ∧ M_kind a b ν = some (R, ν2) ∧ Sim μ ν2 := by
  obtain ⟨V, D, n, pv, tn, tp, u, nx, H, h⟩ := h
  have q := h
  obtain ⟨⟨hc, hm, hw, hl⟩, ⟨⟨tc, tm, htw, -⟩, -⟩, ⟨k1, k2, k3⟩, s1, s2, s3⟩ := q
  exact ⟨_, _, c_kind hc hw a b, m_kind hm hw a b, sim_q1 h⟩
theorem op_post {μ ν : Mm} (h : Sim μ ν) (a b : Int32) : ∃ R ν2, Nine_post a b μ = some R ∧ M_post a b ν = some (R, ν2) ∧ Sim μ ν2 := by
  obtain ⟨V, D, n, pv, tn, tp, u, nx, H, h⟩ := h
  have q := h
  obtain ⟨⟨hc, hm, hw, hl⟩, ⟨⟨tc, tm, htw, -⟩, -⟩, ⟨k1, k2, k3⟩, s1, s2, s3⟩ := q
  exact ⟨_, _, c_post (tc.TC htw (by decide +kernel) (by decide +kernel)) a b, m_postQ (tm.TM htw) a b, sim_q1 h⟩
theorem op_book {μ ν : Mm} (h : Sim μ ν) (a b : Int32) : ∃ R ν2, Nine_book a b μ = some R ∧ M_book a b ν = some (R, ν2) ∧ Sim μ ν2 := by
  obtain ⟨V, D, n, pv, tn, tp, u, nx, H, h⟩ := h
  have q := h
  obtain ⟨⟨hc, hm, hw, hl⟩, ⟨⟨tc, tm, htw, -⟩, -⟩, ⟨k1, k2, k3⟩, s1, s2, s3⟩ := q
  exact ⟨_, _, c_bookQ hc a b, m_bookQ hm hw.2.2.2.1 a b, sim_q1 h⟩
theorem op_reach {μ ν : Mm} (h : Sim μ ν) (a : Int32) : ∃ R ν2, Nine_reach a μ = some R ∧ M_reach a ν = some (R, ν2) ∧ Sim μ ν2 := by
  obtain ⟨V, D, n, pv, tn, tp, u, nx, H, h⟩ := h
  have q := h
  obtain ⟨⟨hc, hm, hw, hl⟩, ⟨⟨tc, tm, htw, -⟩, -⟩, ⟨k1, k2, k3⟩, s1, s2, s3⟩ := q
  exact ⟨_, _, c_reach hc hw a, m_reach hm hw a, sim_q1 h⟩
theorem op_sources {μ ν : Mm} (h : Sim μ ν) (a b : Int32) : ∃ R ν2, Nine_sources a b μ = some R ∧ M_sources a b ν = some (R, ν2) ∧ Sim μ ν2 := by
  obtain ⟨V, D, n, pv, tn, tp, u, nx, H, h⟩ := h
  have q := h
  obtain ⟨⟨hc, hm, hw, hl⟩, ⟨⟨tc, tm, htw, -⟩, -⟩, ⟨k1, k2, k3⟩, s1, s2, s3⟩ := q
  exact ⟨_, _, c_src hc hw a b, m_src hm hw a b, sim_q1 h⟩
theorem op_circle {μ ν : Mm} (h : Sim μ ν) (a : Int32) : ∃ R ν2, Nine_circle a μ = some R ∧ M_circle a ν = some (R, ν2) ∧ Sim μ ν2 := by
  obtain ⟨V, D, n, pv, tn, tp, u, nx, H, h⟩ := h
  have q := h
  obtain ⟨⟨hc, hm, hw, hl⟩, ⟨⟨tc, tm, htw, -⟩, -⟩, ⟨k1, k2, k3⟩, s1, s2, s3⟩ := q
  exact ⟨_, _, c_circle hc hw a, m_circle hm hw a, sim_q1 h⟩
theorem op_join {μ ν : Mm} (h : Sim μ ν) : ∃ R ν2, Nine_join μ = some R ∧ M_join ν = some (R, ν2) ∧ Sim μ ν2 := by
  obtain ⟨V, D, n, pv, tn, tp, u, nx, H, h⟩ := h
  have q := h
  obtain ⟨⟨hc, hm, hw, hl⟩, ⟨⟨tc, tm, htw, -⟩, -⟩, ⟨k1, k2, k3⟩, s1, s2, s3⟩ := q
  exact ⟨_, _, c_join hc hw.2.2.2.2.2.2.2.2.1 k1 k3, m_join hm hw.2.2.2.2.2.2.2.2.1 k2 k3, sim_q1 h⟩
theorem op_forebear {μ ν : Mm} (h : Sim μ ν) (a b : Int32) : ∃ R ν2, Nine_forebear a b μ = some R ∧ M_forebear a b ν = some (R, ν2) ∧ Sim μ ν2 := by
  obtain ⟨V, D, n, pv, tn, tp, u, nx, H, h⟩ := h
  have q := h
  obtain ⟨⟨hc, hm, hw, hl⟩, ⟨⟨tc, tm, htw, -⟩, -⟩, ⟨k1, k2, k3⟩, s1, s2, s3⟩ := q
  exact ⟨_, _, c_forebear hc hw a b, m_forebear hm hw a b, sim_q1 h⟩
theorem op_knows {μ ν : Mm} (h : Sim μ ν) (a : Int32) : ∃ R ν2, Nine_knows a μ = some R ∧ M_knows a ν = some (R, ν2) ∧ Sim μ ν2 := by
  obtain ⟨V, D, n, pv, tn, tp, u, nx, H, h⟩ := h
  have q := h
  obtain ⟨⟨hc, hm, hw, hl⟩, ⟨⟨tc, tm, htw, -⟩, -⟩, ⟨k1, k2, k3⟩, s1, s2, s3⟩ := q
  exact ⟨_, _, c_knows hc hw a, m_knows hm hw a, sim_q1 h⟩
theorem op_many {μ ν : Mm} (h : Sim μ ν) (a b : Int32) : ∃ R μ2 ν2, Nine_many a b μ = some (R, μ2) ∧ M_many a b ν = some (R, ν2) ∧ Sim μ2 ν2 := by
  obtain ⟨V, D, n, pv, tn, tp, u, nx, H, h⟩ := h
  have q := h
  obtain ⟨⟨hc, hm, hw, hl⟩, ⟨⟨tc, tm, htw, -⟩, -⟩, ⟨k1, k2, k3⟩, s1, s2, s3⟩ := q
  obtain ⟨μ2, e1, e2⟩ := c_many hc hw (tc.TC htw (by decide +kernel) (by decide +kernel)) (TofD_B htw) a b
  obtain ⟨ν2, f1, f2⟩ := m_many hm hw (tm.TM htw) (TofD_B htw) a b
  exact ⟨_, μ2, ν2, e1, f1, sim_q2 h (e2.mono (fun o z => Or.inl z)) f2⟩
theorem op_over {μ ν : Mm} (h : Sim μ ν) : ∃ R μ2 ν2, Nine_over μ = some (R, μ2) ∧ M_over ν = some (R, ν2) ∧ Sim μ2 ν2 := by
  obtain ⟨V, D, n, pv, tn, tp, u, nx, H, h⟩ := h
  have q := h
  obtain ⟨⟨hc, hm, hw, hl⟩, ⟨⟨tc, tm, htw, -⟩, -⟩, ⟨k1, k2, k3⟩, s1, s2, s3⟩ := q
  obtain ⟨μ2, e1, e2⟩ := c_overA hc hw (tc.TC htw (by decide +kernel) (by decide +kernel)) (TofD_B htw)
  obtain ⟨ν2, f1, f2⟩ := m_overA hm hw (tm.TM htw) (TofD_B htw)
  exact ⟨_, μ2, ν2, e1, f1, sim_q2 h (e2.mono (fun o z => Or.inl z)) f2⟩
theorem op_stop {μ ν : Mm} (h : Sim μ ν) (a : Int32) : ∃ R μ2 ν2, Nine_stop a μ = some (R, μ2) ∧ M_stop a ν = some (R, ν2) ∧ Sim μ2 ν2 := by
  obtain ⟨V, D, n, pv, tn, tp, u, nx, H, h⟩ := h
  have q := h
  obtain ⟨⟨hc, hm, hw, hl⟩, ⟨⟨tc, tm, htw, -⟩, -⟩, ⟨k1, k2, k3⟩, s1, s2, s3⟩ := q
  obtain ⟨μ2, e1, e2⟩ := c_stop hc hw hl (tc.TC htw (by decide +kernel) (by decide +kernel)) (TofD_B htw) a
  obtain ⟨ν2, f1, f2⟩ := m_stop hm hw (tm.TM htw) (TofD_B htw) a
  exact ⟨_, μ2, ν2, e1, f1, sim_q2 h (e2) f2⟩
theorem op_lasts {μ ν : Mm} (h : Sim μ ν) (a : Int32) : ∃ R μ2 ν2, Nine_lasts a μ = some (R, μ2) ∧ M_lasts a ν = some (R, ν2) ∧ Sim μ2 ν2 := by
  obtain ⟨V, D, n, pv, tn, tp, u, nx, H, h⟩ := h
  have q := h
  obtain ⟨⟨hc, hm, hw, hl⟩, ⟨⟨tc, tm, htw, -⟩, -⟩, ⟨k1, k2, k3⟩, s1, s2, s3⟩ := q
  obtain ⟨μ2, e1, e2⟩ := c_lasts hc hw (tc.TC htw (by decide +kernel) (by decide +kernel)) (TofD_B htw) a
  obtain ⟨ν2, f1, f2⟩ := m_lasts hm hw (tm.TM htw) (TofD_B htw) a
  exact ⟨_, μ2, ν2, e1, f1, sim_q2 h (e2.mono (fun o z => Or.inl z)) f2⟩
theorem op_letter {μ ν : Mm} (h : Sim μ ν) (a b c : Int32) : ∃ R μ2 ν2, Nine_letter a b c μ = some (R, μ2) ∧ M_letter a b c ν = some (R, ν2) ∧ Sim μ2 ν2 := by
  obtain ⟨V, D, n, pv, tn, tp, u, nx, H, h⟩ := h
  have q := h
  obtain ⟨⟨hc, hm, hw, hl⟩, ⟨⟨tc, tm, htw, -⟩, -⟩, ⟨k1, k2, k3⟩, s1, s2, s3⟩ := q
  obtain ⟨μ2, e1, e2, e3⟩ := c_letter hc hw (tc.TC htw (by decide +kernel) (by decide +kernel)) (TofD_B htw) a b c
  obtain ⟨ν2, f1, f2, f3⟩ := m_letter hm hw (tm.TM htw) (TofD_B htw) a b c
  refine ⟨_, μ2, ν2, e1, f1, sim_q h e2 (e3.mono (fun o z => ?_)) f2 f3⟩
  unfold EW inW at z
  unfold YQ
  omega
theorem op_look {μ ν : Mm} (h : Sim μ ν) (a : Int32) : ∃ R ν2, Nine_look a μ = some R ∧ M_look a ν = some (R, ν2) ∧ Sim μ ν2 := by
  obtain ⟨V, D, n, pv, tn, tp, u, nx, H, h⟩ := h
  have q := h
  obtain ⟨⟨hc, hm, hw, hl⟩, ⟨⟨tc, tm, htw, -⟩, -⟩, ⟨k1, k2, k3⟩, s1, s2, s3⟩ := q
  have e : ∃ A : Nat → Int32, (μ.1 167 6 = A 10 ∧ μ.1 173 6 = A 11 ∧ μ.1 179 1 = A 12 ∧ μ.1 0 8 = A 13 ∧ μ.1 181 1 = A 14) ∧ ν.1 13 0 = A 10 ∧ ν.1 13 1 = A 11 ∧ ν.1 0 43 = A 12 ∧ ν.1 0 3 = A 13 ∧ ν.1 0 17 = A 14 := by
    refine ⟨fun i => if i = 10 then μ.1 167 6 else if i = 11 then μ.1 173 6 else if i = 12 then μ.1 179 1 else if i = 13 then μ.1 0 8 else μ.1 181 1, ⟨rfl, rfl, rfl, rfl, rfl⟩, ?_, ?_, ?_, ?_, ?_⟩
    · exact tm.1.1.trans tc.1.2.1.symm
    · exact tm.2.1.1.trans tc.2.1.2.1.symm
    · exact tm.2.2.1.trans tc.2.2.1.symm
    · exact s2.1.trans s1.1.symm
    · exact k2.1.trans k1.1.symm
  obtain ⟨A, ⟨a0, a1, a2, a3, a4⟩, b0, b1, b2, b3, b4⟩ := e
  exact ⟨_, _, c_look hc a0 a1 a2 a3 a4 a, m_look hm b0 b1 b2 b3 b4 a, sim_q1 h⟩
