/-! THE THIRTY-TWO OPERATIONS: what is picked, undone, fed -/
/-! what feeding leaves alone -/
theorem fdC_k (μ : Mm) (n : Nat) (v : Int32) (j : Nat) (k : Nat) (hk : k ≠ 1) : (fdC μ n v j).1 532 k = μ.1 532 k := by
  induction j with
  | zero => rfl
  | succ j ih =>
    show (sti (sti _ _ _ _) _ _ _).1 532 k = _
    rw [sti_n (fun z => hk z.2), sti_n (by omega)]
    exact ih
theorem c_numK {μ : Mm} {n : Nat} {tp : Nat → Nat} (h : tapC μ n tp) (hn : n + 4 ≤ 400) (v : Int32) : ∃ μ2, Reader_appendNumber 532 v μ = some μ2 ∧ tapC μ2 (n + 4) (tpN n tp v) ∧ ∀ k, k ≠ 1 → μ2.1 532 k = μ.1 532 k := by
  have key := iter_traj (f := fun s : Int32 × Mm => Reader_appendNumber_l3 532 v s.1 s.2) (fun k => (sh8 k, fdC μ n v k)) (y := fdC μ n v 4) 4 1000000 ?_ ?_ (by decide)
  · refine ⟨fdC μ n v 4, ?_, (fdC_is h v 4).1, fun k hk => fdC_k μ n v 4 k hk⟩
    unfold Reader_appendNumber
    rw [show sh8 0 = nI 24 from rfl] at key
    rw [show fdC μ n v 0 = μ from rfl] at key
    rw [key, bni_eq]
  · intro k hk
    obtain ⟨e1, e2, e3, e4⟩ := sh8_s k hk
    obtain ⟨⟨a, b⟩, c⟩ := fdC_is h v k
    show Reader_appendNumber_l3 532 _ _ _ = _
    unfold Reader_appendNumber_l3
    rw [if_neg e2, a, chv_nI (by omega) (by decide), ix_nI (by omega), e3, e1, by_ushr v e4, lt_eq, sti_n (by omega), a, nI_add, lt_eq]
    rfl
  · show Reader_appendNumber_l3 532 _ _ _ = _
    unfold Reader_appendNumber_l3
    rw [if_pos (show sh8 4 < 0 by decide)]
theorem c_feedK {μ : Mm} {n : Nat} {tp : Nat → Nat} (h : tapC μ n tp) (hn : n ≤ 380) (a b c d e : Int32) : ∃ R μ2, Nine_feed a b c d e μ = some (R, μ2) ∧ ∀ k, k ≠ 1 → μ2.1 532 k = μ.1 532 k := by
  unfold Nine_feed Reader_append
  rw [h.1, nI_add]
  obtain ⟨m1, f1, g1, o1⟩ := c_numK h (by omega) a
  obtain ⟨m2, f2, g2, o2⟩ := c_numK g1 (by omega) b
  obtain ⟨m3, f3, g3, o3⟩ := c_numK g2 (by omega) c
  obtain ⟨m4, f4, g4, o4⟩ := c_numK g3 (by omega) d
  obtain ⟨m5, f5, g5, o5⟩ := c_numK g4 (by omega) e
  refine ⟨nI (n + 4 + 4 + 4 + 4 + 4), m5, ?_, fun k hk => ((((o5 k hk).trans (o4 k hk)).trans (o3 k hk)).trans (o2 k hk)).trans (o1 k hk)⟩
  rw [if_pos (nI_le (by omega) (by decide)), f1, bnd_eq, f2, bnd_eq, f3, bnd_eq, f4, bnd_eq, f5, bnd_eq, g5.1, bnd2_eq]
def PkC (o : Nat) : Prop := o = 181 ∨ o = 182
def PkM (o k : Nat) : Prop := o = 9 ∨ (o = 0 ∧ (k = 0 ∨ k = 17))
theorem sim_pick {μ μ2 ν ν2 : Mm} {V : VS} {D : TD} {n tn u nx n2 : Nat} {pv tp pv2 : Nat → Nat} {H : Nat → VS} (h : SmV μ ν V ∧ SmX μ ν D tn tp ∧ SmK μ ν V n pv ∧ SmH μ ν V u nx H) (h2 : Out PkC μ μ2) (h4 : OutM PkM ν ν2) (hk : SmK μ2 ν2 V n2 pv2) : Sim μ2 ν2 := by
  obtain ⟨⟨a, b, w, l⟩, x, -, s1, s2, s3⟩ := h
  have o0 : ∀ k, μ2.1 0 k = μ.1 0 k := (h2 0 (fun z => by unfold PkC at z; omega)).1
  refine ⟨V, D, n2, pv2, tn, tp, u, nx, H, ⟨a.out h2 (fun o z y => ?_), b.out h4 (fun o k z y => ?_), w, l⟩, x.keep (h2.mono (fun o z => ?_)) (o0 6) (h4.mono (fun o k z => ?_)), hk, s1.out h2 (fun o z y => ?_) (o0 8) (o0 9), s2.out h4 (fun k z => ?_) (fun z => ?_), s3⟩
  · unfold inW at z
    unfold PkC at y
    omega
  · unfold cellN cellM at z
    unfold PkM at y
    omega
  · unfold PkC at z
    unfold YC
    omega
  · unfold PkM at z
    unfold YM
    omega
  · unfold EP at z
    unfold PkC at y
    omega
  · unfold PkM at z
    omega
  · unfold PkM at z
    omega
theorem op_pick {μ ν : Mm} (h : Sim μ ν) (a : Int32) : ∃ R μ2 ν2, Nine_pick a μ = some (R, μ2) ∧ M_pick a ν = some (R, ν2) ∧ Sim μ2 ν2 := by
  obtain ⟨V, D, n, pv, tn, tp, u, nx, H, h⟩ := h
  have q := h
  obtain ⟨⟨hc, hm, hw, hl⟩, -, ⟨k1, k2, k3⟩, -⟩ := q
  by_cases c : a = -1
  · subst c
    exact ⟨_, _, _, c_pick0, m_pick0, sim_pick (n2 := 0) (pv2 := pv) h (Out.rf.sti (Or.inl rfl)) ((OutM.rf.sti (Or.inr ⟨rfl, Or.inl rfl⟩)).sti (Or.inr ⟨rfl, Or.inr rfl⟩)) ⟨⟨sti_e ⟨rfl, rfl⟩, fun i hi => absurd hi (Nat.not_lt_zero _)⟩, ⟨sti_e ⟨rfl, rfl⟩, fun i hi => absurd hi (Nat.not_lt_zero _)⟩, by decide, fun i hi => absurd hi (Nat.not_lt_zero _)⟩⟩
  · have e1 := c_pick hc k1 k3 c
    have f1 := m_pick hm k2 k3 c
    by_cases c2 : pkOK V n pv a = true
    · rw [if_pos c2] at e1 f1
      have c2' := c2
      unfold pkOK at c2'
      rw [Bool.and_eq_true, Bool.and_eq_true] at c2'
      obtain ⟨b1, b2, -⟩ := c2'
      have b2 : n < 8 := of_decide_eq_true b2
      have hv := hw.2.1
      obtain ⟨j, hj, rfl⟩ := bnI_some (by omega) b1
      refine ⟨_, _, _, e1, f1, sim_pick (n2 := n + 1) (pv2 := fun i => if i = n then j else pv i) h ((Out.rf.sti (Or.inr rfl)).sti (Or.inl rfl)) (((OutM.rf.sti (Or.inr ⟨rfl, Or.inl rfl⟩)).sti (Or.inl rfl)).sti (Or.inr ⟨rfl, Or.inr rfl⟩)) ⟨⟨sti_e ⟨rfl, rfl⟩, fun i hi => ?_⟩, ⟨sti_e ⟨rfl, rfl⟩, fun i hi => ?_⟩, b2, fun i hi => ?_⟩⟩
      · rw [sti_n (by omega)]
        show _ = nI (if i = n then j else pv i)
        by_cases e : i = n
        · rw [if_pos e, sti_e ⟨rfl, e⟩]
        · rw [if_neg e, sti_n (fun z => e z.2)]
          exact k1.2 i (by omega)
      · rw [sti_n (by omega)]
        show _ = nI (if i = n then j else pv i)
        by_cases e : i = n
        · rw [if_pos e, sti_e ⟨rfl, e⟩]
        · rw [if_neg e, sti_n (fun z => e z.2), sti_n (by omega)]
          exact k2.2 i (by omega)
      · show (if i = n then j else pv i) < _
        by_cases e : i = n
        · rw [if_pos e]
          exact hj
        · rw [if_neg e]
          exact k3.2 i (by omega)
    · rw [if_neg c2] at e1 f1
      exact ⟨_, _, _, e1, f1, sim_q1 h⟩
theorem op_undo {μ ν : Mm} (h : Sim μ ν) : ∃ R μ2 ν2, Nine_undo μ = some (R, μ2) ∧ M_undo ν = some (R, ν2) ∧ Sim μ2 ν2 := by
  obtain ⟨V, D, n, pv, tn, tp, u, nx, H, h⟩ := h
  have q := h
  obtain ⟨⟨hc, hm, hw, hl⟩, x, ⟨k1, k2, k3⟩, s1, s2, s3⟩ := q
  cases u with
  | zero => exact ⟨_, _, _, c_undo0 s1, m_undo0 s2, sim_q1 h⟩
  | succ u =>
    obtain ⟨μ2, e1, e2, e3, e4, e5, e6⟩ := c_undo hc s1 s3 k1 k3
    obtain ⟨ν2, f1, f2, f3, f4, f5⟩ := m_undo hm s2 s3 k2 k3 hw.2.1
    obtain ⟨g1, g2, g3⟩ := s3.1 u (Nat.lt_succ_self u)
    have kp := kpF_is (pv := pv) (m := H u 0 0 1) n
    refine ⟨_, μ2, ν2, e1, f1, w0V (H u), D, _, _, tn, tp, u, _, H, ⟨e2, f2, g2.w0, g3.w0⟩, x.keep (e6.mono (fun o z => ?_)) (e5 6 (by decide) (by decide)) (f5.mono (fun o k z => ?_)), ⟨e4, f4, Nat.le_trans kp.1 k3.1, fun i hi => ?_⟩, e3, f3, fun j hj => ⟨?_, (s3.1 j (by omega)).2⟩, fun i j hi hj => s3.2 i j hi (by omega)⟩
    · unfold inW at z
      unfold YC
      omega
    · unfold EU at z
      unfold YM
      omega
    · rw [w0V_o (by omega)]
      exact kp.2 i hi
    · have z := s3.2 j u hj (Nat.lt_succ_self u)
      exact ⟨fun c q k y => (z.1 c q k y).trans (w0V_o (by unfold stc at y; omega)).symm, z.2.tr (BK.same (w0V_o (by omega)) (fun c i hc => w0V_o (by omega)))⟩
/-- the tape, the texts and the fault may be others; the rest stays -/
def TpC (o : Nat) : Prop := (532 ≤ o ∧ o ≤ 544) ∨ (166 ≤ o ∧ o < 181)
def TpM (o k : Nat) : Prop := (o = 0 ∧ (k = 0 ∨ (21 ≤ k ∧ k ≤ 25) ∨ (33 ≤ k ∧ k ≤ 43))) ∨ o = 11 ∨ (13 ≤ o ∧ o ≤ 20)
theorem sim_tape {μ μ2 ν ν2 : Mm} {V : VS} {D D2 : TD} {n tn u nx tn2 : Nat} {pv tp tp2 : Nat → Nat} {H : Nat → VS} (h : SmV μ ν V ∧ SmX μ ν D tn tp ∧ SmK μ ν V n pv ∧ SmH μ ν V u nx H) (h2 : Out TpC μ μ2) (h4 : OutM TpM ν ν2) (hT : TxC μ2 166 D2 ∧ TxM ν2 D2 ∧ TW D2) (hp : tapC μ2 tn2 tp2 ∧ tapM ν2 tn2 tp2 ∧ tapB tn2 tp2) (hf : μ2.1 532 2 = ν2.1 0 40 ∧ μ2.1 532 3 = ν2.1 0 41) : Sim μ2 ν2 := by
  obtain ⟨⟨a, b, w, l⟩, ⟨⟨-, -, -, wd⟩, -, -, im⟩, ⟨k1, k2, k3⟩, s1, s2, s3⟩ := h
  have o0 : ∀ k, μ2.1 0 k = μ.1 0 k := (h2 0 (fun z => by unfold TpC at z; omega)).1
  refine ⟨V, D2, n, pv, tn2, tp2, u, nx, H, ⟨a.out h2 (fun o z y => ?_), b.out h4 (fun o k z y => ?_), w, l⟩, ⟨⟨hT.1, hT.2.1, hT.2.2, fun k hk => ?_⟩, hp, hf, im.keep h2 (fun o z => ?_) (o0 6) (h4 _ _ (fun z => ?_)) (fun i => h4 _ _ (fun z => ?_))⟩, ⟨k1.out h2 (fun z => ?_) (fun z => ?_), ⟨?_, fun i hi => ?_⟩, k3⟩, s1.out h2 (fun o z y => ?_) (o0 8) (o0 9), s2.out h4 (fun k z => ?_) (fun z => ?_), s3⟩
  · unfold inW at z
    unfold TpC at y
    omega
  · unfold cellN cellM at z
    unfold TpM at y
    omega
  · rw [h4 12 k (fun z => by unfold TpM at z; omega)]
    exact wd k hk
  · unfold TpC at z
    omega
  · unfold TpM at z
    omega
  · unfold TpM at z
    omega
  · unfold TpC at z
    omega
  · unfold TpC at z
    omega
  · rw [h4 0 17 (fun z => by unfold TpM at z; omega)]
    exact k2.1
  · rw [h4 9 i (fun z => by unfold TpM at z; omega)]
    exact k2.2 i hi
  · unfold EP at z
    unfold TpC at y
    omega
  · unfold TpM at z
    omega
  · unfold TpM at z
    omega
theorem op_text {μ ν : Mm} (h : Sim μ ν) (a : Int32) : ∃ R μ2 ν2, Nine_text a μ = some (R, μ2) ∧ M_text a ν = some (R, ν2) ∧ Sim μ2 ν2 := by
  obtain ⟨V, D, n, pv, tn, tp, u, nx, H, h⟩ := h
  have q := h
  obtain ⟨-, ⟨⟨tc, tm, htw, wd⟩, ⟨p1, p2, p3⟩, -⟩, -⟩ := q
  obtain ⟨μ2, c, Hy, e1, e2, e3, e4, e5, e6⟩ := c_text p1 p3 tc a
  obtain ⟨ν2, f1, f2, f3, f4, f5, f6⟩ := m_text Hy p2 wd tm htw a
  refine ⟨_, μ2, ν2, e1, f1, sim_tape (tn2 := 0) (tp2 := tp) h (e6.mono (fun o z => z)) (f6.mono (fun o k z => ?_)) ⟨e4, f4, txO_W Hy htw⟩ ⟨⟨e5, fun i hi => absurd hi (Nat.not_lt_zero _)⟩, ⟨f5, fun i hi => absurd hi (Nat.not_lt_zero _)⟩, by decide, fun i hi => absurd hi (Nat.not_lt_zero _)⟩ ⟨e2.trans f2.symm, e3.trans f3.symm⟩⟩
  unfold ETm at z
  unfold TpM
  omega
theorem op_fault {μ ν : Mm} (h : Sim μ ν) (a : Int32) : ∃ R ν2, Nine_fault a μ = some R ∧ M_fault a ν = some (R, ν2) ∧ Sim μ ν2 := by
  obtain ⟨V, D, n, pv, tn, tp, u, nx, H, h⟩ := h
  refine ⟨_, _, c_fault a μ, ?_, sim_q1 h⟩
  rw [h.2.1.2.2.1.1, h.2.1.2.2.1.2]
  exact m_fault a ν
theorem op_end {μ ν : Mm} (h : Sim μ ν) (a : Int32) : ∃ R μ2 ν2, Nine_end a μ = some (R, μ2) ∧ M_end a ν = some (R, ν2) ∧ Sim μ2 ν2 := by
  obtain ⟨V, D, n, pv, tn, tp, u, nx, H, h⟩ := h
  have q := h
  obtain ⟨-, ⟨⟨tc, tm, htw, wd⟩, ⟨p1, p2, p3⟩, ⟨g1, g2⟩, -⟩, -⟩ := q
  have f := m_end p2 a
  rcases c_end p1 p3.1 a with ⟨no, e1⟩ | ⟨k, hk, rfl, yes, e1⟩
  · rw [no, if_neg (show ¬ (false = true) from fun z => by cases z)] at f
    exact ⟨_, _, _, e1, f, sim_q1 h⟩
  · rw [yes, if_pos rfl] at f
    have oC : Out TpC μ (sti μ 532 1 (nI k)) := Out.rf.sti (by unfold TpC; omega)
    have oM : OutM TpM ν (sti (sti ν 0 0 (nI 0)) 0 21 (nI k)) := (OutM.rf.sti (by unfold TpM; omega)).sti (by unfold TpM; omega)
    have p3' := p3.1
    refine ⟨_, _, _, e1, f, sim_tape (D2 := D) (tn2 := k) (tp2 := tp) h oC oM ⟨tc.out (Out.rf.sti (E := fun o => o = 532) rfl) (fun o z => by unfold lawOut; omega), tm.out htw ((OutM.rf.sti (E := fun o k => o = 0 ∧ (k = 0 ∨ k = 21)) (by omega)).sti (by omega)) (fun o k z => by unfold lawOutM; omega) ?_, htw⟩ ⟨⟨sti_e ⟨rfl, rfl⟩, fun i hi => ?_⟩, ⟨sti_e ⟨rfl, rfl⟩, fun i hi => ?_⟩, by omega, fun i hi => p3.2 i (by omega)⟩ ⟨?_, ?_⟩⟩
    · rw [sti_n (by omega), sti_n (by omega)]
    · rw [sti_n (by omega)]
      exact p1.2 i (by omega)
    · rw [sti_n (by omega), sti_n (by omega)]
      exact p2.2 i (by omega)
    · rw [sti_n (by omega), sti_n (by omega), sti_n (by omega)]
      exact g1
    · rw [sti_n (by omega), sti_n (by omega), sti_n (by omega)]
      exact g2
theorem op_feed {μ ν : Mm} (h : Sim μ ν) (a b c d e : Int32) : ∃ R μ2 ν2, Nine_feed a b c d e μ = some (R, μ2) ∧ M_feed a b c d e ν = some (R, ν2) ∧ Sim μ2 ν2 := by
  obtain ⟨V, D, n, pv, tn, tp, u, nx, H, h⟩ := h
  have q := h
  obtain ⟨-, ⟨⟨tc, tm, htw, wd⟩, ⟨p1, p2, p3⟩, ⟨g1, g2⟩, -⟩, -⟩ := q
  rcases c_feed p1 p3.1 a b c d e with ⟨no, e1⟩ | ⟨yes, μ2, e1, e2, e3⟩
  · rcases m_feed p2 p3.1 a b c d e with ⟨-, f1⟩ | ⟨yes, -⟩
    · exact ⟨_, _, _, e1, f1, sim_q1 h⟩
    · omega
  · rcases m_feed p2 p3.1 a b c d e with ⟨no, -⟩ | ⟨-, ν2, f1, f2, f3⟩
    · omega
    · obtain ⟨R, μ3, j1, j2⟩ := c_feedK p1 yes a b c d e
      rw [e1] at j1
      obtain ⟨-, rfl⟩ := Prod.mk.inj (Option.some.inj j1)
      refine ⟨_, μ2, ν2, e1, f1, sim_tape (D2 := D) h (e3.mono (fun o z => ?_)) (f3.mono (fun o k z => ?_)) ⟨tc.out e3 (fun o z => ?_), tm.out htw f3 (fun o k z => ?_) (f3 0 43 (fun z => ?_)), htw⟩ ⟨e2, f2, p3.five (by omega) a b c d e⟩ ⟨?_, ?_⟩⟩
      · unfold EC at z
        unfold TpC
        omega
      · unfold ECM at z
        unfold TpM
        omega
      · unfold EC at z
        unfold lawOut
        omega
      · unfold ECM at z
        unfold lawOutM
        omega
      · unfold ECM at z
        omega
      · rw [j2 2 (by decide), f3 0 40 (fun z => by unfold ECM at z; omega)]
        exact g1
      · rw [j2 3 (by decide), f3 0 41 (fun z => by unfold ECM at z; omega)]
        exact g2
