/-! THE CHECK: in thought -/
theorem pM_lt {c q k : Nat} (h : pot c q k) (h1 : own3 c k) (h0 : mo c k = 1) : pM c q k < 712 := by
  revert h1 h0
  refine pot_cases (Z := fun c q k => own3 c k → mo c k = 1 → pM c q k < 712) h ?h0 ?h01 ?h02 ?h03 ?h04 ?h05 ?h06 ?h07 ?h08 ?h09 ?h10 ?h11 ?h12 ?h13 ?h14 ?h15 ?h2 ?h3 ?h4 ?h5 ?h6 ?h7 ?h8 ?h9 ?hX ?hv11 ?hv12 ?hv13 ?hv14 ?hw15 ?hw16 ?hw17 ?hw18 ?hr ?h21 ?h22 ?hb23 ?hb24 ?hb25 ?hb26 ?hb27
  case h15 => exact fun p _ h1 => absurd ⟨rfl, rfl⟩ h1.1
  case h09 => exact fun h1 => absurd ⟨rfl, rfl⟩ h1.2.2
  case hb23 => exact fun p _ _ h0 => absurd h0 (by show ¬ 10 = 1; decide)
  case hb24 => exact fun p _ _ h0 => absurd h0 (by show ¬ 10 = 1; decide)
  case hb25 => exact fun p _ _ h0 => absurd h0 (by show ¬ 10 = 1; decide)
  case hb26 => exact fun p _ _ h0 => absurd h0 (by show ¬ 10 = 1; decide)
  case hb27 => exact fun p _ _ h0 => absurd h0 (by show ¬ 10 = 1; decide)
  all_goals (intros; simp only [pM, Nat.reduceEqDiff, if_true, if_false]; omega)
theorem HM.out2 {ν ν2 : Mm} {th : Nat} {V : VS} {E : Nat → Nat → Prop} (h : HM ν th V) (ho : OutM E ν ν2) (hE : ∀ o k, cellN o k → (o = 1 → k < 712) → ¬ E o k) : HM ν2 th V := by
  refine ⟨?_, ?_⟩
  · intro c p i hl
    obtain ⟨h1, h2⟩ := h.1 c p i hl
    exact ⟨h1, fun h3 => (ho _ _ (hE _ _ (Or.inl (cellM_of h1 h3)) (fun z => pM_lt h1 h3 z))).trans (h2 h3)⟩
  · rw [ho 0 10 (hE _ _ (Or.inr ⟨rfl, Or.inr (Or.inl rfl)⟩) (fun z => absurd z (by decide))), ho 0 5 (hE _ _ (Or.inr ⟨rfl, Or.inl rfl⟩) (fun z => absurd z (by decide))), ho 0 15 (hE _ _ (Or.inr ⟨rfl, Or.inr (Or.inr rfl)⟩) (fun z => absurd z (by decide)))]
    exact h.2
/-- n ints from one row to another -/
def bcM (ν : Mm) (dst doff src soff n : Nat) : Mm := (fun o x => if o = dst ∧ doff ≤ x ∧ x < doff + n then ν.1 src (x - doff + soff) else ν.1 o x, ν.2)
theorem bcM_0 (ν : Mm) (dst doff src soff : Nat) : bcM ν dst doff src soff 0 = ν := by
  refine Prod.ext ?_ rfl
  funext o x
  exact if_neg (by omega)
theorem bcM_s (ν : Mm) {dst doff src soff n : Nat} : sti (bcM ν dst doff src soff n) dst (doff + n) (ν.1 src (soff + n)) = bcM ν dst doff src soff (n + 1) := by
  refine Prod.ext ?_ rfl
  funext o x
  show (if _ then _ else if _ then _ else _) = if _ then _ else _
  by_cases e : o = dst ∧ x = doff + n
  · obtain ⟨rfl, rfl⟩ := e
    rw [if_pos ⟨rfl, rfl⟩, if_pos ⟨rfl, by omega, by omega⟩, show doff + n - doff + soff = soff + n by omega]
  · rw [if_neg e]
    by_cases e2 : o = dst ∧ doff ≤ x ∧ x < doff + n
    · rw [if_pos e2, if_pos (by omega)]
    · rw [if_neg e2, if_neg (by omega)]
theorem bcM_n (ν : Mm) {dst doff src soff n o x : Nat} (h : ¬ (o = dst ∧ doff ≤ x ∧ x < doff + n)) : (bcM ν dst doff src soff n).1 o x = ν.1 o x := if_neg h
theorem bcM_p (ν : Mm) {dst doff src soff n x : Nat} (h : doff ≤ x ∧ x < doff + n) : (bcM ν dst doff src soff n).1 dst x = ν.1 src (x - doff + soff) := if_pos ⟨rfl, h⟩
theorem m_thinksE (ν : Mm) : M_thinks ν = some (sti (bcM ν 3 0 1 0 712) 0 5 (nI 1)) := by
  have key := iter_traj (f := fun s : Int32 × Mm => M_thinks_l2 s.1 s.2) (fun k => (nI k, bcM ν 3 0 1 0 k)) (y := bcM ν 3 0 1 0 712) 712 1000000 ?_ ?_ (by decide)
  · unfold M_thinks
    rw [bcM_0] at key
    rw [key, bni_eq, lt_eq]
  · intro k hk
    show M_thinks_l2 _ _ = _
    unfold M_thinks_l2
    have e := bcM_s ν (dst := 3) (doff := 0) (src := 1) (soff := 0) (n := k)
    rw [Nat.zero_add] at e
    rw [if_neg (nI_ge hk (by decide)), chv_nI hk (by decide), chv_nI hk (by decide), ix_nI (by omega), bcM_n _ (by omega), e, lt_eq, nI_add]
  · show M_thinks_l2 _ _ = _
    unfold M_thinks_l2
    rw [if_pos (show nI 712 ≤ nI 712 by decide)]
theorem m_anewE (ν : Mm) : M_thinksAnew ν = some (bcM ν 1 0 3 0 712) := by
  have key := iter_traj (f := fun s : Int32 × Mm => M_thinksAnew_l2 s.1 s.2) (fun k => (nI k, bcM ν 1 0 3 0 k)) (y := bcM ν 1 0 3 0 712) 712 1000000 ?_ ?_ (by decide)
  · unfold M_thinksAnew
    rw [bcM_0] at key
    rw [key, bni_eq]
  · intro k hk
    show M_thinksAnew_l2 _ _ = _
    unfold M_thinksAnew_l2
    have e := bcM_s ν (dst := 1) (doff := 0) (src := 3) (soff := 0) (n := k)
    rw [Nat.zero_add] at e
    rw [if_neg (nI_ge hk (by decide)), chv_nI hk (by decide), chv_nI hk (by decide), ix_nI (by omega), bcM_n _ (by omega), e, lt_eq, nI_add]
  · show M_thinksAnew_l2 _ _ = _
    unfold M_thinksAnew_l2
    rw [if_pos (show nI 712 ≤ nI 712 by decide)]
theorem m_endsE (ν : Mm) : M_endsThought ν = some (sti (bcM ν 1 0 3 0 712) 0 5 (nI 0)) := by
  unfold M_endsThought
  rw [m_anewE, bnd_eq, lt_eq]
/-- the state with which thought begins -/
def thV (V : VS) : VS := vset (vset V 0 0 9 0) 20 0 2 0
theorem thV_o {V : VS} {c q k : Nat} (h : ¬ (c = 0 ∧ k = 9)) (h2 : ¬ (c = 20 ∧ k = 2)) : thV V c q k = V c q k := by
  unfold thV
  rw [vset_ne (by omega), vset_ne (by omega)]
theorem WF.thV {V : VS} {d : Nat} (hw : WF d V) : WF d (thV V) := by
  obtain ⟨w0, w1, w2, w3, w4, w5, w6, w7, w8, w9, w10⟩ := hw
  have o : ∀ {c q k : Nat}, ¬ (c = 0 ∧ k = 9) → ¬ (c = 20 ∧ k = 2) → Jvm.Pilot.CNineCopiesLaw_law_r8239_772bdc.thV V c q k = V c q k := fun a b => thV_o a b
  have o2 : Jvm.Pilot.CNineCopiesLaw_law_r8239_772bdc.thV V 20 0 2 = 0 := vset_eq ⟨rfl, rfl, rfl⟩
  unfold WF W5 W6 W7 W8 W9 W10
  simp (disch := omega) only [o, o2]
  obtain ⟨z1, z2, z3, z4, z5, z6⟩ := w10
  exact ⟨w0, w1, w2, w3, w4, w5, w6, w7, w8, w9, z1, z2, z3, z4, by omega, z6⟩
theorem live_th {V : VS} {c q k : Nat} (h : live (thV V) c q k) : live V c q k := live_same h (thV_o (by omega) (by omega)) (thV_o (by omega) (by omega)) (thV_o (by omega) (by omega)) (thV_o (by omega) (by omega)) (thV_o (by omega) (by omega)) (thV_o (by omega) (by omega))
def thM (ν : Mm) : Mm := sti (bcM ν 3 0 1 0 712) 0 5 (nI 1)
theorem thM_o {ν : Mm} {o k : Nat} (h : o ≠ 3) (h2 : ¬ (o = 0 ∧ k = 5)) : (thM ν).1 o k = ν.1 o k := by
  unfold thM
  rw [sti_n h2, bcM_n _ (by omega)]
theorem m_think {ν : Mm} {V : VS} (h : HM ν 0 V) : HM (thM ν) 1 (thV V) := by
  refine ⟨?_, fun p hp => ?_, sti_e ⟨rfl, rfl⟩, Or.inr ⟨rfl, vset_eq ⟨rfl, rfl, rfl⟩⟩⟩
  · intro c p i hl
    have hl2 : live V c p i := live_th hl.1
    obtain ⟨h1, h2⟩ := h.1 c p i ⟨hl2, fun z => absurd z (by decide)⟩
    refine ⟨h1, fun h3 => ?_⟩
    have hc := cellM_of h1 h3
    unfold cellM at hc
    have h4 := h3
    unfold own3 at h4
    rw [thM_o (by omega) (by omega), thV_o (by omega) (by omega)]
    exact h2 h3
  · rw [thV_o (by omega) (by omega)] at hp
    rw [thM_o (by omega) (by omega), thV_o (by omega) (by omega)]
    exact h.2.1 p hp
/-- what a thought may change on its way, and what is changed when it is over -/
def EX (o : Nat) (_ : Nat) : Prop := o = 1 ∨ o = 21 ∨ o = 22 ∨ o = 23
def ET (o k : Nat) : Prop := o = 3 ∨ (o = 1 ∧ 712 ≤ k) ∨ o = 21 ∨ o = 22 ∨ o = 23
theorem EG_X {o k : Nat} (h : EG 1 o k) : EX o k := by
  unfold EG at h
  unfold EX
  omega
theorem m_back {ν ν2 : Mm} {V : VS} (h : HM ν 0 V) (ho : OutM EX (thM ν) ν2) : OutM ET ν (sti (bcM ν2 1 0 3 0 712) 0 5 (nI 0)) := by
  intro o k hE
  unfold ET at hE
  by_cases e : o = 0 ∧ k = 5
  · obtain ⟨rfl, rfl⟩ := e
    rw [sti_e ⟨rfl, rfl⟩]
    exact h.thf.symm
  · rw [sti_n e]
    by_cases e1 : o = 1
    · subst e1
      have hk : k < 712 := by omega
      rw [bcM_p _ (by omega), ho 3 _ (by unfold EX; omega), Nat.sub_zero, Nat.add_zero]
      unfold thM
      rw [sti_n (by omega), bcM_p _ (by omega), Nat.sub_zero, Nat.add_zero]
    · rw [bcM_n _ (by omega), ho o k (by unfold EX; omega), thM_o (by omega) e]
theorem HM.backT {ν ν2 : Mm} {V : VS} (h : HM ν 0 V) (ho : OutM ET ν ν2) : HM ν2 0 V := h.out2 ho (fun o k z z2 y => by
  unfold cellN cellM at z
  unfold ET at y
  omega)
theorem ET_law {o k : Nat} (h : ET o k) : lawOutM o k := by
  unfold ET at h
  unfold lawOutM
  omega
theorem EX_law {o k : Nat} (h : EX o k) : lawOutM o k := by
  unfold EX at h
  unfold lawOutM
  omega
theorem thM_law (ν : Mm) : OutM lawOutM ν (thM ν) := fun o k h => by
  unfold lawOutM at h
  exact thM_o (by omega) (by omega)
/-- n days in thought -/
theorem itn_day {V : VS} {d : Nat} {T : TT} (hw : WF d V) (hB : TB T) (k : Nat) : WF (d + k) (itn k (dayV T) V) ∧ (itn k (dayV T) V) 0 0 0 = V 0 0 0 := by
  induction k with
  | zero => exact ⟨hw, rfl⟩
  | succ k ih =>
    obtain ⟨h1, h2, h3⟩ := ih.1.dayV (T := T) hB
    exact ⟨h1, h2.trans ih.2⟩
