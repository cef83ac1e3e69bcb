/-! A LAW RUNS: class and check -/
theorem nI_m1 (n : Nat) : nI (n + 1) + (-1) = nI n := by
  rw [← nI_add, Int32.add_assoc, show nI 1 + (-1) = 0 from rfl, Int32.add_zero]
def stk (μ : Mm) (o : Nat) : List Int32 → Prop
  | [] => True
  | a :: r => μ.1 o r.length = a ∧ stk μ o r
theorem stk_s {μ : Mm} {o k : Nat} {v : Int32} {st : List Int32} (h : stk μ o st) (hk : st.length ≤ k) : stk (sti μ o k v) o st := by
  induction st with
  | nil => trivial
  | cons a r ih =>
    simp only [List.length_cons] at hk
    refine ⟨?_, ih h.2 (by omega)⟩
    rw [sti_n (by omega)]
    exact h.1
theorem stk_p {μ : Mm} {o : Nat} {v : Int32} {st : List Int32} (h : stk μ o st) : stk (sti μ o st.length v) o (v :: st) := ⟨sti_e ⟨rfl, rfl⟩, stk_s h (Nat.le_refl _)⟩
/-- a step that can be, by its kinds -/
theorem stp_cases {m s : Nat} {nm : Nat → Int32} {st st2 : List Int32} (h : stp m nm s st = some st2) :
    (s < 10000 ∧ st.length < 32 ∧ st2 = nI s :: st) ∨ (10000 ≤ s ∧ s < 10000 + m ∧ s < 20000 ∧ st.length < 32 ∧ st2 = nm (s - 10000) :: st) ∨ (s = 20305 ∧ ∃ a r, st = a :: r ∧ st2 = (nI 1 - a) :: r) ∨ (20000 ≤ s ∧ s ≠ 20305 ∧ ∃ b a r v, st = b :: a :: r ∧ opF (s - 20000) a b = some v ∧ st2 = v :: r) := by
  unfold stp at h
  by_cases c : s < 20000
  · rw [if_pos c] at h
    by_cases c1 : st.length < 32
    · rw [if_pos c1] at h
      by_cases c2 : s < 10000
      · rw [if_pos c2] at h
        exact Or.inl ⟨c2, c1, (Option.some.inj h).symm⟩
      · rw [if_neg c2] at h
        by_cases c3 : s < 10000 + m
        · rw [if_pos c3] at h
          exact Or.inr (Or.inl ⟨by omega, c3, c, c1, (Option.some.inj h).symm⟩)
        · rw [if_neg c3] at h
          cases h
    · rw [if_neg c1] at h
      cases h
  · rw [if_neg c] at h
    by_cases c2 : s = 20305
    · rw [if_pos c2] at h
      cases st with
      | nil => cases h
      | cons a r => exact Or.inr (Or.inr (Or.inl ⟨c2, a, r, rfl, (Option.some.inj h).symm⟩))
    · rw [if_neg c2] at h
      cases st with
      | nil => cases h
      | cons b r =>
        cases r with
        | nil => cases h
        | cons a r =>
          have h : (opF (s - 20000) a b).map (fun v => v :: r) = some st2 := h
          cases hv : opF (s - 20000) a b with
          | none =>
            rw [hv] at h
            cases h
          | some v =>
            rw [hv] at h
            exact Or.inr (Or.inr (Or.inr ⟨by omega, c2, b, a, r, v, rfl, hv, (Option.some.inj h).symm⟩))
theorem opF_c {c : Nat} {a b v : Int32} (h : opF c a b = some v) : c < 305 := by
  unfold opF at h
  by_cases z : c < 305
  · exact z
  · iterate 9 rw [if_neg (by omega)] at h
    cases h
theorem c_run {μ : Mm} {x o m a b : Nat} {nm : Nat → Int32} {S : Nat → Nat} {v : Int32} (hk : sL SC (x + 5) = 32) (ho : sL SC o = 11) (hm : m ≤ 11) (hn : ∀ k, k < m → μ.1 o k = nm k) (hx : o ≠ x + 5) (hb : b ≤ 400) (hab : a ≤ b) (hS : ∀ i, i < b → μ.1 (x + 1) i = nI (S i)) (h : rn m nm S a (b - a) [] = some [v]) :
    ∃ μ2, Law_run x (nI a) (nI b) o μ = some (v, μ2) ∧ Out (fun o => o = x + 5) μ μ2 := by
  have key := iter_inv (f := fun s : Int32 × Int32 × Mm => Law_run_l6 x (nI b) o s.1 s.2.1 s.2.2)
    (fun k s => ∃ st, rn m nm S a k [] = some st ∧ st.length ≤ 32 ∧ s.1 = nI st.length ∧ s.2.1 = nI (a + k) ∧ stk s.2.2 (x + 5) st ∧ Out (fun o => o = x + 5) μ s.2.2)
    (fun m => m.1 (x + 5) 0 = v ∧ Out (fun o => o = x + 5) μ m) (b - a) ?_ ?_ 1000000 (nI 0, nI a, μ) ⟨[], rfl, by decide, rfl, rfl, trivial, Out.rf⟩ (by omega)
  · obtain ⟨μ2, k1, k2, k3⟩ := key
    refine ⟨μ2, ?_, k3⟩
    unfold Law_run
    rw [k1, bni_eq, chv_nI (by decide) (by decide), ix_nI (by decide), k2]
  · rintro k ⟨s1, s2, m2⟩ hk2 ⟨st, r1, r2, rfl, rfl, r3, r4⟩
    have r3 : stk m2 (x + 5) st := r3
    have r4 : Out (fun o => o = x + 5) μ m2 := r4
    obtain ⟨st2, e2⟩ := rn_pre h (k := k + 1) (by omega)
    have e3 : stp m nm (S (a + k)) st = some st2 := by
      have : rn m nm S a (k + 1) [] = (rn m nm S a k []).bind (stp m nm (S (a + k))) := rfl
      rw [this, r1] at e2
      exact e2
    have hs : m2.1 (x + 1) (a + k) = nI (S (a + k)) := by
      rw [(r4 (x + 1) (by omega)).1]
      exact hS _ (by omega)
    left
    have fin : ∀ (m3 : Mm) (s3 : Int32), s3 = nI st2.length → stk m3 (x + 5) st2 → Out (fun o => o = x + 5) μ m3 → st2.length ≤ 32 → Law_run_l6 x (nI b) o (nI st.length) (nI (a + k)) m2 = some (.inl (s3, nI (a + (k + 1)), m3)) → ∃ s4, Law_run_l6 x (nI b) o (nI st.length) (nI (a + k)) m2 = some (.inl s4) ∧ ∃ st, rn m nm S a (k + 1) [] = some st ∧ st.length ≤ 32 ∧ s4.1 = nI st.length ∧ s4.2.1 = nI (a + (k + 1)) ∧ stk s4.2.2 (x + 5) st ∧ Out (fun o => o = x + 5) μ s4.2.2 := fun m3 s3 q1 q2 q3 q4 q5 => ⟨_, q5, st2, e2, q4, q1, rfl, q2, q3⟩
    show ∃ s4, Law_run_l6 x (nI b) o (nI st.length) (nI (a + k)) m2 = some (.inl s4) ∧ _
    rcases stp_cases e3 with ⟨c1, c2, rfl⟩ | ⟨c1, c2, c4, c3, rfl⟩ | ⟨c1, y, r, rfl, rfl⟩ | ⟨c1, c2, y, z, r, w, rfl, c3, rfl⟩
    · refine fin (sti m2 (x + 5) st.length (nI (S (a + k)))) (nI (st.length + 1)) rfl (stk_p r3) (r4.sti rfl) (by simp only [List.length_cons]; omega) ?_
      unfold Law_run_l6 Law_run_j63 Law_run_j149
      rw [if_neg (nI_ge (by omega) (by omega)), chv_nI (by omega) (by decide), ix_nI (by omega), hs, if_neg (nI_ge (by omega) (by decide)), if_neg (nI_ge c2 (by decide)), if_neg (nI_ge c1 (by decide)), hk, chv_nI c2 (by decide), ix_nI (by omega), lt_eq, nI_add, nI_add, Nat.add_assoc]
    · have hn2 : m2.1 o (S (a + k) - 10000) = nm (S (a + k) - 10000) := by
        rw [(r4 o hx).1]
        exact hn _ (by omega)
      refine fin (sti m2 (x + 5) st.length (nm (S (a + k) - 10000))) (nI (st.length + 1)) rfl (stk_p r3) (r4.sti rfl) (by simp only [List.length_cons]; omega) ?_
      unfold Law_run_l6 Law_run_j63 Law_run_j149
      rw [if_neg (nI_ge (by omega) (by omega)), chv_nI (by omega) (by decide), ix_nI (by omega), hs, if_neg (nI_ge c4 (by decide)), if_neg (nI_ge c3 (by decide)), if_pos (nI_le c1 (by omega)), nI_subE c1, ho, chv_nI (by omega) (by decide), ix_nI (n := S (a + k) - 10000) (by omega), hn2, hk, chv_nI c3 (by decide), ix_nI (by omega), lt_eq, nI_add, nI_add, Nat.add_assoc]
    · simp only [List.length_cons] at r2
      have r3a : m2.1 (x + 5) r.length = y := r3.1
      refine fin (sti m2 (x + 5) r.length (nI 1 - y)) (nI (r.length + 1)) rfl (stk_p r3.2) (r4.sti rfl) (by simp only [List.length_cons]; omega) ?_
      unfold Law_run_l6 Law_run_j70 Law_run_j149
      simp only [List.length_cons]
      rw [if_neg (nI_ge (by omega) (by omega)), chv_nI (by omega) (by decide), ix_nI (by omega), hs, c1, if_pos (by decide), if_pos rfl, if_neg (show ¬ nI (r.length + 1) ≤ 0 from nI_ge (Nat.succ_pos _) (by omega)), nI_subE (by omega), Nat.add_sub_cancel, chv_nI (by omega) (by decide), chv_nI (by omega) (by decide), ix_nI (by omega), r3a, lt_eq, nI_add, Nat.add_assoc]
    · simp only [List.length_cons] at r2
      have r3a : m2.1 (x + 5) (r.length + 1) = y := r3.1
      have r3b : m2.1 (x + 5) r.length = z := r3.2.1
      have c305 := opF_c c3
      refine fin (sti m2 (x + 5) r.length w) (nI (r.length + 1)) rfl (stk_p r3.2.2) (r4.sti rfl) (by simp only [List.length_cons]; omega) ?_
      unfold Law_run_l6 Law_run_j70 Law_run_j106 Law_run_j149
      simp only [List.length_cons]
      rw [if_neg (nI_ge (by omega) (by omega)), chv_nI (by omega) (by decide), ix_nI (by omega), hs, if_pos (nI_le c1 (by omega)), if_neg (fun q => c2 ((nI_eq (by omega) (by decide)).1 q)), if_neg (nI_ge (by omega) (by omega)), nI_m1, nI_subE (by omega), Nat.add_sub_cancel, chv_nI (by omega) (by decide), chv_nI (by omega) (by decide), ix_nI (by omega), ix_nI (by omega), r3a, r3b, nI_subE c1, joined_F (by omega) c3, bnd_eq, chv_nI (by omega) (by decide), lt_eq, nI_add, Nat.add_assoc]
  · rintro ⟨s1, s2, m2⟩ ⟨st, r1, r2, rfl, rfl, r3, r4⟩
    have r3 : stk m2 (x + 5) st := r3
    rw [h] at r1
    cases Option.some.inj r1
    refine ⟨m2, ?_, r3.1, r4⟩
    show Law_run_l6 _ _ _ _ _ _ = _
    unfold Law_run_l6
    rw [show a + (b - a) = b by omega, if_pos (nI_le (Nat.le_refl _) (by omega))]
theorem opOf_lt (s : Nat) : opOf s < 12 := by
  unfold opOf
  repeat' split
  all_goals omega
theorem opOf_ne {s j : Nat} (h : 20000 ≤ s) (h2 : s ≠ 20305) (hj : j = 0 ∨ j = 1 ∨ j = 9) : opOf s ≠ j := by
  unfold opOf
  rw [if_neg (by omega), if_neg (by omega)]
  repeat' split
  all_goals omega
theorem m_run {ν : Mm} {x m a b : Nat} {nm : Nat → Int32} {S : Nat → Nat} {v : Int32} (hx : x < 2) (hm : m ≤ 11) (hn : ∀ k, k < m → ν.1 21 k = nm k) (hb : b ≤ 400) (hab : a ≤ b) (hS : ∀ i, i < b → ν.1 17 (400 * x + i) = nI (opOf (S i)) ∧ ν.1 18 (400 * x + i) = nI (argOf (S i))) (h : rn m nm S a (b - a) [] = some [v]) :
    ∃ ν2, M_runs (nI x) (nI a) (nI b) ν = some (v, ν2) ∧ OutM (isO 22) ν ν2 := by
  have key := iter_inv (f := fun s : Int32 × Int32 × Mm => M_runs_l12 (nI x) (nI b) s.1 s.2.1 s.2.2)
    (fun k s => ∃ st, rn m nm S a k [] = some st ∧ st.length ≤ 32 ∧ s.1 = nI st.length ∧ s.2.1 = nI (400 * x + a + k) ∧ stk s.2.2 22 st ∧ OutM (isO 22) ν s.2.2)
    (fun m => m.1 22 0 = v ∧ OutM (isO 22) ν m) (b - a) ?_ ?_ 1000000 (nI 0, nI (400 * x + a), ν) ⟨[], rfl, by decide, rfl, rfl, trivial, OutM.rf⟩ (by omega)
  · obtain ⟨ν2, k1, k2, k3⟩ := key
    refine ⟨ν2, ?_, k3⟩
    unfold M_runs
    rw [nI_mulE, nI_add, k1, bni_eq, chv_nI (by decide) (by decide), ix_nI (by decide), k2]
  · rintro k ⟨s1, s2, m2⟩ hk2 ⟨st, r1, r2, rfl, rfl, r3, r4⟩
    have r3 : stk m2 22 st := r3
    have r4 : OutM (isO 22) ν m2 := r4
    obtain ⟨st2, e2⟩ := rn_pre h (k := k + 1) (by omega)
    have e3 : stp m nm (S (a + k)) st = some st2 := by
      have : rn m nm S a (k + 1) [] = (rn m nm S a k []).bind (stp m nm (S (a + k))) := rfl
      rw [this, r1] at e2
      exact e2
    have hs1 : m2.1 17 (400 * x + a + k) = nI (opOf (S (a + k))) := by
      rw [r4 _ _ (by unfold isO; decide), Nat.add_assoc]
      exact (hS _ (by omega)).1
    have hs2 : m2.1 18 (400 * x + a + k) = nI (argOf (S (a + k))) := by
      rw [r4 _ _ (by unfold isO; decide), Nat.add_assoc]
      exact (hS _ (by omega)).2
    left
    have fin : ∀ (m3 : Mm) (s3 : Int32), s3 = nI st2.length → stk m3 22 st2 → OutM (isO 22) ν m3 → st2.length ≤ 32 → M_runs_l12 (nI x) (nI b) (nI st.length) (nI (400 * x + a + k)) m2 = some (.inl (s3, nI (400 * x + a + (k + 1)), m3)) → ∃ s4, M_runs_l12 (nI x) (nI b) (nI st.length) (nI (400 * x + a + k)) m2 = some (.inl s4) ∧ ∃ st, rn m nm S a (k + 1) [] = some st ∧ st.length ≤ 32 ∧ s4.1 = nI st.length ∧ s4.2.1 = nI (400 * x + a + (k + 1)) ∧ stk s4.2.2 22 st ∧ OutM (isO 22) ν s4.2.2 := fun m3 s3 q1 q2 q3 q4 q5 => ⟨_, q5, st2, e2, q4, q1, rfl, q2, q3⟩
    show ∃ s4, M_runs_l12 (nI x) (nI b) (nI st.length) (nI (400 * x + a + k)) m2 = some (.inl s4) ∧ _
    rcases stp_cases e3 with ⟨c1, c2, rfl⟩ | ⟨c1, c2, c4, c3, rfl⟩ | ⟨c1, y, r, rfl, rfl⟩ | ⟨c1, c2, y, z, r, w, rfl, c3, rfl⟩
    · have o1 : opOf (S (a + k)) = 0 := if_pos c1
      have a1 : argOf (S (a + k)) = S (a + k) := if_pos c1
      rw [o1] at hs1
      rw [a1] at hs2
      refine fin (sti m2 22 st.length (nI (S (a + k)))) (nI (st.length + 1)) rfl (stk_p r3) (r4.sti rfl) (by simp only [List.length_cons]; omega) ?_
      unfold M_runs_l12 M_runs_j45 M_runs_j83 M_runs_j170
      rw [nI_mulE, nI_add, if_neg (nI_ge (by omega) (by omega)), chv_nI (by omega) (by decide), ix_nI (by omega), hs1, if_00, chv_nI (by omega) (by decide), if_00, chv_nI (by omega) (by decide), hs2, chv_nI (by omega) (by decide), ix_nI (by omega), lt_eq, nI_add, nI_add, Nat.add_assoc]
    · have o1 : opOf (S (a + k)) = 1 := by
        unfold opOf
        rw [if_neg (by omega), if_pos c4]
      have a1 : argOf (S (a + k)) = S (a + k) - 10000 := by
        unfold argOf
        rw [if_neg (by omega), if_pos c4]
      rw [o1] at hs1
      rw [a1] at hs2
      have hn2 : m2.1 21 (S (a + k) - 10000) = nm (S (a + k) - 10000) := by
        rw [r4 _ _ (by unfold isO; decide)]
        exact hn _ (by omega)
      refine fin (sti m2 22 st.length (nm (S (a + k) - 10000))) (nI (st.length + 1)) rfl (stk_p r3) (r4.sti rfl) (by simp only [List.length_cons]; omega) ?_
      unfold M_runs_l12 M_runs_j45 M_runs_j83 M_runs_j170
      rw [nI_mulE, nI_add, if_neg (nI_ge (by omega) (by omega)), chv_nI (by omega) (by decide), ix_nI (by omega), hs1, if_neg (by decide), chv_nI (by omega) (by decide), if_pos rfl, chv_nI (by omega) (by decide), if_neg (by decide), chv_nI (by omega) (by decide), hs2, chv_nI (by omega) (by decide), ix_nI (n := S (a + k) - 10000) (by omega), hn2, chv_nI (by omega) (by decide), ix_nI (by omega), lt_eq, nI_add, nI_add, Nat.add_assoc]
    · simp only [List.length_cons] at r2
      have r3a : m2.1 22 r.length = y := r3.1
      have o1 : opOf (S (a + k)) = 9 := by rw [c1]; rfl
      rw [o1] at hs1
      refine fin (sti m2 22 r.length (nI 1 - y)) (nI (r.length + 1)) rfl (stk_p r3.2) (r4.sti rfl) (by simp only [List.length_cons]; omega) ?_
      unfold M_runs_l12 M_runs_j170
      rw [show (y :: r).length = r.length + 1 from rfl]
      rw [nI_mulE, nI_add, if_neg (nI_ge (by omega) (by omega)), chv_nI (by omega) (by decide), ix_nI (by omega), hs1, if_neg (by decide), chv_nI (by omega) (by decide), if_neg (by decide), chv_nI (by omega) (by decide), if_pos rfl, nI_subE (by omega), Nat.add_sub_cancel, chv_nI (by omega) (by decide), chv_nI (by omega) (by decide), ix_nI (by omega), r3a, lt_eq, nI_add, Nat.add_assoc (400 * x + a)]
    · simp only [List.length_cons] at r2
      have r3a : m2.1 22 (r.length + 1) = y := r3.1
      have r3b : m2.1 22 r.length = z := r3.2.1
      have c305 := opF_c c3
      have two := two_F c3
      rw [show 20000 + (S (a + k) - 20000) = S (a + k) by omega] at two
      have o12 := opOf_lt (S (a + k))
      have nn : ∀ j, j = 0 ∨ j = 1 ∨ j = 9 → ¬ nI (opOf (S (a + k))) = nI j := fun j hj z => opOf_ne c1 c2 hj ((nI_eq (by omega) (by omega)).1 z)
      refine fin (sti m2 22 r.length w) (nI (r.length + 1)) rfl (stk_p r3.2.2) (r4.sti rfl) (by simp only [List.length_cons]; omega) ?_
      unfold M_runs_l12 M_runs_j170
      rw [show (y :: z :: r).length = r.length + 1 + 1 from rfl]
      rw [nI_mulE, nI_add, if_neg (nI_ge (by omega) (by omega)), chv_nI (by omega) (by decide), ix_nI (by omega), hs1, if_neg (show ¬ nI (opOf (S (a + k))) = 0 from nn 0 (by omega)), chv_nI (by omega) (by decide), if_neg (nn 1 (by omega)), chv_nI (by omega) (by decide), if_neg (nn 9 (by omega)), chv_nI (by omega) (by decide), nI_subE (by omega), Nat.add_sub_cancel, nI_subE (by omega), Nat.add_sub_cancel, chv_nI (by omega) (by decide), chv_nI (by omega) (by decide), ix_nI (by omega), ix_nI (by omega), r3a, r3b, two, bnd_eq, chv_nI (by omega) (by decide), lt_eq, nI_add, Nat.add_assoc (400 * x + a)]
  · rintro ⟨s1, s2, m2⟩ ⟨st, r1, r2, rfl, rfl, r3, r4⟩
    have r3 : stk m2 22 st := r3
    rw [h] at r1
    cases Option.some.inj r1
    refine ⟨m2, ?_, r3.1, r4⟩
    show M_runs_l12 _ _ _ _ _ = _
    unfold M_runs_l12
    rw [nI_mulE, nI_add, show 400 * x + a + (b - a) = 400 * x + b by omega, if_pos (nI_le (Nat.le_refl _) (by omega))]
