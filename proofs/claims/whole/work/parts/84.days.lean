/-! DAYS that pass, each kept -/
theorem wf_dayD {V : VS} {d : Nat} {T : TT} (hw : WF d V) (hB : TB T) (h : V 0 0 4 + 1 ≤ d) : WF d (dayV T V) := by
  obtain ⟨h1, h2, h3⟩ := hw.dayW hB
  obtain ⟨k1, k2⟩ := cuaV_k (T := T) h1 (V 0 0 0) (Nat.le_of_eq h2.symm)
  unfold Jvm.Pilot.CNineCopiesLaw_law_r8239_772bdc.dayV
  obtain ⟨w0, w1, w2, w3, w4', w5, w6, w7, w8, w9, w10⟩ := k1
  unfold WF W5 W6 W7 W8 W9 W10
  simp (disch := omega) only [vset_ne, vset_eq]
  exact ⟨w0, w1, w2, w3, h, w5, w6, w7, w8, w9, w10⟩
theorem itn_dayD {V : VS} {d n : Nat} {T : TT} (hw : WF d V) (hB : TB T) (h : V 0 0 4 + n ≤ d) (hl : LV V) : WF d (itn n (dayV T) V) ∧ LV (itn n (dayV T) V) ∧ (itn n (dayV T) V) 0 0 4 = V 0 0 4 + n := by
  induction n with
  | zero => exact ⟨hw, hl, rfl⟩
  | succ n ih =>
    obtain ⟨a, b, c⟩ := ih (by omega)
    refine ⟨wf_dayD a hB (by omega), b.day a hB, ?_⟩
    have := (a.dayV (T := T) hB).2.2
    show dayV T (itn n (dayV T) V) 0 0 4 = _
    omega
/-- the past and what came behind it, in one row; the last six of them -/
def cmb (u : Nat) (H : Nat → VS) (S : Nat → VS) (i : Nat) : VS := if i < u then H i else w0V (S (i - u))
def uM (u m : Nat) : Nat := if u + m < 6 then u + m else 6
def hM (u : Nat) (H : Nat → VS) (S : Nat → VS) (m j : Nat) : VS := cmb u H S (u + m - uM u m + j)
theorem HisC.cong {μ : Mm} {u nx : Nat} {H H2 : Nat → VS} (h : HisC μ u nx H) (e : ∀ j, j < u → H2 j = H j) : HisC μ u nx H2 := ⟨h.1, h.2.1, h.2.2.1, h.2.2.2.1, fun j hj => by
  rw [e j hj]
  exact h.2.2.2.2 j hj⟩
theorem HisM.cong {ν : Mm} {u : Nat} {H H2 : Nat → VS} (h : HisM ν u H) (e : ∀ j, j < u → H2 j = H j) : HisM ν u H2 := ⟨h.1, h.2.1, fun j hj => by
  rw [e j hj]
  exact h.2.2 j hj⟩
theorem HS.cong {u : Nat} {H H2 : Nat → VS} {V : VS} (h : HS u H V) (e : ∀ j, j < u → H2 j = H j) : HS u H2 V := ⟨fun j hj => by
  rw [e j hj]
  exact h.1 j hj, fun i j hi hj => by
  rw [e j hj, e i (by omega)]
  exact h.2 i j hi hj⟩
theorem uM_0 {u : Nat} (h : u ≤ 6) : uM u 0 = u := by
  unfold uM
  split <;> omega
theorem uM_6 {u m : Nat} : uM u m ≤ 6 := by
  unfold uM
  split <;> omega
theorem uM_s {u m : Nat} : pshU (uM u m) = uM u (m + 1) := by
  unfold uM pshU
  by_cases c : u + m < 6
  · rw [if_pos c, if_pos c]
    by_cases c2 : u + (m + 1) < 6
    · rw [if_pos c2]
      omega
    · rw [if_neg c2]
      omega
  · rw [if_neg c, if_neg (by decide), if_neg (by omega)]
theorem hM_0 {u : Nat} {H S : Nat → VS} (h : u ≤ 6) {j : Nat} (hj : j < u) : hM u H S 0 j = H j := by
  unfold hM cmb
  rw [uM_0 h, if_pos (by omega), show u + 0 - u + j = j by omega]
theorem hM_s {u m : Nat} {H S : Nat → VS} {j : Nat} (hu : u ≤ 6) (hj : j < uM u (m + 1)) : hM u H S (m + 1) j = pshH (uM u m) (hM u H S m) (S m) j := by
  unfold pshH hM
  by_cases c : u + m < 6
  · have e1 : uM u m = u + m := if_pos c
    have e2 : uM u (m + 1) = u + (m + 1) := by
      unfold uM
      split <;> omega
    rw [e2] at hj
    rw [e1, e2, if_pos c]
    rw [show u + (m + 1) - (u + (m + 1)) + j = j by omega, show u + m - (u + m) + j = j by omega]
    by_cases c2 : j < u + m
    · rw [if_pos c2]
    · rw [if_neg c2]
      unfold cmb
      rw [if_neg (by omega), show j - u = m by omega]
  · have e1 : uM u m = 6 := if_neg c
    have e2 : uM u (m + 1) = 6 := if_neg (by omega)
    rw [e2] at hj
    rw [e1, e2, if_neg (by decide)]
    by_cases c2 : j < 5
    · rw [if_pos c2, show u + (m + 1) - 6 + j = u + m - 6 + (j + 1) by omega]
    · rw [if_neg c2]
      unfold cmb
      rw [if_neg (by omega), show u + (m + 1) - 6 + j - u = m by omega]
/-- the days: how many came into hands in all -/
def camV (T : TT) (V : VS) : Nat → Int32
  | 0 => nI 0
  | k + 1 => camV T V k + nI (dayB (itn k (dayV T) V)).2
theorem c_days {μ : Mm} {V : VS} {T : TT} {u nx n : Nat} {H : Nat → VS} (h : HC μ 1 V) (hw : WF 9999 V) (hH : HisC μ u nx H) (hT : TC μ 166 T) (hB : TB T) (h1 : 1 ≤ n) (h6 : n ≤ 60) (hd : V 0 0 4 + n ≤ 9999) (hl : LV V) :
    ∃ μ2 nx2, Nine_days (nI n) μ = some (camV T V n, μ2) ∧ HC μ2 1 (itn n (dayV T) V) ∧ HisC μ2 (uM u n) nx2 (hM u H (fun k => itn k (dayV T) V) n) ∧ (∀ k, k ≠ 8 → k ≠ 9 → μ2.1 0 k = μ.1 0 k) ∧ Out (fun o => o = 0 ∨ EP o ∨ EW 1 166 o) μ μ2 := by
  have dy := h.dy
  have hu := hH.2.2.2.1
  -- pushes begin behind k0 days
  have key := iter_inv (f := fun s : Int32 × Int32 × Mm => Nine_days_l32 (nI n) s.1 s.2.1 s.2.2)
    (fun k s => s.1 = camV T V k ∧ s.2.1 = nI k ∧ HC s.2.2 1 (itn k (dayV T) V) ∧ (∃ nx2, HisC s.2.2 (uM u (k - (n - 6))) nx2 (hM u H (fun j => itn ((n - 6) + j) (dayV T) V) (k - (n - 6)))) ∧ (∀ j, j ≠ 8 → j ≠ 9 → s.2.2.1 0 j = μ.1 0 j) ∧ Out (fun o => o = 0 ∨ EP o ∨ EW 1 166 o) μ s.2.2)
    (fun x => x.1 = camV T V n ∧ HC x.2 1 (itn n (dayV T) V) ∧ (∃ nx2, HisC x.2 (uM u (n - (n - 6))) nx2 (hM u H (fun j => itn ((n - 6) + j) (dayV T) V) (n - (n - 6)))) ∧ (∀ j, j ≠ 8 → j ≠ 9 → x.2.1 0 j = μ.1 0 j) ∧ Out (fun o => o = 0 ∨ EP o ∨ EW 1 166 o) μ x.2)
    n ?_ ?_ 1000000 (nI 0, nI 0, μ) ⟨rfl, rfl, h, ⟨nx, ?_⟩, fun _ _ _ => rfl, Out.rf⟩ (by omega)
  · obtain ⟨⟨x, m⟩, k1, rfl, k2, ⟨nx2, k3⟩, k4, k5⟩ := key
    refine ⟨m, nx2, ?_, k2, ?_, k4, k5⟩
    · unfold Nine_days
      rw [if_neg (nI_nlt (by omega) (by omega)), if_neg (nI_nlt (by omega) (by omega)), dy, nI_add, if_pos (nI_le hd (by decide)), k1, bni_eq]
    · have eU : uM u (n - (n - 6)) = uM u n := by
        unfold uM
        split <;> split <;> omega
      rw [eU] at k3
      refine k3.cong (fun j hj => ?_)
      unfold hM
      rw [eU]
      unfold cmb
      by_cases c : n ≤ 6
      · have z : n - 6 = 0 := by omega
        have z2 : n - (n - 6) = n := by omega
        rw [z2, z]
        simp only [Nat.zero_add]
      · have e6 : uM u n = 6 := if_neg (by omega)
        rw [e6] at hj ⊢
        rw [if_neg (by omega), if_neg (by omega)]
        show w0V (itn (u + n - 6 + j - u) (dayV T) V) = w0V (itn (n - 6 + (u + (n - (n - 6)) - 6 + j - u)) (dayV T) V)
        rw [show n - 6 + (u + (n - (n - 6)) - 6 + j - u) = u + n - 6 + j - u by omega]
  · rintro k ⟨a, b, m⟩ hk ⟨rfl, rfl, k2, ⟨nx2, k3⟩, k4, k5⟩
    have k2 : HC m 1 (itn k (dayV T) V) := k2
    have k3 : HisC m _ nx2 _ := k3
    have k4 : ∀ j, j ≠ 8 → j ≠ 9 → m.1 0 j = μ.1 0 j := k4
    have k5 : Out (fun o => o = 0 ∨ EP o ∨ EW 1 166 o) μ m := k5
    obtain ⟨wk, lk, dk⟩ := itn_dayD (n := k) hw hB (by omega) hl
    left
    have step : ∀ m2, HC m2 1 (itn k (dayV T) V) → TC m2 166 T → ∃ m3, Nine_days_j49 (nI n) (camV T V k) (nI k) m2 = some (.inl (camV T V (k + 1), nI (k + 1), m3)) ∧ HC m3 1 (itn (k + 1) (dayV T) V) ∧ Out (EW 1 166) m2 m3 := by
      intro m2 z1 z2
      obtain ⟨m3, g1, g2, g3⟩ := c_day z1 wk (by decide) z2 hB (Or.inl (by decide))
      refine ⟨m3, ?_, g2, g3⟩
      unfold Nine_days_j49
      rw [g1, bnd2_eq, nI_add]
      rfl
    have lawO : ∀ o, (o = 0 ∨ EP o ∨ EW 1 166 o) → lawOut 166 o := fun o z => by
      unfold EP EW inW at z
      unfold lawOut
      omega
    by_cases c : k < n - 6
    · obtain ⟨m3, g1, g2, g3⟩ := step m k2 (hT.out k5 lawO)
      have o0 : ∀ j, m3.1 0 j = m.1 0 j := (g3 0 (fun z => by unfold EW inW at z; omega)).1
      refine ⟨(camV T V (k + 1), nI (k + 1), m3), ?_, rfl, rfl, g2, ⟨nx2, ?_⟩, fun j j8 j9 => (o0 j).trans (k4 j j8 j9), k5.tr (g3.mono (fun o z => Or.inr (Or.inr z)))⟩
      · show Nine_days_l32 _ _ _ _ = _
        unfold Nine_days_l32
        rw [if_neg (nI_ge hk (by omega)), nI_subE (by omega), if_pos (nI_lt (by omega) (by omega)), g1]
      · rw [show k + 1 - (n - 6) = 0 by omega]
        rw [show k - (n - 6) = 0 by omega] at k3
        exact k3.out g3 (fun o z y => by
          unfold EP at z
          unfold EW inW at y
          omega) (o0 8) (o0 9)
    · obtain ⟨m1, f1, f2, f3, f4, f5⟩ := c_push k2 k3
      have o1 : Out (fun o => o = 0 ∨ EP o ∨ EW 1 166 o) μ m1 := k5.tr (f5.mono (fun o z => z.elim Or.inl (fun y => Or.inr (Or.inl y))))
      obtain ⟨m3, g1, g2, g3⟩ := step m1 f2 (hT.out o1 lawO)
      have o0 : ∀ j, m3.1 0 j = m1.1 0 j := (g3 0 (fun z => by unfold EW inW at z; omega)).1
      refine ⟨(camV T V (k + 1), nI (k + 1), m3), ?_, rfl, rfl, g2, ⟨(nx2 + 1) % 6, ?_⟩, fun j j8 j9 => (o0 j).trans ((f4 j j8 j9).trans (k4 j j8 j9)), o1.tr (g3.mono (fun o z => Or.inr (Or.inr z)))⟩
      · show Nine_days_l32 _ _ _ _ = _
        unfold Nine_days_l32
        rw [if_neg (nI_ge hk (by omega)), nI_subE (by omega), if_neg (nI_nlt (by omega) (by omega)), f1, bnd_eq, g1]
      · have f3' := f3.out g3 (fun o z y => by
          unfold EP at z
          unfold EW inW at y
          omega) (o0 8) (o0 9)
        have es : k + 1 - (n - 6) = k - (n - 6) + 1 := by omega
        rw [uM_s] at f3'
        show HisC m3 _ _ _
        rw [es]
        refine f3'.cong (fun j hj => ?_)
        rw [hM_s hu hj]
        rw [show n - 6 + (k - (n - 6)) = k by omega]
  · rintro ⟨a, b, m⟩ ⟨rfl, rfl, k2, k3, k4, k5⟩
    refine ⟨(camV T V n, m), ?_, rfl, k2, k3, k4, k5⟩
    show Nine_days_l32 _ _ _ _ = _
    unfold Nine_days_l32
    rw [if_pos (nI_le (Nat.le_refl _) (by omega))]
  · rw [Nat.zero_sub, uM_0 hu]
    exact hH.cong (fun j hj => hM_0 hu hj)
def ED (o k : Nat) : Prop := o = 1 ∨ o = 2 ∨ o = 10 ∨ o = 21 ∨ o = 22 ∨ (o = 0 ∧ (k = 0 ∨ k = 3))
theorem m_days {ν : Mm} {V : VS} {T : TT} {u n : Nat} {H : Nat → VS} (h : HM ν 0 V) (hw : WF 9999 V) (hH : HisM ν u H) (hS : HS u H V) (hT : TM ν T) (hB : TB T) (h1 : 1 ≤ n) (h6 : n ≤ 60) (hd : V 0 0 4 + n ≤ 9999) (hl : LV V) :
    ∃ ν2, M_days (nI n) ν = some (camV T V n, ν2) ∧ HM ν2 0 (itn n (dayV T) V) ∧ HisM ν2 (uM u n) (hM u H (fun k => itn k (dayV T) V) n) ∧ HS (uM u n) (hM u H (fun k => itn k (dayV T) V) n) (itn n (dayV T) V) ∧ OutM ED ν ν2 := by
  have h0 := h.told (nI 0)
  have hu := hH.2.1
  have o0 : OutM ED ν (sti ν 0 0 (nI 0)) := OutM.rf.sti (by unfold ED; omega)
  have hH0 : HisM (sti ν 0 0 (nI 0)) u H := hH.out (OutM.rf.sti (E := fun o k => o = 0 ∧ k = 0) ⟨rfl, rfl⟩) (fun k z => by omega) (fun z => by omega)
  have key := iter_inv (f := fun s : Int32 × Int32 × Mm => M_days_l36 (nI n) s.1 s.2.1 s.2.2)
    (fun k s => s.1 = camV T V k ∧ s.2.1 = nI k ∧ HM s.2.2 0 (itn k (dayV T) V) ∧ HisM s.2.2 (uM u k) (hM u H (fun j => itn j (dayV T) V) k) ∧ HS (uM u k) (hM u H (fun j => itn j (dayV T) V) k) (itn k (dayV T) V) ∧ OutM ED ν s.2.2)
    (fun x => x.1 = camV T V n ∧ HM x.2 0 (itn n (dayV T) V) ∧ HisM x.2 (uM u n) (hM u H (fun j => itn j (dayV T) V) n) ∧ HS (uM u n) (hM u H (fun j => itn j (dayV T) V) n) (itn n (dayV T) V) ∧ OutM ED ν x.2)
    n ?_ ?_ 1000000 (nI 0, nI 0, sti ν 0 0 (nI 0)) ⟨rfl, rfl, h0, ?_, ?_, o0⟩ (by omega)
  · obtain ⟨⟨x, m⟩, k1, rfl, k2, k3, k4, k5⟩ := key
    refine ⟨m, ?_, k2, k3, k4, k5⟩
    unfold M_days
    rw [lt_eq, m_isIn, bnd_eq, (inI_lo (by omega) (by decide) (by decide)).2 ⟨h1, h6⟩, if_pos rfl, if_neg (by decide), chv_nI (by decide) (by decide), ix_nI (by decide), h0.dy, nI_add, if_pos (nI_le hd (by decide)), k1, bni_eq]
  · rintro k ⟨a, b, m⟩ hk ⟨rfl, rfl, k2, k3, k4, k5⟩
    have k2 : HM m 0 (itn k (dayV T) V) := k2
    have k3 : HisM m _ _ := k3
    have k5 : OutM ED ν m := k5
    obtain ⟨wk, lk, dk⟩ := itn_dayD (n := k) hw hB (by omega) hl
    left
    obtain ⟨m1, f1, f2, f3, f4⟩ := m_push k2 k3
    have o1 : OutM ED ν m1 := k5.tr (f4.mono (fun o k z => by unfold EP2 at z; unfold ED; omega))
    obtain ⟨m3, g1, g2, g3⟩ := m_day f2 wk (by decide) (hT.out o1 (fun o k z => by unfold ED at z; unfold lawOutM; omega)) hB
    refine ⟨(camV T V (k + 1), nI (k + 1), m3), ?_, rfl, rfl, g2, ?_, ?_, o1.tr (g3.mono (fun o k z => by unfold EG at z; unfold ED; omega))⟩
    · show M_days_l36 _ _ _ _ = _
      unfold M_days_l36
      rw [if_neg (nI_ge hk (by omega)), f1, bnd_eq, g1, bnd2_eq, nI_add]
      rfl
    · have f3' := f3.out g3 (fun k z => by unfold EG at z; omega) (fun z => by unfold EG at z; omega)
      rw [uM_s] at f3'
      exact f3'.cong (fun j hj => hM_s hu hj)
    · have s1 := (k4.push uM_6 wk lk).to (U := dayV T (itn k (dayV T) V)) (Stat.day wk hB)
      rw [uM_s] at s1
      exact s1.cong (fun j hj => hM_s hu hj)
  · rintro ⟨a, b, m⟩ ⟨rfl, rfl, k2, k3, k4, k5⟩
    refine ⟨(camV T V n, m), ?_, rfl, k2, k3, k4, k5⟩
    show M_days_l36 _ _ _ _ = _
    unfold M_days_l36
    rw [if_pos (nI_le (Nat.le_refl _) (by omega))]
  · show HisM _ _ _
    rw [uM_0 hu]
    exact hH0.cong (fun j hj => hM_0 hu hj)
  · rw [uM_0 hu]
    exact hS.cong (fun j hj => hM_0 hu hj)
/-- days that are refused -/
def dsOK (V : VS) (v : Int32) : Bool := inI v (nI 1) (nI 60) && decide (V 0 0 4 + ix v ≤ 9999)
theorem c_daysN {μ : Mm} {V : VS} {v : Int32} (h : HC μ 1 V) (hw : WF 9999 V) (hn : dsOK V v = false) : Nine_days v μ = some (-1, μ) := by
  have w4 := hw.2.2.2.2.1
  unfold dsOK at hn
  unfold Nine_days
  by_cases c1 : inI v (nI 1) (nI 60) = true
  · obtain ⟨n, n1, n2, rfl⟩ := inI_1 c1 (by decide)
    rw [c1, Bool.true_and, ix_nI (by omega)] at hn
    have hn := of_decide_eq_false hn
    rw [if_neg (nI_nlt (by omega) (by omega)), if_neg (nI_nlt (by omega) (by omega)), h.dy, nI_add, if_neg (nI_ge (by omega) (by omega))]
  · unfold inI at c1
    by_cases c2 : v < nI 1
    · rw [if_pos c2]
    · rw [if_neg c2, if_pos (Decidable.not_not.1 (fun z => c1 (decide_eq_true ⟨c2, z⟩)))]
theorem m_daysN {ν : Mm} {V : VS} {v : Int32} (h : HM ν 0 V) (hw : WF 9999 V) (hn : dsOK V v = false) : M_days v ν = some (-1, sti ν 0 0 (nI 0)) := by
  have w4 := hw.2.2.2.2.1
  have h0 := h.told (nI 0)
  unfold dsOK at hn
  unfold M_days
  rw [lt_eq, m_isIn, bnd_eq]
  by_cases c1 : inI v (nI 1) (nI 60) = true
  · obtain ⟨n, n1, n2, rfl⟩ := inI_1 c1 (by decide)
    rw [c1, Bool.true_and, ix_nI (by omega)] at hn
    have hn := of_decide_eq_false hn
    rw [if_pos c1, if_neg (by decide), chv_nI (by decide) (by decide), ix_nI (by decide), h0.dy, nI_add, if_neg (nI_ge (by omega) (by omega))]
  · rw [if_neg c1, if_00]
