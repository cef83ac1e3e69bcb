/-! THE PAST in the check: rows of row 2 -/
def rowM (ν : Mm) (j : Nat) (U : VS) : Prop := ∀ c p i, live U c p i → pot c p i ∧ (mo c i = 1 → own3 c i → ν.1 2 (712 * j + pM c p i) = nI (U c p i))
def HisM (ν : Mm) (u : Nat) (H : Nat → VS) : Prop := ν.1 0 3 = nI u ∧ u ≤ 6 ∧ ∀ j, j < u → rowM ν j (H j)
theorem eM_1 {c i x : Nat} (h : mo c i = 1) : eM c i x = nI x := by
  unfold eM
  refine if_neg (fun z => ?_)
  obtain ⟨rfl, z2⟩ := z
  unfold mo inNow oM at h
  simp at h
theorem HisM.out {ν ν2 : Mm} {u : Nat} {H : Nat → VS} {E : Nat → Nat → Prop} (h : HisM ν u H) (ho : OutM E ν ν2) (h2 : ∀ k, ¬ E 2 k) (h3 : ¬ E 0 3) : HisM ν2 u H := by
  obtain ⟨a, b, c⟩ := h
  exact ⟨(ho _ _ h3).trans a, b, fun j hj c2 p i hl => ⟨(c j hj c2 p i hl).1, fun e1 e2 => (ho _ _ (h2 _)).trans ((c j hj c2 p i hl).2 e1 e2)⟩⟩
theorem HisM.zero {ν : Mm} {H : Nat → VS} (h : ν.1 0 3 = nI 0) : HisM ν 0 H := ⟨h, by decide, fun j hj => absurd hj (Nat.not_lt_zero _)⟩
def EP2 (o k : Nat) : Prop := o = 2 ∨ (o = 0 ∧ k = 3)
theorem m_keeps1 (ν : Mm) {u : Nat} (hu : u < 6) (h : ν.1 0 3 = nI u) : M_keepsAhead_j55 ν = some (sti (bcM ν 2 (712 * u) 1 0 712) 0 3 (nI (u + 1))) := by
  have key := iter_traj (f := fun s : Int32 × Mm => M_keepsAhead_l57 s.1 s.2) (fun k => (nI k, bcM ν 2 (712 * u) 1 0 k)) (y := bcM ν 2 (712 * u) 1 0 712) 712 1000000 ?_ ?_ (by decide)
  · unfold M_keepsAhead_j55
    rw [bcM_0] at key
    rw [key, bni_eq, bcM_n _ (by omega), h, nI_add, lt_eq]
  · intro k hk
    show M_keepsAhead_l57 _ _ = _
    unfold M_keepsAhead_l57
    have e := bcM_s ν (dst := 2) (doff := 712 * u) (src := 1) (soff := 0) (n := k)
    rw [Nat.zero_add] at e
    rw [if_neg (nI_ge hk (by decide)), chv_nI hk (by decide), bcM_n _ (by omega), h, nI_mulE, nI_add, chv_nI (by omega) (by decide), ix_nI (by omega), ix_nI (by omega), bcM_n _ (by omega), e, lt_eq, nI_add]
  · show M_keepsAhead_l57 _ _ = _
    unfold M_keepsAhead_l57
    rw [if_pos (show nI 712 ≤ nI 712 by decide)]
theorem m_keeps6 (ν : Mm) (h : ν.1 0 3 = nI 6) : M_keepsAhead ν = M_keepsAhead_j55 (bcM (sti ν 0 3 (nI 5)) 2 0 2 712 3560) := by
  have key := iter_traj (f := fun s : Int32 × Mm => M_keepsAhead_l21 s.1 s.2) (fun k => (nI k, bcM (sti ν 0 3 (nI 5)) 2 0 2 712 k)) (y := bcM (sti ν 0 3 (nI 5)) 2 0 2 712 3560) 3560 1000000 ?_ ?_ (by decide)
  · unfold M_keepsAhead
    rw [bcM_0] at key
    rw [if_pos h, h, nI_subE (by decide), lt_eq, key, bni_eq]
  · intro k hk
    show M_keepsAhead_l21 _ _ = _
    unfold M_keepsAhead_l21
    have e := bcM_s (sti ν 0 3 (nI 5)) (dst := 2) (doff := 0) (src := 2) (soff := 712) (n := k)
    rw [Nat.zero_add, Nat.add_comm 712 k] at e
    rw [bcM_n _ (by omega), sti_e ⟨rfl, rfl⟩, nI_mulE, if_neg (nI_ge (by omega) (by decide)), nI_add, chv_nI (by omega) (by decide), chv_nI (by omega) (by decide), ix_nI (by omega), ix_nI (by omega), bcM_n (x := k + 712) _ (by omega), e, lt_eq, nI_add]
  · show M_keepsAhead_l21 _ _ = _
    unfold M_keepsAhead_l21
    rw [bcM_n _ (by omega), sti_e ⟨rfl, rfl⟩, nI_mulE, if_pos (show nI (712 * 5) ≤ nI 3560 by decide)]
theorem cellN_EP2 {o k : Nat} (h : cellN o k) : ¬ EP2 o k := by
  unfold cellN cellM at h
  unfold EP2
  omega
/-- the row that is kept of what is now -/
theorem rowM_now {ν ν2 : Mm} {V : VS} {u : Nat} (h : HM ν 0 V) (h2 : ∀ x, x < 712 → ν2.1 2 (712 * u + x) = ν.1 1 x) : rowM ν2 u (w0V V) := by
  intro c p i hl
  obtain ⟨a, b⟩ := h.1 c p i ⟨live_w0 hl, fun z => absurd z (by decide)⟩
  refine ⟨a, fun e1 e2 => ?_⟩
  have hx := pM_lt a e2 e1
  have b := b e2
  rw [e1, eM_1 e1] at b
  rw [h2 _ hx, b, w0V_o (by unfold own3 at e2; omega)]
theorem m_push {ν : Mm} {V : VS} {u : Nat} {H : Nat → VS} (h : HM ν 0 V) (hH : HisM ν u H) : ∃ ν2, M_keepsAhead ν = some ν2 ∧ HM ν2 0 V ∧ HisM ν2 (pshU u) (pshH u H V) ∧ OutM EP2 ν ν2 := by
  obtain ⟨a, b, c⟩ := hH
  by_cases e6 : u = 6
  · subst e6
    rw [m_keeps6 ν a, m_keeps1 _ (u := 5) (by decide) (by rw [bcM_n _ (by omega), sti_e ⟨rfl, rfl⟩])]
    generalize hx : bcM (sti ν 0 3 (nI 5)) 2 0 2 712 3560 = ν1
    have o1 : OutM EP2 ν ν1 := fun o k z => by
      unfold EP2 at z
      rw [← hx, bcM_n _ (by omega), sti_n (by omega)]
    have r1 : ∀ x, x < 3560 → ν1.1 2 x = ν.1 2 (x + 712) := fun x z => by
      rw [← hx, bcM_p _ (by omega), sti_n (by omega), Nat.sub_zero]
    have o2 : OutM EP2 ν1 (sti (bcM ν1 2 (712 * 5) 1 0 712) 0 3 (nI 6)) := fun o k z => by
      unfold EP2 at z
      rw [sti_n (by omega), bcM_n _ (by omega)]
    refine ⟨_, rfl, h.out (o1.tr o2) (fun o k => cellN_EP2), ⟨sti_e ⟨rfl, rfl⟩, by decide, fun j hj => ?_⟩, o1.tr o2⟩
    have hj : j < 6 := hj
    unfold pshH
    rw [if_neg (by decide)]
    by_cases e2 : j < 5
    · rw [if_pos e2]
      intro c2 p i hl
      obtain ⟨z1, z2⟩ := c (j + 1) (by omega) c2 p i hl
      refine ⟨z1, fun e3 e4 => ?_⟩
      have hx := pM_lt z1 e4 e3
      rw [sti_n (by omega), bcM_n _ (by omega), r1 _ (by omega), ← z2 e3 e4, show 712 * j + pM c2 p i + 712 = 712 * (j + 1) + pM c2 p i by omega]
    · rw [if_neg e2]
      have : j = 5 := by omega
      subst this
      refine rowM_now (h.out o1 (fun o k => cellN_EP2)) (fun x hx => ?_)
      rw [sti_n (by omega), bcM_p _ (by omega), Nat.add_zero, Nat.add_sub_cancel_left]
  · have hu : u < 6 := by omega
    unfold M_keepsAhead
    rw [a, if_neg (fun z => by have := (nI_eq (by omega) (by decide)).1 z; omega), m_keeps1 _ hu a]
    have o2 : OutM EP2 ν (sti (bcM ν 2 (712 * u) 1 0 712) 0 3 (nI (u + 1))) := fun o k z => by
      unfold EP2 at z
      rw [sti_n (by omega), bcM_n _ (by omega)]
    refine ⟨_, rfl, h.out o2 (fun o k => cellN_EP2), ⟨?_, ?_, fun j hj => ?_⟩, o2⟩
    · unfold pshU
      rw [if_pos hu, sti_e ⟨rfl, rfl⟩]
    · unfold pshU
      rw [if_pos hu]
      omega
    · unfold pshU at hj
      rw [if_pos hu] at hj
      unfold pshH
      rw [if_pos hu]
      by_cases e2 : j < u
      · rw [if_pos e2]
        intro c2 p i hl
        obtain ⟨z1, z2⟩ := c j e2 c2 p i hl
        refine ⟨z1, fun e3 e4 => ?_⟩
        have hx := pM_lt z1 e4 e3
        rw [sti_n (by omega), bcM_n _ (by omega), ← z2 e3 e4]
      · rw [if_neg e2]
        have : j = u := by omega
        subst this
        refine rowM_now h (fun x hx => ?_)
        rw [sti_n (by omega), bcM_p _ (by omega), Nat.add_zero, Nat.add_sub_cancel_left]
/-- from a row of the past back -/
theorem HM.back {ν ν2 : Mm} {V U : VS} {u : Nat} (h : HM ν 0 V) (hr : rowM ν u U) (hS : Stat U V) (h1 : ∀ x, x < 712 → ν2.1 1 x = ν.1 2 (712 * u + x)) (ho : ∀ o k, cellN o k → o ≠ 1 → ν2.1 o k = ν.1 o k) : HM ν2 0 U := by
  have s := hS.1
  have sP := s 0 0 0 (by unfold stc; omega)
  refine ⟨fun c p i hl => ⟨(hr c p i hl.1).1, fun e2 => ?_⟩, fun p hp => ?_, ?_, ?_⟩
  · obtain ⟨z1, z2⟩ := hr c p i hl.1
    by_cases e1 : mo c i = 1
    · rw [e1, eM_1 e1, h1 _ (pM_lt z1 e2 e1)]
      exact z2 e1 e2
    · have hv : live V c p i ∧ U c p i = V c p i := by
        have hl := hl.1
        unfold live at hl
        have r3 : U 3 p 0 = V 3 p 0 := s 3 p 0 (by unfold stc; omega)
        rcases hl with ⟨rfl, rfl, z⟩ | ⟨rfl, z, z3⟩ | ⟨rfl, z, z3⟩ | ⟨z, z3, rfl⟩ | ⟨y, y2, _⟩ | ⟨y, y2, _⟩ | ⟨y, y2, _⟩ | ⟨rfl, rfl, z⟩ | ⟨y, y2, rfl, z⟩
        · by_cases i0 : i = 0
          · subst i0
            exact ⟨live_0 (by decide), sP⟩
          · exact absurd (by unfold mo inNow; simp [i0]) e1
        · refine ⟨live_t (by omega) z3, ?_⟩
          by_cases i0 : i = 3 ∨ i = 4
          · exact absurd (by unfold mo inNow; rcases i0 with rfl | rfl <;> rfl) e1
          · exact s 1 p i (by unfold stc; omega)
        · exact ⟨Or.inr (Or.inr (Or.inl ⟨rfl, by omega, by omega⟩)), s 2 p i (by unfold stc; omega)⟩
        · by_cases i0 : c = 3
          · subst i0
            exact ⟨live_p (by omega) (by omega), r3⟩
          · have : c = 4 ∨ c = 5 ∨ c = 6 ∨ c = 21 ∨ c = 22 := by omega
            exact absurd (by rcases this with rfl | rfl | rfl | rfl | rfl <;> rfl) e1
        · have : c = 7 ∨ c = 8 ∨ c = 9 ∨ c = 10 := by omega
          exact absurd (by rcases this with rfl | rfl | rfl | rfl <;> rfl) e1
        · have : c = 11 ∨ c = 12 ∨ c = 13 ∨ c = 14 := by omega
          exact absurd (by rcases this with rfl | rfl | rfl | rfl <;> rfl) e1
        · have : c = 15 ∨ c = 16 ∨ c = 17 ∨ c = 18 := by omega
          exact absurd (by rcases this with rfl | rfl | rfl | rfl <;> rfl) e1
        · exact ⟨live_r z, s 20 0 i (by unfold stc; omega)⟩
        · exact ⟨live_b ⟨y, y2⟩ (Nat.lt_of_lt_of_le z hS.2.1), hS.2.2 c i ⟨y, y2⟩ z⟩
      have hN := (h.1 c p i ⟨hv.1, fun z => absurd z (by decide)⟩).2 e2
      rw [ho _ _ (Or.inl (cellM_of z1 e2)) e1, hN, hv.2]
  · rw [sP] at hp
    rw [ho 0 10 (Or.inr ⟨rfl, Or.inr (Or.inl rfl)⟩) (by decide), h.2.1 p hp, s 1 p 5 (by unfold stc; omega)]
  · rw [ho 0 5 (Or.inr ⟨rfl, Or.inl rfl⟩) (by decide)]
    exact h.2.2.1
  · rw [ho 0 15 (Or.inr ⟨rfl, Or.inr (Or.inr rfl)⟩) (by decide), s 20 0 2 (by unfold stc; omega)]
    exact h.2.2.2
def EU (o k : Nat) : Prop := o = 1 ∨ o = 9 ∨ (o = 0 ∧ (k = 0 ∨ k = 3 ∨ k = 17))
theorem m_undo0 {ν : Mm} {H : Nat → VS} (hH : HisM ν 0 H) : M_undo ν = some (nI 0, sti ν 0 0 (nI 0)) := by
  unfold M_undo
  rw [lt_eq, sti_n (by omega), hH.1, if_00]
theorem m_undo {ν : Mm} {u n : Nat} {V : VS} {H : Nat → VS} {pv : Nat → Nat} (h : HM ν 0 V) (hH : HisM ν (u + 1) H) (hS : HS (u + 1) H V) (hp : pickM ν n pv) (hB : pickB V n pv) (hv : V 0 0 1 ≤ 40) : ∃ ν2, M_undo ν = some (nI 1, ν2) ∧ HM ν2 0 (w0V (H u)) ∧ HisM ν2 u H ∧ pickM ν2 (kpF pv (H u 0 0 1) n).1 (kpF pv (H u 0 0 1) n).2 ∧ OutM EU ν ν2 := by
  obtain ⟨a, b, c⟩ := hH
  have hr := c u (Nat.lt_succ_self u)
  have hs := (hS.1 u (Nat.lt_succ_self u))
  have hx1 : H u 0 0 1 ≤ 40 := hs.2.1.2.1
  generalize hz : sti (sti ν 0 0 (nI 0)) 0 3 (nI u) = ν1
  have o1 : OutM EU ν ν1 := by
    rw [← hz]
    exact (OutM.rf.sti (by unfold EU; omega)).sti (by unfold EU; omega)
  have n3 : ν1.1 0 3 = nI u := by
    rw [← hz]
    exact sti_e ⟨rfl, rfl⟩
  have n2 : ∀ k, ν1.1 2 k = ν.1 2 k := fun k => o1 2 k (by unfold EU; omega)
  have key := iter_traj (f := fun s : Int32 × Mm => M_undo_l26 s.1 s.2) (fun k => (nI k, bcM ν1 1 0 2 (712 * u) k)) (y := bcM ν1 1 0 2 (712 * u) 712) 712 1000000 ?_ ?_ (by decide)
  · rw [bcM_0] at key
    have hp1 : pickM (bcM ν1 1 0 2 (712 * u) 712) n pv := by
      refine ⟨?_, fun i hi => ?_⟩
      · rw [bcM_n _ (by omega), ← hz, sti_n (by omega), sti_n (by omega)]
        exact hp.1
      · rw [bcM_n _ (by omega), ← hz, sti_n (by omega), sti_n (by omega)]
        exact hp.2 i hi
    have r1 : ∀ x, x < 712 → (bcM ν1 1 0 2 (712 * u) 712).1 1 x = ν.1 2 (712 * u + x) := fun x hx => by
      rw [bcM_p _ (by omega), n2, Nat.sub_zero, Nat.add_comm]
    have hB1 : HM (bcM ν1 1 0 2 (712 * u) 712) 0 (H u) := h.back hr hs.1 r1 (fun o k z z1 => by
      rw [bcM_n _ (by omega), ← hz, sti_n (by unfold cellN cellM at z; omega), sti_n (by unfold cellN cellM at z; omega)])
    have hn : (bcM ν1 1 0 2 (712 * u) 712).1 1 6 = nI (H u 0 0 1) := hB1.vn
    obtain ⟨ν2, g1, g2, g3⟩ := m_unpick hp1 hB.1 (fun i hi => by have := hB.2 i hi; omega) (by omega) hn
    have o2 : OutM EU ν ν2 := by
      refine o1.tr (OutM.tr (ν2 := bcM ν1 1 0 2 (712 * u) 712) (fun o k z => bcM_n _ (by unfold EU at z; omega)) (g3.mono (fun o k z => ?_)))
      unfold EK at z
      unfold EU
      omega
    refine ⟨ν2, ?_, (hB1.out g3 (fun o k z y => by
      unfold cellN cellM at z
      unfold EK at y
      omega)).putW 0, ⟨?_, by omega, fun j hj => ?_⟩, g2, o2⟩
    · unfold M_undo
      rw [lt_eq, sti_n (by omega), a, if_neg (fun z => by have := (nI_eq (b := 0) (by omega) (by decide)).1 z; omega), nI_subE (by omega), Nat.add_sub_cancel, lt_eq, hz, key, bni_eq, g1, bnd_eq]
    · rw [g3 _ _ (by unfold EK; omega), bcM_n _ (by omega)]
      exact n3
    · intro c2 p i hl
      obtain ⟨z1, z2⟩ := c j (by omega) c2 p i hl
      exact ⟨z1, fun e3 e4 => (o2 2 _ (by unfold EU; omega)).trans (z2 e3 e4)⟩
  · intro k hk
    show M_undo_l26 _ _ = _
    unfold M_undo_l26
    have e := bcM_s ν1 (dst := 1) (doff := 0) (src := 2) (soff := 712 * u) (n := k)
    rw [Nat.zero_add] at e
    rw [if_neg (nI_ge hk (by decide)), bcM_n _ (by omega), n3, nI_mulE, nI_add, chv_nI (by omega) (by decide), chv_nI hk (by decide), ix_nI (by omega), ix_nI (by omega), bcM_n _ (by omega), e, lt_eq, nI_add]
  · show M_undo_l26 _ _ = _
    unfold M_undo_l26
    rw [if_pos (show nI 712 ≤ nI 712 by decide)]
