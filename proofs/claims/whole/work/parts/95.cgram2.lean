/-! THE CLASS READS: products, sums, conditions -/
section
variable {tp : Nat → Nat} {n c m : Nat}
abbrev KD (tp : Nat → Nat) (n : Nat) : Nat → Nat := Kd tp n
theorem RC.cnt {μ : Mm} {r : PR} (h : RC tp n c m μ r) : μ.1 532 7 = nI (c + 1) := h.1.2.1
/-- a number of turns, the reading inside: what is left to read is told by g -/
theorem c_rloop {μ : Mm} {r : PR} {f : Int32 × Mm → Option ((Int32 × Mm) ⊕ Mm)} {g : Nat → Nat → List Nat → PR} (h : RC tp n c m μ r) (hc : c ≤ 400) (hz : ∀ i L, g 0 i L = .inr (i, L))
    (h0 : ∀ k μ, k < c + 1 → ∀ e, RC tp n c m μ (.inl e) → f (nI k, μ) = some (.inr μ))
    (h1 : ∀ k μ i L, k < c + 1 → RC tp n c m μ (.inr (i, L)) → (∃ μ2 r2, f (nI k, μ) = some (.inl (nI (k + 1), μ2)) ∧ RC tp n c m μ2 r2 ∧ RF μ μ2 ∧ g (c - k + 1) i L = bR r2 (g (c - k))) ∨ (f (nI k, μ) = some (.inr μ) ∧ g (c - k + 1) i L = .inr (i, L)))
    (h2 : ∀ μ, μ.1 532 7 = nI (c + 1) → f (nI (c + 1), μ) = some (.inr μ)) : ∃ μ2, iter 1000000 f (nI 0, μ) = some μ2 ∧ RC tp n c m μ2 (bR r (g (c + 1))) ∧ RF μ μ2 := by
  refine iter_inv (f := f) (fun k s => s.1 = nI k ∧ RF μ s.2 ∧ ∃ r', RC tp n c m s.2 r' ∧ bR r' (g (c + 1 - k)) = bR r (g (c + 1))) (fun x => RC tp n c m x (bR r (g (c + 1))) ∧ RF μ x) (c + 1) ?_ ?_ 1000000 (nI 0, μ) ⟨rfl, RF.rf, r, h, rfl⟩ (by omega)
  · rintro k ⟨s1, m1⟩ hk ⟨rfl, f1, r', k1, k2⟩
    have k1 : RC tp n c m m1 r' := k1
    have f1 : RF μ m1 := f1
    cases r' with
    | inl e =>
      right
      refine ⟨m1, h0 k m1 hk e k1, ?_, f1⟩
      rw [← k2]
      exact k1
    | inr x =>
      obtain ⟨i, L⟩ := x
      rw [show c + 1 - k = c - k + 1 by omega] at k2
      have k2 : g (c - k + 1) i L = bR r (g (c + 1)) := k2
      rcases h1 k m1 i L hk k1 with ⟨μ2, r2, a1, a2, a3, a4⟩ | ⟨a1, a2⟩
      · left
        exact ⟨(nI (k + 1), μ2), a1, rfl, f1.tr a3, r2, a2, by rw [show c + 1 - (k + 1) = c - k by omega, ← a4]; exact k2⟩
      · right
        refine ⟨m1, a1, ?_, f1⟩
        rw [← k2, a2]
        exact k1
  · rintro ⟨s1, m1⟩ ⟨rfl, f1, r', k1, k2⟩
    refine ⟨m1, h2 m1 (RC.cnt k1), ?_, f1⟩
    rw [← k2, Nat.sub_self]
    have : bR r' (g 0) = r' := by
      cases r' with
      | inl e => rfl
      | inr x => exact hz x.1 x.2
    rw [this]
    exact k1
theorem RC.ni {μ : Mm} {i : Nat} {L : List Nat} (h : RC tp n c m μ (.inr (i, L))) : i < c + 1 := Nat.lt_succ_of_le h.2.1
theorem RC.ln {μ : Mm} {i : Nat} {L : List Nat} (h : RC tp n c m μ (.inr (i, L))) : L.length ≤ i := h.2.2.1
theorem RC.kk (H : Hyp tp n c m) {μ : Mm} {i : Nat} {L : List Nat} (h : RC tp n c m μ (.inr (i, L))) {α : Type} (N : Nat) (hN : N = 401) (G : Option α) : chv (μ.1 532 8) N G = G := by
  have hc : c ≤ 400 := Nat.le_trans H.2.1 H.1
  have h1 : i ≤ c := h.2.1
  rw [show μ.1 532 8 = nI i from h.2.2.2.2.2.1, hN, chv_nI (by omega) (by decide)]
theorem RC.kd (H : Hyp tp n c m) {μ : Mm} {i : Nat} {L : List Nat} (h : RC tp n c m μ (.inr (i, L))) : μ.1 534 (ix (μ.1 532 8)) = nI (Kd tp n i) := by
  have hc : c ≤ 400 := Nat.le_trans H.2.1 H.1
  have h1 : i ≤ c := h.2.1
  rw [show μ.1 532 8 = nI i from h.2.2.2.2.2.1, ix_nI (by omega)]
  exact (h.1.1 i h1).1
theorem RC.ok {μ : Mm} {i : Nat} {L : List Nat} (h : RC tp n c m μ (.inr (i, L))) : μ.1 532 2 = nI 0 := h.2.2.2.1
theorem RC.bad {μ : Mm} {e : Nat × Nat} (h : RC tp n c m μ (.inl e)) : ¬ μ.1 532 2 = 0 := by
  rw [h.2.2.2.1]
  exact e_ne h.2.1
theorem kd_eq (H : Hyp tp n c m) (i k : Nat) (hk : k < 2 ^ 31) : (nI (Kd tp n i) = nI k) = (Kd tp n i = k) := nI_eqE (by have := Kd_b (i := i) H.2.2.2.2.1; omega) hk
theorem c_rprod (H : Hyp tp n c m) {μ : Mm} {r : PR} (h : RC tp n c m μ r) : ∃ μ2, Reader_readProduct 532 μ = some μ2 ∧ RC tp n c m μ2 (bR r (pP (Kd tp n) (Vd tp n) m (c + 1))) ∧ RF μ μ2 := by
  have hc : c ≤ 400 := Nat.le_trans H.2.1 H.1
  obtain ⟨μ1, g1, g2, g3⟩ := c_runit H h
  have key := c_rloop (f := fun s => Reader_readProduct_l6 532 s.1 s.2) (g := pPl (Kd tp n) (Vd tp n) m) g2 hc (fun _ _ => rfl) ?_ ?_ ?_
  · obtain ⟨μ2, f1, f2, f3⟩ := key
    refine ⟨μ2, ?_, ?_, g3.tr f3⟩
    · unfold Reader_readProduct
      rw [g1, bnd_eq, f1, bni_eq]
    · rw [bR_bR] at f2
      exact f2
  · intro k μ hk e h
    show Reader_readProduct_l6 _ _ _ = _
    unfold Reader_readProduct_l6
    rw [RC.cnt h, if_neg (nI_ge hk (by omega)), if_neg (RC.bad h)]
  · intro k μ i L hk h
    have hi := RC.ni h
    have hl := RC.ln h
    have kb := Kd_b (i := i) H.2.2.2.2.1
    have e0 : Reader_readProduct_l6 532 (nI k) μ = if nI (Kd tp n i) = nI 42 then Reader_readProduct_j49 532 (nI k) μ else if nI (Kd tp n i) = nI 47 then Reader_readProduct_j49 532 (nI k) μ else some (.inr μ) := by
      unfold Reader_readProduct_l6
      rw [RC.cnt h, if_neg (nI_ge hk (by omega)), RC.ok h, if_00, RC.kk H h _ rfl, RC.kk H h _ rfl]
      rw [show μ.1 (532 + 2) (ix (μ.1 532 8)) = nI (Kd tp n i) from RC.kd H h]
    show (∃ μ2 r2, Reader_readProduct_l6 _ _ _ = _ ∧ _) ∨ (Reader_readProduct_l6 _ _ _ = _ ∧ _)
    rw [e0]
    show (∃ μ2 r2, _ ∧ _ ∧ _ ∧ (if Kd tp n i = 42 then _ else if Kd tp n i = 47 then _ else _) = _) ∨ (_ ∧ (if Kd tp n i = 42 then _ else if Kd tp n i = 47 then _ else _) = _)
    by_cases c1 : Kd tp n i = 42
    · left
      obtain ⟨m1, a1, a2, a3⟩ := takes_y H h c1 (by decide)
      obtain ⟨m2, b1, b2, b3⟩ := c_runit H a2
      have gr := pU_ok (K := Kd tp n) (V := Vd tp n) H.E H.V H.2.2.2.2.2 (RC.ni a2) L
      obtain ⟨m3, d1, d2, d3⟩ := c_rop H b2 (fun j l e => by
        have := Gr.get gr e
        have := this.2.2.1
        omega) 42
      have d2 : RC tp n c m m3 (bR (pU (Kd tp n) (Vd tp n) m (i + 1) L) fun j l => .inr (j, l ++ [20042])) := d2
      refine ⟨m3, _, ?_, d2, a3.tr (b3.tr d3), ?_⟩
      · rw [if_pos (by rw [c1])]
        unfold Reader_readProduct_j49 Reader_readProduct_j101
        rw [a1, bnd2_eq, if_10, b1, bnd_eq, d1, bnd_eq, nI_add]
      · rw [if_pos c1, bR_bR]
        rfl
    · rw [if_neg (fun z => c1 ((nI_eq (by omega) (by decide)).1 z)), if_neg c1]
      by_cases c2 : Kd tp n i = 47
      · left
        rw [if_pos (by rw [c2]), if_pos c2]
        obtain ⟨m1, a1, a2, a3⟩ := takes_y H h c2 (by decide)
        obtain ⟨m2, b1, b2, b3⟩ := c_rnum H a2 (a := 1) (b := 9999) (by decide) (by decide)
        have b2 : RC tp n c m m2 (tnR (Kd tp n) (Vd tp n) 1 9999 (i + 1) L) := b2
        have vb := H.V (i + 1)
        have eq : Reader_readProduct_j49 532 (nI k) μ = bnd (Law_add (532 + 5) (nI (tnV (Kd tp n) (Vd tp n) 1 9999 (.inr (i + 1, L)))) m2) fun μ8 => bnd (Reader_addOperation 532 (nI 47) μ8) fun μ9 => some (.inl (nI (k + 1), μ9)) := by
          unfold Reader_readProduct_j49 Reader_readProduct_j101
          rw [takes_n H h (by decide) c1, bnd2_eq, if_00, a1, bnd2_eq, if_10, b1, bnd2_eq, nI_add]
        by_cases c3 : Kd tp n (i + 1) = 257
        · by_cases c4 : Vd tp n (i + 1) = 0
          · have e1 : tnR (Kd tp n) (Vd tp n) 1 9999 (i + 1) L = .inl (2, i + 1) := by
              unfold tnR
              rw [if_pos c3, if_neg (by omega)]
            rw [e1] at b2
            obtain ⟨m3, d1, d2, d3⟩ := c_raddF b2 (nI (tnV (Kd tp n) (Vd tp n) 1 9999 (.inr (i + 1, L))))
            obtain ⟨m4, q1, q2, q3⟩ := c_ropF d2 (nI 47)
            refine ⟨m4, .inl (2, i + 1), ?_, q2, a3.tr (b3.tr (d3.tr q3)), ?_⟩
            · rw [eq, d1, bnd_eq, q1, bnd_eq]
            · rw [if_pos c3, if_pos c4]
              rfl
          · have e1 : tnR (Kd tp n) (Vd tp n) 1 9999 (i + 1) L = .inr (i + 2, L) := by
              unfold tnR
              rw [if_pos c3, if_pos (by omega)]
            have e2 : tnV (Kd tp n) (Vd tp n) 1 9999 (.inr (i + 1, L)) = Vd tp n (i + 1) := by
              unfold tnV
              dsimp only
              rw [if_pos ⟨c3, by omega, vb⟩]
            rw [e1] at b2
            obtain ⟨m3, d1, d2, d3⟩ := c_raddS H b2 (by omega) (Vd tp n (i + 1))
            obtain ⟨m4, q1, q2, q3⟩ := c_rop H d2 (fun j l e => by
              cases e
              rw [len_1]
              omega) 47
            refine ⟨m4, .inr (i + 2, L ++ [Vd tp n (i + 1)] ++ [20047]), ?_, q2, a3.tr (b3.tr (d3.tr q3)), ?_⟩
            · rw [eq, e2, d1, bnd_eq, q1, bnd_eq]
            · rw [if_pos c3, if_neg c4]
              rfl
        · have e1 : tnR (Kd tp n) (Vd tp n) 1 9999 (i + 1) L = .inl (1, i + 1) := by
            unfold tnR
            rw [if_neg c3]
          rw [e1] at b2
          obtain ⟨m3, d1, d2, d3⟩ := c_raddF b2 (nI (tnV (Kd tp n) (Vd tp n) 1 9999 (.inr (i + 1, L))))
          obtain ⟨m4, q1, q2, q3⟩ := c_ropF d2 (nI 47)
          refine ⟨m4, .inl (1, i + 1), ?_, q2, a3.tr (b3.tr (d3.tr q3)), ?_⟩
          · rw [eq, d1, bnd_eq, q1, bnd_eq]
          · rw [if_neg c3]
            rfl
      · right
        rw [if_neg (fun z => c2 ((nI_eq (by omega) (by decide)).1 z)), if_neg c2]
        exact ⟨rfl, rfl⟩
  · intro μ h
    show Reader_readProduct_l6 _ _ _ = _
    unfold Reader_readProduct_l6
    rw [h, if_pos (nI_le (Nat.le_refl _) (by omega))]
theorem c_rsum (H : Hyp tp n c m) {μ : Mm} {r : PR} (h : RC tp n c m μ r) : ∃ μ2, Reader_readSum 532 μ = some μ2 ∧ RC tp n c m μ2 (bR r (pS (Kd tp n) (Vd tp n) m (c + 1))) ∧ RF μ μ2 := by
  have hc : c ≤ 400 := Nat.le_trans H.2.1 H.1
  obtain ⟨μ1, g1, g2, g3⟩ := c_rprod H h
  have key := c_rloop (f := fun s => Reader_readSum_l6 532 s.1 s.2) (g := pSl (Kd tp n) (Vd tp n) m (c + 1)) g2 hc (fun _ _ => rfl) ?_ ?_ ?_
  · obtain ⟨μ2, f1, f2, f3⟩ := key
    refine ⟨μ2, ?_, ?_, g3.tr f3⟩
    · unfold Reader_readSum
      rw [g1, bnd_eq, f1, bni_eq]
    · rw [bR_bR] at f2
      exact f2
  · intro k μ hk e h
    show Reader_readSum_l6 _ _ _ = _
    unfold Reader_readSum_l6
    rw [RC.cnt h, if_neg (nI_ge hk (by omega)), if_neg (RC.bad h)]
  · intro k μ i L hk h
    have hi := RC.ni h
    have hl := RC.ln h
    have kb := Kd_b (i := i) H.2.2.2.2.1
    have e0 : Reader_readSum_l6 532 (nI k) μ = if nI (Kd tp n i) = nI 43 then Reader_readSum_j49 532 (nI k) μ else if nI (Kd tp n i) = nI 45 then Reader_readSum_j49 532 (nI k) μ else some (.inr μ) := by
      unfold Reader_readSum_l6
      rw [RC.cnt h, if_neg (nI_ge hk (by omega)), RC.ok h, if_00, RC.kk H h _ rfl, RC.kk H h _ rfl]
      rw [show μ.1 (532 + 2) (ix (μ.1 532 8)) = nI (Kd tp n i) from RC.kd H h]
    show (∃ μ2 r2, Reader_readSum_l6 _ _ _ = _ ∧ _) ∨ (Reader_readSum_l6 _ _ _ = _ ∧ _)
    rw [e0]
    show (∃ μ2 r2, _ ∧ _ ∧ _ ∧ (if Kd tp n i = 43 ∨ Kd tp n i = 45 then _ else _) = _) ∨ (_ ∧ (if Kd tp n i = 43 ∨ Kd tp n i = 45 then _ else _) = _)
    by_cases c1 : Kd tp n i = 43 ∨ Kd tp n i = 45
    · left
      obtain ⟨m1, a1, a2, a3⟩ := takes_y H h rfl (by omega)
      obtain ⟨m2, b1, b2, b3⟩ := c_rprod H a2
      have gr := pP_ok (K := Kd tp n) (V := Vd tp n) H.E H.V H.2.2.2.2.2 (RC.ni a2) L
      obtain ⟨m3, d1, d2, d3⟩ := c_rop H b2 (fun j l e => by
        have := Gr.get gr e
        have := this.2.2.1
        omega) (Kd tp n i)
      have key : Reader_readSum_j49 532 (nI k) μ = some (.inl (nI (k + 1), m3)) := by
        have em : m1 = sti μ 532 8 (nI (i + 1)) := by
          unfold Reader_takes at a1
          rw [RC.ok h, if_00, RC.kk H h _ rfl, show μ.1 (532 + 2) (ix (μ.1 532 8)) = nI (Kd tp n i) from RC.kd H h, if_pos rfl, lt_eq, show μ.1 532 8 = nI i from h.2.2.2.2.2.1, nI_add] at a1
          exact ((Prod.mk.inj (Option.some.inj a1)).2).symm
        unfold Reader_readSum_j49
        rw [RC.kk H h _ rfl, show μ.1 (532 + 2) (ix (μ.1 532 8)) = nI (Kd tp n i) from RC.kd H h, show μ.1 532 8 = nI i from h.2.2.2.2.2.1, nI_add, lt_eq, ← em, b1, bnd_eq, d1, bnd_eq, nI_add]
      have d2 : RC tp n c m m3 (bR (pP (Kd tp n) (Vd tp n) m (c + 1) (i + 1) L) fun j l => .inr (j, l ++ [20000 + Kd tp n i])) := d2
      refine ⟨m3, _, ?_, d2, a3.tr (b3.tr d3), ?_⟩
      · rcases c1 with c1 | c1
        · rw [if_pos (by rw [c1])]
          exact key
        · rw [if_neg (by rw [c1]; decide), if_pos (by rw [c1])]
          exact key
      · rw [if_pos c1, bR_bR]
        rfl
    · right
      rw [if_neg (fun z => c1 (Or.inl ((nI_eq (by omega) (by decide)).1 z))), if_neg (fun z => c1 (Or.inr ((nI_eq (by omega) (by decide)).1 z))), if_neg c1]
      exact ⟨rfl, rfl⟩
  · intro μ h
    show Reader_readSum_l6 _ _ _ = _
    unfold Reader_readSum_l6
    rw [h, if_pos (nI_le (Nat.le_refl _) (by omega))]
/-- a comparison -/
theorem c_rcmp (H : Hyp tp n c m) {μ : Mm} {i : Nat} {L : List Nat} (h : RC tp n c m μ (.inr (i, L))) (rT rC : Nat → Int32 → Mm → Option Mm) (o : Int32) (h1 : ¬ Kd tp n i = 305) (h2 : ¬ Kd tp n i = 40) : ∃ μ2, Reader_readTest_j60 rT rC 532 o μ = some μ2 ∧ RC tp n c m μ2 (pQ (Kd tp n) (Vd tp n) m (c + 1) i L) ∧ RF μ μ2 := by
  have hc : c ≤ 400 := Nat.le_trans H.2.1 H.1
  obtain ⟨m1, a1, a2, a3⟩ := c_rsum H h
  have a2 : RC tp n c m m1 (pS (Kd tp n) (Vd tp n) m (c + 1) i L) := a2
  have gr := pS_ok (K := Kd tp n) (V := Vd tp n) H.E H.V H.2.2.2.2.2 (RC.ni h) L
  unfold Reader_readTest_j60
  rw [takes_n H h (by decide) h1, bnd2_eq, if_00, takes_n H h (by decide) h2, bnd2_eq, if_00, a1, bnd_eq]
  unfold pQ
  generalize pS (Kd tp n) (Vd tp n) m (c + 1) i L = r at a2 gr ⊢
  cases r with
  | inl e =>
    have hq : ∃ q, q ≤ c ∧ m1.1 532 8 = nI q := a2.2.2.2.2.2.1
    obtain ⟨q, q1, q2⟩ := hq
    obtain ⟨m2, b1, b2, b3⟩ := c_rfail H a2 (e := 1) (Or.inl rfl)
    obtain ⟨m3, d1, d2, d3⟩ := c_rsum H b2
    obtain ⟨m4, f1, f2, f3⟩ := c_ropF d2 (m1.1 (532 + 2) (ix (nI q)))
    rw [q2, chv_nI (by omega) (by decide), takes_f a2, bnd2_eq, if_00, takes_f a2, bnd2_eq, if_00, takes_f a2, bnd2_eq, if_00, b1, bnd_eq]
    unfold Reader_readTest_j158
    rw [d1, bnd_eq, f1, bnd_eq]
    exact ⟨m4, rfl, f2, a3.tr (b3.tr (d3.tr f3))⟩
  | inr x =>
    obtain ⟨j, l⟩ := x
    have kb := Kd_b (i := j) H.2.2.2.2.1
    have go : ∀ m2, RC tp n c m m2 (.inr (j + 1, l)) → RF m1 m2 → Kd tp n j = 60 ∨ Kd tp n j = 61 ∨ Kd tp n j = 62 → ∃ μ2, Reader_readTest_j158 rT rC 532 (nI (Kd tp n j)) m2 = some μ2 ∧ RC tp n c m μ2 (bR (pS (Kd tp n) (Vd tp n) m (c + 1) (j + 1) l) fun j2 l2 => .inr (j2, l2 ++ [20000 + Kd tp n j])) ∧ RF μ μ2 := by
      intro m2 b2 b3 hk
      obtain ⟨m3, d1, d2, d3⟩ := c_rsum H b2
      have gr2 := pS_ok (K := Kd tp n) (V := Vd tp n) H.E H.V H.2.2.2.2.2 (RC.ni b2) l
      have ll := RC.ln a2
      obtain ⟨m4, f1, f2, f3⟩ := c_rop H d2 (fun j2 l2 e => by
        have := Gr.get gr2 e
        have := this.2.2.1
        omega) (Kd tp n j)
      unfold Reader_readTest_j158
      rw [d1, bnd_eq, f1, bnd_eq]
      exact ⟨m4, rfl, f2, a3.tr (b3.tr (d3.tr f3))⟩
    show ∃ μ2, _ ∧ RC tp n c m μ2 (if Kd tp n j = 60 ∨ Kd tp n j = 61 ∨ Kd tp n j = 62 then _ else _) ∧ _
    rw [RC.kk H a2 _ rfl, show m1.1 (532 + 2) (ix (m1.1 532 8)) = nI (Kd tp n j) from RC.kd H a2]
    by_cases c1 : Kd tp n j = 60
    · obtain ⟨m2, b1, b2, b3⟩ := takes_y H a2 c1 (by decide)
      rw [b1, bnd2_eq, if_10, if_pos (Or.inl c1)]
      exact go m2 b2 b3 (Or.inl c1)
    · rw [takes_n H a2 (by decide) c1, bnd2_eq, if_00]
      by_cases c2 : Kd tp n j = 61
      · obtain ⟨m2, b1, b2, b3⟩ := takes_y H a2 c2 (by decide)
        rw [b1, bnd2_eq, if_10, if_pos (Or.inr (Or.inl c2))]
        exact go m2 b2 b3 (Or.inr (Or.inl c2))
      · rw [takes_n H a2 (by decide) c2, bnd2_eq, if_00]
        by_cases c3 : Kd tp n j = 62
        · obtain ⟨m2, b1, b2, b3⟩ := takes_y H a2 c3 (by decide)
          rw [b1, bnd2_eq, if_10, if_pos (Or.inr (Or.inr c3))]
          exact go m2 b2 b3 (Or.inr (Or.inr c3))
        · rw [takes_n H a2 (by decide) c3, bnd2_eq, if_00, if_neg (by omega)]
          obtain ⟨m2, b1, b2, b3⟩ := c_rfail H a2 (e := 1) (Or.inl rfl)
          obtain ⟨m3, d1, d2, d3⟩ := c_rsum H b2
          obtain ⟨m4, f1, f2, f3⟩ := c_ropF d2 (nI (Kd tp n j))
          rw [b1, bnd_eq]
          unfold Reader_readTest_j158
          rw [d1, bnd_eq, f1, bnd_eq]
          exact ⟨m4, rfl, f2, a3.tr (b3.tr (d3.tr f3))⟩
/-- a condition behind a fault -/
theorem c_rtestF (H : Hyp tp n c m) {μ : Mm} {e : Nat × Nat} (h : RC tp n c m μ (.inl e)) (rT rC : Nat → Int32 → Mm → Option Mm) (o : Int32) : ∃ μ2, Reader_readTest_ rT rC 532 o μ = some μ2 ∧ RC tp n c m μ2 (.inl e) ∧ RF μ μ2 := by
  have hc : c ≤ 400 := Nat.le_trans H.2.1 H.1
  obtain ⟨m1, a1, a2, a3⟩ := c_rsum H h
  have a2 : RC tp n c m m1 (.inl e) := a2
  have hq : ∃ q, q ≤ c ∧ m1.1 532 8 = nI q := a2.2.2.2.2.2.1
  obtain ⟨q, q1, q2⟩ := hq
  obtain ⟨m2, b1, b2, b3⟩ := c_rfail H a2 (e := 1) (Or.inl rfl)
  obtain ⟨m3, d1, d2, d3⟩ := c_rsum H b2
  obtain ⟨m4, f1, f2, f3⟩ := c_ropF d2 (m1.1 (532 + 2) (ix (nI q)))
  unfold Reader_readTest_ Reader_readTest_j40 Reader_readTest_j41 Reader_readTest_j60
  rw [if_neg (RC.bad h), if_00, takes_f h, bnd2_eq, if_00, takes_f h, bnd2_eq, if_00, a1, bnd_eq, q2, chv_nI (by omega) (by decide), takes_f a2, bnd2_eq, if_00, takes_f a2, bnd2_eq, if_00, takes_f a2, bnd2_eq, if_00, b1, bnd_eq]
  unfold Reader_readTest_j158
  rw [d1, bnd_eq, f1, bnd_eq]
  exact ⟨m4, rfl, f2, a3.tr (b3.tr (d3.tr f3))⟩
end
