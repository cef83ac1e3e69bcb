/-! THE CHECK: the post comes, all of it -/
theorem m_rcb {ν : Mm} {th : Nat} {V : VS} {k d : Nat} (h : HM ν th V) (hw : WF d V) (hk : k < V 0 0 2) : ∃ ν1 ν2, M_comesTo (nI (V 15 0 k)) (nI (V 16 0 k)) (nI (V 17 0 k)) ν = some (nI (rcbV V (V 15 0 k) (V 16 0 k) (V 17 0 k)).2, ν1) ∧ (∀ j, j < 4 → ν1.1 1 (472 + 4 * k + j) = ν.1 1 (472 + 4 * k + j)) ∧ M_notes (nI (V 15 0 k)) (nI (V 16 0 k)) (nI (V 17 0 k)) (nI (rcbV V (V 15 0 k) (V 16 0 k) (V 17 0 k)).2) ν1 = some ν2 ∧ HM ν2 th (rcbV V (V 15 0 k) (V 16 0 k) (V 17 0 k)).1 ∧ OutM (isB th) ν ν2 := by
  have w9 := hw.2.2.2.2.2.2.2.2.2.1 k hk
  obtain ⟨ν1, g1, g2, g3⟩ := m_comes (f := V 16 0 k) h hw.2.2.2.2.2.1 w9.2.2.1 w9.1
  obtain ⟨ν2, f1, f2, f3⟩ := m_notes g2 (V 15 0 k) (V 16 0 k) (V 17 0 k) (rcvV V (V 15 0 k) (V 16 0 k) (V 17 0 k)).2
  have o : ∀ {c q j : Nat}, ¬ (6 ≤ c ∧ c ≤ 10) → c ≠ 21 → c ≠ 22 → ¬ (c = 0 ∧ j = 7) → (rcvV V (V 15 0 k) (V 16 0 k) (V 17 0 k)).1 c q j = V c q j := by
    intro c q j a b e f
    unfold rcvV
    split
    · rfl
    · split
      · rfl
      · split
        · exact vset_ne (by omega)
        · exact giveV_o a b e
  refine ⟨ν1, ν2, g1, fun j hj => ?_, f1, f2, (g3.mono (fun o x z => Or.inl z)).tr f3⟩
  have hk2 : k < (rcvV V (V 15 0 k) (V 16 0 k) (V 17 0 k)).1 0 0 2 := by
    rw [o (by omega) (by omega) (by omega) (by omega)]
    exact hk
  have : j = 0 ∨ j = 1 ∨ j = 2 ∨ j = 3 := by omega
  rcases this with rfl | rfl | rfl | rfl
  · have e := g2.wv hk2
    rw [o (by omega) (by omega) (by omega) (by omega)] at e
    exact e.trans (h.wv hk).symm
  · have e := g2.wf hk2
    rw [o (by omega) (by omega) (by omega) (by omega)] at e
    exact e.trans (h.wf hk).symm
  · have e := g2.wt hk2
    rw [o (by omega) (by omega) (by omega) (by omega)] at e
    exact e.trans (h.wt hk).symm
  · have e := g2.wd hk2
    rw [o (by omega) (by omega) (by omega) (by omega)] at e
    exact e.trans (h.wd hk).symm
theorem m_bring {ν : Mm} {th : Nat} {V : VS} {d : Nat} (h : HM ν th V) (hw : WF d V) (hd : d < 2 ^ 30) : ∃ ν2, M_arrives ν = some (nI (brgV V).2, ν2) ∧ HM ν2 th (brgV V).1 ∧ OutM (isB th) ν ν2 := by
  have w60 := h.w60
  have key := iter_inv (f := fun s : Int32 × Int32 × Int32 × Mm => M_arrives_l6 s.1 s.2.1 s.2.2.1 s.2.2.2)
    (fun k s => s.1 = nI (arvS V k).2.2 ∧ s.2.1 = nI (arvS V k).2.1 ∧ s.2.2.1 = nI k ∧ HM s.2.2.2 th (arvS V k).1 ∧ OutM (isB th) ν s.2.2.2)
    (fun x => x.1 = nI (arvS V (V 0 0 2)).2.2 ∧ x.2.1 = nI (arvS V (V 0 0 2)).2.1 ∧ HM x.2.2 th (arvS V (V 0 0 2)).1 ∧ OutM (isB th) ν x.2.2) (V 0 0 2) ?_ ?_ 1000000 (nI 0, nI 0, nI 0, ν) ⟨rfl, rfl, rfl, h, OutM.rf⟩ (by omega)
  · obtain ⟨x, h1, h2, h3, h4, h5⟩ := key
    have hs := arvS_le (V := V) (V 0 0 2)
    have eM : (arvS V (V 0 0 2)).1 0 0 2 = V 0 0 2 := arvS_o _ (by omega) (by omega) (by omega) (by omega) (by omega) (by omega)
    have a1 := h4.1.put 0 0 2 (arvS V (V 0 0 2)).2.1 (o := 1) (k := 471) (v := nI (arvS V (V 0 0 2)).2.1) (Or.inl ⟨rfl, rfl, by decide⟩) rfl rfl rfl (by unfold own3; omega)
    have hM2 : HM (sti x.2.2 1 471 (nI (arvS V (V 0 0 2)).2.1)) th (brgV V).1 := by
      refine h4.of (a1.mono (fun c q k hl => ?_) (fun _ _ _ _ _ => rfl)) (brgV_o (by omega)) (fun q => brgV_o (by omega)) (brgV_o (by omega)) (sti_n (by omega)) (sti_n (by omega)) (sti_n (by omega))
      refine lput_of ⟨live_sub hl.1 (brgV_o (by omega)) (Nat.le_of_eq (brgV_o (by omega))) (Nat.le_of_eq (brgV_o (by omega))) (Nat.le_of_eq (brgV_o (by omega))) ?_ (Nat.le_of_eq (brgV_o (by omega))), hl.2⟩
      rw [brgV_2, eM]
      exact hs
    refine ⟨_, ?_, hM2, h5.sti (Or.inl rfl)⟩
    unfold M_arrives
    rw [h1, bni_eq, chv_nI (by decide) (by decide), ix_nI (by decide), h2, h3, lt_eq]
    rfl
  · rintro k ⟨cI, sI, kI, m⟩ hk ⟨rfl, rfl, rfl, hC, hO⟩
    have hC : HM m th (arvS V k).1 := hC
    have hO : OutM (isB th) ν m := hO
    refine Or.inl ?_
    have hs := arvS_le (V := V) k
    have hwk := arvS_wf hw k (by omega)
    have w9 := hw.2.2.2.2.2.2.2.2.2.1 k hk
    have wP : (arvS V k).1 0 0 0 = V 0 0 0 := arvS_o _ (by omega) (by omega) (by omega) (by omega) (by omega) (by omega)
    have wD : (arvS V k).1 0 0 4 = V 0 0 4 := arvS_o _ (by omega) (by omega) (by omega) (by omega) (by omega) (by omega)
    have wM : (arvS V k).1 0 0 2 = V 0 0 2 := arvS_o _ (by omega) (by omega) (by omega) (by omega) (by omega) (by omega)
    have eN := hC.wn
    rw [wM] at eN
    have e18 := hC.wd (i := k) (by omega)
    rw [arvS_w k (by omega) (Nat.le_refl _)] at e18
    have eD := hC.dy
    rw [wD] at eD
    have d4 := hw.2.2.2.2.1
    show ∃ s2, M_arrives_l6 _ _ _ _ = _ ∧ _
    unfold M_arrives_l6
    simp only [nI_add, nI_mulE, Nat.add_zero]
    rw [chv_nI (by decide) (by decide), ix_nI (by decide), eN, if_neg (nI_ge hk (by omega)), chv_nI (by omega) (by decide), chv_nI (by decide) (by decide), ix_nI (by omega), ix_nI (by decide), e18, eD]
    by_cases hx : V 0 0 4 < V 18 0 k
    · have e : arvS V (k + 1) = (wmvV (arvS V k).1 (arvS V k).2.1 k, (arvS V k).2.1 + 1, (arvS V k).2.2) := by
        rw [arvS, if_pos hx]
      obtain ⟨m2, g1, g2, g3⟩ := m_wmv (nI (arvS V k).2.2) (nI k) hC (by omega) hs
      refine ⟨(nI (arvS V (k + 1)).2.2, nI (arvS V (k + 1)).2.1, nI (k + 1), m2), ?_, rfl, rfl, rfl, ?_, hO.tr (g3.mono (fun o x z => Or.inl z))⟩
      · rw [if_neg (nI_ge hx (by omega)), g1, bni_eq, e]
        unfold M_arrives_j167
        rw [nI_add]
      · show HM m2 th (arvS V (k + 1)).1
        rw [e]
        exact g2
    · have e : arvS V (k + 1) = ((rcbV (arvS V k).1 (V 15 0 k) (V 16 0 k) (V 17 0 k)).1, (arvS V k).2.1, (arvS V k).2.2 + (if (rcbV (arvS V k).1 (V 15 0 k) (V 16 0 k) (V 17 0 k)).2 = 0 then 1 else 0)) := by
        rw [arvS, if_neg hx]
      obtain ⟨m1, m2, g1, g2, g3, g4, g5⟩ := m_rcb hC hwk (k := k) (by omega)
      have e15 := hC.wv (i := k) (by omega)
      have e16 := hC.wf (i := k) (by omega)
      have e17 := hC.wt (i := k) (by omega)
      have f15 := g2 0 (by decide)
      have f16 := g2 1 (by decide)
      have f17 := g2 2 (by decide)
      rw [Nat.add_zero, e15] at f15
      rw [e16] at f16
      rw [e17] at f17
      rw [arvS_w k (by omega) (Nat.le_refl _)] at e15 e16 e17 f15 f16 f17
      rw [arvS_w k (by omega) (Nat.le_refl _), arvS_w k (by omega) (Nat.le_refl _), arvS_w k (by omega) (Nat.le_refl _)] at g1 g3 g4
      have q3 : (rcbV (arvS V k).1 (V 15 0 k) (V 16 0 k) (V 17 0 k)).2 < 4 := rcbV_lt
      refine ⟨(nI (arvS V (k + 1)).2.2, nI (arvS V (k + 1)).2.1, nI (k + 1), m2), ?_, rfl, rfl, rfl, ?_, hO.tr g5⟩
      · rw [if_pos (nI_le (by omega) (by omega)), chv_nI (by omega) (by decide), chv_nI (by omega) (by decide), chv_nI (by omega) (by decide), ix_nI (by omega), ix_nI (by omega), ix_nI (by omega), e15, e16, e17, g1, bnd2_eq, chv_nI (by omega) (by decide), chv_nI (by omega) (by decide), chv_nI (by omega) (by decide), f15, f16, f17, g3, bnd_eq, e]
        unfold M_arrives_j167
        by_cases z : (rcbV (arvS V k).1 (V 15 0 k) (V 16 0 k) (V 17 0 k)).2 = 0
        · rw [if_pos (by rw [z]; rfl), if_pos z, nI_add]
        · rw [if_neg (nI_ne0 (by omega) (by omega)), if_neg z, nI_add]
          rfl
      · show HM m2 th (arvS V (k + 1)).1
        rw [e]
        exact g4
  · rintro ⟨cI, sI, kI, m⟩ ⟨rfl, rfl, rfl, hC, hO⟩
    have hC : HM m th (arvS V (V 0 0 2)).1 := hC
    have wM : (arvS V (V 0 0 2)).1 0 0 2 = V 0 0 2 := arvS_o _ (by omega) (by omega) (by omega) (by omega) (by omega) (by omega)
    have eN := hC.wn
    rw [wM] at eN
    refine ⟨(nI (arvS V (V 0 0 2)).2.2, nI (arvS V (V 0 0 2)).2.1, m), ?_, rfl, rfl, hC, hO⟩
    show M_arrives_l6 _ _ _ _ = _
    unfold M_arrives_l6
    rw [chv_nI (by decide) (by decide), ix_nI (by decide), eN, if_pos (nI_le (Nat.le_refl _) (by omega))]
