/-! THE THIRTY-TWO OPERATIONS: the image -/
theorem imC_out0 : ∀ a, a < 58 → ∀ b, b < 64 → ¬ ((imC (64 * a + b)).1 = 24 ∨ (imC (64 * a + b)).1 = 2 ∨ (imC (64 * a + b)).1 = 11 ∨ (imC (64 * a + b)).1 = 12 ∨ ((imC (64 * a + b)).1 = 0 ∧ ((imC (64 * a + b)).2 = 5 ∨ (imC (64 * a + b)).2 = 48 ∨ (imC (64 * a + b)).2 = 21 ∨ (imC (64 * a + b)).2 = 40 ∨ (imC (64 * a + b)).2 = 41))) := by decide +kernel
theorem imC_out (j : Nat) (hj : j < 3670) : ¬ ((imC j).1 = 24 ∨ (imC j).1 = 2 ∨ (imC j).1 = 11 ∨ (imC j).1 = 12 ∨ ((imC j).1 = 0 ∧ ((imC j).2 = 5 ∨ (imC j).2 = 48 ∨ (imC j).2 = 21 ∨ (imC j).2 = 40 ∨ (imC j).2 = 41))) := by
  have h := imC_out0 (j / 64) (by omega) (j % 64) (by omega)
  rw [Nat.div_add_mod] at h
  exact h
theorem imA {ν2 νI : Mm} (h : ∀ i, i < 3670 → ν2.1 (imC i).1 (imC i).2 = νI.1 (imC i).1 (imC i).2) {o k : Nat} (hk : inIm o k) : ν2.1 o k = νI.1 o k := by
  obtain ⟨j, hj, e⟩ := imC_in hk
  have := h j hj
  rw [e] at this
  exact this
theorem hm_im {ν2 νI : Mm} {V : VS} (h : ∀ o k, inIm o k → ν2.1 o k = νI.1 o k) (hI : HM νI 0 V) (h5 : ν2.1 0 5 = nI 0) : HM ν2 0 V := by
  refine ⟨fun c p i hl => ?_, fun p hp => ?_, h5, ?_⟩
  · obtain ⟨a, b⟩ := hI.1 c p i hl
    exact ⟨a, fun z => (h _ _ (inIm_of a z)).trans (b z)⟩
  · rw [h 0 10 (by unfold inIm; omega)]
    exact hI.2.1 p hp
  · rw [h 0 15 (by unfold inIm; omega)]
    exact hI.2.2.2
theorem txm_im {ν2 νI : Mm} {D : TD} (h : ∀ o k, inIm o k → ν2.1 o k = νI.1 o k) (hI : TxM νI D) (hw : TW D) : TxM ν2 D := by
  obtain ⟨a, b, c, d⟩ := hI
  have ho : OutM (fun o k => ¬ ν2.1 o k = νI.1 o k) νI ν2 := fun o k z => Classical.byContradiction z
  refine ⟨a.out hw.1 ho (fun o k z y => y (h o k ?_)), b.out hw.2.1 ho (fun o k z y => y (h o k ?_)), (h 0 43 (by unfold inIm; omega)).trans c, fun x y hx hy => ?_⟩
  · unfold inL at z
    unfold inIm
    omega
  · unfold inL at z
    unfold inIm
    omega
  · rw [h 20 _ (by unfold inIm; omega)]
    exact d x y hx hy
theorem op_image {μ ν : Mm} (h : Sim μ ν) {b : Nat} (hb : b < 2) : ∃ R μ2 ν2, Nine_image (nI b) μ = some (R, μ2) ∧ M_image (nI b) ν = some (R, ν2) ∧ Sim μ2 ν2 := by
  obtain ⟨V, D, n, pv, tn, tp, u, nx, H, h⟩ := h
  have q := h
  obtain ⟨⟨hc, hm, hw, hl⟩, ⟨⟨tc, tm, htw, wd⟩, ⟨p1, p2, p3⟩, ⟨f1, f2⟩, im⟩, ⟨k1, k2, k3⟩, s1, s2, s3⟩ := q
  have m0 := hm.told (nI 0)
  have hv := kq_image (sti ν 0 0 (nI 0)) hb
  have b01 : b = 0 ∨ b = 1 := by omega
  rcases b01 with rfl | rfl
  · have eM : M_image (nI 0) ν = if ν.1 0 48 = 0 then some (nI 0, sti ν 0 0 (nI 0)) else M_image_j18 (nI 0) (sti ν 0 0 (nI 0)) := by
      unfold M_image
      rw [lt_eq, if_00, sti_n (by omega)]
    rcases im with ⟨i1, i2⟩ | ⟨i1, i2, VI, DI, n2, pvI, νI, j1, j2, j3, j4, j5, j6, j7, j8, j9, j10⟩
    · refine ⟨_, _, _, c_img0 i1, ?_, sim_q1 h⟩
      rw [eM, i2, if_00]
    · obtain ⟨μ2, e1, e2, e3, e4, e5, e6, e7, e8⟩ := c_imgB j1 j2 j5.1 i1
      rw [if_00] at hv
      generalize hS : imS (sti ν 0 0 (nI 0)) 0 = νS at hv
      have sE : ∀ o k, o ≠ 0 → νS.1 o k = ν.1 o k := fun o k z => by
        rw [← hS]
        unfold imS
        rw [sti_n (by omega), sti_n (by omega), sti_n (by omega), sti_n (by omega)]
      have s0 : ∀ k, k ≠ 0 → k ≠ 47 → k ≠ 48 → k ≠ 49 → νS.1 0 k = ν.1 0 k := fun k z0 z1 z2 z3 => by
        rw [← hS]
        unfold imS
        rw [sti_n (by omega), sti_n (by omega), sti_n (by omega), sti_n (by omega)]
      have s48 : νS.1 0 48 = nI 1 := by
        rw [← hS]
        unfold imS
        rw [sti_n (by omega), sti_e ⟨rfl, rfl⟩]
      have s47 : νS.1 0 47 = nI 0 := by
        rw [← hS]
        unfold imS
        rw [sti_n (by omega), sti_n (by omega), sti_e ⟨rfl, rfl⟩]
      have s49 : νS.1 0 49 = nI 0 := by
        rw [← hS]
        unfold imS
        rw [sti_e ⟨rfl, rfl⟩]
      obtain ⟨g1, g2⟩ := kQ_back s47 s49 (fun i hi => (sE 24 i (by decide)).trans (j6 i hi)) 3670 (Nat.le_refl _)
      generalize kQ νS 3670 = νQ at hv g1 g2
      have far : ∀ o k, (o = 24 ∨ o = 2 ∨ o = 11 ∨ o = 12 ∨ (o = 0 ∧ (k = 5 ∨ k = 48 ∨ k = 21 ∨ k = 40 ∨ k = 41))) → νQ.1 o k = νS.1 o k := fun o k z => by
        refine g2 o k (fun i hi e => ?_) (by omega)
        have := imC_out i hi
        rw [e] at this
        exact this z
      have A : ∀ o k, inIm o k → (sti νQ 0 3 (nI 0)).1 o k = νI.1 o k := fun o k z => by
        rw [sti_n (by unfold inIm at z; omega)]
        exact imA g1 z
      refine ⟨_, μ2, sti νQ 0 3 (nI 0), e1, ?_, w0V VI, DI, n2, pvI, tn, tp, 0, nx, H, ⟨e2, ?_, j3.w0, j4.w0⟩, ⟨⟨e3, txm_im A j8 j2, j2, fun k hk => ?_⟩, ⟨⟨?_, fun i hi => ?_⟩, ⟨?_, fun i hi => ?_⟩, p3⟩, ⟨?_, ?_⟩, Or.inr ⟨?_, ?_, VI, DI, n2, pvI, νI, e5, j2, j3, j4, j5, fun i hi => ?_, j7, j8, j9, j10⟩⟩, ⟨e4, ⟨(A 0 17 (by unfold inIm; omega)).trans j9.1, fun i hi => (A 9 i (by have := j5.1; unfold inIm; omega)).trans (j9.2 i hi)⟩, j5.1, fun i hi => ?_⟩, ⟨e6, ?_, s1.2.2.1, by decide, fun j hj => absurd hj (Nat.not_lt_zero _)⟩, HisM.zero (sti_e ⟨rfl, rfl⟩), fun j hj => absurd hj (Nat.not_lt_zero _), fun i j _ hj => absurd hj (Nat.not_lt_zero _)⟩
      · rw [eM, i2, if_10]
        exact hv
      · refine (hm_im A j7 ?_).putW 0
        rw [sti_n (by omega), far 0 5 (by omega), s0 5 (by decide) (by decide) (by decide) (by decide)]
        exact hm.thf
      · rw [sti_n (by omega), far 12 k (by omega), sE 12 k (by decide)]
        exact wd k hk
      · rw [(e8 532 (by unfold EB; omega)).1]
        exact p1.1
      · rw [(e8 533 (by unfold EB; omega)).1]
        exact p1.2 i hi
      · rw [sti_n (by omega), far 0 21 (by omega), s0 21 (by decide) (by decide) (by decide) (by decide)]
        exact p2.1
      · rw [sti_n (by omega), far 11 i (by omega), sE 11 i (by decide)]
        exact p2.2 i hi
      · rw [(e8 532 (by unfold EB; omega)).1, sti_n (by omega), far 0 40 (by omega), s0 40 (by decide) (by decide) (by decide) (by decide)]
        exact f1
      · rw [(e8 532 (by unfold EB; omega)).1, sti_n (by omega), far 0 41 (by omega), s0 41 (by decide) (by decide) (by decide) (by decide)]
        exact f2
      · exact (e7 6 (by decide)).trans i1
      · rw [sti_n (by omega), far 0 48 (by omega)]
        exact s48
      · rw [sti_n (by omega), far 24 i (by omega), sE 24 i (by decide)]
        exact j6 i hi
      · rw [w0V_o (by omega)]
        exact j5.2 i hi
      · exact (e7 9 (by decide)).trans s1.2.1
  · have eM : M_image (nI 1) ν = M_image_j18 (nI 1) (sti ν 0 0 (nI 0)) := by
      unfold M_image
      rw [lt_eq, if_10]
    obtain ⟨μ2, e1, e2, e3, e4, e5⟩ := c_imgT hc tc htw k1 k3.1
    rw [if_10] at hv
    generalize hS : imS (sti ν 0 0 (nI 0)) 1 = νS at hv
    have oS : OutM (fun o k => o = 0 ∧ (k = 0 ∨ k = 47 ∨ k = 48 ∨ k = 49)) ν νS := by
      rw [← hS]
      unfold imS
      exact (((OutM.rf.sti (by omega)).sti (by omega)).sti (by omega)).sti (by omega)
    have s48 : νS.1 0 48 = nI 1 := by
      rw [← hS]
      unfold imS
      rw [sti_n (by omega), sti_e ⟨rfl, rfl⟩]
    have s47 : νS.1 0 47 = nI 1 := by
      rw [← hS]
      unfold imS
      rw [sti_n (by omega), sti_n (by omega), sti_e ⟨rfl, rfl⟩]
    have s49 : νS.1 0 49 = nI 0 := by
      rw [← hS]
      unfold imS
      rw [sti_e ⟨rfl, rfl⟩]
    obtain ⟨g1, g2⟩ := kQ_take s47 s49 3670 (Nat.le_refl _)
    generalize kQ νS 3670 = νQ at hv g1 g2
    have oQ : OutM (fun o k => o = 24 ∨ (o = 0 ∧ k = 49)) νS νQ := fun o k z => g1 o k (by omega) (by omega)
    have oN : OutM (fun o k => o = 24 ∨ (o = 0 ∧ (k = 0 ∨ k = 47 ∨ k = 48 ∨ k = 49))) ν νQ := (oS.mono (fun o k z => Or.inr z)).tr (oQ.mono (fun o k z => by omega))
    have hmS : HM νS 0 V := hm.out oS (fun o k z y => by
      unfold cellN cellM at z
      omega)
    have hmQ : HM νQ 0 V := hm.out oN (fun o k z y => by
      unfold cellN cellM at z
      omega)
    have tmS : TxM νS D := tm.out htw oS (fun o k z => by unfold lawOutM; omega) (oS 0 43 (by omega))
    have tmQ : TxM νQ D := tm.out htw oN (fun o k z => by unfold lawOutM; omega) (oN 0 43 (by omega))
    refine ⟨_, μ2, νQ, e1, eM.trans hv, V, D, n, pv, tn, tp, u, nx, H, ⟨hc.out e5 (fun o z y => ?_), hmQ, hw, hl⟩, ⟨⟨tc.out e5 (fun o z => ?_), tmQ, htw, fun k hk => (oN 12 k (by omega)).trans (wd k hk)⟩, ⟨⟨?_, fun i hi => ?_⟩, ⟨(oN 0 21 (by omega)).trans p2.1, fun i hi => (oN 11 i (by omega)).trans (p2.2 i hi)⟩, p3⟩, ⟨?_, ?_⟩, Or.inr ⟨e3, (oQ 0 48 (by omega)).trans s48, w0V V, D, n, pv, νS, e2, htw, hw.w0, hl.w0, ⟨k3.1, fun i hi => ?_⟩, g2, hmS.putW 0, tmS, ⟨(oS 0 17 (by omega)).trans k2.1, fun i hi => (oS 9 i (by omega)).trans (k2.2 i hi)⟩, vset_eq ⟨rfl, rfl, rfl⟩⟩⟩, ⟨k1.out e5 (fun z => ?_) (fun z => ?_), ⟨(oN 0 17 (by omega)).trans k2.1, fun i hi => (oN 9 i (by omega)).trans (k2.2 i hi)⟩, k3⟩, s1.out e5 (fun o z y => ?_) (e4 8 (by decide)) (e4 9 (by decide)), s2.out oN (fun k z => ?_) (fun z => ?_), s3⟩
    · unfold inW at z
      unfold EI at y
      omega
    · unfold EI at z
      unfold lawOut
      omega
    · rw [(e5 532 (by unfold EI; omega)).1]
      exact p1.1
    · rw [(e5 533 (by unfold EI; omega)).1]
      exact p1.2 i hi
    · rw [(e5 532 (by unfold EI; omega)).1, oN 0 40 (by omega)]
      exact f1
    · rw [(e5 532 (by unfold EI; omega)).1, oN 0 41 (by omega)]
      exact f2
    · rw [w0V_o (by omega)]
      exact k3.2 i hi
    · unfold EI at z
      omega
    · unfold EI at z
      omega
    · unfold EP at z
      unfold EI at y
      omega
    · omega
    · omega
