/-! THE IMAGE: texts and picks copied; the class -/
theorem cpok0 {n la lb : Nat} (ha : n ≤ la) (hb : n ≤ lb) (hn : n < 2 ^ 31) : cpok (nI 0) (nI 0) (nI n) la lb := ⟨by decide, by decide, nI_pos hn, by rw [ix_nI (by decide), ix_nI hn]; omega, by rw [ix_nI (by decide), ix_nI hn]; omega⟩
theorem c_cpLw {μ : Mm} {x y m : Nat} {D : LD} (h : LawC μ x D) (hw : LW m D) (hf : x + 5 ≤ y ∨ y + 5 ≤ x) : ∃ μ2, Law_copyFrom y x μ = some μ2 ∧ LawC μ2 y D ∧ Out (fun o => y ≤ o ∧ o < y + 5) μ μ2 := by
  obtain ⟨a, b, c, d⟩ := h
  have w1 := hw.1
  have w2 := hw.2.1
  unfold Law_copyFrom
  rw [a, chc_ok (cpok0 w2 w2 (by omega)), ix_nI (by decide), ix_nI (by omega), lt_eq, cpy_ne _ (by omega), b, chc_ok (cpok0 w1 w1 (by omega)), ix_nI (by omega), lt_eq, cpy_ne _ (by omega), cpy_ne _ (by omega), b, chc_ok (cpok0 w1 w1 (by omega)), lt_eq, cpy_ne _ (by omega), cpy_ne _ (by omega), cpy_ne _ (by omega), b, chc_ok (cpok0 w1 w1 (by omega)), lt_eq, ix_nI (by omega)]
  generalize hm : cpy (cpy (cpy (cpy μ (x + 1) 0 (y + 1) 0 D.1.2) (x + 2) 0 (y + 2) 0 D.1.1) (x + 3) 0 (y + 3) 0 D.1.1) (x + 4) 0 (y + 4) 0 D.1.1 = μ1
  have e0 : ∀ o k, ¬ (y + 1 ≤ o ∧ o ≤ y + 4) → μ1.1 o k = μ.1 o k := fun o k z => by
    rw [← hm, cpy_ne _ (by omega), cpy_ne _ (by omega), cpy_ne _ (by omega), cpy_ne _ (by omega)]
  have e1 : ∀ i, i < D.1.2 → μ1.1 (y + 1) i = nI (D.2.1 i) := fun i hi => by
    rw [← hm, cpy_ne _ (by omega), cpy_ne _ (by omega), cpy_ne _ (by omega), cpy_at _ hi]
    exact c i hi
  have e2 : ∀ i, i < D.1.1 → μ1.1 (y + 2) i = nI (D.2.2.1 i) := fun i hi => by
    rw [← hm, cpy_ne _ (by omega), cpy_ne _ (by omega), cpy_at _ hi, cpy_ne _ (by omega)]
    exact (d i hi).1
  have e3 : ∀ i, i < D.1.1 → μ1.1 (y + 3) i = nI (D.2.2.2.1 i) := fun i hi => by
    rw [← hm, cpy_ne _ (by omega), cpy_at _ hi, cpy_ne _ (by omega), cpy_ne _ (by omega)]
    exact (d i hi).2.1
  have e4 : ∀ i, i < D.1.1 → μ1.1 (y + 4) i = nI (D.2.2.2.2 i) := fun i hi => by
    rw [← hm, cpy_at _ hi, cpy_ne _ (by omega), cpy_ne _ (by omega), cpy_ne _ (by omega)]
    exact (d i hi).2.2
  have o1 : Out (fun o => y ≤ o ∧ o < y + 5) μ μ1 := by
    rw [← hm]
    exact (((Out.rf.cpy (by omega)).cpy (by omega)).cpy (by omega)).cpy (by omega)
  rw [lt_eq, lt_eq, sti_n (by omega), e0 _ _ (by omega), e0 _ _ (by omega), a, b]
  refine ⟨_, rfl, ⟨?_, ?_, fun i hi => ?_, fun l hl => ⟨?_, ?_, ?_⟩⟩, (o1.sti (by omega)).sti (by omega)⟩
  · rw [sti_n (by omega), sti_e ⟨rfl, rfl⟩]
  · rw [sti_e ⟨rfl, rfl⟩]
  · rw [sti_n (by omega), sti_n (by omega)]
    exact e1 i hi
  · rw [sti_n (by omega), sti_n (by omega)]
    exact e2 l hl
  · rw [sti_n (by omega), sti_n (by omega)]
    exact e3 l hl
  · rw [sti_n (by omega), sti_n (by omega)]
    exact e4 l hl
def inT (t o : Nat) : Prop := t ≤ o ∧ o < t + 15
theorem c_cpT {μ : Mm} {t t2 : Nat} {D : TD} (h : TxC μ t D) (hw : TW D) (hf : t + 15 ≤ t2 ∨ t2 + 15 ≤ t) : ∃ μ2, Texts_copyFrom t2 t μ = some μ2 ∧ TxC μ2 t2 D ∧ Out (inT t2) μ μ2 := by
  obtain ⟨a, b, c, d⟩ := h
  obtain ⟨m1, f1, f2, f3⟩ := c_cpLw (y := t2 + 1) a hw.1 (by omega)
  obtain ⟨m2, g1, g2, g3⟩ := c_cpLw (y := t2 + 7) (b.out f3 (fun j hj => by omega)) hw.2.1 (by omega)
  have e13 : ∀ o k, o = t + 13 ∨ o = t + 14 → m2.1 o k = μ.1 o k := fun o k z => ((g3 o (by omega)).1 k).trans ((f3 o (by omega)).1 k)
  unfold Texts_copyFrom
  rw [f1, bnd_eq, g1, bnd_eq]
  unfold Post_copyFrom
  rw [chc_ok (cpok0 (by decide) (by decide) (by decide)), ix_nI (by decide), ix_nI (by decide), lt_eq, lt_eq, cpy_ne _ (by omega), e13 _ _ (by omega), c, bnd_eq]
  refine ⟨_, rfl, ⟨?_, ?_, sti_e ⟨rfl, rfl⟩, fun x y hx hy => ?_⟩, ?_⟩
  · exact ((f2.out g3 (fun j hj => by omega)).out (Out.rf.cpy (E := fun o => o = t2 + 13 + 1) rfl) (fun j hj => by omega)).out (Out.rf.sti (E := fun o => o = t2 + 13) rfl) (fun j hj => by omega)
  · exact (g2.out (Out.rf.cpy (E := fun o => o = t2 + 13 + 1) rfl) (fun j hj => by omega)).out (Out.rf.sti (E := fun o => o = t2 + 13) rfl) (fun j hj => by omega)
  · rw [sti_n (by omega), show t2 + 14 = t2 + 13 + 1 by omega, cpy_at _ (by omega), show t + 13 + 1 = t + 14 by omega, e13 _ _ (by omega)]
    exact d x y hx hy
  · unfold inT
    exact (((f3.mono (fun o z => by omega)).tr (g3.mono (fun o z => by omega))).cpy (by omega)).sti (by omega)
theorem c_cpPk {μ : Mm} {p p2 n : Nat} {pv : Nat → Nat} (h : pickC μ p n pv) (n8 : n ≤ 8) (hf : p + 2 ≤ p2 ∨ p2 + 2 ≤ p) : ∃ μ2, Picks_copyFrom p2 p μ = some μ2 ∧ pickC μ2 p2 n pv ∧ Out (fun o => o = p2 ∨ o = p2 + 1) μ μ2 := by
  unfold Picks_copyFrom
  rw [h.1, chc_ok (cpok0 n8 n8 (by omega)), ix_nI (by decide), ix_nI (by omega), lt_eq, lt_eq, cpy_ne _ (by omega), h.1]
  refine ⟨_, rfl, ⟨sti_e ⟨rfl, rfl⟩, fun i hi => ?_⟩, (Out.rf.cpy (by omega)).sti (by omega)⟩
  rw [sti_n (by omega), cpy_at _ hi]
  exact h.2 i hi
theorem pickC.out {μ μ2 : Mm} {p n : Nat} {pv : Nat → Nat} {E : Nat → Prop} (h : pickC μ p n pv) (ho : Out E μ μ2) (h1 : ¬ E p) (h2 : ¬ E (p + 1)) : pickC μ2 p n pv := ⟨((ho _ h1).1 _).trans h.1, fun i hi => ((ho _ h2).1 _).trans (h.2 i hi)⟩
/-- what the class keeps as an image -/
def imgC (μ : Mm) (V : VS) (D : TD) (n : Nat) (pv : Nat → Nat) : Prop := HC μ 183 V ∧ TxC μ 348 D ∧ pickC μ 363 n pv
theorem imgC.out {μ μ2 : Mm} {V : VS} {D : TD} {n : Nat} {pv : Nat → Nat} {E : Nat → Prop} (h : imgC μ V D n pv) (ho : Out E μ μ2) (hE : ∀ o, E o → o < 183 ∨ 365 ≤ o) : imgC μ2 V D n pv :=
  ⟨h.1.out ho (fun o z y => by have := hE o y; unfold inW at z; omega), h.2.1.out ho (fun o z => by have := hE o z; unfold lawOut; omega), h.2.2.out ho (fun z => by have := hE _ z; omega) (fun z => by have := hE _ z; omega)⟩
def EI (o : Nat) : Prop := o = 0 ∨ (183 ≤ o ∧ o < 365)
theorem c_imgT {μ : Mm} {V : VS} {D : TD} {n : Nat} {pv : Nat → Nat} (h : HC μ 1 V) (ht : TxC μ 166 D) (hw : TW D) (hp : pickC μ 181 n pv) (n8 : n ≤ 8) : ∃ μ2, Nine_image (nI 1) μ = some (nI 1, μ2) ∧ imgC μ2 (w0V V) D n pv ∧ μ2.1 0 6 = nI 1 ∧ (∀ k, k ≠ 6 → μ2.1 0 k = μ.1 0 k) ∧ Out EI μ μ2 := by
  obtain ⟨m1, f1, f2, f3⟩ := c_cpW (w2 := 183) h (by decide +kernel) (Or.inl (by decide))
  have ht1 : TxC m1 166 D := ht.out f3 (fun o z => by unfold inW at z; unfold lawOut; omega)
  obtain ⟨m2, g1, g2, g3⟩ := c_cpT (t2 := 348) ht1 hw (by decide)
  have hp2 : pickC m2 181 n pv := (hp.out f3 (by unfold inW; decide) (by unfold inW; decide)).out g3 (by unfold inT; decide) (by unfold inT; decide)
  obtain ⟨m3, k1, k2, k3⟩ := c_cpPk (p2 := 363) hp2 n8 (by decide)
  unfold Nine_image
  rw [if_neg (by decide), f1, bnd_eq, g1, bnd_eq, k1, bnd_eq, lt_eq]
  refine ⟨_, rfl, ⟨?_, ?_, ?_⟩, sti_e ⟨rfl, rfl⟩, fun k hk => ?_, ?_⟩
  · exact ((f2.out g3 (fun o z y => by unfold inW at z; unfold inT at y; omega)).out k3 (fun o z y => by unfold inW at z; omega)).out (Out.rf.sti (E := fun o => o = 0) rfl) (fun o z y => by unfold inW at z; omega)
  · exact (g2.out k3 (fun o z => by unfold lawOut; omega)).out (Out.rf.sti (E := fun o => o = 0) rfl) (fun o z => by unfold lawOut; omega)
  · exact k2.out (Out.rf.sti (E := fun o => o = 0) rfl) (by decide) (by decide)
  · rw [sti_n (by omega), (k3 0 (by decide)).1, (g3 0 (by unfold inT; decide)).1, (f3 0 (by unfold inW; decide)).1]
  · exact (((f3.mono (fun o z => by unfold inW at z; unfold EI; omega)).tr (g3.mono (fun o z => by unfold inT at z; unfold EI; omega))).tr (k3.mono (fun o z => by unfold EI; omega))).sti (Or.inl rfl)
theorem c_img0 {μ : Mm} (h : μ.1 0 6 = 0) : Nine_image (nI 0) μ = some (nI 0, μ) := by
  unfold Nine_image
  rw [if_00, if_pos h]
def EB (o : Nat) : Prop := o = 0 ∨ (1 ≤ o ∧ o < 183)
theorem c_imgB {μ : Mm} {V : VS} {D : TD} {n : Nat} {pv : Nat → Nat} (h : imgC μ V D n pv) (hw : TW D) (n8 : n ≤ 8) (h6 : μ.1 0 6 = nI 1) : ∃ μ2, Nine_image (nI 0) μ = some (nI 1, μ2) ∧ HC μ2 1 (w0V V) ∧ TxC μ2 166 D ∧ pickC μ2 181 n pv ∧ imgC μ2 V D n pv ∧ μ2.1 0 8 = nI 0 ∧ (∀ k, k ≠ 8 → μ2.1 0 k = μ.1 0 k) ∧ Out EB μ μ2 := by
  obtain ⟨m1, f1, f2, f3⟩ := c_cpW (w2 := 1) h.1 (by decide +kernel) (Or.inr (by decide))
  have ht1 : TxC m1 348 D := h.2.1.out f3 (fun o z => by unfold inW at z; unfold lawOut; omega)
  obtain ⟨m2, g1, g2, g3⟩ := c_cpT (t2 := 166) ht1 hw (by decide)
  have hp2 : pickC m2 363 n pv := (h.2.2.out f3 (by unfold inW; decide) (by unfold inW; decide)).out g3 (by unfold inT; decide) (by unfold inT; decide)
  obtain ⟨m3, k1, k2, k3⟩ := c_cpPk (p2 := 181) hp2 n8 (by decide)
  unfold Nine_image Nine_forgetBefore
  rw [if_00, h6, if_neg (by decide), f1, bnd_eq, g1, bnd_eq, k1, bnd_eq, lt_eq, bnd_eq]
  have oo : Out EB μ (sti m3 0 8 (nI 0)) := (((f3.mono (fun o z => by unfold inW at z; unfold EB; omega)).tr (g3.mono (fun o z => by unfold inT at z; unfold EB; omega))).tr (k3.mono (fun o z => by unfold EB; omega))).sti (Or.inl rfl)
  refine ⟨_, rfl, ?_, ?_, ?_, h.out oo (fun o z => by unfold EB at z; omega), sti_e ⟨rfl, rfl⟩, fun k hk => ?_, oo⟩
  · exact ((f2.out g3 (fun o z y => by unfold inW at z; unfold inT at y; omega)).out k3 (fun o z y => by unfold inW at z; omega)).out (Out.rf.sti (E := fun o => o = 0) rfl) (fun o z y => by unfold inW at z; omega)
  · exact (g2.out k3 (fun o z => by unfold lawOut; omega)).out (Out.rf.sti (E := fun o => o = 0) rfl) (fun o z => by unfold lawOut; omega)
  · exact k2.out (Out.rf.sti (E := fun o => o = 0) rfl) (by decide) (by decide)
  · rw [sti_n (by omega), (k3 0 (by decide)).1, (g3 0 (by unfold inT; decide)).1, (f3 0 (by unfold inW; decide)).1]
