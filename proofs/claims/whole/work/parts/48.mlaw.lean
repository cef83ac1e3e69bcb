/-! THE CHECK: what the laws are asked with; posting -/
def mWr (μ8 : Mm) : Option (Int32 × Mm) :=
  bnd2 (M_lineOf (nI 0) μ8) fun r9 μ8 =>
  if r9 = (-1) then
    some ((nI 1), μ8)
  else
    chv r9 48 <|
    chv r9 48 <|
    bnd2 (M_runs (nI 0) (μ8.1 14 (ix r9)) (μ8.1 15 (ix r9)) μ8) fun r11 μ10 =>
    bnd (M_held r11 (nI 0) (nI 9)) fun r12 =>
    some (r12, μ10)
def mIl (μ1 : Mm) : Option (Int32 × Mm) :=
  bnd2 (M_lineOf (nI 1) μ1) fun r3 μ2 =>
  if r3 = (-1) then
    chv (nI 0) 11 <|
    chv (nI 1) 11 <|
    M_illOf_j51 ((μ2.1 21 (ix (nI 0))) * (μ2.1 21 (ix (nI 1)))) μ2
  else
    chv r3 48 <|
    chv r3 48 <|
    bnd2 (M_runs (nI 1) (μ2.1 14 (ix r3)) (μ2.1 15 (ix r3)) μ2) fun r5 μ4 =>
    M_illOf_j51 r5 μ4
def TXM (ν : Mm) (T : TT) : Prop :=
  (∀ nm : Nat → Int32, (∀ k, k < 11 → ν.1 21 k = nm k) → ∃ ν2, mWr ν = some (nI (T.1 nm), ν2) ∧ OutM (isO 22) ν ν2) ∧
  (∀ nm : Nat → Int32, (∀ k, k < 7 → ν.1 21 k = nm k) → ∃ ν2, mIl ν = some (nI (T.2.1 nm), ν2) ∧ OutM (isO 22) ν ν2) ∧
  (∀ a b, a < 6 → b < 6 → M_postOf (nI a) (nI b) ν = some (nI (T.2.2 a b)))
def lawOutM (o k : Nat) : Prop := ¬ (o = 13 ∨ ((14 ≤ o ∧ o ≤ 16) ∧ k < 32) ∨ ((17 ≤ o ∧ o ≤ 18) ∧ k < 800) ∨ (o = 20 ∧ k < 36))
def TM (ν : Mm) (T : TT) : Prop := ∀ ν2, OutM lawOutM ν ν2 → TXM ν2 T
theorem TM.out {ν ν2 : Mm} {T : TT} {E : Nat → Nat → Prop} (h : TM ν T) (ho : OutM E ν ν2) (hE : ∀ o k, E o k → lawOutM o k) : TM ν2 T := fun ν3 h3 => h ν3 ((ho.mono hE).tr h3)
/-- what a day may change -/
def EG (th o : Nat) (_ : Nat) : Prop := o = 1 ∨ (o = 10 ∧ th = 0) ∨ o = 21 ∨ o = 22
theorem EG_law {th o k : Nat} (h : EG th o k) : lawOutM o k := by
  unfold EG at h
  unfold lawOutM
  omega
theorem EG1 {th o k : Nat} (h : isO 1 o k) : EG th o k := Or.inl h
theorem EGB {th o k : Nat} (h : isB th o k) : EG th o k := h.elim Or.inl (fun z => Or.inr (Or.inl z))
def isA (o : Nat) (_ : Nat) : Prop := o = 21 ∨ o = 22
theorem EGA {th o k : Nat} (h : isA o k) : EG th o k := Or.inr (Or.inr h)
theorem HM.outA {ν ν2 : Mm} {th : Nat} {V : VS} (h : HM ν th V) (ho : OutM isA ν ν2) : HM ν2 th V := h.out ho (fun o k z => by
  unfold cellN cellM at z
  unfold isA
  omega)
theorem m_asks {ν : Mm} {th : Nat} {V : VS} {p i d : Nat} (h : HM ν th V) (hw : WF d V) (hp : p < V 0 0 0) (hi : i < V 6 p 0) : ∃ ν2, M_asksBoth (nI p) (nI i) ν = some ν2 ∧ HM ν2 th V ∧ OutM (isO 21) ν ν2 ∧ ∀ k, k < 7 → ν2.1 21 k = nmV V p i k := by
  have p16 : p < 16 := Nat.lt_of_lt_of_le hp h.P16
  have m3 := h.h3 hp
  have v40 := h.v40
  obtain ⟨z1, z2, z3⟩ := hw.2.2.2.2.2.2.2.1 p i hp hi
  have e7 := h.lv hp hi
  have e10 := h.ll hp hi
  have ek := h.kind hp
  have el := h.lazy hp
  have ec := h.coin hp
  have ed := h.dy
  have ev := h.vc z1
  have hO : ∀ b1 b2 b3 b4 b5 b6 b7 b8 b9 b10 b11 b12 b13 b14, OutM (isO 21) ν (sti (sti (sti (sti (sti (sti (sti ν 21 b1 b2) 21 b3 b4) 21 b5 b6) 21 b7 b8) 21 b9 b10) 21 b11 b12) 21 b13 b14) := fun b1 b2 b3 b4 b5 b6 b7 b8 b9 b10 b11 b12 b13 b14 => (((((((OutM.rf (E := isO 21)).sti rfl).sti rfl).sti rfl).sti rfl).sti rfl).sti rfl).sti rfl
  unfold M_asksBoth M_letterAt
  simp (disch := omega) only [lt_eq, bnd_eq, bni_eq, bnd2_eq, nI_ltE, nI_leE, nI_eqE, eq_0, lt_0E, le_0, z_lt, z_le, eq_m1, m1_eq, nI_add, nI_mulE, ix_nI, ix_0, chv_nI, chk_ok, chk_T, sti_e, sti_n, sti_2, stl_1, stl_e, stl_n, if_true, if_false, not_true_eq_false, not_false_eq_true, eq_self, Bool.false_eq_true, Bool.true_eq_false, Nat.add_zero, e7, e10, ek, el, ec, ed, ev]
  refine ⟨_, rfl, h.outA ((hO _ _ _ _ _ _ _ _ _ _ _ _ _ _).mono (fun o k z => Or.inl z)), hO _ _ _ _ _ _ _ _ _ _ _ _ _ _, ?_⟩
  intro k hk
  have : k = 0 ∨ k = 1 ∨ k = 2 ∨ k = 3 ∨ k = 4 ∨ k = 5 ∨ k = 6 := by omega
  rcases this with rfl | rfl | rfl | rfl | rfl | rfl | rfl <;> simp (disch := omega) only [sti_e, sti_n] <;> rfl
theorem m_write {ν : Mm} {th : Nat} {V : VS} {T : TT} {p i d : Nat} (h : HM ν th V) (hw : WF d V) (hp : p < V 0 0 0) (hi : i < V 6 p 0) (hT : TM ν T) : ∃ ν2, M_writeOf (nI p) (nI i) ν = some (nI (T.1 (nmV V p i)), ν2) ∧ HM ν2 th V ∧ OutM isA ν ν2 := by
  have p16 : p < 16 := Nat.lt_of_lt_of_le hp h.P16
  have m3 := h.h3 hp
  have v40 := h.v40
  obtain ⟨z1, z2, z3⟩ := hw.2.2.2.2.2.2.2.1 p i hp hi
  obtain ⟨y1, y2, y3⟩ := hw.2.2.2.2.2.2.2.2.1 _ z1
  obtain ⟨ν1, g1, g2, g3, g4⟩ := m_asks h hw hp hi
  have e7 := g2.lv hp hi
  have e9 := g2.ld hp hi
  have ep := g2.papr hp
  have eh := g2.hc hp
  have ed := g2.dy
  have em := g2.vm z1
  have ej := M_pop (n := V 12 0 (V 7 p i)) (by omega)
  have hO : ∀ b1 b2 b3 b4 b5 b6 b7 b8, OutM (isO 21) ν1 (sti (sti (sti (sti ν1 21 b1 b2) 21 b3 b4) 21 b5 b6) 21 b7 b8) := fun b1 b2 b3 b4 b5 b6 b7 b8 => ((((OutM.rf (E := isO 21)).sti rfl).sti rfl).sti rfl).sti rfl
  have hN : ∀ k, k < 11 → (sti (sti (sti (sti ν1 21 7 (nI (V 9 p i) - nI (V 0 0 4))) 21 8 (nI (V 1 p 3))) 21 9 (nI (V 6 p 0))) 21 10 (nI (popc (V 12 0 (V 7 p i))))).1 21 k = nmV V p i k := by
    intro k hk
    by_cases hk7 : k < 7
    · rw [sti_n (by omega), sti_n (by omega), sti_n (by omega), sti_n (by omega)]
      exact g4 k hk7
    · have : k = 7 ∨ k = 8 ∨ k = 9 ∨ k = 10 := by omega
      rcases this with rfl | rfl | rfl | rfl <;> simp (disch := omega) only [sti_e, sti_n] <;> rfl
  have hO2 := hO 7 (nI (V 9 p i) - nI (V 0 0 4)) 8 (nI (V 1 p 3)) 9 (nI (V 6 p 0)) 10 (nI (popc (V 12 0 (V 7 p i))))
  have hT1 := hT _ ((g3.tr hO2).mono (fun o k z => by unfold isO at z; unfold lawOutM; omega))
  obtain ⟨ν2, f1, f2⟩ := hT1.1 (nmV V p i) hN
  have hO3 := ((g3.tr hO2).mono (fun o k z => Or.inl z)).tr (f2.mono (fun o k z => Or.inr z) : OutM isA _ _)
  refine ⟨ν2, ?_, h.outA hO3, hO3⟩
  unfold M_writeOf M_letterAt
  simp only [nI_add, nI_mulE, bnd_eq, Nat.add_zero]
  rw [g1, bnd_eq, chv_nI (by omega) (by decide), chv_nI (by decide) (by decide), chv_nI (by decide) (by decide), ix_nI (by decide), ix_nI (by omega), ix_nI (by decide), e9, ed, lt_eq, chv_nI (by omega) (by decide), chv_nI (by decide) (by decide), ix_nI (by decide), ix_nI (by omega), sti_n (by omega), ep, lt_eq, chv_nI (by omega) (by decide), chv_nI (by decide) (by decide), ix_nI (by decide), ix_nI (by omega), sti_n (by omega), sti_n (by omega), eh, lt_eq, chv_nI (by omega) (by decide), ix_nI (by omega), sti_n (by omega), sti_n (by omega), sti_n (by omega), e7, nI_add, chv_nI (by omega) (by decide), ix_nI (by omega), sti_n (by omega), sti_n (by omega), sti_n (by omega), em, ej, bnd_eq, chv_nI (by decide) (by decide), ix_nI (by decide), lt_eq]
  exact f1
theorem m_ill {ν : Mm} {th : Nat} {V : VS} {T : TT} {p i d : Nat} (h : HM ν th V) (hw : WF d V) (hp : p < V 0 0 0) (hi : i < V 6 p 0) (hT : TM ν T) : ∃ ν2, M_illOf (nI p) (nI i) ν = some (nI (T.2.1 (nmV V p i)), ν2) ∧ HM ν2 th V ∧ OutM isA ν ν2 := by
  obtain ⟨ν1, g1, g2, g3, g4⟩ := m_asks h hw hp hi
  have hT1 := hT ν1 (g3.mono (fun o k z => by unfold isO at z; unfold lawOutM; omega))
  obtain ⟨ν2, f1, f2⟩ := hT1.2.1 (nmV V p i) g4
  have hO3 := (g3.mono (fun o k z => Or.inl z)).tr (f2.mono (fun o k z => Or.inr z) : OutM isA _ _)
  refine ⟨ν2, ?_, h.outA hO3, hO3⟩
  unfold M_illOf
  rw [g1, bnd_eq]
  exact f1
theorem m_posts {ν : Mm} {th : Nat} {V : VS} {T : TT} {v f t d : Nat} (h : HM ν th V) (hw : WF d V) (hf : f < V 0 0 0) (ht : t < V 0 0 0) (hT : TM ν T) : ∃ ν2, M_posts (nI v) (nI f) (nI t) ν = some ν2 ∧ HM ν2 th (pstV T V v f t) ∧ OutM (isO 1) ν ν2 := by
  have P16 := h.P16
  have w60 := h.w60
  have e2 := h.wn
  have el := h.lo
  have ed := h.dy
  have ef := h.town hf
  have et := h.town ht
  have w5f := hw.2.2.2.2.2.1 f hf
  have w5t := hw.2.2.2.2.2.1 t ht
  unfold M_posts pstV
  rw [chv_nI (by decide) (by decide), ix_nI (by decide), e2]
  by_cases c1 : V 0 0 2 = 60
  · have a1 := h.put1 0 0 7 (V 0 0 7 + 1) (o := 1) (k := 5) (v := nI (V 0 0 7 + 1)) (live_0 (by decide)) rfl rfl rfl (by unfold own3; omega) (by omega)
    rw [if_pos (by rw [c1]), if_pos c1, chv_nI (by decide) (by decide), chv_nI (by decide) (by decide), ix_nI (by decide), el, nI_add, lt_eq]
    exact ⟨_, rfl, a1, OutM.rf.sti rfl⟩
  · have h2 : V 0 0 2 < 60 := by omega
    have pp : ∀ c, 15 ≤ c → c ≤ 18 → pot c 0 (V 0 0 2) := fun c c1 c2 => Or.inr (Or.inr (Or.inr (Or.inr (Or.inr (Or.inr (Or.inl ⟨c1, c2, rfl, h2⟩))))))
    have a1 := h.1.put 15 0 (V 0 0 2) v (o := 1) (k := 472 + 4 * V 0 0 2) (v := nI v) (pp 15 (by decide) (by decide)) rfl rfl rfl (by unfold own3; omega)
    have a2 := a1.put 16 0 (V 0 0 2) f (o := 1) (k := 472 + 4 * V 0 0 2 + 1) (v := nI f) (pp 16 (by decide) (by decide)) rfl rfl rfl (by unfold own3; omega)
    have a3 := a2.put 17 0 (V 0 0 2) t (o := 1) (k := 472 + 4 * V 0 0 2 + 2) (v := nI t) (pp 17 (by decide) (by decide)) rfl rfl rfl (by unfold own3; omega)
    have a4 := a3.put 18 0 (V 0 0 2) (V 0 0 4 + T.2.2 (V 1 f 0) (V 1 t 0)) (o := 1) (k := 472 + 4 * V 0 0 2 + 3) (v := nI (V 0 0 4 + T.2.2 (V 1 f 0) (V 1 t 0))) (pp 18 (by decide) (by decide)) rfl rfl rfl (by unfold own3; omega)
    have a5 := a4.put 0 0 2 (V 0 0 2 + 1) (o := 1) (k := 471) (v := nI (V 0 0 2 + 1)) (Or.inl ⟨rfl, rfl, by decide⟩) rfl rfl rfl (by unfold own3; omega)
    have hO : ∀ b1 b2 b3 b4 b5 b6 b7 b8 b9 b10, OutM (isO 1) ν (sti (sti (sti (sti (sti ν 1 b1 b2) 1 b3 b4) 1 b5 b6) 1 b7 b8) 1 b9 b10) := fun b1 b2 b3 b4 b5 b6 b7 b8 b9 b10 => (((((OutM.rf (E := isO 1)).sti rfl).sti rfl).sti rfl).sti rfl).sti rfl
    have hX : ∀ b1 b2 b3 b4 b5 b6, M_postOf (nI (V 1 f 0)) (nI (V 1 t 0)) (sti (sti (sti ν 1 b1 b2) 1 b3 b4) 1 b5 b6) = some (nI (T.2.2 (V 1 f 0) (V 1 t 0))) := fun b1 b2 b3 b4 b5 b6 => (hT _ ((((OutM.rf.sti (Or.inl rfl)).sti (Or.inl rfl)).sti (Or.inl rfl) : OutM (EG th) ν _).mono (fun o k z => EG_law z))).2.2 _ _ w5f.1 w5t.1
    rw [if_neg (fun z => c1 ((nI_eq (by omega) (by decide)).1 z)), if_neg c1]
    simp only [nI_add, nI_mulE, Nat.add_zero]
    rw [chv_nI (by decide) (by decide), lt_eq]
    simp only [nI_add, nI_mulE, Nat.add_zero]
    rw [chv_nI (by omega) (by decide), ix_nI (by omega), lt_eq, chv_nI (by omega) (by decide), ix_nI (by omega), lt_eq, chv_nI (by omega) (by decide), ix_nI (by omega), lt_eq, chv_nI (by decide) (by decide), chv_nI (by omega) (by decide), chv_nI (by omega) (by decide), ix_nI (by omega), ix_nI (by omega), sti_n (by omega), sti_n (by omega), sti_n (by omega), ef, sti_n (by omega), sti_n (by omega), sti_n (by omega), et, hX, bnd_eq, chv_nI (by omega) (by decide), ix_nI (by omega), ix_nI (by decide), sti_n (by omega), sti_n (by omega), sti_n (by omega), ed, nI_add, lt_eq, chv_nI (by decide) (by decide), chv_nI (by decide) (by decide), sti_n (by omega), sti_n (by omega), sti_n (by omega), sti_n (by omega), e2, nI_add, lt_eq]
    refine ⟨_, rfl, h.of (a5.mono (fun c q k hl => ?_) (fun _ _ _ _ _ => rfl)) (wayV_o (by omega) (by omega)) (fun p => wayV_o (by omega) (by omega)) (wayV_o (by omega) (by omega)) (hO _ _ _ _ _ _ _ _ _ _ 0 10 (by unfold isO; omega)) (hO _ _ _ _ _ _ _ _ _ _ 0 5 (by unfold isO; omega)) (hO _ _ _ _ _ _ _ _ _ _ 0 15 (by unfold isO; omega)), hO _ _ _ _ _ _ _ _ _ _⟩
    rcases live_way2 hl.1 with x | x | x | x | x | x
    · exact Or.inl x
    · exact Or.inr (Or.inl x)
    · exact Or.inr (Or.inr (Or.inl x))
    · exact Or.inr (Or.inr (Or.inr (Or.inl x)))
    · exact Or.inr (Or.inr (Or.inr (Or.inr (Or.inl x))))
    · exact Or.inr (Or.inr (Or.inr (Or.inr (Or.inr ⟨x, hl.2⟩))))
