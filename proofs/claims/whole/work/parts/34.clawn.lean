/-! THE CLASS: what the laws are asked with -/
/-- may change without the texts' changing -/
def lawOut (t o : Nat) : Prop := ¬ (t ≤ o ∧ o < t + 15) ∨ o = t + 6 ∨ o = t + 12
def TX (μ : Mm) (t : Nat) (T : TT) : Prop :=
  (∀ (o : Nat) (nm : Nat → Int32), (∀ k, k < 11 → μ.1 o k = nm k) → ¬ (t ≤ o ∧ o < t + 15) → sL SC o = 11 → ∃ r μ2, Law_valueFor (t + 1) o (nI 1) μ = some (r, μ2) ∧ jmax (nI 0) (jmin (nI 9) r) = nI (T.1 nm) ∧ Out (fun o => o = t + 6) μ μ2) ∧
  (∀ (o : Nat) (nm : Nat → Int32), (∀ k, k < 11 → μ.1 o k = nm k) → ¬ (t ≤ o ∧ o < t + 15) → sL SC o = 11 → ∃ r μ2, Law_valueFor (t + 7) o (nm 0 * nm 1) μ = some (r, μ2) ∧ jmax (nI 0) (jmin (nI 999) r) = nI (T.2.1 nm) ∧ Out (fun o => o = t + 12) μ μ2) ∧
  (∀ a b, a < 6 → b < 6 → Post_daysBetween (t + 13) (nI a) (nI b) μ = some (nI (T.2.2 a b)))
def TC (μ : Mm) (t : Nat) (T : TT) : Prop := ∀ μ2, Out (lawOut t) μ μ2 → TX μ2 t T
def TB (T : TT) : Prop := (∀ nm, T.1 nm ≤ 9 ∧ T.2.1 nm ≤ 999) ∧ ∀ a b, a < 6 → b < 6 → 1 ≤ T.2.2 a b ∧ T.2.2 a b ≤ 20
theorem TC.out {μ μ2 : Mm} {t : Nat} {T : TT} {E : Nat → Prop} (h : TC μ t T) (ho : Out E μ μ2) (hE : ∀ o, E o → lawOut t o) : TC μ2 t T := fun μ3 h3 => h μ3 ((ho.mono hE).tr h3)
/-- a world and the texts lie apart -/
def apart (w t : Nat) : Prop := w + 165 ≤ t ∨ t + 15 ≤ w
/-- what a day may change -/
def EW (w t o : Nat) : Prop := inW w o ∨ o = t + 6 ∨ o = t + 12
theorem EW_law {w t o : Nat} (h : apart w t) (he : EW w t o) : lawOut t o := by
  unfold apart at h
  unfold EW inW at he
  unfold lawOut
  omega
theorem EW_w {w t o : Nat} (he : inW w o) : EW w t o := Or.inl he
theorem HC.outF {μ μ2 : Mm} {w : Nat} {V : VS} {E : Nat → Prop} (h : HC μ w V) (ho : Out E μ μ2) (hE : ∀ o, E o → inW w o → freeC (o - w)) : HC μ2 w V := by
  refine ⟨?_, h.2.1, fun q hq => ?_⟩
  · intro c p i hl
    obtain ⟨h1, h2⟩ := h.1 c p i hl
    have hb := oC_lt h1
    refine ⟨h1, fun h3 => ?_⟩
    rw [(ho (w + oC c p i) (fun z => freeC_of (hE _ z ⟨by omega, by omega⟩) h1 h3 ⟨by omega, rfl⟩)).1]
    exact h2 h3
  · have h2 : q < 16 := Nat.lt_of_lt_of_le hq h.P16
    rw [(ho (w + (21 + 9 * q)) (fun z => by have := hE _ z ⟨by omega, by omega⟩; unfold freeC at this; omega)).2]
    exact h.2.2 q hq
def bcOk (n : Nat) : Bool := decide (JI_bitCount (nI n) = some (nI (popc n)))
def allB (f : Nat → Bool) : Nat → Nat → Bool
  | 0, a => f a
  | k + 1, a => allB f k a && allB f k (a + 2 ^ k)
theorem allB_of {f : Nat → Bool} : ∀ (k a n : Nat), allB f k a = true → a ≤ n → n < a + 2 ^ k → f n = true := by
  intro k
  induction k with
  | zero =>
    intro a n h h1 h2
    have : n = a := by omega
    subst this
    exact h
  | succ k ih =>
    intro a n h h1 h2
    unfold allB at h
    rw [Bool.and_eq_true] at h
    rw [Nat.pow_succ] at h2
    by_cases e : n < a + 2 ^ k
    · exact ih a n h.1 h1 e
    · exact ih (a + 2 ^ k) n h.2 (by omega) (by omega)
theorem bc10 : allB bcOk 10 0 = true := by decide +kernel
theorem JI_pop {n : Nat} (h : n < 1024) : JI_bitCount (nI n) = some (nI (popc n)) := of_decide_eq_true (allB_of 10 0 n bc10 (Nat.zero_le n) (by simpa using h))
theorem len_nm {w : Nat} (h : sK SC w = 9) : sL SC (w + 20) = 11 := len_k w 20 11 h (by decide) (by decide +kernel)
theorem c_name {μ : Mm} {w : Nat} {V : VS} {p i d : Nat} (h : HC μ w V) (hw : WF d V) (hp : p < V 0 0 0) (hi : i < V 6 p 0) : ∃ μ2, World_nameAll w (nI p) (nI i) μ = some μ2 ∧ HC μ2 w V ∧ Out (fun o => o = w + 20) μ μ2 ∧ ∀ k, k < 11 → μ2.1 (w + 20) k = nmV V p i k := by
  have p16 : p < 16 := Nat.lt_of_lt_of_le hp h.P16
  have m3 := h.h3 hp
  have v40 := h.v40
  obtain ⟨z1, z2, z3⟩ := hw.2.2.2.2.2.2.2.1 p i hp hi
  obtain ⟨y1, y2, y3⟩ := hw.2.2.2.2.2.2.2.2.1 _ z1
  obtain ⟨l1, l2, l3, l4, l5⟩ := h.lens p16
  have l1 : sL SC (w + (21 + 9 * p) + 4) = 3 := l1
  have l4 : sL SC (w + (21 + 9 * p) + 7) = 3 := l4
  have l5 : sL SC (w + (21 + 9 * p) + 8) = 3 := l5
  have e7 := h.lv hp hi
  have e9 := h.ld hp hi
  have e10 := h.ll hp hi
  have t1 := h.told hp (j := 1) (by decide)
  have t2 := h.told hp (j := 2) (by decide)
  have t3 := h.told hp (j := 3) (by decide)
  have t4 := h.told hp (j := 4) (by decide)
  have ed := h.dy
  have ec := h.hc hp
  have ev := h.vc z1
  have em := h.vm z1
  have ej := JI_pop y2
  have i3 : i < 3 := by omega
  unfold World_nameAll
  simp (disch := omega) only [lt_eq, bnd_eq, bni_eq, bnd2_eq, nI_ltE, nI_leE, nI_eqE, eq_0, lt_0E, le_0, z_lt, z_le, eq_m1, m1_eq, nI_add, nI_mulE, ix_nI, ix_0, chv_nI, chk_ok, chk_T, sti_e, sti_n, sti_2, stl_1, stl_e, stl_n, if_true, if_false, not_true_eq_false, not_false_eq_true, eq_self, Bool.false_eq_true, Bool.true_eq_false, l1, l4, l5, e7, e9, e10, t1, t2, t3, t4, ed, ec, ev, em, ej]
  have hO : ∀ a0 a1 a2 a3 a4 a5 a6 a7 a8 a9 a10, Out (fun o => o = w + 20) μ (sti (sti (sti (sti (sti (sti (sti (sti (sti (sti (sti μ (w + 20) 0 a0) (w + 20) 1 a1) (w + 20) 2 a2) (w + 20) 3 a3) (w + 20) 4 a4) (w + 20) 5 a5) (w + 20) 6 a6) (w + 20) 7 a7) (w + 20) 8 a8) (w + 20) 9 a9) (w + 20) 10 a10) := fun a0 a1 a2 a3 a4 a5 a6 a7 a8 a9 a10 => ((((((((((((Out.rf (E := fun o => o = w + 20)).sti rfl).sti rfl).sti rfl).sti rfl).sti rfl).sti rfl).sti rfl).sti rfl).sti rfl).sti rfl).sti rfl)
  refine ⟨_, rfl, ?_, ?_, ?_⟩
  · exact h.outF (hO _ _ _ _ _ _ _ _ _ _ _) (fun o e _ => by unfold freeC; omega)
  · exact hO _ _ _ _ _ _ _ _ _ _ _
  · intro k hk
    have : k = 0 ∨ k = 1 ∨ k = 2 ∨ k = 3 ∨ k = 4 ∨ k = 5 ∨ k = 6 ∨ k = 7 ∨ k = 8 ∨ k = 9 ∨ k = 10 := by omega
    rcases this with rfl | rfl | rfl | rfl | rfl | rfl | rfl | rfl | rfl | rfl | rfl <;> simp (disch := omega) only [sti_e, sti_n] <;> rfl

theorem c_copies {μ : Mm} {w t : Nat} {V : VS} {T : TT} {p i d : Nat} (h : HC μ w V) (hw : WF d V) (hp : p < V 0 0 0) (hi : i < V 6 p 0) (hT : TC μ t T) (ha : apart w t) : ∃ μ2, World_copiesToWrite w (nI p) (nI i) (t + 1) μ = some (nI (T.1 (nmV V p i)), μ2) ∧ HC μ2 w V ∧ Out (EW w t) μ μ2 := by
  obtain ⟨μ1, g1, g2, g3, g4⟩ := c_name h hw hp hi
  have hT1 : TX μ1 t T := hT μ1 (g3.mono (fun o e => EW_law ha (Or.inl (by unfold inW; omega))))
  obtain ⟨r, μ2, f1, f2, f3⟩ := hT1.1 (w + 20) (nmV V p i) g4 (by unfold apart at ha; omega) (len_nm h.2.1)
  refine ⟨μ2, ?_, ?_, ?_⟩
  · unfold World_copiesToWrite Nine_heldTo
    simp only [g1, f1, bnd_eq, bnd2_eq, f2]
  · exact g2.outF f3 (fun o e z => by unfold inW at z; unfold apart at ha; omega)
  · exact (g3.mono (fun o e => Or.inl (by unfold inW; omega))).tr (f3.mono (fun o e => Or.inr (Or.inl e)))
theorem c_ill {μ : Mm} {w t : Nat} {V : VS} {T : TT} {p i d : Nat} (h : HC μ w V) (hw : WF d V) (hp : p < V 0 0 0) (hi : i < V 6 p 0) (hT : TC μ t T) (ha : apart w t) : ∃ μ2, World_illLuck w (nI p) (nI i) (t + 7) μ = some (nI (T.2.1 (nmV V p i)), μ2) ∧ HC μ2 w V ∧ Out (EW w t) μ μ2 := by
  obtain ⟨μ1, g1, g2, g3, g4⟩ := c_name h hw hp hi
  have hT1 : TX μ1 t T := hT μ1 (g3.mono (fun o e => EW_law ha (Or.inl (by unfold inW; omega))))
  obtain ⟨r, μ2, f1, f2, f3⟩ := hT1.2.1 (w + 20) (nmV V p i) g4 (by unfold apart at ha; omega) (len_nm h.2.1)
  have p16 : p < 16 := Nat.lt_of_lt_of_le hp h.P16
  have m3 := h.h3 hp
  have v40 := h.v40
  obtain ⟨z1, z2, z3⟩ := hw.2.2.2.2.2.2.2.1 p i hp hi
  obtain ⟨l1, l2, l3, l4, l5⟩ := h.lens p16
  have l1 : sL SC (w + (21 + 9 * p) + 4) = 3 := l1
  have l5 : sL SC (w + (21 + 9 * p) + 8) = 3 := l5
  have e7 := g2.lv hp hi
  have e10 := g2.ll hp hi
  have ev := g2.vc z1
  have f1 : Law_valueFor (t + 7) (w + 20) (nI (V 11 0 (V 7 p i)) * nI (V 10 p i)) μ1 = some (r, μ2) := f1
  refine ⟨μ2, ?_, ?_, ?_⟩
  · unfold World_illLuck Nine_heldTo
    rw [nI_mulE] at f1
    simp (disch := omega) only [lt_eq, bnd_eq, bni_eq, bnd2_eq, nI_ltE, nI_leE, nI_eqE, eq_0, lt_0E, le_0, z_lt, z_le, eq_m1, m1_eq, nI_add, nI_mulE, ix_nI, ix_0, chv_nI, chk_ok, chk_T, sti_e, sti_n, sti_2, stl_1, stl_e, stl_n, if_true, if_false, not_true_eq_false, not_false_eq_true, eq_self, Bool.false_eq_true, Bool.true_eq_false, g1, l1, l5, e7, e10, ev, f1, f2]
  · exact g2.outF f3 (fun o e z => by unfold inW at z; unfold apart at ha; omega)
  · exact (g3.mono (fun o e => Or.inl (by unfold inW; omega))).tr (f3.mono (fun o e => Or.inr (Or.inr e)))
