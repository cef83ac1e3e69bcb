/-! THE CLASS READS the post -/
def PF (μ μ2 : Mm) : Prop := Out (fun o => o = 532 ∨ o = 543 ∨ o = 544) μ μ2 ∧ ∀ k, k ≠ 2 → k ≠ 3 → k ≠ 8 → μ2.1 532 k = μ.1 532 k
theorem PF.rf {μ : Mm} : PF μ μ := ⟨Out.rf, fun _ _ _ _ => rfl⟩
theorem PF.tr {μ μ2 μ3 : Mm} (h : PF μ μ2) (h2 : PF μ2 μ3) : PF μ μ3 := ⟨h.1.tr h2.1, fun k a b d => (h2.2 k a b d).trans (h.2 k a b d)⟩
/-- only the place and the fault change -/
def QF (μ μ2 : Mm) : Prop := Out (fun o => o = 532) μ μ2 ∧ ∀ k, k ≠ 2 → k ≠ 3 → k ≠ 8 → μ2.1 532 k = μ.1 532 k
theorem QF.rf {μ : Mm} : QF μ μ := ⟨Out.rf, fun _ _ _ _ => rfl⟩
theorem QF.tr {μ μ2 μ3 : Mm} (h : QF μ μ2) (h2 : QF μ2 μ3) : QF μ μ3 := ⟨h.1.tr h2.1, fun k a b d => (h2.2 k a b d).trans (h.2 k a b d)⟩
theorem QF.P {μ μ2 : Mm} (h : QF μ μ2) : PF μ μ2 := ⟨h.1.mono (fun o z => Or.inl z), h.2⟩
theorem QF.s {μ μ2 : Mm} {k : Nat} {v : Int32} (h : QF μ μ2) (hk : k = 2 ∨ k = 3 ∨ k = 8) : QF μ (sti μ2 532 k v) := ⟨h.1.sti rfl, fun j a b d => by rw [sti_n (by omega)]; exact h.2 j a b d⟩
section
variable {tp : Nat → Nat} {n c m : Nat}
def RP (tp : Nat → Nat) (n c : Nat) (μ : Mm) (r : (Nat × Nat) ⊕ Nat) : Prop := tokC μ tp n c ∧ μ.1 532 7 = nI (c + 1) ∧ match r with
  | .inl e => (e.1 = 1 ∨ e.1 = 2 ∨ e.1 = 3) ∧ e.2 ≤ c ∧ μ.1 532 2 = nI e.1 ∧ μ.1 532 3 = nI (plc tp n e.2) ∧ ∃ q, q ≤ c ∧ μ.1 532 8 = nI q
  | .inr i => i ≤ c ∧ μ.1 532 2 = nI 0 ∧ μ.1 532 3 = -1 ∧ μ.1 532 8 = nI i
theorem tokC.f {μ μ2 : Mm} (h : tokC μ tp n c) (h2 : ∀ o, 534 ≤ o → o ≤ 536 → ∀ k, μ2.1 o k = μ.1 o k) : tokC μ2 tp n c := fun i hi => by
  obtain ⟨a1, a2, a3⟩ := h i hi
  exact ⟨(h2 534 (by decide) (by decide) i).trans a1, (h2 535 (by decide) (by decide) i).trans a2, (h2 536 (by decide) (by decide) i).trans a3⟩
theorem tokC.q {μ μ2 : Mm} (h : tokC μ tp n c) (hf : QF μ μ2) : tokC μ2 tp n c := h.f (fun o h1 h2 k => (hf.1 o (by omega)).1 k)
theorem p_fail (H : Hyp tp n c m) {μ : Mm} {r : (Nat × Nat) ⊕ Nat} (h : RP tp n c μ r) {e : Nat} (he : e = 1 ∨ e = 2 ∨ e = 3) : ∃ μ2, Reader_fail 532 (nI e) μ = some μ2 ∧ RP tp n c μ2 (bX r fun i => .inl (e, i)) ∧ QF μ μ2 := by
  have hc : c ≤ 400 := Nat.le_trans H.2.1 H.1
  obtain ⟨hT, hN, h⟩ := h
  cases r with
  | inl x =>
    obtain ⟨h1, h2, h3, h4, h5⟩ := h
    unfold Reader_fail
    rw [h3, if_neg (e_ne h1)]
    exact ⟨μ, rfl, ⟨hT, hN, h1, h2, h3, h4, h5⟩, QF.rf⟩
  | inr i =>
    obtain ⟨h1, h3, h4, h5⟩ := h
    unfold Reader_fail
    rw [h3, if_00, lt_eq, sti_n (by omega), h5, chv_nI (by omega) (by decide), ix_nI (by omega), sti_n (by omega), (hT i h1).2.2, lt_eq]
    have f : QF μ (sti (sti μ 532 2 (nI e)) 532 3 (nI (plc tp n i))) := (QF.rf.s (Or.inl rfl)).s (Or.inr (Or.inl rfl))
    refine ⟨_, rfl, ⟨hT.q f, (f.2 7 (by decide) (by decide) (by decide)).trans hN, he, h1, ?_, sti_e ⟨rfl, rfl⟩, ⟨i, h1, ?_⟩⟩, f⟩
    · show (sti _ _ _ _).1 532 2 = _
      rw [sti_n (by omega), sti_e ⟨rfl, rfl⟩]
    · rw [sti_n (by omega), sti_n (by omega), h5]
theorem p_takesF {μ : Mm} {e : Nat × Nat} (h : RP tp n c μ (.inl e)) (v : Int32) : Reader_takes 532 v μ = some (nI 0, μ) := by
  obtain ⟨hT, hN, h1, h2, h3, h4⟩ := h
  unfold Reader_takes
  rw [h3, if_neg (e_ne h1)]
theorem p_takesN (H : Hyp tp n c m) {μ : Mm} {i k : Nat} (h : RP tp n c μ (.inr i)) (hk : k < 2 ^ 31) (hn : ¬ Kd tp n i = k) : Reader_takes 532 (nI k) μ = some (nI 0, μ) := by
  obtain ⟨hT, hN, h1, h3, h4, h5⟩ := h
  have hc : c ≤ 400 := Nat.le_trans H.2.1 H.1
  have kb := Kd_b (i := i) H.2.2.2.2.1
  unfold Reader_takes
  rw [h3, if_00, h5, chv_nI (by omega) (by decide), ix_nI (by omega), (hT i h1).1, if_neg (fun z => hn ((nI_eq (by omega) hk).1 z))]
theorem p_takesY (H : Hyp tp n c m) {μ : Mm} {i k : Nat} (h : RP tp n c μ (.inr i)) (hn : Kd tp n i = k) (hk : k ≠ 256) : ∃ μ2, Reader_takes 532 (nI k) μ = some (nI 1, μ2) ∧ RP tp n c μ2 (.inr (i + 1)) ∧ QF μ μ2 := by
  obtain ⟨hT, hN, h1, h3, h4, h5⟩ := h
  have hc : c ≤ 400 := Nat.le_trans H.2.1 H.1
  have i1 := H.E i (by omega) (by omega)
  unfold Reader_takes
  rw [h3, if_00, h5, chv_nI (by omega) (by decide), ix_nI (by omega), (hT i h1).1, if_pos (by rw [hn]), nI_add, lt_eq]
  have f : QF μ (sti μ 532 8 (nI (i + 1))) := QF.rf.s (Or.inr (Or.inr rfl))
  refine ⟨_, rfl, ⟨hT.q f, (f.2 7 (by decide) (by decide) (by decide)).trans hN, by show i + 1 ≤ c; omega, ?_, ?_, sti_e ⟨rfl, rfl⟩⟩, f⟩
  · rw [sti_n (by omega)]
    exact h3
  · rw [sti_n (by omega)]
    exact h4
theorem p_take (H : Hyp tp n c m) {μ : Mm} {r : (Nat × Nat) ⊕ Nat} (h : RP tp n c μ r) {k : Nat} (hk : k < 2 ^ 31) (h256 : k ≠ 256) : ∃ μ2, Reader_take 532 (nI k) μ = some μ2 ∧ RP tp n c μ2 (bX r (tkP (Kd tp n) k)) ∧ QF μ μ2 := by
  unfold Reader_take
  cases r with
  | inl e =>
    obtain ⟨μ2, g1, g2, g3⟩ := p_fail H h (e := 1) (Or.inl rfl)
    rw [p_takesF h, bnd2_eq, if_00, g1, bnd_eq]
    exact ⟨μ2, rfl, g2, g3⟩
  | inr i =>
    show ∃ μ2, _ ∧ RP tp n c μ2 (tkP (Kd tp n) k i) ∧ _
    unfold tkP
    by_cases e : Kd tp n i = k
    · obtain ⟨μ2, g1, g2, g3⟩ := p_takesY H h e h256
      rw [g1, bnd2_eq, if_10, if_pos e]
      exact ⟨μ2, rfl, g2, g3⟩
    · obtain ⟨μ2, g1, g2, g3⟩ := p_fail H h (e := 1) (Or.inl rfl)
      rw [p_takesN H h hk e, bnd2_eq, if_00, g1, bnd_eq, if_neg e]
      exact ⟨μ2, rfl, g2, g3⟩
theorem p_num (H : Hyp tp n c m) {μ : Mm} {r : (Nat × Nat) ⊕ Nat} (h : RP tp n c μ r) {a b : Nat} (ha : a < 2 ^ 31) (hb : b < 2 ^ 31) : ∃ v μ2, Reader_takeNumber 532 (nI a) (nI b) μ = some (nI v, μ2) ∧ RP tp n c μ2 (bX r (tnP (Kd tp n) (Vd tp n) a b)) ∧ QF μ μ2 ∧ (v = a ∨ (a ≤ v ∧ v ≤ b)) ∧ ∀ i j, r = .inr i → tnP (Kd tp n) (Vd tp n) a b i = .inr j → v = Vd tp n i := by
  have hc : c ≤ 400 := Nat.le_trans H.2.1 H.1
  unfold Reader_takeNumber
  cases r with
  | inl e =>
    have h0 := h
    obtain ⟨hT, hN, h1, h2, h3, h4, q, h5, h6⟩ := h
    obtain ⟨μ2, g1, g2, g3⟩ := p_fail H h0 (e := 1) (Or.inl rfl)
    rw [h6, chv_nI (by omega) (by decide), p_takesF h0, bnd2_eq, if_00, g1, bnd_eq]
    exact ⟨a, μ2, rfl, g2, g3, Or.inl rfl, fun i j y => by cases y⟩
  | inr i =>
    have h0 := h
    obtain ⟨hT, hN, h1, h3, h4, h5⟩ := h
    have vb := H.V i
    rw [h5, chv_nI (by omega) (by decide), ix_nI (by omega), (hT i h1).2.1]
    show ∃ v μ2, _ ∧ RP tp n c μ2 (tnP (Kd tp n) (Vd tp n) a b i) ∧ _
    have last : ∀ v, (∀ j, tnP (Kd tp n) (Vd tp n) a b i = .inr j → v = Vd tp n i) → ∀ i2 j, (.inr i : (Nat × Nat) ⊕ Nat) = .inr i2 → tnP (Kd tp n) (Vd tp n) a b i2 = .inr j → v = Vd tp n i2 := fun v z i2 j y y2 => by
      cases y
      exact z j y2
    by_cases e : Kd tp n i = 257
    · obtain ⟨μ2, g1, g2, g3⟩ := p_takesY H h0 e (by decide)
      have g8 : μ2.1 532 8 = nI (i + 1) := g2.2.2.2.2.2
      rw [g1, bnd2_eq, if_10]
      have bad : ∃ μ3, Reader_takeNumber_j37 532 (nI a) μ2 = some (nI a, μ3) ∧ RP tp n c μ3 (.inl (2, i)) ∧ QF μ μ3 := by
        unfold Reader_takeNumber_j37
        rw [g8, nI_subE (by omega), Nat.add_sub_cancel, lt_eq]
        have f : QF μ (sti μ2 532 8 (nI i)) := g3.s (Or.inr (Or.inr rfl))
        have hr : RP tp n c (sti μ2 532 8 (nI i)) (.inr i) := by
          obtain ⟨k1, k2, k3, k4, k5, k6⟩ := g2
          refine ⟨hT.q f, (f.2 7 (by decide) (by decide) (by decide)).trans hN, h1, ?_, ?_, sti_e ⟨rfl, rfl⟩⟩
          · rw [sti_n (by omega)]
            exact k4
          · rw [sti_n (by omega)]
            exact k5
        obtain ⟨μ3, f1, f2, f3⟩ := p_fail H hr (e := 2) (Or.inr (Or.inl rfl))
        rw [f1, bnd_eq]
        exact ⟨μ3, rfl, f2, f.tr f3⟩
      have no : ¬ (a ≤ Vd tp n i ∧ Vd tp n i ≤ b) → tnP (Kd tp n) (Vd tp n) a b i = .inl (2, i) := fun z => by
        unfold tnP
        rw [if_pos e, if_neg z]
      by_cases e1 : Vd tp n i < a
      · rw [if_pos (nI_lt e1 ha)]
        obtain ⟨μ3, b1, b2, b3⟩ := bad
        have z := no (by omega)
        refine ⟨a, μ3, b1, by rw [z]; exact b2, b3, Or.inl rfl, last a (fun j y => by rw [z] at y; cases y)⟩
      · rw [if_neg (nI_nlt (by omega) (by omega))]
        by_cases e2 : Vd tp n i ≤ b
        · rw [if_pos (nI_le e2 hb)]
          have z : tnP (Kd tp n) (Vd tp n) a b i = .inr (i + 1) := by
            unfold tnP
            rw [if_pos e, if_pos ⟨by omega, e2⟩]
          exact ⟨Vd tp n i, μ2, rfl, by rw [z]; exact g2, g3, Or.inr ⟨by omega, e2⟩, last _ (fun j y => rfl)⟩
        · rw [if_neg (nI_ge (by omega) (by omega))]
          obtain ⟨μ3, b1, b2, b3⟩ := bad
          have z := no (fun y => e2 y.2)
          refine ⟨a, μ3, b1, by rw [z]; exact b2, b3, Or.inl rfl, last a (fun j y => by rw [z] at y; cases y)⟩
    · obtain ⟨μ2, g1, g2, g3⟩ := p_fail H h0 (e := 1) (Or.inl rfl)
      have z : tnP (Kd tp n) (Vd tp n) a b i = .inl (1, i) := if_neg e
      rw [p_takesN H h0 (by decide) e, bnd2_eq, if_00, g1, bnd_eq, z]
      exact ⟨a, μ2, rfl, g2, g3, Or.inl rfl, last a (fun j y => by rw [z] at y; cases y)⟩
/-- the post told so far -/
def pstM (μ : Mm) (q : Nat) (M : Nat → Nat → Nat) : Prop := μ.1 543 1 = nI q ∧ ∀ a b, a < 6 → b < 6 → μ.1 544 (6 * a + b) = nI (M a b)
theorem pstM.q {μ μ2 : Mm} {q : Nat} {M : Nat → Nat → Nat} (h : pstM μ q M) (hf : QF μ μ2) : pstM μ2 q M := ⟨((hf.1 543 (by decide)).1 1).trans h.1, fun a b ha hb => ((hf.1 544 (by decide)).1 _).trans (h.2 a b ha hb)⟩
theorem RP.o {μ μ2 : Mm} {r : (Nat × Nat) ⊕ Nat} (h : RP tp n c μ r) (h2 : ∀ o, 532 ≤ o → o ≤ 536 → ∀ k, μ2.1 o k = μ.1 o k) : RP tp n c μ2 r := by
  obtain ⟨a, b, h⟩ := h
  refine ⟨a.f (fun o h3 h4 => h2 o (by omega) h4), (h2 532 (by decide) (by decide) 7).trans b, ?_⟩
  have e := h2 532 (by decide) (by decide)
  cases r with
  | inl x =>
    dsimp only at h ⊢
    rw [e, e, e]
    exact h
  | inr i =>
    dsimp only at h ⊢
    rw [e, e, e]
    exact h
theorem p_add {μ : Mm} {r : (Nat × Nat) ⊕ Nat} (h : RP tp n c μ r) {a b u : Nat} (ha : a < 6) (hb : b < 6) : ∃ μ2, Post_add (532 + 11) (nI a) (nI b) (nI u) μ = some μ2 ∧ RP tp n c μ2 r ∧ PF μ μ2 ∧ ∀ q M, pstM μ q M → pstM μ2 (q + 1) (mpF M a b u) := by
  unfold Post_add
  rw [nI_mulE, nI_add, chv_nI (by omega) (by decide), ix_nI (by omega), lt_eq, nI_mulE, nI_add, chv_nI (by omega) (by decide), ix_nI (by omega), lt_eq, sti_n (by omega), sti_n (by omega), lt_eq]
  refine ⟨_, rfl, h.o (fun o h1 h2 k => ?_), ⟨((Out.rf.sti (Or.inr (Or.inr rfl))).sti (Or.inr (Or.inr rfl))).sti (Or.inr (Or.inl rfl)), fun k _ _ _ => ?_⟩, fun q M hp => ⟨?_, fun x y hx hy => ?_⟩⟩
  · rw [sti_n (by omega), sti_n (by omega), sti_n (by omega)]
  · rw [sti_n (by omega), sti_n (by omega), sti_n (by omega)]
  · rw [sti_e ⟨rfl, rfl⟩, show μ.1 (532 + 11) 1 = nI q from hp.1, nI_add]
  · rw [sti_n (by omega)]
    unfold mpF
    by_cases e1 : x = b ∧ y = a
    · obtain ⟨rfl, rfl⟩ := e1
      rw [sti_e ⟨rfl, by omega⟩, if_pos (Or.inr ⟨rfl, rfl⟩)]
    · rw [sti_n (by omega)]
      by_cases e2 : x = a ∧ y = b
      · obtain ⟨rfl, rfl⟩ := e2
        rw [sti_e ⟨rfl, by omega⟩, if_pos (Or.inl ⟨rfl, rfl⟩)]
      · rw [sti_n (by omega), if_neg (fun z => z.elim e2 e1)]
        exact hp.2 x y hx hy
def contP (K V : Nat → Nat) (f : Nat) (st : (Nat × Nat) ⊕ (Nat × Nat × (Nat → Nat → Nat))) : (Nat × Nat) ⊕ (Nat × (Nat → Nat → Nat)) := bX st fun x => pPs K V f x.1 x.2.1 x.2.2
def PC (tp : Nat → Nat) (n c : Nat) (μ : Mm) (st : (Nat × Nat) ⊕ (Nat × Nat × (Nat → Nat → Nat))) : Prop := match st with
  | .inl e => RP tp n c μ (.inl e)
  | .inr x => RP tp n c μ (.inr x.1) ∧ pstM μ x.2.1 x.2.2
theorem bX_inl {α β : Type} {r : (Nat × Nat) ⊕ α} {f : α → (Nat × Nat) ⊕ β} {e : Nat × Nat} (h : r = .inl e) : bX r f = .inl e := by
  subst h
  rfl
/-- one line of the post -/
theorem p_line (H : Hyp tp n c m) {μ : Mm} {i q v1 k f : Nat} {M : Nat → Nat → Nat} (h : RP tp n c μ (.inr i)) (hp : pstM μ q M) (hk : k < c + 1) (h256 : Kd tp n i ≠ 256) : ∃ μ2 st, Reader_readPost_l9 532 v1 (nI k) μ = some (.inl (nI (k + 1), μ2)) ∧ PC tp n c μ2 st ∧ PF μ μ2 ∧ pPs (Kd tp n) (Vd tp n) (f + 1) i q M = contP (Kd tp n) (Vd tp n) f st := by
  have hc : c ≤ 400 := Nat.le_trans H.2.1 H.1
  have kb := Kd_b (i := i) H.2.2.2.2.1
  obtain ⟨m1, a1, a2, a3⟩ := p_take H h (k := 306) (by decide) (by decide)
  obtain ⟨va, m2, b1, b2, b3, b4, b5⟩ := p_num H a2 (a := 0) (b := 5) (by decide) (by decide)
  obtain ⟨m3, d1, d2, d3⟩ := p_take H b2 (k := 307) (by decide) (by decide)
  obtain ⟨vb, m4, e1, e2, e3, e4, e5⟩ := p_num H d2 (a := 0) (b := 5) (by decide) (by decide)
  obtain ⟨m5, f1, f2, f3⟩ := p_take H e2 (k := 308) (by decide) (by decide)
  obtain ⟨vu, m6, g1, g2, g3, g4, g5⟩ := p_num H f2 (a := 1) (b := 20) (by decide) (by decide)
  obtain ⟨m7, j1, j2, j3⟩ := p_take H g2 (k := 59) (by decide) (by decide)
  obtain ⟨m8, k1, k2, k3, k4⟩ := p_add j2 (a := va) (b := vb) (u := vu) (by omega) (by omega)
  have hq : QF μ m7 := a3.tr (b3.tr (d3.tr (e3.tr (f3.tr (g3.tr j3)))))
  have hp8 := k4 q M (hp.q hq)
  have run : Reader_readPost_l9 532 v1 (nI k) μ = some (.inl (nI (k + 1), m8)) := by
    obtain ⟨hT, hN, h1, h3, h4, h5⟩ := h
    unfold Reader_readPost_l9
    rw [hN, if_neg (nI_ge hk (by omega)), h3, if_00, h5, chv_nI (by omega) (by decide), ix_nI (by omega), (hT i h1).1, if_neg (fun z => h256 ((nI_eq (by omega) (by decide)).1 z)), a1, bnd_eq, b1, bnd2_eq, d1, bnd_eq, e1, bnd2_eq, f1, bnd_eq, g1, bnd2_eq, j1, bnd_eq, k1, bnd_eq, nI_add]
  have ep : pPs (Kd tp n) (Vd tp n) (f + 1) i q M = bX (tkP (Kd tp n) 306 i) fun i1 => bX (tnP (Kd tp n) (Vd tp n) 0 5 i1) fun i2 => bX (tkP (Kd tp n) 307 i2) fun i3 => bX (tnP (Kd tp n) (Vd tp n) 0 5 i3) fun i4 => bX (tkP (Kd tp n) 308 i4) fun i5 => bX (tnP (Kd tp n) (Vd tp n) 1 20 i5) fun i6 => bX (tkP (Kd tp n) 59 i6) fun i7 => pPs (Kd tp n) (Vd tp n) f i7 (q + 1) (mpF M (Vd tp n i1) (Vd tp n i3) (Vd tp n i5)) := by
    show (if Kd tp n i = 256 then _ else _) = _
    rw [if_neg h256]
  rw [run, ep]
  have fr : PF μ m8 := hq.P.tr k3
  clear run ep a1 b1 d1 e1 f1 g1 j1 k1 k4 hq a3 b3 d3 e3 f3 g3 j3 h a2 b2 d2 e2 f2 g2 j2
  show ∃ μ2 st, _ ∧ _ ∧ _ ∧ _
  cases z1 : tkP (Kd tp n) 306 i with
  | inl x =>
    refine ⟨m8, .inl x, rfl, ?_, fr, rfl⟩
    rw [show bX (.inr i) (tkP (Kd tp n) 306) = (.inl x : (Nat × Nat) ⊕ Nat) from z1] at k2
    exact k2
  | inr i1 =>
    rw [show bX (.inr i) (tkP (Kd tp n) 306) = (.inr i1 : (Nat × Nat) ⊕ Nat) from z1] at k2 b5 e5 g5
    show ∃ μ2 st, _ ∧ _ ∧ _ ∧ (bX (tnP (Kd tp n) (Vd tp n) 0 5 i1) fun i2 => bX (tkP (Kd tp n) 307 i2) fun i3 => bX (tnP (Kd tp n) (Vd tp n) 0 5 i3) fun i4 => bX (tkP (Kd tp n) 308 i4) fun i5 => bX (tnP (Kd tp n) (Vd tp n) 1 20 i5) fun i6 => bX (tkP (Kd tp n) 59 i6) fun i7 => pPs (Kd tp n) (Vd tp n) f i7 (q + 1) (mpF M (Vd tp n i1) (Vd tp n i3) (Vd tp n i5))) = _
    cases z2 : tnP (Kd tp n) (Vd tp n) 0 5 i1 with
    | inl x =>
      refine ⟨m8, .inl x, rfl, ?_, fr, rfl⟩
      rw [show bX (.inr i1) (tnP (Kd tp n) (Vd tp n) 0 5) = (.inl x : (Nat × Nat) ⊕ Nat) from z2] at k2
      exact k2
    | inr i2 =>
      have va2 := b5 i1 i2 rfl z2
      rw [show bX (.inr i1) (tnP (Kd tp n) (Vd tp n) 0 5) = (.inr i2 : (Nat × Nat) ⊕ Nat) from z2] at k2 e5 g5
      show ∃ μ2 st, _ ∧ _ ∧ _ ∧ (bX (tkP (Kd tp n) 307 i2) fun i3 => bX (tnP (Kd tp n) (Vd tp n) 0 5 i3) fun i4 => bX (tkP (Kd tp n) 308 i4) fun i5 => bX (tnP (Kd tp n) (Vd tp n) 1 20 i5) fun i6 => bX (tkP (Kd tp n) 59 i6) fun i7 => pPs (Kd tp n) (Vd tp n) f i7 (q + 1) (mpF M (Vd tp n i1) (Vd tp n i3) (Vd tp n i5))) = _
      cases z3 : tkP (Kd tp n) 307 i2 with
      | inl x =>
        refine ⟨m8, .inl x, rfl, ?_, fr, rfl⟩
        rw [show bX (.inr i2) (tkP (Kd tp n) 307) = (.inl x : (Nat × Nat) ⊕ Nat) from z3] at k2
        exact k2
      | inr i3 =>
        rw [show bX (.inr i2) (tkP (Kd tp n) 307) = (.inr i3 : (Nat × Nat) ⊕ Nat) from z3] at k2 e5 g5
        show ∃ μ2 st, _ ∧ _ ∧ _ ∧ (bX (tnP (Kd tp n) (Vd tp n) 0 5 i3) fun i4 => bX (tkP (Kd tp n) 308 i4) fun i5 => bX (tnP (Kd tp n) (Vd tp n) 1 20 i5) fun i6 => bX (tkP (Kd tp n) 59 i6) fun i7 => pPs (Kd tp n) (Vd tp n) f i7 (q + 1) (mpF M (Vd tp n i1) (Vd tp n i3) (Vd tp n i5))) = _
        cases z4 : tnP (Kd tp n) (Vd tp n) 0 5 i3 with
        | inl x =>
          refine ⟨m8, .inl x, rfl, ?_, fr, rfl⟩
          rw [show bX (.inr i3) (tnP (Kd tp n) (Vd tp n) 0 5) = (.inl x : (Nat × Nat) ⊕ Nat) from z4] at k2
          exact k2
        | inr i4 =>
          have vb2 := e5 i3 i4 rfl z4
          rw [show bX (.inr i3) (tnP (Kd tp n) (Vd tp n) 0 5) = (.inr i4 : (Nat × Nat) ⊕ Nat) from z4] at k2 g5
          show ∃ μ2 st, _ ∧ _ ∧ _ ∧ (bX (tkP (Kd tp n) 308 i4) fun i5 => bX (tnP (Kd tp n) (Vd tp n) 1 20 i5) fun i6 => bX (tkP (Kd tp n) 59 i6) fun i7 => pPs (Kd tp n) (Vd tp n) f i7 (q + 1) (mpF M (Vd tp n i1) (Vd tp n i3) (Vd tp n i5))) = _
          cases z5 : tkP (Kd tp n) 308 i4 with
          | inl x =>
            refine ⟨m8, .inl x, rfl, ?_, fr, rfl⟩
            rw [show bX (.inr i4) (tkP (Kd tp n) 308) = (.inl x : (Nat × Nat) ⊕ Nat) from z5] at k2
            exact k2
          | inr i5 =>
            rw [show bX (.inr i4) (tkP (Kd tp n) 308) = (.inr i5 : (Nat × Nat) ⊕ Nat) from z5] at k2 g5
            show ∃ μ2 st, _ ∧ _ ∧ _ ∧ (bX (tnP (Kd tp n) (Vd tp n) 1 20 i5) fun i6 => bX (tkP (Kd tp n) 59 i6) fun i7 => pPs (Kd tp n) (Vd tp n) f i7 (q + 1) (mpF M (Vd tp n i1) (Vd tp n i3) (Vd tp n i5))) = _
            cases z6 : tnP (Kd tp n) (Vd tp n) 1 20 i5 with
            | inl x =>
              refine ⟨m8, .inl x, rfl, ?_, fr, rfl⟩
              rw [show bX (.inr i5) (tnP (Kd tp n) (Vd tp n) 1 20) = (.inl x : (Nat × Nat) ⊕ Nat) from z6] at k2
              exact k2
            | inr i6 =>
              have vu2 := g5 i5 i6 rfl z6
              rw [show bX (.inr i5) (tnP (Kd tp n) (Vd tp n) 1 20) = (.inr i6 : (Nat × Nat) ⊕ Nat) from z6] at k2
              show ∃ μ2 st, _ ∧ _ ∧ _ ∧ (bX (tkP (Kd tp n) 59 i6) fun i7 => pPs (Kd tp n) (Vd tp n) f i7 (q + 1) (mpF M (Vd tp n i1) (Vd tp n i3) (Vd tp n i5))) = _
              cases z7 : tkP (Kd tp n) 59 i6 with
              | inl x =>
                refine ⟨m8, .inl x, rfl, ?_, fr, rfl⟩
                rw [show bX (.inr i6) (tkP (Kd tp n) 59) = (.inl x : (Nat × Nat) ⊕ Nat) from z7] at k2
                exact k2
              | inr i7 =>
                rw [show bX (.inr i6) (tkP (Kd tp n) 59) = (.inr i7 : (Nat × Nat) ⊕ Nat) from z7] at k2
                rw [va2, vb2, vu2] at hp8
                exact ⟨m8, .inr (i7, q + 1, mpF M (Vd tp n i1) (Vd tp n i3) (Vd tp n i5)), rfl, ⟨k2, hp8⟩, fr, rfl⟩
theorem p_lines (H : Hyp tp n c m) {μ : Mm} {v1 : Nat} {M : Nat → Nat → Nat} (h : RP tp n c μ (.inr 0)) (hp : pstM μ 0 M) : ∃ μ2 st, iter 1000000 (fun s => Reader_readPost_l9 532 v1 s.1 s.2) (nI 0, μ) = some μ2 ∧ PC tp n c μ2 st ∧ PF μ μ2 ∧ pPs (Kd tp n) (Vd tp n) (c + 1) 0 0 M = bX st fun x => .inr (x.2.1, x.2.2) := by
  have hc : c ≤ 400 := Nat.le_trans H.2.1 H.1
  have key := iter_inv (f := fun s : Int32 × Mm => Reader_readPost_l9 532 v1 s.1 s.2)
    (fun k s => s.1 = nI k ∧ PF μ s.2 ∧ ∃ st, PC tp n c s.2 st ∧ pPs (Kd tp n) (Vd tp n) (c + 1) 0 0 M = contP (Kd tp n) (Vd tp n) (c + 1 - k) st)
    (fun x => PF μ x ∧ ∃ st, PC tp n c x st ∧ pPs (Kd tp n) (Vd tp n) (c + 1) 0 0 M = bX st fun x => .inr (x.2.1, x.2.2)) (c + 1) ?_ ?_ 1000000 (nI 0, μ) ⟨rfl, PF.rf, .inr (0, 0, M), ⟨h, hp⟩, rfl⟩ (by omega)
  · obtain ⟨x, k1, k2, st, k3, k4⟩ := key
    exact ⟨x, st, k1, k3, k2, k4⟩
  · rintro k ⟨s1, m1⟩ hk ⟨rfl, f1, st, g1, g2⟩
    have f1 : PF μ m1 := f1
    have g1 : PC tp n c m1 st := g1
    cases st with
    | inl e =>
      have g0 : RP tp n c m1 (.inl e) := g1
      right
      refine ⟨m1, ?_, f1, .inl e, g1, g2⟩
      show Reader_readPost_l9 _ _ _ _ = _
      unfold Reader_readPost_l9
      rw [g0.2.1, if_neg (nI_ge hk (by omega)), g0.2.2.2.2.1, if_neg (e_ne g0.2.2.1)]
    | inr x =>
      obtain ⟨i, q, M2⟩ := x
      rw [show c + 1 - k = c - k + 1 by omega] at g2
      have g2 : pPs (Kd tp n) (Vd tp n) (c + 1) 0 0 M = pPs (Kd tp n) (Vd tp n) (c - k + 1) i q M2 := g2
      have g0 : RP tp n c m1 (.inr i) := g1.1
      by_cases c1 : Kd tp n i = 256
      · right
        refine ⟨m1, ?_, f1, .inr (i, q, M2), g1, ?_⟩
        · obtain ⟨hT, hN, h1, h3, h4, h5⟩ := g0
          show Reader_readPost_l9 _ _ _ _ = _
          unfold Reader_readPost_l9
          rw [hN, if_neg (nI_ge hk (by omega)), h3, if_00, h5, chv_nI (by omega) (by decide), ix_nI (by omega), (hT i h1).1, if_pos (by rw [c1])]
        · rw [g2]
          show (if Kd tp n i = 256 then _ else _) = _
          rw [if_pos c1]
          rfl
      · left
        obtain ⟨m2, st2, a1, a2, a3, a4⟩ := p_line H (v1 := v1) (f := c - k) g0 g1.2 hk c1
        exact ⟨(nI (k + 1), m2), a1, rfl, f1.tr a3, st2, a2, by rw [g2, a4, show c + 1 - (k + 1) = c - k by omega]⟩
  · rintro ⟨s1, m1⟩ ⟨rfl, f1, st, g1, g2⟩
    have g1 : PC tp n c m1 st := g1
    have cn : m1.1 532 7 = nI (c + 1) := by
      cases st with
      | inl e =>
        have g0 : RP tp n c m1 (.inl e) := g1
        exact g0.2.1
      | inr x => exact g1.1.2.1
    refine ⟨m1, ?_, f1, st, g1, ?_⟩
    · show Reader_readPost_l9 _ _ _ _ = _
      unfold Reader_readPost_l9
      rw [cn, if_pos (nI_le (Nat.le_refl _) (by omega))]
    · rw [g2, Nat.sub_self]
      cases st with
      | inl e => rfl
      | inr x => rfl
end
