/-! THE CHECK READS: the post; TEXT in the check -/
def EMp (o k : Nat) : Prop := (o = 0 ∧ ((22 ≤ k ∧ k ≤ 25) ∨ k = 38 ∨ k = 39)) ∨ (o = 20 ∧ 36 ≤ k ∧ k < 72)
section
variable {tp : Nat → Nat} {n c w : Nat}
def QMs (tp : Nat → Nat) (n : Nat) (ν : Mm) : Prop := tapM ν n tp ∧ wrdM ν
def QM (tp : Nat → Nat) (n c : Nat) (ν : Mm) (r : (Nat × Nat) ⊕ Nat) : Prop := match r with
  | .inl e => ν.1 0 38 = nI e.1 ∧ ν.1 0 39 = nI (plc tp n e.2)
  | .inr i => tkM ν tp n i ∧ i ≤ c
def pstN (ν : Mm) (M : Nat → Nat → Nat) : Prop := ∀ a b, a < 6 → b < 6 → ν.1 20 (36 + (6 * a + b)) + nI 1 = nI (M a b)
def EMq (o k : Nat) : Prop := o = 0 ∧ ((22 ≤ k ∧ k ≤ 25) ∨ k = 38 ∨ k = 39)
theorem QMs.o {ν ν2 : Mm} {E : Nat → Nat → Prop} (h : QMs tp n ν) (ho : OutM E ν ν2) (hE : ∀ o k, E o k → EMp o k) : QMs tp n ν2 := ⟨h.1.out ho (fun z => by have := hE _ _ z; unfold EMp at this; omega) (fun k z => by have := hE _ _ z; unfold EMp at this; omega), h.2.out ho (fun k z => by have := hE _ _ z; unfold EMp at this; omega)⟩
theorem QMs.q {ν ν2 : Mm} (h : QMs tp n ν) (ho : OutM EMq ν ν2) : QMs tp n ν2 := h.o ho (fun o k z => Or.inl z)
theorem pstN.q {ν ν2 : Mm} {M : Nat → Nat → Nat} (h : pstN ν M) (ho : OutM EMq ν ν2) : pstN ν2 M := fun a b ha hb => by
  rw [ho _ _ (by unfold EMq; omega)]
  exact h a b ha hb
theorem q_errs {ν : Mm} {i : Nat} (h : QM tp n c ν (.inr i)) (e : Nat) : ∃ ν2, M_errs (nI e) ν = some (-1, ν2) ∧ QM tp n c ν2 (.inl (e, i)) ∧ OutM EMq ν ν2 := by
  unfold M_errs
  rw [lt_eq, sti_n (by omega), h.1.1, lt_eq]
  exact ⟨_, rfl, ⟨by rw [sti_n (by omega), sti_e ⟨rfl, rfl⟩], sti_e ⟨rfl, rfl⟩⟩, (OutM.rf.sti (by unfold EMq; omega)).sti (by unfold EMq; omega)⟩
theorem q_next {m : Nat} (H : Hyp tp n c m) {ν : Mm} {i : Nat} (hs : QMs tp n ν) (h : QM tp n c ν (.inr i)) (hk : Kd tp n i ≠ 256) : ∃ ν2, M_reads ν = some ν2 ∧ QM tp n c ν2 (.inr (i + 1)) ∧ OutM EMq ν ν2 := by
  obtain ⟨h1, h2⟩ := h
  have i1 := H.E i (by omega) hk
  obtain ⟨ν2, g1, g2, g3⟩ := m_reads hs.2 hs.1 H.2.2.2.2.1 h1 (H.2.2.2.1 i (by omega))
  exact ⟨ν2, g1, ⟨g2, by omega⟩, g3.mono (fun o k z => by unfold ER at z; unfold EMq; omega)⟩
theorem q_num {m : Nat} (H : Hyp tp n c m) {ν : Mm} {i a b : Nat} (hs : QMs tp n ν) (h : QM tp n c ν (.inr i)) (ha : a < 2 ^ 31) (hb : b < 2 ^ 31) : ∃ ν2, M_readNumber (nI a) (nI b) ν = some ((match tnP (Kd tp n) (Vd tp n) a b i with
    | .inl _ => -1
    | .inr _ => nI (Vd tp n i)), ν2) ∧ QM tp n c ν2 (tnP (Kd tp n) (Vd tp n) a b i) ∧ OutM EMq ν ν2 := by
  have vb := H.V i
  obtain ⟨t1, t2⟩ := tk_num h.1
  unfold M_readNumber tnP
  by_cases c1 : Kd tp n i = 257
  · rw [if_pos (t1.2 c1), t2 c1, m_isIn, bnd_eq, inI_b (by omega) ha hb, if_pos c1]
    by_cases c2 : a ≤ Vd tp n i ∧ Vd tp n i ≤ b
    · rw [decide_eq_true c2, if_pos rfl, if_10, if_pos c2]
      obtain ⟨m1, a1, a2, a3⟩ := q_next H hs h (by omega)
      rw [a1, bnd_eq]
      exact ⟨m1, rfl, a2, a3⟩
    · rw [decide_eq_false c2, if_neg Bool.false_ne_true, if_00, if_neg c2]
      obtain ⟨m1, a1, a2, a3⟩ := q_errs h 2
      rw [a1, bnd2_eq]
      exact ⟨m1, rfl, a2, a3⟩
  · rw [if_neg (fun z => c1 (t1.1 z)), if_neg c1]
    obtain ⟨m1, a1, a2, a3⟩ := q_errs h 1
    rw [a1, bnd2_eq]
    exact ⟨m1, rfl, a2, a3⟩
theorem q_word {m : Nat} (H : Hyp tp n c m) {ν : Mm} {i j w : Nat} (hs : QMs tp n ν) (h : QM tp n c ν (.inr i)) (hj : j < 20) (hw : w = wM j) : ∃ ν2, M_readWord (nI w) ν = some (cdR (tkP (Kd tp n) (300 + j) i), ν2) ∧ QM tp n c ν2 (tkP (Kd tp n) (300 + j) i) ∧ OutM EMq ν ν2 := by
  have wj := m_isWo h.1 hj hw
  unfold M_readWord tkP
  rw [wj, bnd_eq]
  by_cases c1 : Kd tp n i = 300 + j
  · rw [if_pos c1, if_10, if_pos c1]
    obtain ⟨m1, a1, a2, a3⟩ := q_next H hs h (by omega)
    rw [a1, bnd_eq]
    exact ⟨m1, rfl, a2, a3⟩
  · rw [if_neg c1, if_00, if_neg c1]
    obtain ⟨m1, a1, a2, a3⟩ := q_errs h 1
    rw [a1, bnd2_eq]
    exact ⟨m1, rfl, a2, a3⟩
theorem v_ne {v : Nat} (h : v ≤ 9999) : ¬ nI v = (-1 : Int32) := fun z => by
  rw [eq_m1 (by omega)] at z
  exact z
theorem tnP_v {K V : Nat → Nat} {a b i j : Nat} (h : tnP K V a b i = .inr j) : a ≤ V i ∧ V i ≤ b := by
  unfold tnP at h
  by_cases c1 : K i = 257
  · rw [if_pos c1] at h
    by_cases c2 : a ≤ V i ∧ V i ≤ b
    · exact c2
    · rw [if_neg c2] at h
      cases h
  · rw [if_neg c1] at h
    cases h
/-- behind the first word of a line of the post -/
def wayR (K V : Nat → Nat) (i1 : Nat) (M : Nat → Nat → Nat) : (Nat × Nat) ⊕ (Nat × (Nat → Nat → Nat)) := bX (tnP K V 0 5 i1) fun i2 => bX (tkP K 307 i2) fun i3 => bX (tnP K V 0 5 i3) fun i4 => bX (tkP K 308 i4) fun i5 => bX (tnP K V 1 20 i5) fun i6 => bX (tkP K 59 i6) fun i7 => .inr (i7, mpF M (V i1) (V i3) (V i5))
def QW (tp : Nat → Nat) (n c : Nat) (ν : Mm) (r : (Nat × Nat) ⊕ (Nat × (Nat → Nat → Nat))) : Prop := match r with
  | .inl e => QM tp n c ν (.inl e)
  | .inr x => QM tp n c ν (.inr x.1) ∧ pstN ν x.2
theorem q_way {m : Nat} (H : Hyp tp n c m) {ν : Mm} {i : Nat} {M : Nat → Nat → Nat} (hs : QMs tp n ν) (h : QM tp n c ν (.inr i)) (hM : pstN ν M) : ∃ ν2, M_readWay ν = some (cdR (wayR (Kd tp n) (Vd tp n) i M), ν2) ∧ QW tp n c ν2 (wayR (Kd tp n) (Vd tp n) i M) ∧ OutM EMp ν ν2 := by
  have up : ∀ {ν ν2 : Mm}, OutM EMq ν ν2 → OutM EMp ν ν2 := fun h => h.mono (fun o k z => Or.inl z)
  obtain ⟨m1, a1, a2, a3⟩ := q_num H hs h (a := 0) (b := 5) (by decide) (by decide)
  unfold M_readWay wayR
  rw [a1, bnd2_eq]
  cases z2 : tnP (Kd tp n) (Vd tp n) 0 5 i with
  | inl e =>
    rw [z2] at a2
    dsimp only
    rw [if_pos rfl]
    exact ⟨m1, rfl, a2, up a3⟩
  | inr i2 =>
    rw [z2] at a2
    have va := tnP_v z2
    have v1 := H.V i
    dsimp only
    rw [if_neg (v_ne v1)]
    have hs1 := hs.q a3
    obtain ⟨m2, b1, b2, b3⟩ := q_word H hs1 a2 (j := 7) (w := 18) (by decide) rfl
    show ∃ ν2, _ = some (cdR (bX (tkP (Kd tp n) 307 i2) fun i3 => bX (tnP (Kd tp n) (Vd tp n) 0 5 i3) fun i4 => bX (tkP (Kd tp n) 308 i4) fun i5 => bX (tnP (Kd tp n) (Vd tp n) 1 20 i5) fun i6 => bX (tkP (Kd tp n) 59 i6) fun i7 => .inr (i7, mpF M (Vd tp n i) (Vd tp n i3) (Vd tp n i5))), ν2) ∧ QW tp n c ν2 (bX (tkP (Kd tp n) 307 i2) fun i3 => bX (tnP (Kd tp n) (Vd tp n) 0 5 i3) fun i4 => bX (tkP (Kd tp n) 308 i4) fun i5 => bX (tnP (Kd tp n) (Vd tp n) 1 20 i5) fun i6 => bX (tkP (Kd tp n) 59 i6) fun i7 => .inr (i7, mpF M (Vd tp n i) (Vd tp n i3) (Vd tp n i5))) ∧ _
    rw [b1, bnd2_eq]
    have b2 : QM tp n c m2 (tkP (Kd tp n) 307 i2) := b2
    show ∃ ν2, (if cdR (tkP (Kd tp n) 307 i2) = -1 then _ else _) = _ ∧ _
    cases z3 : tkP (Kd tp n) 307 i2 with
    | inl e =>
      rw [z3] at b2
      rw [cd_inl, if_pos rfl]
      exact ⟨m2, rfl, b2, up (a3.tr b3)⟩
    | inr i3 =>
      rw [z3] at b2
      rw [cd_inr, if_neg m1_ne0]
      have hs2 := hs1.q b3
      obtain ⟨m3, d1, d2, d3⟩ := q_num H hs2 b2 (a := 0) (b := 5) (by decide) (by decide)
      show ∃ ν2, _ = some (cdR (bX (tnP (Kd tp n) (Vd tp n) 0 5 i3) fun i4 => bX (tkP (Kd tp n) 308 i4) fun i5 => bX (tnP (Kd tp n) (Vd tp n) 1 20 i5) fun i6 => bX (tkP (Kd tp n) 59 i6) fun i7 => .inr (i7, mpF M (Vd tp n i) (Vd tp n i3) (Vd tp n i5))), ν2) ∧ QW tp n c ν2 (bX (tnP (Kd tp n) (Vd tp n) 0 5 i3) fun i4 => bX (tkP (Kd tp n) 308 i4) fun i5 => bX (tnP (Kd tp n) (Vd tp n) 1 20 i5) fun i6 => bX (tkP (Kd tp n) 59 i6) fun i7 => .inr (i7, mpF M (Vd tp n i) (Vd tp n i3) (Vd tp n i5))) ∧ _
      rw [d1, bnd2_eq]
      cases z4 : tnP (Kd tp n) (Vd tp n) 0 5 i3 with
      | inl e =>
        rw [z4] at d2
        dsimp only
        rw [if_pos rfl]
        exact ⟨m3, rfl, d2, up (a3.tr (b3.tr d3))⟩
      | inr i4 =>
        rw [z4] at d2
        have vb := tnP_v z4
        have v3 := H.V i3
        dsimp only
        rw [if_neg (v_ne v3)]
        have hs3 := hs2.q d3
        obtain ⟨m4, e1, e2, e3⟩ := q_word H hs3 d2 (j := 8) (w := 19) (by decide) rfl
        show ∃ ν2, _ = some (cdR (bX (tkP (Kd tp n) 308 i4) fun i5 => bX (tnP (Kd tp n) (Vd tp n) 1 20 i5) fun i6 => bX (tkP (Kd tp n) 59 i6) fun i7 => .inr (i7, mpF M (Vd tp n i) (Vd tp n i3) (Vd tp n i5))), ν2) ∧ QW tp n c ν2 (bX (tkP (Kd tp n) 308 i4) fun i5 => bX (tnP (Kd tp n) (Vd tp n) 1 20 i5) fun i6 => bX (tkP (Kd tp n) 59 i6) fun i7 => .inr (i7, mpF M (Vd tp n i) (Vd tp n i3) (Vd tp n i5))) ∧ _
        rw [e1, bnd2_eq]
        have e2 : QM tp n c m4 (tkP (Kd tp n) 308 i4) := e2
        show ∃ ν2, (if cdR (tkP (Kd tp n) 308 i4) = -1 then _ else _) = _ ∧ _
        cases z5 : tkP (Kd tp n) 308 i4 with
        | inl e =>
          rw [z5] at e2
          rw [cd_inl, if_pos rfl]
          exact ⟨m4, rfl, e2, up (a3.tr (b3.tr (d3.tr e3)))⟩
        | inr i5 =>
          rw [z5] at e2
          rw [cd_inr, if_neg m1_ne0]
          have hs4 := hs3.q e3
          obtain ⟨m5, f1, f2, f3⟩ := q_num H hs4 e2 (a := 1) (b := 20) (by decide) (by decide)
          show ∃ ν2, _ = some (cdR (bX (tnP (Kd tp n) (Vd tp n) 1 20 i5) fun i6 => bX (tkP (Kd tp n) 59 i6) fun i7 => .inr (i7, mpF M (Vd tp n i) (Vd tp n i3) (Vd tp n i5))), ν2) ∧ QW tp n c ν2 (bX (tnP (Kd tp n) (Vd tp n) 1 20 i5) fun i6 => bX (tkP (Kd tp n) 59 i6) fun i7 => .inr (i7, mpF M (Vd tp n i) (Vd tp n i3) (Vd tp n i5))) ∧ _
          rw [f1, bnd2_eq]
          cases z6 : tnP (Kd tp n) (Vd tp n) 1 20 i5 with
          | inl e =>
            rw [z6] at f2
            dsimp only
            rw [if_pos rfl]
            exact ⟨m5, rfl, f2, up (a3.tr (b3.tr (d3.tr (e3.tr f3))))⟩
          | inr i6 =>
            rw [z6] at f2
            have vu := tnP_v z6
            have v5 := H.V i5
            dsimp only
            rw [if_neg (v_ne v5)]
            have hs5 := hs4.q f3
            have s59 := m_isSg f2.1 (c := 59) (by decide) (by decide)
            rw [s59, bnd_eq]
            show ∃ ν2, _ = some (cdR (bX (tkP (Kd tp n) 59 i6) fun i7 => .inr (i7, mpF M (Vd tp n i) (Vd tp n i3) (Vd tp n i5))), ν2) ∧ QW tp n c ν2 (bX (tkP (Kd tp n) 59 i6) fun i7 => .inr (i7, mpF M (Vd tp n i) (Vd tp n i3) (Vd tp n i5))) ∧ _
            unfold tkP
            have fall := a3.tr (b3.tr (d3.tr (e3.tr f3)))
            by_cases c7 : Kd tp n i6 = 59
            · rw [if_pos c7, if_10, if_pos c7]
              obtain ⟨m6, g1, g2, g3⟩ := q_next H hs5 f2 (by omega)
              have e36 : nI 36 + nI 6 * nI (Vd tp n i) + nI (Vd tp n i3) = nI (36 + (6 * Vd tp n i + Vd tp n i3)) := by
                rw [nI_mulE, nI_add, nI_add, Nat.add_assoc]
              have e37 : nI 36 + nI 6 * nI (Vd tp n i3) + nI (Vd tp n i) = nI (36 + (6 * Vd tp n i3 + Vd tp n i)) := by
                rw [nI_mulE, nI_add, nI_add, Nat.add_assoc]
              rw [g1, bnd_eq, e36, chv_nI (by omega) (by decide), ix_nI (by omega), lt_eq, e37, chv_nI (by omega) (by decide), ix_nI (by omega), lt_eq, nI_subE (by omega)]
              have hM6 : pstN m6 M := hM.q (fall.tr g3)
              refine ⟨_, rfl, ⟨⟨⟨?_, ?_, ?_⟩, g2.2⟩, fun x y hx hy => ?_⟩, ((up (fall.tr g3)).sti (by unfold EMp; omega)).sti (by unfold EMp; omega)⟩
              · rw [sti_n (by omega), sti_n (by omega)]
                exact g2.1.1
              · rw [sti_n (by omega), sti_n (by omega)]
                exact g2.1.2.1
              · rw [sti_n (by omega), sti_n (by omega), sti_n (by omega), sti_n (by omega)]
                exact g2.1.2.2
              · show (sti _ _ _ _).1 20 _ + nI 1 = nI (mpF M (Vd tp n i) (Vd tp n i3) (Vd tp n i5) x y)
                unfold mpF
                by_cases y1 : x = Vd tp n i3 ∧ y = Vd tp n i
                · rw [if_pos (Or.inr y1), sti_e ⟨rfl, by rw [y1.1, y1.2]⟩, nI_add]
                  congr 1
                  omega
                · rw [sti_n (by omega)]
                  by_cases y2 : x = Vd tp n i ∧ y = Vd tp n i3
                  · rw [if_pos (Or.inl y2), sti_e ⟨rfl, by rw [y2.1, y2.2]⟩, nI_add]
                    congr 1
                    omega
                  · rw [sti_n (by omega), if_neg (fun z => z.elim y2 y1)]
                    exact hM6 x y hx hy
            · rw [if_neg c7, if_00, if_neg c7]
              obtain ⟨m6, g1, g2, g3⟩ := q_errs f2 1
              rw [g1, bnd2_eq]
              exact ⟨m6, rfl, g2, up (fall.tr g3)⟩
def fPs (x : Mm ⊕ (Int32 × Mm)) : Option (Int32 × Mm) := (Sum.elim (fun x26a =>
    some ((-1), x26a))
    (fun x26b =>
      if (x26b.2.1 0 24) = 0 then
        some (x26b.1, x26b.2)
      else
        bnd2 (M_errs (nI 1) x26b.2) fun r7 μ6 =>
        some (r7, μ6))) x
theorem fPs_0 {m1 : Mm} {v : Int32} (h2 : m1.1 0 24 = 0) : fPs (Sum.inr (v, m1)) = some (v, m1) := by
  unfold fPs
  rw [Sum.elim_inr, if_pos h2]
theorem fPs_e {m1 m2 : Mm} {e v : Int32} (h : M_errs (nI 1) m1 = some (e, m2)) (h2 : ¬ m1.1 0 24 = 0) : fPs (Sum.inr (v, m1)) = some (e, m2) := by
  unfold fPs
  rw [Sum.elim_inr, if_neg h2, h, bnd2_eq]
theorem pPs_q {K V : Nat → Nat} (f : Nat) : ∀ i q M q2 M2, pPs K V f i q M = .inr (q2, M2) → q2 ≤ q + f := by
  induction f with
  | zero =>
    intro i q M q2 M2 h
    cases h
    exact Nat.le_refl _
  | succ f ih =>
    intro i q M q2 M2 h
    have h : (if K i = 256 then .inr (q, M) else bX (tkP K 306 i) fun i1 => bX (tnP K V 0 5 i1) fun i2 => bX (tkP K 307 i2) fun i3 => bX (tnP K V 0 5 i3) fun i4 => bX (tkP K 308 i4) fun i5 => bX (tnP K V 1 20 i5) fun i6 => bX (tkP K 59 i6) fun i7 => pPs K V f i7 (q + 1) (mpF M (V i1) (V i3) (V i5))) = (.inr (q2, M2) : (Nat × Nat) ⊕ (Nat × (Nat → Nat → Nat))) := h
    by_cases c : K i = 256
    · rw [if_pos c] at h
      cases h
      exact Nat.le_add_right _ _
    · rw [if_neg c] at h
      have get : ∀ {α β : Type} {r : (Nat × Nat) ⊕ α} {g : α → (Nat × Nat) ⊕ β} {y : β}, bX r g = .inr y → ∃ x, r = .inr x ∧ g x = .inr y := by
        intro α β r g y hr
        cases r with
        | inl e => cases hr
        | inr x => exact ⟨x, rfl, hr⟩
      obtain ⟨i1, _, h⟩ := get h
      obtain ⟨i2, _, h⟩ := get h
      obtain ⟨i3, _, h⟩ := get h
      obtain ⟨i4, _, h⟩ := get h
      obtain ⟨i5, _, h⟩ := get h
      obtain ⟨i6, h6, h⟩ := get h
      obtain ⟨i7, _, h⟩ := get h
      have := ih i7 (q + 1) _ q2 M2 h
      omega
def PsO (tp : Nat → Nat) (n : Nat) (x : Option (Int32 × Mm)) (ν : Mm) (r : (Nat × Nat) ⊕ (Nat × (Nat → Nat → Nat))) : Prop := match r with
  | .inl e => x = some (-1, ν) ∧ ν.1 0 38 = nI e.1 ∧ ν.1 0 39 = nI (plc tp n e.2)
  | .inr y => x = some (nI y.1, ν) ∧ pstN ν y.2
theorem q_postL {m : Nat} (H : Hyp tp n c m) (f : Nat) : ∀ i q M ν, QMs tp n ν → QM tp n c ν (.inr i) → pstN ν M → c + 1 ≤ i + f → ∀ k, f ≤ k → ∃ x ν2, iter k (fun s => M_readPost_l26 s.1 s.2) (nI q, ν) = some x ∧ PsO tp n (fPs x) ν2 (pPs (Kd tp n) (Vd tp n) f i q M) ∧ OutM EMp ν ν2 := by
  induction f with
  | zero =>
    intro i q M ν hs h hM hf
    have := h.2
    omega
  | succ f ih =>
    intro i q M ν hs h hM hf k hk
    obtain ⟨k, rfl⟩ : ∃ p, k = p + 1 := ⟨k - 1, by omega⟩
    have i0 := h.2
    have wj := m_isWo h.1 (j := 6) (w := 17) (by decide) rfl
    have ep : pPs (Kd tp n) (Vd tp n) (f + 1) i q M = if Kd tp n i = 256 then .inr (q, M) else bX (tkP (Kd tp n) 306 i) fun i1 => bX (wayR (Kd tp n) (Vd tp n) i1 M) fun x => pPs (Kd tp n) (Vd tp n) f x.1 (q + 1) x.2 := by
      show (if Kd tp n i = 256 then _ else bX (tkP (Kd tp n) 306 i) _) = _
      congr 1
      cases tkP (Kd tp n) 306 i with
      | inl e => rfl
      | inr i1 =>
        show bX (tnP (Kd tp n) (Vd tp n) 0 5 i1) _ = bX (wayR (Kd tp n) (Vd tp n) i1 M) _
        unfold wayR
        cases tnP (Kd tp n) (Vd tp n) 0 5 i1 with
        | inl e => rfl
        | inr i2 =>
          show bX (tkP (Kd tp n) 307 i2) _ = bX (bX (tkP (Kd tp n) 307 i2) _) _
          cases tkP (Kd tp n) 307 i2 with
          | inl e => rfl
          | inr i3 =>
            show bX (tnP (Kd tp n) (Vd tp n) 0 5 i3) _ = bX (bX (tnP (Kd tp n) (Vd tp n) 0 5 i3) _) _
            cases tnP (Kd tp n) (Vd tp n) 0 5 i3 with
            | inl e => rfl
            | inr i4 =>
              show bX (tkP (Kd tp n) 308 i4) _ = bX (bX (tkP (Kd tp n) 308 i4) _) _
              cases tkP (Kd tp n) 308 i4 with
              | inl e => rfl
              | inr i5 =>
                show bX (tnP (Kd tp n) (Vd tp n) 1 20 i5) _ = bX (bX (tnP (Kd tp n) (Vd tp n) 1 20 i5) _) _
                cases tnP (Kd tp n) (Vd tp n) 1 20 i5 with
                | inl e => rfl
                | inr i6 =>
                  show bX (tkP (Kd tp n) 59 i6) _ = bX (bX (tkP (Kd tp n) 59 i6) _) _
                  cases tkP (Kd tp n) 59 i6 with
                  | inl e => rfl
                  | inr i7 => rfl
    rw [ep]
    by_cases c1 : Kd tp n i = 306
    · rw [if_pos c1] at wj
      rw [if_neg (by omega), show tkP (Kd tp n) 306 i = .inr (i + 1) from if_pos c1]
      have i1 := H.E i (by omega) (by omega)
      obtain ⟨m1, a1, a2, a3⟩ := q_next H hs h (by omega)
      obtain ⟨m2, b1, b2, b3⟩ := q_way H (hs.q a3) a2 (hM.q a3)
      have e0 : M_readPost_l26 (nI q) ν = if cdR (wayR (Kd tp n) (Vd tp n) (i + 1) M) = -1 then some (.inr (Sum.inl m2)) else some (.inl (nI (q + 1), m2)) := by
        unfold M_readPost_l26
        rw [wj, bnd_eq, if_10, a1, bnd_eq, b1, bnd2_eq, nI_add]
      have up : OutM EMp ν m2 := (a3.mono (fun o k z => Or.inl z)).tr b3
      have hs2 : QMs tp n m2 := hs.o up (fun o k z => z)
      show ∃ x ν2, _ ∧ PsO tp n (fPs x) ν2 (bX (wayR (Kd tp n) (Vd tp n) (i + 1) M) fun x => pPs (Kd tp n) (Vd tp n) f x.1 (q + 1) x.2) ∧ _
      have hle : ∀ x, wayR (Kd tp n) (Vd tp n) (i + 1) M = .inr x → i < x.1 := by
        intro x hx
        have get : ∀ {α β : Type} {r : (Nat × Nat) ⊕ α} {g : α → (Nat × Nat) ⊕ β} {y : β}, bX r g = .inr y → ∃ x, r = .inr x ∧ g x = .inr y := by
          intro α β r g y hr
          cases r with
          | inl e => cases hr
          | inr x => exact ⟨x, rfl, hr⟩
        have tk1 : ∀ {cc i j}, tkP (Kd tp n) cc i = .inr j → j = i + 1 := by
          intro cc i j hj
          unfold tkP at hj
          split at hj
          · cases hj
            rfl
          · cases hj
        have tn1 : ∀ {a b i j}, tnP (Kd tp n) (Vd tp n) a b i = .inr j → j = i + 1 := by
          intro a b i j hj
          unfold tnP at hj
          split at hj
          · split at hj
            · cases hj
              rfl
            · cases hj
          · cases hj
        unfold wayR at hx
        obtain ⟨j1, y1, hx⟩ := get hx
        obtain ⟨j2, y2, hx⟩ := get hx
        obtain ⟨j3, y3, hx⟩ := get hx
        obtain ⟨j4, y4, hx⟩ := get hx
        obtain ⟨j5, y5, hx⟩ := get hx
        obtain ⟨j6, y6, hx⟩ := get hx
        have := tn1 y1
        have := tk1 y2
        have := tn1 y3
        have := tk1 y4
        have := tn1 y5
        have := tk1 y6
        cases hx
        show i < j6
        omega
      generalize wayR (Kd tp n) (Vd tp n) (i + 1) M = r at b2 e0 hle ⊢
      cases r with
      | inl e =>
        rw [cd_inl, if_pos rfl] at e0
        exact ⟨_, m2, iter_inr e0, ⟨rfl, b2.1, b2.2⟩, up⟩
      | inr x =>
        rw [cd_inr, if_neg m1_ne0] at e0
        have := hle x rfl
        obtain ⟨y, ν2, z1, z2, z3⟩ := ih x.1 (q + 1) x.2 m2 hs2 b2.1 b2.2 (by omega) k (by omega)
        exact ⟨y, ν2, (iter_inl e0).trans z1, z2, up.tr z3⟩
    · rw [if_neg c1] at wj
      have e0 : M_readPost_l26 (nI q) ν = some (.inr (Sum.inr (nI q, ν))) := by
        unfold M_readPost_l26
        rw [wj, bnd_eq, if_00]
      have te := tk_end h.1
      by_cases c2 : Kd tp n i = 256
      · rw [if_pos c2]
        exact ⟨_, ν, iter_inr e0, ⟨fPs_0 (te.2 c2), hM⟩, OutM.rf⟩
      · rw [if_neg c2, show tkP (Kd tp n) 306 i = .inl (1, i) from if_neg c1]
        obtain ⟨m1, a1, a2, a3⟩ := q_errs h 1
        exact ⟨_, m1, iter_inr e0, ⟨fPs_e a1 (fun z => c2 (te.1 z)), a2.1, a2.2⟩, a3.mono (fun o k z => Or.inl z)⟩
theorem m_rpost {m : Nat} (H : Hyp tp n c m) {ν : Mm} (hs : QMs tp n ν) (ht : tkM ν tp n 0) : ∃ ν2, PsO tp n (M_readPost ν) ν2 (pPs (Kd tp n) (Vd tp n) (c + 1) 0 0 (fun _ _ => 1)) ∧ OutM EMp ν ν2 := by
  have hc : c ≤ 400 := Nat.le_trans H.2.1 H.1
  have l1 := iter_inv (f := fun s : Int32 × Mm => M_readPost_l2 s.1 s.2)
    (fun k s => s.1 = nI k ∧ OutM (fun o j => o = 20 ∧ 36 ≤ j ∧ j < 72) ν s.2 ∧ ∀ l, l < k → s.2.1 20 (36 + l) = nI 0)
    (fun x => OutM (fun o j => o = 20 ∧ 36 ≤ j ∧ j < 72) ν x ∧ ∀ l, l < 36 → x.1 20 (36 + l) = nI 0) 36 ?_ ?_ 1000000 (nI 0, ν) ⟨rfl, OutM.rf, fun l hl => absurd hl (Nat.not_lt_zero l)⟩ (by decide)
  · obtain ⟨x, k1, k2, k3⟩ := l1
    have o2 : OutM EMp ν x := k2.mono (fun o k z => Or.inr z)
    have hsx := hs.o o2 (fun o k z => z)
    have htx : tkM x tp n 0 := ⟨(k2 _ _ (by omega)).trans ht.1, (k2 _ _ (by omega)).trans ht.2.1, by rw [k2 _ _ (by omega), k2 _ _ (by omega)]; exact ht.2.2⟩
    obtain ⟨y, ν2, g1, g2, g3⟩ := q_postL H (c + 1) 0 0 (fun _ _ => 1) x hsx ⟨htx, Nat.zero_le _⟩ (fun a b ha hb => by rw [k3 _ (by omega)]; rfl) (by omega) 1000000 (by omega)
    refine ⟨ν2, ?_, o2.tr g3⟩
    have : M_readPost ν = fPs y := by
      unfold M_readPost
      rw [k1, bni_eq, g1, bni_eq]
      rfl
    rw [this]
    exact g2
  · rintro k ⟨s1, m⟩ hk ⟨rfl, f1, f2⟩
    have f1 : OutM (fun o j => o = 20 ∧ 36 ≤ j ∧ j < 72) ν m := f1
    have f2 : ∀ l, l < k → m.1 20 (36 + l) = nI 0 := f2
    left
    refine ⟨(nI (k + 1), sti m 20 (36 + k) (nI 0)), ?_, rfl, f1.sti (by omega), fun l hl => ?_⟩
    · show M_readPost_l2 _ _ = _
      unfold M_readPost_l2
      rw [if_neg (nI_ge hk (by decide)), nI_add, chv_nI (by omega) (by decide), ix_nI (by omega), lt_eq, nI_add]
    · show (sti _ _ _ _).1 20 _ = _
      by_cases y : l = k
      · rw [y, sti_e ⟨rfl, rfl⟩]
      · rw [sti_n (by omega)]
        exact f2 l (by omega)
  · rintro ⟨s1, m⟩ ⟨rfl, f1, f2⟩
    refine ⟨m, ?_, f1, f2⟩
    show M_readPost_l2 _ _ = _
    unfold M_readPost_l2
    rw [if_pos (show nI 36 ≤ nI 36 by decide)]
theorem m_takesP {ν : Mm} {q : Nat} {M : Nat → Nat → Nat} (h : pstN ν M) : ∃ ν2, M_takesPost (nI q) ν = some ν2 ∧ ν2.1 0 43 = nI q ∧ (∀ a b, a < 6 → b < 6 → ν2.1 20 (6 * a + b) + nI 1 = nI (M a b)) ∧ OutM (fun o k => (o = 20 ∧ k < 36) ∨ (o = 0 ∧ k = 43)) ν ν2 := by
  have l1 := iter_inv (f := fun s : Int32 × Mm => M_takesPost_l2 (nI q) s.1 s.2)
    (fun k s => s.1 = nI k ∧ OutM (fun o j => o = 20 ∧ j < 36) ν s.2 ∧ ∀ l, l < k → s.2.1 20 l = ν.1 20 (36 + l))
    (fun x => OutM (fun o j => o = 20 ∧ j < 36) ν x ∧ ∀ l, l < 36 → x.1 20 l = ν.1 20 (36 + l)) 36 ?_ ?_ 1000000 (nI 0, ν) ⟨rfl, OutM.rf, fun l hl => absurd hl (Nat.not_lt_zero l)⟩ (by decide)
  · obtain ⟨x, k1, k2, k3⟩ := l1
    refine ⟨sti x 0 43 (nI q), ?_, sti_e ⟨rfl, rfl⟩, fun a b ha hb => ?_, (k2.mono (fun o k z => Or.inl z)).sti (Or.inr ⟨rfl, rfl⟩)⟩
    · unfold M_takesPost
      rw [k1, bni_eq, lt_eq]
    · rw [sti_n (by omega), k3 _ (by omega)]
      exact h a b ha hb
  · rintro k ⟨s1, m⟩ hk ⟨rfl, f1, f2⟩
    have f1 : OutM (fun o j => o = 20 ∧ j < 36) ν m := f1
    have f2 : ∀ l, l < k → m.1 20 l = ν.1 20 (36 + l) := f2
    left
    refine ⟨(nI (k + 1), sti m 20 k (ν.1 20 (36 + k))), ?_, rfl, f1.sti (by omega), fun l hl => ?_⟩
    · show M_takesPost_l2 _ _ _ = _
      unfold M_takesPost_l2
      rw [if_neg (nI_ge hk (by decide)), nI_add, chv_nI (by omega) (by decide), chv_nI (by omega) (by decide), ix_nI (by omega), ix_nI (by omega), f1 _ _ (by omega), lt_eq, nI_add]
    · show (sti _ _ _ _).1 20 _ = _
      by_cases y : l = k
      · rw [y, sti_e ⟨rfl, rfl⟩]
      · rw [sti_n (by omega)]
        exact f2 l (by omega)
  · rintro ⟨s1, m⟩ ⟨rfl, f1, f2⟩
    refine ⟨m, ?_, f1, f2⟩
    show M_takesPost_l2 _ _ _ = _
    unfold M_takesPost_l2
    rw [if_pos (show nI 36 ≤ nI 36 by decide)]
def ETm (o k : Nat) : Prop := (o = 0 ∧ (k = 0 ∨ (21 ≤ k ∧ k ≤ 25) ∨ (33 ≤ k ∧ k ≤ 43))) ∨ (13 ≤ o ∧ o ≤ 20)
theorem EMl_T {o k : Nat} (h : EMl o k) : ETm o k := by
  unfold EMl EMa EMr Epa at h
  unfold ETm
  omega
theorem EMp_T {o k : Nat} (h : EMp o k) : ETm o k := by
  unfold EMp at h
  unfold ETm
  omega
theorem TxM.lm {ν ν2 : Mm} {D : TD} (h : TxM ν D) (hw : TW D) {E : Nat → Nat → Prop} (ho : OutM E ν ν2) (hE : ∀ o k, E o k → (o = 0 ∧ k ≠ 43) ∨ (14 ≤ o ∧ o ≤ 16 ∧ 32 ≤ k) ∨ (17 ≤ o ∧ o ≤ 18 ∧ 800 ≤ k) ∨ o = 19 ∨ (o = 20 ∧ 36 ≤ k)) : TxM ν2 D := by
  obtain ⟨a, b, d, e⟩ := h
  have nl : ∀ x o k, x < 2 → inL x o k → ¬ E o k := fun x o k hx z y => by
    have := hE o k y
    unfold inL at z
    omega
  refine ⟨a.out hw.1 ho (fun o k => nl 0 o k (by decide)), b.out hw.2.1 ho (fun o k => nl 1 o k (by decide)), (ho _ _ (fun y => by have := hE _ _ y; omega)).trans d, fun x y hx hy => ?_⟩
  rw [ho _ _ (fun z => by have := hE _ _ z; omega)]
  exact e x y hx hy
theorem EMl_lm {o k : Nat} (h : EMl o k) : (o = 0 ∧ k ≠ 43) ∨ (14 ≤ o ∧ o ≤ 16 ∧ 32 ≤ k) ∨ (17 ≤ o ∧ o ≤ 18 ∧ 800 ≤ k) ∨ o = 19 ∨ (o = 20 ∧ 36 ≤ k) := by
  unfold EMl EMa EMr Epa at h
  omega
theorem EMp_lm {o k : Nat} (h : EMp o k) : (o = 0 ∧ k ≠ 43) ∨ (14 ≤ o ∧ o ≤ 16 ∧ 32 ≤ k) ∨ (17 ≤ o ∧ o ≤ 18 ∧ 800 ≤ k) ∨ o = 19 ∨ (o = 20 ∧ 36 ≤ k) := by
  unfold EMp at h
  omega
/-- behind a fault -/
theorem j67_bad {ν : Mm} {k : Int32} {e : Nat} {pl : Int32} (h1 : ν.1 0 38 = nI e) (h2 : ν.1 0 39 = pl) : M_text_j67 k (-1) ν = some (-1, sti (sti (sti ν 0 40 (nI e)) 0 41 pl) 0 21 (nI 0)) := by
  unfold M_text_j67 M_text_j89
  rw [if_pos rfl, h1, lt_eq, sti_n (by omega), h2, lt_eq, lt_eq, if_pos rfl]
theorem m_text (H : Hyp tp n c 11) {ν : Mm} {D : TD} (h : tapM ν n tp) (hW : wrdM ν) (hx : TxM ν D) (hw : TW D) (k : Int32) : ∃ ν2, M_text k ν = some ((txO tp n c k D).1.1, ν2) ∧ ν2.1 0 40 = nI (txO tp n c k D).1.2.1 ∧ ν2.1 0 41 = (txO tp n c k D).1.2.2 ∧ TxM ν2 (txO tp n c k D).2 ∧ ν2.1 0 21 = nI 0 ∧ OutM ETm ν ν2 := by
  have hB := H.2.2.2.2.1
  have hc : c ≤ 400 := Nat.le_trans H.2.1 H.1
  generalize hz : sti (sti (sti (sti (sti (sti (sti ν 0 0 (nI 0)) 0 40 (nI 0)) 0 41 (-1)) 0 22 (nI 0)) 0 34 (nI 0)) 0 35 (nI 0)) 0 33 k = m7
  have o7 : OutM (fun o k => o = 0 ∧ (k = 0 ∨ k = 22 ∨ (33 ≤ k ∧ k ≤ 41))) ν m7 := by
    rw [← hz]
    exact ((((((OutM.rf.sti (by omega)).sti (by omega)).sti (by omega)).sti (by omega)).sti (by omega)).sti (by omega)).sti (by omega)
  have e40 : m7.1 0 40 = nI 0 := by rw [← hz, sti_n (by omega), sti_n (by omega), sti_n (by omega), sti_n (by omega), sti_n (by omega), sti_e ⟨rfl, rfl⟩]
  have e41 : m7.1 0 41 = -1 := by rw [← hz, sti_n (by omega), sti_n (by omega), sti_n (by omega), sti_n (by omega), sti_e ⟨rfl, rfl⟩]
  have e22 : m7.1 0 22 = nI 0 := by rw [← hz, sti_n (by omega), sti_n (by omega), sti_n (by omega), sti_e ⟨rfl, rfl⟩]
  have e34 : m7.1 0 34 = nI 0 := by rw [← hz, sti_n (by omega), sti_n (by omega), sti_e ⟨rfl, rfl⟩]
  have e35 : m7.1 0 35 = nI 0 := by rw [← hz, sti_n (by omega), sti_e ⟨rfl, rfl⟩]
  have e33 : m7.1 0 33 = k := by rw [← hz, sti_e ⟨rfl, rfl⟩]
  have h7 : tapM m7 n tp := h.out o7 (by omega) (fun k z => by omega)
  have W7 : wrdM m7 := hW.out o7 (fun k z => by omega)
  have x7 : TxM m7 D := hx.lm hw o7 (fun o k z => by omega)
  have t7 : OutM ETm ν m7 := o7.mono (fun o k z => by unfold ETm; omega)
  unfold M_text
  rw [lt_eq, lt_eq, lt_eq, lt_eq, lt_eq, lt_eq, lt_eq, hz, m_isIn, bnd_eq]
  clear hz
  obtain ⟨m12, a1, a2, a3⟩ := m_reads0 W7 h7 hB e22
  have W12 : wrdM m12 := W7.out a3 (fun k z => by unfold ER at z; omega)
  have h12 := h7.er a3
  have x12 : TxM m12 D := x7.lm hw a3 (fun o k z => by unfold ER at z; omega)
  have t12 : OutM ETm ν m12 := t7.tr (a3.mono (fun o k z => by unfold ER at z; unfold ETm; omega))
  have f34 : m12.1 0 34 = nI 0 := (a3 _ _ (by unfold ER; omega)).trans e34
  have f35 : m12.1 0 35 = nI 0 := (a3 _ _ (by unfold ER; omega)).trans e35
  have f33 : m12.1 0 33 = k := (a3 _ _ (by unfold ER; omega)).trans e33
  have f40 : m12.1 0 40 = nI 0 := (a3 _ _ (by unfold ER; omega)).trans e40
  have f41 : m12.1 0 41 = -1 := (a3 _ _ (by unfold ER; omega)).trans e41
  have badO : ∀ (m : Mm) (e : Nat) (pl : Int32), TxM m D → OutM ETm ν m → (sti (sti (sti m 0 40 (nI e)) 0 41 pl) 0 21 (nI 0)).1 0 40 = nI e ∧ (sti (sti (sti m 0 40 (nI e)) 0 41 pl) 0 21 (nI 0)).1 0 41 = pl ∧ TxM (sti (sti (sti m 0 40 (nI e)) 0 41 pl) 0 21 (nI 0)) D ∧ (sti (sti (sti m 0 40 (nI e)) 0 41 pl) 0 21 (nI 0)).1 0 21 = nI 0 ∧ OutM ETm ν (sti (sti (sti m 0 40 (nI e)) 0 41 pl) 0 21 (nI 0)) := by
    intro m e pl hx ho
    refine ⟨?_, ?_, hx.lm hw (((OutM.rf.sti (E := fun o k => o = 0 ∧ (k = 40 ∨ k = 41 ∨ k = 21)) (by omega)).sti (by omega)).sti (by omega)) (fun o k z => by omega), sti_e ⟨rfl, rfl⟩, ((ho.sti (by unfold ETm; omega)).sti (by unfold ETm; omega)).sti (by unfold ETm; omega)⟩
    · rw [sti_n (by omega), sti_n (by omega), sti_e ⟨rfl, rfl⟩]
    · rw [sti_n (by omega), sti_e ⟨rfl, rfl⟩]
  have law : ∀ w, w < 2 → k = nI w → ∃ ν2, (bnd2 (M_readLaw m12) fun r14 μ13 => M_text_j67 k r14 μ13) = some ((match pLw (Kd tp n) (Vd tp n) (mW w) (c + 1) (300 + w) (c + 1) 0 [] [] with
      | .inl e => ((-1 : Int32), (nI e.1 : Int32), (nI (plc tp n e.2) : Int32))
      | .inr x => (nI x.2.length, nI 0, -1)).1, ν2) ∧ ν2.1 0 40 = (match pLw (Kd tp n) (Vd tp n) (mW w) (c + 1) (300 + w) (c + 1) 0 [] [] with
      | .inl e => ((-1 : Int32), (nI e.1 : Int32), (nI (plc tp n e.2) : Int32))
      | .inr x => (nI x.2.length, nI 0, -1)).2.1 ∧ ν2.1 0 41 = (match pLw (Kd tp n) (Vd tp n) (mW w) (c + 1) (300 + w) (c + 1) 0 [] [] with
      | .inl e => ((-1 : Int32), (nI e.1 : Int32), (nI (plc tp n e.2) : Int32))
      | .inr x => (nI x.2.length, nI 0, -1)).2.2 ∧ (match pLw (Kd tp n) (Vd tp n) (mW w) (c + 1) (300 + w) (c + 1) 0 [] [] with
      | .inl e => TxM ν2 D
      | .inr x => LawM ν2 w (ldD x.1 x.2) ∧ OutM (fun o k => (o = 0 ∧ k ≠ 43) ∨ inL w o k ∨ (14 ≤ o ∧ o ≤ 16 ∧ 32 ≤ k) ∨ (17 ≤ o ∧ o ≤ 18 ∧ 800 ≤ k) ∨ o = 19) m12 ν2) ∧ ν2.1 0 21 = nI 0 ∧ OutM ETm ν ν2 := by
    intro w hw2 hk
    have mw : mW w ≤ 11 := by unfold mW; split <;> decide
    have Hw : Hyp tp n c (mW w) := H.at mw
    have hs : RMs tp n w m12 := ⟨h12, W12, f33.trans hk, hw2⟩
    obtain ⟨m13, g1, g2⟩ := m_rlaw Hw hs a2 f34 f35
    have ok := pLw_ok Hw.E Hw.V mw (kw := 300 + w) (c + 1) 0 [] [] (Nat.succ_pos c) (Nat.zero_le _) LX.rf
    have x13 : TxM m13 D := x12.lm hw g2 (fun o k => EMl_lm)
    have t13 : OutM ETm ν m13 := t12.tr (g2.mono (fun o k => EMl_T))
    generalize pLw (Kd tp n) (Vd tp n) (mW w) (c + 1) (300 + w) (c + 1) 0 [] [] = R at g1 ok ⊢
    cases R with
    | inl e =>
      obtain ⟨b1, b2, b3⟩ := g1
      rw [b1, bnd2_eq, j67_bad b2 b3]
      obtain ⟨y1, y2, y3, y4, y5⟩ := badO m13 e.1 (nI (plc tp n e.2)) x13 t13
      exact ⟨_, rfl, y1, y2, y3, y4, y5⟩
    | inr x =>
      obtain ⟨L2, D2⟩ := x
      obtain ⟨b1, b2, b3, b4⟩ := g1
      obtain ⟨o1, o2⟩ := ok L2 D2 rfl
      have d16 := o1.1
      have oS : OutM (fun o k => o = 0 ∧ k = 21) m13 (sti m13 0 21 (nI 0)) := OutM.rf.sti ⟨rfl, rfl⟩
      obtain ⟨m14, d1, d2, d3⟩ := m_takesL (ν := sti m13 0 21 (nI 0)) (w := w) (L := L2) (D := D2) hw2 (by rw [sti_n (by omega), g2 _ _ (by unfold EMl EMa EMr Epa; omega)]; exact f33.trans hk) (by rw [sti_n (by omega)]; exact b2) (fun k hk => by rw [sti_n (by omega), sti_n (by omega)]; exact b3 k hk) (fun l hl => by rw [sti_n (by omega), sti_n (by omega), sti_n (by omega)]; exact b4 l hl) (by omega) d16
      have k2 : ¬ k = nI 2 := by
        rw [hk]
        intro z
        have := (nI_eq (by omega) (by decide)).1 z
        omega
      have q : ∀ j, j ≠ 21 → m14.1 0 j = m13.1 0 j := fun j hj => by
        rw [d3 _ _ (by unfold inL; omega), sti_n (by omega)]
      refine ⟨m14, ?_, ?_, ?_, ⟨d2, ?_⟩, ?_, ?_⟩
      · rw [b1, bnd2_eq]
        unfold M_text_j67 M_text_j89
        have : ¬ nI D2.length = (-1 : Int32) := v_ne (by omega)
        rw [if_neg this, lt_eq, if_neg this, if_neg k2, d1, bnd_eq]
      · rw [q 40 (by decide), g2 _ _ (by unfold EMl EMa EMr Epa; omega)]
        exact f40
      · rw [q 41 (by decide), g2 _ _ (by unfold EMl EMa EMr Epa; omega)]
        exact f41
      · refine (g2.mono (fun o k z => ?_)).tr ((oS.mono (fun o k z => ?_)).tr (d3.mono (fun o k z => Or.inr (Or.inl z))))
        · unfold EMl EMa EMr Epa at z
          omega
        · omega
      · rw [d3 _ _ (by unfold inL; omega), sti_e ⟨rfl, rfl⟩]
      · exact t13.tr ((oS.mono (fun o k z => by unfold ETm; omega)).tr (d3.mono (fun o k z => by unfold inL at z; unfold ETm; omega)))
  unfold txO
  by_cases k0 : k = nI 0
  · have hin : inI k (nI 0) (nI 2) = true := by rw [k0]; decide
    rw [if_pos hin, if_10, a1, bnd_eq, if_neg (show ¬ k = nI 2 by rw [k0]; decide), if_pos k0]
    obtain ⟨ν2, g1, g2, g3, g4, g5, g6⟩ := law 0 (by decide) k0
    have em : mW 0 = 11 := rfl
    rw [em] at g1 g2 g3 g4
    have g1 : (bnd2 (M_readLaw m12) fun r14 μ13 => M_text_j67 k r14 μ13) = some ((match pLw (Kd tp n) (Vd tp n) 11 (c + 1) 300 (c + 1) 0 [] [] with
      | .inl e => ((-1 : Int32), (nI e.1 : Int32), (nI (plc tp n e.2) : Int32))
      | .inr x => (nI x.2.length, nI 0, -1)).1, ν2) := g1
    rw [g1]
    have g2 : ν2.1 0 40 = (match pLw (Kd tp n) (Vd tp n) 11 (c + 1) 300 (c + 1) 0 [] [] with
      | .inl e => ((-1 : Int32), (nI e.1 : Int32), (nI (plc tp n e.2) : Int32))
      | .inr x => (nI x.2.length, nI 0, -1)).2.1 := g2
    have g3 : ν2.1 0 41 = (match pLw (Kd tp n) (Vd tp n) 11 (c + 1) 300 (c + 1) 0 [] [] with
      | .inl e => ((-1 : Int32), (nI e.1 : Int32), (nI (plc tp n e.2) : Int32))
      | .inr x => (nI x.2.length, nI 0, -1)).2.2 := g3
    have g4 : (match pLw (Kd tp n) (Vd tp n) 11 (c + 1) 300 (c + 1) 0 [] [] with
      | .inl e => TxM ν2 D
      | .inr x => LawM ν2 0 (ldD x.1 x.2) ∧ OutM (fun o k => (o = 0 ∧ k ≠ 43) ∨ inL 0 o k ∨ (14 ≤ o ∧ o ≤ 16 ∧ 32 ≤ k) ∨ (17 ≤ o ∧ o ≤ 18 ∧ 800 ≤ k) ∨ o = 19) m12 ν2) := g4
    generalize pLw (Kd tp n) (Vd tp n) 11 (c + 1) 300 (c + 1) 0 [] [] = R at g2 g3 g4 ⊢
    cases R with
    | inl e => exact ⟨ν2, rfl, g2, g3, g4, g5, g6⟩
    | inr x =>
      obtain ⟨g4, g7⟩ := g4
      refine ⟨ν2, rfl, g2, g3, ⟨g4, x12.2.1.out hw.2.1 g7 (fun o k z y => by unfold inL at z y; omega), (g7 _ _ (by unfold inL; omega)).trans x12.2.2.1, fun a b ha hb => ?_⟩, g5, g6⟩
      rw [g7 _ _ (by unfold inL; omega)]
      exact x12.2.2.2 a b ha hb
  · by_cases k1 : k = nI 1
    · have hin : inI k (nI 0) (nI 2) = true := by rw [k1]; decide
      rw [if_pos hin, if_10, a1, bnd_eq, if_neg (show ¬ k = nI 2 by rw [k1]; decide), if_neg k0, if_pos k1]
      obtain ⟨ν2, g1, g2, g3, g4, g5, g6⟩ := law 1 (by decide) k1
      have em : mW 1 = 7 := rfl
      rw [em] at g1 g2 g3 g4
      have g1 : (bnd2 (M_readLaw m12) fun r14 μ13 => M_text_j67 k r14 μ13) = some ((match pLw (Kd tp n) (Vd tp n) 7 (c + 1) 301 (c + 1) 0 [] [] with
        | .inl e => ((-1 : Int32), (nI e.1 : Int32), (nI (plc tp n e.2) : Int32))
        | .inr x => (nI x.2.length, nI 0, -1)).1, ν2) := g1
      rw [g1]
      have g2 : ν2.1 0 40 = (match pLw (Kd tp n) (Vd tp n) 7 (c + 1) 301 (c + 1) 0 [] [] with
        | .inl e => ((-1 : Int32), (nI e.1 : Int32), (nI (plc tp n e.2) : Int32))
        | .inr x => (nI x.2.length, nI 0, -1)).2.1 := g2
      have g3 : ν2.1 0 41 = (match pLw (Kd tp n) (Vd tp n) 7 (c + 1) 301 (c + 1) 0 [] [] with
        | .inl e => ((-1 : Int32), (nI e.1 : Int32), (nI (plc tp n e.2) : Int32))
        | .inr x => (nI x.2.length, nI 0, -1)).2.2 := g3
      have g4 : (match pLw (Kd tp n) (Vd tp n) 7 (c + 1) 301 (c + 1) 0 [] [] with
        | .inl e => TxM ν2 D
        | .inr x => LawM ν2 1 (ldD x.1 x.2) ∧ OutM (fun o k => (o = 0 ∧ k ≠ 43) ∨ inL 1 o k ∨ (14 ≤ o ∧ o ≤ 16 ∧ 32 ≤ k) ∨ (17 ≤ o ∧ o ≤ 18 ∧ 800 ≤ k) ∨ o = 19) m12 ν2) := g4
      generalize pLw (Kd tp n) (Vd tp n) 7 (c + 1) 301 (c + 1) 0 [] [] = R at g2 g3 g4 ⊢
      cases R with
      | inl e => exact ⟨ν2, rfl, g2, g3, g4, g5, g6⟩
      | inr x =>
        obtain ⟨g4, g7⟩ := g4
        refine ⟨ν2, rfl, g2, g3, ⟨x12.1.out hw.1 g7 (fun o k z y => by unfold inL at z y; omega), g4, (g7 _ _ (by unfold inL; omega)).trans x12.2.2.1, fun a b ha hb => ?_⟩, g5, g6⟩
        rw [g7 _ _ (by unfold inL; omega)]
        exact x12.2.2.2 a b ha hb
    · by_cases k2 : k = nI 2
      · have hin : inI k (nI 0) (nI 2) = true := by rw [k2]; decide
        rw [if_pos hin, if_10, a1, bnd_eq, if_pos k2, if_neg k0, if_neg k1, if_pos k2]
        obtain ⟨m13, g1, g2⟩ := m_rpost H ⟨h12, W12⟩ a2
        have x13 : TxM m13 D := x12.lm hw g2 (fun o k => EMp_lm)
        have t13 : OutM ETm ν m13 := t12.tr (g2.mono (fun o k => EMp_T))
        have pq := pPs_q (K := Kd tp n) (V := Vd tp n) (c + 1) 0 0 (fun _ _ => 1)
        generalize pPs (Kd tp n) (Vd tp n) (c + 1) 0 0 (fun _ _ => 1) = R at g1 pq ⊢
        cases R with
        | inl e =>
          obtain ⟨b1, b2, b3⟩ := g1
          rw [b1, bnd2_eq, j67_bad b2 b3]
          obtain ⟨y1, y2, y3, y4, y5⟩ := badO m13 e.1 (nI (plc tp n e.2)) x13 t13
          exact ⟨_, rfl, y1, y2, y3, y4, y5⟩
        | inr x =>
          obtain ⟨q, M⟩ := x
          obtain ⟨b1, b2⟩ := g1
          have b2 : pstN (sti m13 0 21 (nI 0)) M := fun a b ha hb => by
            rw [sti_n (by omega)]
            exact b2 a b ha hb
          obtain ⟨m14, d1, d2, d3, d4⟩ := m_takesP (q := q) b2
          have oS : OutM (fun o k => o = 0 ∧ k = 21) m13 (sti m13 0 21 (nI 0)) := OutM.rf.sti ⟨rfl, rfl⟩
          have o14 : OutM (fun o k => (o = 0 ∧ (k = 21 ∨ k = 43)) ∨ (o = 20 ∧ k < 36)) m13 m14 := (oS.mono (fun o k z => by omega)).tr (d4.mono (fun o k z => by omega))
          refine ⟨m14, ?_, ?_, ?_, ⟨x13.1.out hw.1 o14 (fun o k z y => by unfold inL at z; omega), x13.2.1.out hw.2.1 o14 (fun o k z y => by unfold inL at z; omega), d2, d3⟩, ?_, t13.tr (o14.mono (fun o k z => by unfold ETm; omega))⟩
          · rw [b1, bnd2_eq]
            unfold M_text_j67 M_text_j89
            have y : ¬ nI q = (-1 : Int32) := v_ne (by have := pq q M rfl; omega)
            rw [if_neg y, lt_eq, if_neg y, if_pos k2, d1, bnd_eq]
          · rw [o14 _ _ (by omega), g2 _ _ (by unfold EMp; omega)]
            exact f40
          · rw [o14 _ _ (by omega), g2 _ _ (by unfold EMp; omega)]
            exact f41
          · rw [d4 _ _ (by omega), sti_e ⟨rfl, rfl⟩]
      · have hin : inI k (nI 0) (nI 2) = false := by
          refine Bool.eq_false_iff.2 (fun z => ?_)
          obtain ⟨j, hj, rfl⟩ := inI_some z (by decide)
          have : j = 0 ∨ j = 1 ∨ j = 2 := by omega
          rcases this with rfl | rfl | rfl
          · exact k0 rfl
          · exact k1 rfl
          · exact k2 rfl
        rw [hin, if_neg Bool.false_ne_true, if_00, if_neg k0, if_neg k1, if_neg k2]
        unfold M_text_j89
        rw [lt_eq, if_pos rfl]
        refine ⟨_, rfl, ?_, ?_, x7.lm hw (OutM.rf.sti (E := fun o k => o = 0 ∧ k = 21) ⟨rfl, rfl⟩) (fun o k z => by omega), sti_e ⟨rfl, rfl⟩, t7.sti (by unfold ETm; omega)⟩
        · rw [sti_n (by omega)]
          exact e40
        · rw [sti_n (by omega)]
          exact e41
end
