/-! THE CLASS READS a law -/
def EL (o : Nat) : Prop := o = 532 ∨ (537 ≤ o ∧ o ≤ 541)
def LF (μ μ2 : Mm) : Prop := Out EL μ μ2 ∧ ∀ k, k ≠ 2 → k ≠ 3 → k ≠ 8 → μ2.1 532 k = μ.1 532 k
theorem LF.rf {μ : Mm} : LF μ μ := ⟨Out.rf, fun _ _ _ _ => rfl⟩
theorem LF.tr {μ μ2 μ3 : Mm} (h : LF μ μ2) (h2 : LF μ2 μ3) : LF μ μ3 := ⟨h.1.tr h2.1, fun k a b d => (h2.2 k a b d).trans (h.2 k a b d)⟩
theorem RF.L {μ μ2 : Mm} (h : RF μ μ2) : LF μ μ2 := ⟨h.1.mono (fun o z => by unfold ERd at z; unfold EL; omega), h.2.2⟩
theorem addLine_n {μ : Mm} {q : Nat} (h : μ.1 537 6 = nI q) (hq : q ≤ 16) (a b : Int32) : Law_addLine (532 + 5) a b μ = some (if q < 16 then sti (sti (sti (sti μ 539 q a) 540 q b) 541 q (μ.1 537 5)) 537 6 (nI (q + 1)) else μ) := by
  unfold Law_addLine
  rw [h]
  by_cases e : q < 16
  · rw [if_neg (nI_ge e (by decide)), chv_nI e (by decide), ix_nI (by omega), lt_eq, sti_n (by omega), h, chv_nI e (by decide), ix_nI (by omega), lt_eq, sti_n (by omega), sti_n (by omega), h, chv_nI e (by decide), ix_nI (by omega), sti_n (by omega), sti_n (by omega), lt_eq, sti_n (by omega), sti_n (by omega), sti_n (by omega), h, nI_add, lt_eq, if_pos e]
  · rw [if_pos (nI_le (by omega) (by omega)), if_neg e]
section
variable {tp : Nat → Nat} {n c m : Nat}
theorem RC.o {μ μ2 : Mm} {r : PR} (h : RC tp n c m μ r) (h1 : ∀ k, μ2.1 532 k = μ.1 532 k) (h2 : ∀ o k, 534 ≤ o → o ≤ 538 → o ≠ 537 → μ2.1 o k = μ.1 o k) (h3 : μ2.1 537 5 = μ.1 537 5) : RC tp n c m μ2 r := by
  obtain ⟨⟨a, b, d⟩, h⟩ := h
  refine ⟨⟨fun i hi => ?_, (h1 7).trans b, (h1 11).trans d⟩, ?_⟩
  · rw [h2 534 i (by decide) (by decide) (by decide), h2 535 i (by decide) (by decide) (by decide), h2 536 i (by decide) (by decide) (by decide)]
    exact a i hi
  · cases r with
    | inl e =>
      dsimp only at h ⊢
      rw [h1, h1, h1, h3]
      exact h
    | inr x =>
      obtain ⟨f1, f2, f3, f4, f5, f6, f7⟩ := h
      refine ⟨f1, f2, (h1 2).trans f3, (h1 3).trans f4, (h1 8).trans f5, h3.trans f6, fun k hk => (h2 538 k (by decide) (by decide) (by decide)).trans (f7 k hk)⟩
def LC (tp : Nat → Nat) (n c m : Nat) (μ : Mm) (st : (Nat × Nat) ⊕ (Nat × List Nat × LnT)) : Prop := match st with
  | .inl e => RC tp n c m μ (.inl e) ∧ ∃ q, q ≤ 16 ∧ μ.1 537 6 = nI q
  | .inr x => RC tp n c m μ (.inr (x.1, x.2.1)) ∧ x.2.2.length ≤ 16 ∧ μ.1 537 6 = nI x.2.2.length ∧ ∀ l, l < x.2.2.length → μ.1 539 l = nI (lnG x.2.2 l).1 ∧ μ.1 540 l = nI (lnG x.2.2 l).2.1 ∧ μ.1 541 l = nI (lnG x.2.2 l).2.2
theorem addLine_RC {μ : Mm} {r : PR} {q : Nat} {a b e : Int32} (h : RC tp n c m μ r) : RC tp n c m (sti (sti (sti (sti μ 539 q a) 540 q b) 541 q e) 537 6 (nI (q + 1))) r ∧ LF μ (sti (sti (sti (sti μ 539 q a) 540 q b) 541 q e) 537 6 (nI (q + 1))) := by
  refine ⟨h.o (fun k => ?_) (fun o k h1 h2 h3 => ?_) ?_, ?_, fun k _ _ _ => ?_⟩
  · rw [sti_n (by omega), sti_n (by omega), sti_n (by omega), sti_n (by omega)]
  · rw [sti_n (by omega), sti_n (by omega), sti_n (by omega), sti_n (by omega)]
  · rw [sti_n (by omega), sti_n (by omega), sti_n (by omega), sti_n (by omega)]
  · exact (((Out.rf.sti (by unfold EL; omega)).sti (by unfold EL; omega)).sti (by unfold EL; omega)).sti (by unfold EL; omega)
  · rw [sti_n (by omega), sti_n (by omega), sti_n (by omega), sti_n (by omega)]
theorem addLineF {μ : Mm} {e : Nat × Nat} {q : Nat} (h : RC tp n c m μ (.inl e)) (hq : q ≤ 16) (h6 : μ.1 537 6 = nI q) (a b : Int32) : ∃ μ2, Law_addLine (532 + 5) a b μ = some μ2 ∧ LC tp n c m μ2 (.inl e) ∧ LF μ μ2 := by
  rw [addLine_n h6 hq]
  by_cases y : q < 16
  · rw [if_pos y]
    obtain ⟨g1, g2⟩ := addLine_RC (q := q) (a := a) (b := b) (e := μ.1 537 5) h
    exact ⟨_, rfl, ⟨g1, q + 1, by omega, sti_e ⟨rfl, rfl⟩⟩, g2⟩
  · rw [if_neg y]
    exact ⟨μ, rfl, ⟨h, q, hq, h6⟩, LF.rf⟩
theorem c_j118F (H : Hyp tp n c m) {μ : Mm} {e : Nat × Nat} {q v1 : Nat} {kw v4 a b : Int32} (h : RC tp n c m μ (.inl e)) (hq : q ≤ 16) (h6 : μ.1 537 6 = nI q) : ∃ μ2, Reader_readLaw_j118 532 v1 kw v4 a b μ = some (.inl (v4 + nI 1, μ2)) ∧ LC tp n c m μ2 (.inl e) ∧ LF μ μ2 := by
  obtain ⟨m1, a1, a2, a3⟩ := c_rtake H h (k := 59) (by decide) (by decide)
  obtain ⟨m2, b1, b2, b3⟩ := addLineF (q := q) a2 hq (a3.2.1.trans h6) a b
  unfold Reader_readLaw_j118
  rw [a1, bnd_eq, b1, bnd_eq]
  exact ⟨m2, rfl, b2, a3.L.tr b3⟩
/-- behind the first word of a line, or behind a fault there -/
def tailL (v1 : Nat) (kw v4 : Int32) (μ3 : Mm) : Option ((Int32 × Mm) ⊕ Mm) := bnd (Reader_readSum 532 μ3) fun μ4 => bnd2 (Reader_takes 532 (nI 302) μ4) fun r6 μ5 => if r6 = 0 then Reader_readLaw_j118 532 v1 kw v4 (μ3.1 (532 + 5) 5) (μ4.1 (532 + 5) 5) μ5 else bnd ((Reader_readChoiceF 40) 532 (nI 0) μ5) fun μ9 => Reader_readLaw_j118 532 v1 kw v4 (μ3.1 (532 + 5) 5) (μ4.1 (532 + 5) 5) μ9
theorem c_tailF (H : Hyp tp n c m) {μ : Mm} {e : Nat × Nat} {q v1 : Nat} {kw v4 : Int32} (h : RC tp n c m μ (.inl e)) (hq : q ≤ 16) (h6 : μ.1 537 6 = nI q) : ∃ μ2, tailL v1 kw v4 μ = some (.inl (v4 + nI 1, μ2)) ∧ LC tp n c m μ2 (.inl e) ∧ LF μ μ2 := by
  obtain ⟨m1, a1, a2, a3⟩ := c_rsum H h
  obtain ⟨m2, b1, b2, b3⟩ := c_j118F H (v1 := v1) (kw := kw) (v4 := v4) (a := μ.1 (532 + 5) 5) (b := m1.1 (532 + 5) 5) a2 hq (a3.2.1.trans h6)
  unfold tailL
  rw [a1, bnd_eq, takes_f a2, bnd2_eq, if_00, b1]
  exact ⟨m2, rfl, b2, a3.L.tr b3⟩
def contL (K V : Nat → Nat) (m N kw f : Nat) (st : (Nat × Nat) ⊕ (Nat × List Nat × LnT)) : (Nat × Nat) ⊕ (List Nat × LnT) := bX st fun x => pLw K V m N kw f x.1 x.2.1 x.2.2
/-- the end of a line -/
theorem c_j118 (H : Hyp tp n c m) {μ : Mm} {r : PR} {D : LnT} {v1 : Nat} {kw v4 : Int32} {a b : Nat} (h : RC tp n c m μ r) (hD : D.length < 16) (h6 : μ.1 537 6 = nI D.length) (hl : ∀ l, l < D.length → μ.1 539 l = nI (lnG D l).1 ∧ μ.1 540 l = nI (lnG D l).2.1 ∧ μ.1 541 l = nI (lnG D l).2.2) : ∃ μ2, Reader_readLaw_j118 532 v1 kw v4 (nI a) (nI b) μ = some (.inl (v4 + nI 1, μ2)) ∧ LC tp n c m μ2 (bX (bR r (tkR (Kd tp n) 59)) fun x => .inr (x.1, x.2, D ++ [(a, b, x.2.length)])) ∧ LF μ μ2 := by
  obtain ⟨m1, a1, a2, a3⟩ := c_rtake H h (k := 59) (by decide) (by decide)
  have e6 : m1.1 537 6 = nI D.length := a3.2.1.trans h6
  have el : ∀ o, 539 ≤ o → o ≤ 541 → ∀ k, m1.1 o k = μ.1 o k := fun o h1 h2 k => (a3.1 o (by unfold ERd; omega)).1 k
  unfold Reader_readLaw_j118
  rw [a1, bnd_eq]
  generalize bR r (tkR (Kd tp n) 59) = r4 at a2 ⊢
  cases r4 with
  | inl e =>
    obtain ⟨m2, b1, b2, b3⟩ := addLineF (q := D.length) a2 (by omega) e6 (nI a) (nI b)
    rw [b1, bnd_eq]
    exact ⟨m2, rfl, b2, a3.L.tr b3⟩
  | inr x =>
    obtain ⟨i, L⟩ := x
    obtain ⟨g1, g2⟩ := addLine_RC (q := D.length) (a := nI a) (b := nI b) (e := m1.1 537 5) a2
    have e5 : m1.1 537 5 = nI L.length := a2.2.2.2.2.2.2.1
    rw [addLine_n e6 (by omega), if_pos hD, bnd_eq]
    refine ⟨_, rfl, ⟨g1, ?_, ?_, fun l hl2 => ?_⟩, a3.L.tr g2⟩
    · show (D ++ [(a, b, L.length)]).length ≤ 16
      rw [lnl_1]
      omega
    · show (sti _ _ _ _).1 537 6 = nI (D ++ [(a, b, L.length)]).length
      rw [lnl_1, sti_e ⟨rfl, rfl⟩]
    · have hl2 : l < (D ++ [(a, b, L.length)]).length := hl2
      rw [lnl_1] at hl2
      show (sti _ _ _ _).1 539 l = nI (lnG (D ++ [(a, b, L.length)]) l).1 ∧ (sti _ _ _ _).1 540 l = nI (lnG (D ++ [(a, b, L.length)]) l).2.1 ∧ (sti _ _ _ _).1 541 l = nI (lnG (D ++ [(a, b, L.length)]) l).2.2
      by_cases y : l = D.length
      · rw [y, lnG_e]
        refine ⟨?_, ?_, ?_⟩
        · rw [sti_n (by omega), sti_n (by omega), sti_n (by omega), sti_e ⟨rfl, rfl⟩]
        · rw [sti_n (by omega), sti_n (by omega), sti_e ⟨rfl, rfl⟩]
        · rw [sti_n (by omega), sti_e ⟨rfl, rfl⟩, e5]
      · rw [lnG_l (by omega)]
        obtain ⟨z1, z2, z3⟩ := hl l (by omega)
        refine ⟨?_, ?_, ?_⟩
        · rw [sti_n (by omega), sti_n (by omega), sti_n (by omega), sti_n (by omega), el 539 (by decide) (by decide)]
          exact z1
        · rw [sti_n (by omega), sti_n (by omega), sti_n (by omega), sti_n (by omega), el 540 (by decide) (by decide)]
          exact z2
        · rw [sti_n (by omega), sti_n (by omega), sti_n (by omega), sti_n (by omega), el 541 (by decide) (by decide)]
          exact z3
/-- one line -/
theorem c_line (H : Hyp tp n c m) {μ : Mm} {i : Nat} {L : List Nat} {D : LnT} {v1 kw k f : Nat} (h : LC tp n c m μ (.inr (i, L, D))) (hk : k < c + 1) (hkw : kw < 2 ^ 31) (hkw2 : kw ≠ 256) (h256 : Kd tp n i ≠ 256) : ∃ μ2 st, Reader_readLaw_l15 532 v1 (nI kw) (nI k) μ = some (.inl (nI (k + 1), μ2)) ∧ LC tp n c m μ2 st ∧ LF μ μ2 ∧ pLw (Kd tp n) (Vd tp n) m (c + 1) kw (f + 1) i L D = contL (Kd tp n) (Vd tp n) m (c + 1) kw f st := by
  have hc : c ≤ 400 := Nat.le_trans H.2.1 H.1
  obtain ⟨h, hD, h6, hl⟩ := h
  have h : RC tp n c m μ (.inr (i, L)) := h
  have hD : D.length ≤ 16 := hD
  have h6 : μ.1 537 6 = nI D.length := h6
  have hl : ∀ l, l < D.length → μ.1 539 l = nI (lnG D l).1 ∧ μ.1 540 l = nI (lnG D l).2.1 ∧ μ.1 541 l = nI (lnG D l).2.2 := hl
  have kb := Kd_b (i := i) H.2.2.2.2.1
  have j76 : ∀ m2, Reader_readLaw_j76 532 v1 (nI kw) (nI k) m2 = bnd (Reader_take 532 (nI kw) m2) fun μ3 => tailL v1 (nI kw) (nI k) μ3 := fun m2 => rfl
  have e0 : Reader_readLaw_l15 532 v1 (nI kw) (nI k) μ = if nI (Kd tp n i) = nI kw then (if nI D.length = nI 16 then bnd (Reader_fail 532 (nI 3) μ) fun μ10 => Reader_readLaw_j76 532 v1 (nI kw) (nI k) μ10 else Reader_readLaw_j76 532 v1 (nI kw) (nI k) μ) else Reader_readLaw_j76 532 v1 (nI kw) (nI k) μ := by
    unfold Reader_readLaw_l15
    rw [RC.cnt h, if_neg (nI_ge hk (by omega)), RC.ok h, if_00, RC.kk H h _ rfl, RC.kk H h _ rfl]
    rw [show μ.1 (532 + 2) (ix (μ.1 532 8)) = nI (Kd tp n i) from RC.kd H h, if_neg (fun z => h256 ((nI_eq (by omega) (by decide)).1 z)), show μ.1 (532 + 5) 6 = nI D.length from h6]
  have ep : pLw (Kd tp n) (Vd tp n) m (c + 1) kw (f + 1) i L D = if Kd tp n i = kw ∧ D.length = 16 then .inl (3, i) else bX (tkR (Kd tp n) kw i L) fun x1 => bX (pS (Kd tp n) (Vd tp n) m (c + 1) x1.1 x1.2) fun x2 => bX (pWh (Kd tp n) (Vd tp n) m (c + 1) x2.1 x2.2) fun x3 => bX (tkR (Kd tp n) 59 x3.1 x3.2) fun x4 => pLw (Kd tp n) (Vd tp n) m (c + 1) kw f x4.1 x4.2 (D ++ [(L.length, x2.2.length, x4.2.length)]) := by
    show (if Kd tp n i = 256 then _ else _) = _
    rw [if_neg h256]
  rw [e0, ep]
  by_cases c1 : Kd tp n i = kw
  · rw [if_pos (by rw [c1])]
    by_cases c2 : D.length = 16
    · obtain ⟨m1, a1, a2, a3⟩ := c_rfail H h (e := 3) (Or.inr (Or.inr rfl))
      have a2 : RC tp n c m m1 (.inl (3, i)) := a2
      obtain ⟨m2, b1, b2, b3⟩ := c_rtake H a2 hkw hkw2
      obtain ⟨m3, d1, d2, d3⟩ := c_tailF H (v1 := v1) (kw := nI kw) (v4 := nI k) b2 (q := D.length) hD ((b3.2.1.trans a3.2.1).trans h6)
      refine ⟨m3, .inl (3, i), ?_, d2, a3.L.tr (b3.L.tr d3), ?_⟩
      · rw [if_pos (by rw [c2]), a1, bnd_eq, j76, b1, bnd_eq, d1, nI_add]
      · rw [if_pos ⟨c1, c2⟩]
        rfl
    · rw [if_neg (fun z => c2 ((nI_eq (by omega) (by decide)).1 z)), if_neg (fun z => c2 z.2), j76]
      obtain ⟨m1, a1, a2, a3⟩ := c_rtake H h hkw hkw2
      have eT : tkR (Kd tp n) kw i L = .inr (i + 1, L) := if_pos c1
      rw [show bR (.inr (i, L)) (tkR (Kd tp n) kw) = (.inr (i + 1, L) : PR) from eT] at a2
      rw [a1, bnd_eq, eT]
      show ∃ μ2 st, _ ∧ _ ∧ _ ∧ (bX (pS (Kd tp n) (Vd tp n) m (c + 1) (i + 1) L) fun x2 => bX (pWh (Kd tp n) (Vd tp n) m (c + 1) x2.1 x2.2) fun x3 => bX (tkR (Kd tp n) 59 x3.1 x3.2) fun x4 => pLw (Kd tp n) (Vd tp n) m (c + 1) kw f x4.1 x4.2 (D ++ [(L.length, x2.2.length, x4.2.length)])) = _
      obtain ⟨m2, b1, b2, b3⟩ := c_rsum H a2
      have b2 : RC tp n c m m2 (pS (Kd tp n) (Vd tp n) m (c + 1) (i + 1) L) := b2
      have f6 : m2.1 537 6 = nI D.length := (b3.2.1.trans a3.2.1).trans h6
      have fl : ∀ l, l < D.length → m2.1 539 l = nI (lnG D l).1 ∧ m2.1 540 l = nI (lnG D l).2.1 ∧ m2.1 541 l = nI (lnG D l).2.2 := fun l hl2 => by
        have q : ∀ o, 539 ≤ o → o ≤ 541 → ∀ k, m2.1 o k = μ.1 o k := fun o h1 h2 k => ((b3.1 o (by unfold ERd; omega)).1 k).trans ((a3.1 o (by unfold ERd; omega)).1 k)
        rw [q 539 (by decide) (by decide), q 540 (by decide) (by decide), q 541 (by decide) (by decide)]
        exact hl l hl2
      have e5 : m1.1 (532 + 5) 5 = nI L.length := a2.2.2.2.2.2.2.1
      unfold tailL
      rw [b1, bnd_eq, e5]
      generalize pS (Kd tp n) (Vd tp n) m (c + 1) (i + 1) L = r2 at b2 ⊢
      cases r2 with
      | inl e =>
        obtain ⟨m3, d1, d2, d3⟩ := c_j118F H (v1 := v1) (kw := nI kw) (v4 := nI k) (a := nI L.length) (b := m2.1 (532 + 5) 5) b2 hD f6
        refine ⟨m3, .inl e, ?_, d2, a3.L.tr (b3.L.tr d3), rfl⟩
        rw [takes_f b2, bnd2_eq, if_00, d1, nI_add]
      | inr x2 =>
        obtain ⟨i2, L2⟩ := x2
        have e6 : m2.1 (532 + 5) 5 = nI L2.length := b2.2.2.2.2.2.2.1
        show ∃ μ2 st, _ ∧ _ ∧ _ ∧ (bX (pWh (Kd tp n) (Vd tp n) m (c + 1) i2 L2) fun x3 => bX (tkR (Kd tp n) 59 x3.1 x3.2) fun x4 => pLw (Kd tp n) (Vd tp n) m (c + 1) kw f x4.1 x4.2 (D ++ [(L.length, L2.length, x4.2.length)])) = _
        rw [e6]
        have hw : ∃ m3, (bnd2 (Reader_takes 532 (nI 302) m2) fun r6 μ5 => if r6 = 0 then Reader_readLaw_j118 532 v1 (nI kw) (nI k) (nI L.length) (nI L2.length) μ5 else bnd ((Reader_readChoiceF 40) 532 (nI 0) μ5) fun μ9 => Reader_readLaw_j118 532 v1 (nI kw) (nI k) (nI L.length) (nI L2.length) μ9) = Reader_readLaw_j118 532 v1 (nI kw) (nI k) (nI L.length) (nI L2.length) m3 ∧ RC tp n c m m3 (pWh (Kd tp n) (Vd tp n) m (c + 1) i2 L2) ∧ RF m2 m3 := by
          unfold pWh
          by_cases c3 : Kd tp n i2 = 302
          · obtain ⟨m3, d1, d2, d3⟩ := takes_y H b2 c3 (by decide)
            obtain ⟨m4, p1, p2, p3⟩ := c_rcond H d2
            rw [if_pos c3, d1, bnd2_eq, if_10, p1, bnd_eq]
            exact ⟨m4, rfl, p2, d3.tr p3⟩
          · rw [if_neg c3, takes_n H b2 (by decide) c3, bnd2_eq, if_00]
            exact ⟨m2, rfl, b2, RF.rf⟩
        obtain ⟨m3, d1, d2, d3⟩ := hw
        have g6 : m3.1 537 6 = nI D.length := d3.2.1.trans f6
        have gl : ∀ l, l < D.length → m3.1 539 l = nI (lnG D l).1 ∧ m3.1 540 l = nI (lnG D l).2.1 ∧ m3.1 541 l = nI (lnG D l).2.2 := fun l hl2 => by
          have q : ∀ o, 539 ≤ o → o ≤ 541 → ∀ k, m3.1 o k = m2.1 o k := fun o h1 h2 k => (d3.1 o (by unfold ERd; omega)).1 k
          rw [q 539 (by decide) (by decide), q 540 (by decide) (by decide), q 541 (by decide) (by decide)]
          exact fl l hl2
        obtain ⟨m4, p1, p2, p3⟩ := c_j118 H (v1 := v1) (kw := nI kw) (v4 := nI k) (a := L.length) (b := L2.length) d2 (by omega) g6 gl
        refine ⟨m4, _, ?_, p2, a3.L.tr (b3.L.tr (d3.L.tr p3)), ?_⟩
        · rw [d1, p1, nI_add]
        · generalize pWh (Kd tp n) (Vd tp n) m (c + 1) i2 L2 = r3
          cases r3 with
          | inl e => rfl
          | inr x3 =>
            show bX (tkR (Kd tp n) 59 x3.1 x3.2) _ = contL _ _ _ _ _ _ (bX (tkR (Kd tp n) 59 x3.1 x3.2) _)
            cases tkR (Kd tp n) 59 x3.1 x3.2 with
            | inl e => rfl
            | inr x4 => rfl
  · rw [if_neg (fun z => c1 ((nI_eq (by omega) hkw).1 z)), if_neg (fun z => c1 z.1), j76]
    obtain ⟨m1, a1, a2, a3⟩ := c_rtake H h hkw hkw2
    have eT : tkR (Kd tp n) kw i L = .inl (1, i) := if_neg c1
    rw [show bR (.inr (i, L)) (tkR (Kd tp n) kw) = (.inl (1, i) : PR) from eT] at a2
    obtain ⟨m3, d1, d2, d3⟩ := c_tailF H (v1 := v1) (kw := nI kw) (v4 := nI k) a2 (q := D.length) hD (a3.2.1.trans h6)
    refine ⟨m3, .inl (1, i), ?_, d2, a3.L.tr d3, ?_⟩
    · rw [a1, bnd_eq, d1, nI_add]
    · rw [eT]
      rfl
/-- all lines -/
theorem c_lines (H : Hyp tp n c m) {μ : Mm} {v1 kw : Nat} (h : LC tp n c m μ (.inr (0, [], []))) (hkw : kw < 2 ^ 31) (hkw2 : kw ≠ 256) : ∃ μ2 st, iter 1000000 (fun s => Reader_readLaw_l15 532 v1 (nI kw) s.1 s.2) (nI 0, μ) = some μ2 ∧ LC tp n c m μ2 st ∧ LF μ μ2 ∧ pLw (Kd tp n) (Vd tp n) m (c + 1) kw (c + 1) 0 [] [] = bX st fun x => .inr (x.2.1, x.2.2) := by
  have hc : c ≤ 400 := Nat.le_trans H.2.1 H.1
  have key := iter_inv (f := fun s : Int32 × Mm => Reader_readLaw_l15 532 v1 (nI kw) s.1 s.2)
    (fun k s => s.1 = nI k ∧ LF μ s.2 ∧ ∃ st, LC tp n c m s.2 st ∧ pLw (Kd tp n) (Vd tp n) m (c + 1) kw (c + 1) 0 [] [] = contL (Kd tp n) (Vd tp n) m (c + 1) kw (c + 1 - k) st)
    (fun x => LF μ x ∧ ∃ st, LC tp n c m x st ∧ pLw (Kd tp n) (Vd tp n) m (c + 1) kw (c + 1) 0 [] [] = bX st fun x => .inr (x.2.1, x.2.2)) (c + 1) ?_ ?_ 1000000 (nI 0, μ) ⟨rfl, LF.rf, _, h, rfl⟩ (by omega)
  · obtain ⟨x, k1, k2, st, k3, k4⟩ := key
    exact ⟨x, st, k1, k3, k2, k4⟩
  · rintro k ⟨s1, m1⟩ hk ⟨rfl, f1, st, g1, g2⟩
    have f1 : LF μ m1 := f1
    have g1 : LC tp n c m m1 st := g1
    cases st with
    | inl e =>
      right
      refine ⟨m1, ?_, f1, .inl e, g1, g2⟩
      show Reader_readLaw_l15 _ _ _ _ _ = _
      unfold Reader_readLaw_l15
      rw [RC.cnt g1.1, if_neg (nI_ge hk (by omega)), if_neg (RC.bad g1.1)]
    | inr x =>
      obtain ⟨i, L, D⟩ := x
      rw [show c + 1 - k = c - k + 1 by omega] at g2
      have g2 : pLw (Kd tp n) (Vd tp n) m (c + 1) kw (c + 1) 0 [] [] = pLw (Kd tp n) (Vd tp n) m (c + 1) kw (c - k + 1) i L D := g2
      by_cases c1 : Kd tp n i = 256
      · right
        have h0 : RC tp n c m m1 (.inr (i, L)) := g1.1
        refine ⟨m1, ?_, f1, .inr (i, L, D), g1, ?_⟩
        · show Reader_readLaw_l15 _ _ _ _ _ = _
          unfold Reader_readLaw_l15
          rw [RC.cnt h0, if_neg (nI_ge hk (by omega)), RC.ok h0, if_00, RC.kk H h0 _ rfl]
          rw [show m1.1 (532 + 2) (ix (m1.1 532 8)) = nI (Kd tp n i) from RC.kd H h0, if_pos (by rw [c1])]
        · rw [g2]
          show (if Kd tp n i = 256 then _ else _) = _
          rw [if_pos c1]
          rfl
      · left
        obtain ⟨m2, st2, a1, a2, a3, a4⟩ := c_line H (v1 := v1) (f := c - k) g1 hk hkw hkw2 c1
        exact ⟨(nI (k + 1), m2), a1, rfl, f1.tr a3, st2, a2, by rw [g2, a4, show c + 1 - (k + 1) = c - k by omega]⟩
  · rintro ⟨s1, m1⟩ ⟨rfl, f1, st, g1, g2⟩
    have g1 : LC tp n c m m1 st := g1
    have cn : m1.1 532 7 = nI (c + 1) := by
      cases st with
      | inl e => exact RC.cnt g1.1
      | inr x => exact RC.cnt g1.1
    refine ⟨m1, ?_, f1, st, g1, ?_⟩
    · show Reader_readLaw_l15 _ _ _ _ _ = _
      unfold Reader_readLaw_l15
      rw [cn, if_pos (nI_le (Nat.le_refl _) (by omega))]
    · rw [g2, Nat.sub_self]
      cases st with
      | inl e => rfl
      | inr x => rfl
end
