/-! THE CHECK READS: laws -/
def EMl (o k : Nat) : Prop := EMa o k ∨ ((14 ≤ o ∧ o ≤ 16) ∧ 32 ≤ k)
section
variable {tp : Nat → Nat} {n c w : Nat}
theorem m_any (H : Hyp tp n c (mW w)) {i : Nat} {L : List Nat} {ν : Mm} (hs : RMs tp n w ν) (h : RM tp n c ν i L) (h35 : ν.1 0 35 = nI 0) (hl : L.length ≤ i) : ∃ ν2, M_readAny ν = some (cdR (pKo (Kd tp n) (c + 1) (pT (Kd tp n) (Vd tp n) (mW w) (c + 1) 8) i L), ν2) ∧ RMo tp n c ν2 (pKo (Kd tp n) (c + 1) (pT (Kd tp n) (Vd tp n) (mW w) (c + 1) 8) i L) ∧ (∀ x, pKo (Kd tp n) (c + 1) (pT (Kd tp n) (Vd tp n) (mW w) (c + 1) 8) i L = .inr x → ν2.1 0 35 = nI 0) ∧ OutM EMa ν ν2 := by
  have hc : c ≤ 400 := Nat.le_trans H.2.1 H.1
  have i0 := h.2.1
  have o1 : OutM Epa ν (sti ν 0 37 (nI 0)) := OutM.rf.sti (by unfold Epa; omega)
  have pd : PD (sti ν 0 37 (nI 0)) (8 - 8) [] := ⟨by rw [sti_n (by omega)]; exact h35, sti_e ⟨rfl, rfl⟩, Nat.zero_le _, fun k hk => absurd hk (Nat.not_lt_zero k)⟩
  have C := m_cond H (b := 0) (Nat.le_refl 8) (m_test H 8 (Nat.le_refl 8)) (pT_ok (K := Kd tp n) (V := Vd tp n) (m := mW w) H.E H.V H.2.2.2.2.2 8) (B := []) ⟨Or.inl rfl, Or.inl rfl, Or.inl rfl⟩ (Nat.zero_le _) (Nat.zero_le _) (hs.oa o1.pa) (h.pa o1) pd hl
  have gr := pKo8_ok (K := Kd tp n) (V := Vd tp n) (m := mW w) H.E H.V H.2.2.2.2.2 (show i < c + 1 by omega) L
  unfold M_readAny
  rw [lt_eq]
  generalize pKo (Kd tp n) (c + 1) (pT (Kd tp n) (Vd tp n) (mW w) (c + 1) 8) i L = r at C gr ⊢
  cases r with
  | inl e =>
    obtain ⟨s, ν2, x, q1, q2, q3, q4, q5⟩ := C
    have e1 := q2 (1000000 - s - 1)
    rw [show 1000000 - s - 1 + s + 1 = 1000000 by omega] at e1
    refine ⟨ν2, ?_, q4, fun x y => (nomatch y), o1.pa.tr q5⟩
    rw [show iter 1000000 (fun s => M_readAny_l9 s.1 s.2.1 s.2.2) (nI 0, nI 1, sti ν 0 37 (nI 0)) = some x from e1, bni_eq]
    exact q3
  | inr x =>
    obtain ⟨j, l⟩ := x
    obtain ⟨s, ν2, Lr, e, a, q1, q2, q3, q4, q5, q6, q7, q8, q9⟩ := C
    obtain ⟨g1, g2, g3, g4, g5⟩ := gr
    have g2 : j < c + 1 := g2
    have q1 : s + i ≤ j := q1
    have q3 : RM tp n c ν2 j Lr := q3
    have q6 : l = orL e (Lr ++ bL a 20304) := q6
    have q7 : Lr.length + bI a + bI e ≤ j := q7
    have q8 : Kd tp n j ≠ 304 := q8
    have q9 : Kd tp n j ≠ 303 := q9
    have v4 := m_isWo q3.1 (j := 4) (w := 4) (by decide) rfl
    have v3 := m_isWo q3.1 (j := 3) (w := 3) (by decide) rfl
    rw [if_neg q8] at v4
    rw [if_neg q9] at v3
    obtain ⟨p1, y1, y2, y3, y4, p2, z1, z2, z3, z4⟩ := m_settle2 (B := []) ⟨Or.inl rfl, Or.inl rfl⟩ q3 q4 (by omega)
    rw [← q6] at z2
    have e1 : fA (nI 0, nI 0, ν2) = some (.inr (Sum.inr (Sum.inr (Sum.inl p2)))) := by
      show M_readAny_l9 (nI 0) (nI 0) ν2 = _
      unfold M_readAny_l9
      rw [if_00, v4, bnd_eq, if_00, v3, bnd_eq, if_00, y1, bnd_eq, z1, bnd_eq, if_00]
    have e2 := (q2 (1000000 - s)).trans (show iter (1000000 - s) fA (nI 0, nI 0, ν2) = some (Sum.inr (Sum.inr (Sum.inl p2))) from by
      rw [show 1000000 - s = (1000000 - s - 1) + 1 by omega]
      exact iter_inr e1)
    rw [show 1000000 - s + s = 1000000 by omega] at e2
    refine ⟨p2, ?_, z2, fun x y => z3.1, o1.pa.tr (q5.tr z4)⟩
    rw [show iter 1000000 (fun s => M_readAny_l9 s.1 s.2.1 s.2.2) (nI 0, nI 1, sti ν 0 37 (nI 0)) = some _ from e2, bni_eq]
    rfl
/-- the draft's lines -/
def dLn (ν : Mm) (D : LnT) : Prop := ∀ l, l < D.length → ν.1 14 (32 + l) = nI (lnG D l).1 ∧ ν.1 15 (32 + l) = nI (lnG D l).2.1 ∧ ν.1 16 (32 + l) = nI (lnG D l).2.2
theorem dLn.oa {ν ν2 : Mm} {D : LnT} (h : dLn ν D) (ho : OutM EMa ν ν2) : dLn ν2 D := fun l hl => by
  rw [ho _ _ (by unfold EMa EMr Epa; omega), ho _ _ (by unfold EMa EMr Epa; omega), ho _ _ (by unfold EMa EMr Epa; omega)]
  exact h l hl
theorem RM.ln {ν : Mm} {i o k : Nat} {L : List Nat} {v : Int32} (h : RM tp n c ν i L) (ho : o = 14 ∨ o = 15 ∨ o = 16) : RM tp n c (sti ν o k v) i L := by
  obtain ⟨⟨h1, h2, h3⟩, h4, h5, h6⟩ := h
  refine ⟨⟨by rw [sti_n (by omega)]; exact h1, by rw [sti_n (by omega)]; exact h2, ?_⟩, h4, by rw [sti_n (by omega)]; exact h5, fun k hk => ?_⟩
  · rw [sti_n (by omega), sti_n (by omega)]
    exact h3
  · rw [sti_n (by omega), sti_n (by omega)]
    exact h6 k hk
theorem RMs.ln {ν : Mm} {o k : Nat} {v : Int32} (h : RMs tp n w ν) (ho : o = 14 ∨ o = 15 ∨ o = 16) : RMs tp n w (sti ν o k v) := ⟨h.1.out (OutM.rf.sti (E := fun o _ => o = 14 ∨ o = 15 ∨ o = 16) ho) (by decide) (fun k => by decide), h.2.1.out (OutM.rf.sti (E := fun o _ => o = 14 ∨ o = 15 ∨ o = 16) ho) (fun k => by decide), by rw [sti_n (by omega)]; exact h.2.2.1, h.2.2.2⟩
def fLw (x : Mm ⊕ (Mm ⊕ (Mm ⊕ (Mm ⊕ (Int32 × Mm))))) : Option (Int32 × Mm) := (Sum.elim (fun x2a =>
    bnd2 (M_errs (nI 3) x2a) fun r15 μ14 =>
    some (r15, μ14))
    (Sum.elim (fun x2b =>
      some ((-1), x2b))
      (Sum.elim (fun x2c =>
        some ((-1), x2c))
        (Sum.elim (fun x2d =>
          bnd2 (M_errs (nI 1) x2d) fun r17 μ16 =>
          some (r17, μ16))
          (fun x2e =>
            if (x2e.2.1 0 24) = 0 then
              some (x2e.1, x2e.2)
            else
              bnd2 (M_errs (nI 1) x2e.2) fun r19 μ18 =>
              some (r19, μ18)))))) x
theorem fLw_3 {m1 m2 : Mm} {e : Int32} (h : M_errs (nI 3) m1 = some (e, m2)) : fLw (Sum.inl m1) = some (e, m2) := by
  unfold fLw
  rw [Sum.elim_inl, h, bnd2_eq]
theorem fLw_1 {m1 m2 : Mm} {e : Int32} (h : M_errs (nI 1) m1 = some (e, m2)) : fLw (Sum.inr (Sum.inr (Sum.inr (Sum.inl m1)))) = some (e, m2) := by
  unfold fLw
  rw [Sum.elim_inr, Sum.elim_inr, Sum.elim_inr, Sum.elim_inl, h, bnd2_eq]
theorem fLw_e {m1 m2 : Mm} {e v : Int32} (h : M_errs (nI 1) m1 = some (e, m2)) (h2 : ¬ m1.1 0 24 = 0) : fLw (Sum.inr (Sum.inr (Sum.inr (Sum.inr (v, m1))))) = some (e, m2) := by
  unfold fLw
  rw [Sum.elim_inr, Sum.elim_inr, Sum.elim_inr, Sum.elim_inr, if_neg h2, h, bnd2_eq]
theorem fLw_0 {m1 : Mm} {v : Int32} (h2 : m1.1 0 24 = 0) : fLw (Sum.inr (Sum.inr (Sum.inr (Sum.inr (v, m1))))) = some (v, m1) := by
  unfold fLw
  rw [Sum.elim_inr, Sum.elim_inr, Sum.elim_inr, Sum.elim_inr, if_pos h2]
/-- what a law's lines come to -/
def LwO (tp : Nat → Nat) (n c : Nat) (x : Option (Int32 × Mm)) (ν : Mm) (r : (Nat × Nat) ⊕ (List Nat × LnT)) : Prop := match r with
  | .inl e => x = some (-1, ν) ∧ ν.1 0 38 = nI e.1 ∧ ν.1 0 39 = nI (plc tp n e.2)
  | .inr y => x = some (nI y.2.length, ν) ∧ ν.1 0 34 = nI y.1.length ∧ (∀ k, k < y.1.length → ν.1 17 (800 + k) = nI (opOf (gF y.1 k)) ∧ ν.1 18 (800 + k) = nI (argOf (gF y.1 k))) ∧ dLn ν y.2
theorem m_lawL (H : Hyp tp n c (mW w)) (f : Nat) : ∀ i L D ν, RMs tp n w ν → RM tp n c ν i L → ν.1 0 35 = nI 0 → D.length ≤ 16 → dLn ν D → L.length ≤ i → c + 1 ≤ i + f → ∀ q, f ≤ q → ∃ x ν2, iter q (fun s => M_readLaw_l2 s.1 s.2) (nI D.length, ν) = some x ∧ LwO tp n c (fLw x) ν2 (pLw (Kd tp n) (Vd tp n) (mW w) (c + 1) (300 + w) f i L D) ∧ OutM EMl ν ν2 := by
  have hc : c ≤ 400 := Nat.le_trans H.2.1 H.1
  induction f with
  | zero =>
    intro i L D ν hs h h35 hD hd hl hf
    have := h.2.1
    omega
  | succ f ih =>
    intro i L D ν hs h h35 hD hd hl hf q hq
    obtain ⟨q, rfl⟩ : ∃ p, q = p + 1 := ⟨q - 1, by omega⟩
    have i0 := h.2.1
    have w2 := hs.2.2.2
    have isL : M_isLineWord ν = some (if Kd tp n i = 300 + w then nI 1 else nI 0) := by
      have wj := m_isWo h.1 (j := w) (w := w) (by omega) (by unfold wM; rw [if_pos (by omega)])
      have j13 : M_isLineWord_j13 (nI w) ν = some (if Kd tp n i = 300 + w then nI 1 else nI 0) := by
        unfold M_isLineWord_j13
        rw [wj, bnd_eq]
        split
        · rw [chk_ok (show nI 1 = 0 ∨ nI 1 = 1 from Or.inr rfl)]
        · rw [chk_ok (show nI 0 = 0 ∨ nI 0 = 1 from Or.inl rfl)]
      unfold M_isLineWord
      rw [hs.2.2.1]
      by_cases y : w = 0
      · subst y
        rw [if_00]
        exact j13
      · have : w = 1 := by omega
        subst this
        rw [if_10]
        exact j13
    show ∃ x ν2, _ ∧ LwO tp n c (fLw x) ν2 (if Kd tp n i = 256 then .inr (L, D) else if Kd tp n i = 300 + w ∧ D.length = 16 then .inl (3, i) else bX (tkR (Kd tp n) (300 + w) i L) fun x1 => bX (pS (Kd tp n) (Vd tp n) (mW w) (c + 1) x1.1 x1.2) fun x2 => bX (pWh (Kd tp n) (Vd tp n) (mW w) (c + 1) x2.1 x2.2) fun x3 => bX (tkR (Kd tp n) 59 x3.1 x3.2) fun x4 => pLw (Kd tp n) (Vd tp n) (mW w) (c + 1) (300 + w) f x4.1 x4.2 (D ++ [(L.length, x2.2.length, x4.2.length)])) ∧ _
    by_cases c1 : Kd tp n i = 300 + w
    · rw [if_pos c1] at isL
      rw [if_neg (show ¬ Kd tp n i = 256 by omega)]
      by_cases c2 : D.length = 16
      · rw [if_pos ⟨c1, c2⟩]
        obtain ⟨m1, a1, a2, a3⟩ := m_errs H h 3
        have e0 : M_readLaw_l2 (nI D.length) ν = some (.inr (Sum.inl ν)) := by
          unfold M_readLaw_l2
          rw [isL, bnd_eq, if_10, if_pos (by rw [c2])]
        exact ⟨_, m1, iter_inr e0, ⟨fLw_3 a1, a2.1, a2.2⟩, a3.mono (fun o k z => Or.inl (Or.inl z))⟩
      · rw [if_neg (fun z => c2 z.2), show tkR (Kd tp n) (300 + w) i L = .inr (i + 1, L) from if_pos c1]
        have i1 := H.E i (by omega) (by omega)
        obtain ⟨m1, a1, a2, a3⟩ := m_next H hs h (by omega)
        have hs1 := hs.o a3
        -- where its steps begin
        have e14 : M_readLaw_l2 (nI D.length) ν = bnd2 (M_readSum (sti m1 14 (32 + D.length) (nI L.length))) fun r5 μ4 => if r5 = (-1) then some (.inr (Sum.inr (Sum.inl μ4))) else chv ((nI 32) + nI D.length) 48 <| lt (sti μ4 15 (ix ((nI 32) + nI D.length)) (μ4.1 0 34)) fun μ6 => bnd (M_isWord (nI 2) μ6) fun r7 => if r7 = 0 then M_readLaw_j82 (nI D.length) ((nI 32) + nI D.length) μ6 else bnd (M_reads μ6) fun μ11 => bnd2 (M_readAny μ11) fun r13 μ12 => if r13 = (-1) then some (.inr (Sum.inr (Sum.inr (Sum.inl μ12)))) else M_readLaw_j82 (nI D.length) ((nI 32) + nI D.length) μ12 := by
          unfold M_readLaw_l2
          rw [isL, bnd_eq, if_10, if_neg (fun z => c2 ((nI_eq (by omega) (by decide)).1 z)), a1, bnd_eq, nI_add, chv_nI (by omega) (by decide), ix_nI (by omega), lt_eq, a2.2.2.1]
        obtain ⟨m2, b1, b2, b3⟩ := m_sum H (hs1.ln (k := 32 + D.length) (v := nI L.length) (Or.inl rfl)) (a2.ln (k := 32 + D.length) (v := nI L.length) (Or.inl rfl)) (by omega)
        have gr := pS_ok (K := Kd tp n) (V := Vd tp n) (m := mW w) H.E H.V H.2.2.2.2.2 i1 L
        have f2 : OutM EMl ν m2 := (a3.mono (fun o k z => Or.inl (Or.inl z))).tr ((OutM.rf.sti (E := EMl) (by unfold EMl; omega)).tr (b3.mono (fun o k z => Or.inl (Or.inl z))))
        rw [b1, bnd2_eq] at e14
        show ∃ x ν2, _ ∧ LwO tp n c (fLw x) ν2 (bX (pS (Kd tp n) (Vd tp n) (mW w) (c + 1) (i + 1) L) fun x2 => bX (pWh (Kd tp n) (Vd tp n) (mW w) (c + 1) x2.1 x2.2) fun x3 => bX (tkR (Kd tp n) 59 x3.1 x3.2) fun x4 => pLw (Kd tp n) (Vd tp n) (mW w) (c + 1) (300 + w) f x4.1 x4.2 (D ++ [(L.length, x2.2.length, x4.2.length)])) ∧ _
        have m14 : m2.1 14 (32 + D.length) = nI L.length := by
          rw [b3 _ _ (by unfold EMr; omega), sti_e ⟨rfl, rfl⟩]
        have m35 : m2.1 0 35 = nI 0 := by
          rw [b3 _ _ (by unfold EMr; omega), sti_n (by omega), a3 _ _ (by unfold EMr; omega)]
          exact h35
        have md : dLn m2 D := fun l hl2 => by
          rw [b3 _ _ (by unfold EMr; omega), sti_n (by omega), a3 _ _ (by unfold EMr; omega), b3 _ _ (by unfold EMr; omega), sti_n (by omega), a3 _ _ (by unfold EMr; omega), b3 _ _ (by unfold EMr; omega), sti_n (by omega), a3 _ _ (by unfold EMr; omega)]
          exact hd l hl2
        generalize pS (Kd tp n) (Vd tp n) (mW w) (c + 1) (i + 1) L = r at b2 gr e14 ⊢
        cases r with
        | inl e =>
          rw [cd_inl, if_pos rfl] at e14
          exact ⟨_, m2, iter_inr e14, ⟨rfl, b2.1, b2.2⟩, f2⟩
        | inr x =>
          obtain ⟨j, l⟩ := x
          obtain ⟨g1, g2, g3, g4, g5⟩ := gr
          have g1 : i + 1 < j := g1
          have g2 : j < c + 1 := g2
          have g3 : l.length + (i + 1) ≤ L.length + j := g3
          have b2 : RM tp n c m2 j l := b2
          have hs2 : RMs tp n w m2 := (hs1.ln (k := 32 + D.length) (v := nI L.length) (Or.inl rfl)).o b3
          have hs6 := hs2.ln (k := 32 + D.length) (v := nI l.length) (Or.inr (Or.inl rfl))
          have b6 := b2.ln (k := 32 + D.length) (v := nI l.length) (Or.inr (Or.inl rfl))
          generalize h6 : sti m2 15 (32 + D.length) (nI l.length) = m6 at hs6 b6
          have wd := m_isWo b6.1 (j := 2) (w := 2) (by decide) rfl
          rw [cd_inr, if_neg m1_ne0, nI_add, chv_nI (by omega) (by decide), ix_nI (by omega), b2.2.2.1, h6, lt_eq, wd, bnd_eq] at e14
          have f6 : OutM EMl ν m6 := by
            rw [← h6]
            exact f2.sti (by unfold EMl; omega)
          have k14 : m6.1 14 (32 + D.length) = nI L.length := by rw [← h6, sti_n (by omega)]; exact m14
          have k15 : m6.1 15 (32 + D.length) = nI l.length := by rw [← h6, sti_e ⟨rfl, rfl⟩]
          have k35 : m6.1 0 35 = nI 0 := by rw [← h6, sti_n (by omega)]; exact m35
          have kd : dLn m6 D := fun l2 hl2 => by
            rw [← h6, sti_n (by omega), sti_n (by omega), sti_n (by omega)]
            exact md l2 hl2
          show ∃ x ν2, _ ∧ LwO tp n c (fLw x) ν2 (bX (pWh (Kd tp n) (Vd tp n) (mW w) (c + 1) j l) fun x3 => bX (tkR (Kd tp n) 59 x3.1 x3.2) fun x4 => pLw (Kd tp n) (Vd tp n) (mW w) (c + 1) (300 + w) f x4.1 x4.2 (D ++ [(L.length, l.length, x4.2.length)])) ∧ _
          -- the end of the line
          have last : ∀ m12 j2 l2, RMs tp n w m12 → RM tp n c m12 j2 l2 → m12.1 0 35 = nI 0 → OutM EMa m6 m12 → i + 1 < j2 → j2 < c + 1 → l2.length ≤ j2 → M_readLaw_l2 (nI D.length) ν = M_readLaw_j82 (nI D.length) (nI (32 + D.length)) m12 → ∃ x ν2, iter (q + 1) (fun s => M_readLaw_l2 s.1 s.2) (nI D.length, ν) = some x ∧ LwO tp n c (fLw x) ν2 (bX (tkR (Kd tp n) 59 j2 l2) fun x4 => pLw (Kd tp n) (Vd tp n) (mW w) (c + 1) (300 + w) f x4.1 x4.2 (D ++ [(L.length, l.length, x4.2.length)])) ∧ OutM EMl ν ν2 := by
            intro m12 j2 l2 hs12 r12 k35' o12 y1 y2 y3 e1
            have f12 : OutM EMl ν m12 := f6.tr (o12.mono (fun o k z => Or.inl z))
            have hs8 := hs12.ln (k := 32 + D.length) (v := nI l2.length) (Or.inr (Or.inr rfl))
            have b8 := r12.ln (k := 32 + D.length) (v := nI l2.length) (Or.inr (Or.inr rfl))
            generalize h8 : sti m12 16 (32 + D.length) (nI l2.length) = m8 at hs8 b8
            have f8 : OutM EMl ν m8 := by
              rw [← h8]
              exact f12.sti (by unfold EMl; omega)
            have s59 := m_isSg b8.1 (c := 59) (by decide) (by decide)
            unfold M_readLaw_j82 at e1
            rw [chv_nI (by omega) (by decide), ix_nI (by omega), r12.2.2.1, h8, lt_eq, s59, bnd_eq] at e1
            unfold tkR
            by_cases c5 : Kd tp n j2 = 59
            · rw [if_pos c5] at e1 ⊢
              have j3 := H.E j2 y2 (by omega)
              obtain ⟨m10, x1, x2, x3⟩ := m_next H hs8 b8 (by omega)
              rw [if_10, x1, bnd_eq, nI_add] at e1
              have dl : dLn m10 (D ++ [(L.length, l.length, l2.length)]) := fun k hk => by
                rw [lnl_1] at hk
                rw [x3 _ _ (by unfold EMr; omega), x3 _ _ (by unfold EMr; omega), x3 _ _ (by unfold EMr; omega), ← h8]
                by_cases y : k = D.length
                · rw [y, lnG_e]
                  refine ⟨?_, ?_, sti_e ⟨rfl, rfl⟩⟩
                  · rw [sti_n (by omega), o12 _ _ (by unfold EMa EMr Epa; omega)]
                    exact k14
                  · rw [sti_n (by omega), o12 _ _ (by unfold EMa EMr Epa; omega)]
                    exact k15
                · rw [lnG_l (by omega), sti_n (by omega), sti_n (by omega), sti_n (by omega), o12 _ _ (by unfold EMa EMr Epa; omega), o12 _ _ (by unfold EMa EMr Epa; omega), o12 _ _ (by unfold EMa EMr Epa; omega)]
                  exact kd k (by omega)
              obtain ⟨x, ν2, z1, z2, z3⟩ := ih (j2 + 1) l2 (D ++ [(L.length, l.length, l2.length)]) m10 (hs8.o x3) x2 (by rw [x3 _ _ (by unfold EMr; omega), ← h8, sti_n (by omega)]; exact k35') (by rw [lnl_1]; omega) dl (by omega) (by omega) q (by omega)
              rw [lnl_1] at z1
              exact ⟨x, ν2, (iter_inl e1).trans z1, z2, f8.tr ((x3.mono (fun o k z => Or.inl (Or.inl z))).tr z3)⟩
            · rw [if_neg c5] at e1 ⊢
              rw [if_00] at e1
              obtain ⟨m9, x1, x2, x3⟩ := m_errs H b8 1
              exact ⟨_, m9, iter_inr e1, ⟨fLw_1 x1, x2.1, x2.2⟩, f8.tr (x3.mono (fun o k z => Or.inl (Or.inl z)))⟩
          unfold pWh
          by_cases c3 : Kd tp n j = 302
          · rw [if_pos c3] at e14 ⊢
            have j1 := H.E j g2 (by omega)
            obtain ⟨m11, d1, d2, d3⟩ := m_next H hs6 b6 (by omega)
            obtain ⟨m12, p1, p2, p3, p4⟩ := m_any H (hs6.o d3) d2 (by rw [d3 _ _ (by unfold EMr; omega)]; exact k35) (by omega)
            have gr2 := pKo8_ok (K := Kd tp n) (V := Vd tp n) (m := mW w) H.E H.V H.2.2.2.2.2 j1 l
            rw [if_10, d1, bnd_eq, p1, bnd2_eq] at e14
            generalize pKo (Kd tp n) (c + 1) (pT (Kd tp n) (Vd tp n) (mW w) (c + 1) 8) (j + 1) l = r2 at p2 p3 gr2 e14 ⊢
            cases r2 with
            | inl e =>
              rw [cd_inl, if_pos rfl] at e14
              exact ⟨_, m12, iter_inr e14, ⟨rfl, p2.1, p2.2⟩, f6.tr ((d3.ra.tr p4).mono (fun o k z => Or.inl z))⟩
            | inr x =>
              obtain ⟨j2, l2⟩ := x
              obtain ⟨u1, u2, u3, u4, u5⟩ := gr2
              have u1 : j + 1 < j2 := u1
              have u2 : j2 < c + 1 := u2
              have u3 : l2.length + (j + 1) ≤ l.length + j2 := u3
              rw [cd_inr, if_neg m1_ne0] at e14
              exact last m12 j2 l2 ((hs6.o d3).oa p4) p2 (p3 _ rfl) (d3.ra.tr p4) (by omega) u2 (by omega) e14
          · rw [if_neg c3] at e14 ⊢
            rw [if_00] at e14
            exact last m6 j l hs6 b6 k35 OutM.rf g1 g2 (by omega) e14
    · rw [if_neg c1] at isL
      have e0 : M_readLaw_l2 (nI D.length) ν = some (.inr (Sum.inr (Sum.inr (Sum.inr (Sum.inr (nI D.length, ν)))))) := by
        unfold M_readLaw_l2
        rw [isL, bnd_eq, if_00]
      have te := tk_end h.1
      by_cases c2 : Kd tp n i = 256
      · rw [if_pos c2]
        exact ⟨_, ν, iter_inr e0, ⟨fLw_0 (te.2 c2), h.2.2.1, h.2.2.2, hd⟩, OutM.rf⟩
      · rw [if_neg c2, if_neg (fun z => c1 z.1), show tkR (Kd tp n) (300 + w) i L = .inl (1, i) from if_neg c1]
        obtain ⟨m1, a1, a2, a3⟩ := m_errs H h 1
        exact ⟨_, m1, iter_inr e0, ⟨fLw_e a1 (fun z => c2 (te.1 z)), a2.1, a2.2⟩, a3.mono (fun o k z => Or.inl (Or.inl z))⟩
theorem m_rlaw (H : Hyp tp n c (mW w)) {ν : Mm} (hs : RMs tp n w ν) (ht : tkM ν tp n 0) (h34 : ν.1 0 34 = nI 0) (h35 : ν.1 0 35 = nI 0) : ∃ ν2, LwO tp n c (M_readLaw ν) ν2 (pLw (Kd tp n) (Vd tp n) (mW w) (c + 1) (300 + w) (c + 1) 0 [] []) ∧ OutM EMl ν ν2 := by
  have hc : c ≤ 400 := Nat.le_trans H.2.1 H.1
  obtain ⟨x, ν2, g1, g2, g3⟩ := m_lawL H (c + 1) 0 [] [] ν hs ⟨ht, Nat.zero_le _, h34, fun k hk => absurd hk (Nat.not_lt_zero k)⟩ h35 (Nat.zero_le _) (fun l hl => absurd hl (Nat.not_lt_zero l)) (Nat.le_refl _) (by omega) 1000000 (by omega)
  refine ⟨ν2, ?_, g3⟩
  have : M_readLaw ν = fLw x := by
    unfold M_readLaw
    rw [show iter 1000000 (fun s => M_readLaw_l2 s.1 s.2) (nI 0, ν) = some x from g1, bni_eq]
    rfl
  rw [this]
  exact g2
/-- the draft becomes the law -/
theorem m_takesL {ν : Mm} {L : List Nat} {D : LnT} (hw : w < 2) (h33 : ν.1 0 33 = nI w) (h34 : ν.1 0 34 = nI L.length) (hS : ∀ k, k < L.length → ν.1 17 (800 + k) = nI (opOf (gF L k)) ∧ ν.1 18 (800 + k) = nI (argOf (gF L k))) (hd : dLn ν D) (hL : L.length ≤ 400) (hD : D.length ≤ 16) : ∃ ν2, M_takesLaw (nI D.length) ν = some ν2 ∧ LawM ν2 w (ldD L D) ∧ OutM (fun o k => inL w o k) ν ν2 := by
  have l1 := iter_inv (f := fun s : Int32 × Mm => M_takesLaw_l2 (nI D.length) s.1 s.2)
    (fun k s => s.1 = nI k ∧ OutM (fun o j => (14 ≤ o ∧ o ≤ 16) ∧ 16 * w ≤ j ∧ j < 16 * w + 16) ν s.2 ∧ ∀ l, l < k → s.2.1 14 (16 * w + l) = nI (lnG D l).1 ∧ s.2.1 15 (16 * w + l) = nI (lnG D l).2.1 ∧ s.2.1 16 (16 * w + l) = nI (lnG D l).2.2)
    (fun x => OutM (fun o j => (14 ≤ o ∧ o ≤ 16) ∧ 16 * w ≤ j ∧ j < 16 * w + 16) ν x ∧ ∀ l, l < D.length → x.1 14 (16 * w + l) = nI (lnG D l).1 ∧ x.1 15 (16 * w + l) = nI (lnG D l).2.1 ∧ x.1 16 (16 * w + l) = nI (lnG D l).2.2) D.length ?_ ?_ 1000000 (nI 0, ν) ⟨rfl, OutM.rf, fun l hl => absurd hl (Nat.not_lt_zero l)⟩ (by omega)
  · obtain ⟨x, k1, k2, k3⟩ := l1
    have l2 := iter_inv (f := fun s : Int32 × Mm => M_takesLaw_l84 (nI D.length) s.1 s.2)
      (fun k s => s.1 = nI k ∧ OutM (fun o j => (17 ≤ o ∧ o ≤ 18) ∧ 400 * w ≤ j ∧ j < 400 * w + 400) x s.2 ∧ ∀ l, l < k → s.2.1 17 (400 * w + l) = nI (opOf (gF L l)) ∧ s.2.1 18 (400 * w + l) = nI (argOf (gF L l)))
      (fun y => OutM (fun o j => (17 ≤ o ∧ o ≤ 18) ∧ 400 * w ≤ j ∧ j < 400 * w + 400) x y ∧ ∀ l, l < L.length → y.1 17 (400 * w + l) = nI (opOf (gF L l)) ∧ y.1 18 (400 * w + l) = nI (argOf (gF L l))) L.length ?_ ?_ 1000000 (nI 0, x) ⟨rfl, OutM.rf, fun l hl => absurd hl (Nat.not_lt_zero l)⟩ (by omega)
    · obtain ⟨y, j1, j2, j3⟩ := l2
      have y33 : y.1 0 33 = nI w := by
        rw [j2 _ _ (by omega), k2 _ _ (by omega)]
        exact h33
      refine ⟨sti y 13 w (nI D.length), ?_, ⟨sti_e ⟨rfl, rfl⟩, fun i hi => ?_, fun l hl => ?_⟩, (k2.mono (fun o k z => ?_)).tr ((j2.mono (fun o k z => ?_)).sti ?_)⟩
      · unfold M_takesLaw
        rw [k1, bni_eq, j1, bni_eq, y33, chv_nI hw (by decide), ix_nI (by omega), lt_eq]
      · rw [sti_n (by omega), sti_n (by omega)]
        exact j3 i hi
      · rw [sti_n (by omega), sti_n (by omega), sti_n (by omega), j2 _ _ (by omega), j2 _ _ (by omega), j2 _ _ (by omega)]
        exact k3 l hl
      · unfold inL
        omega
      · unfold inL
        omega
      · unfold inL
        omega
    · rintro k ⟨s1, m⟩ hk ⟨rfl, f1, f2⟩
      have f1 : OutM (fun o j => (17 ≤ o ∧ o ≤ 18) ∧ 400 * w ≤ j ∧ j < 400 * w + 400) x m := f1
      have f2 : ∀ l, l < k → m.1 17 (400 * w + l) = nI (opOf (gF L l)) ∧ m.1 18 (400 * w + l) = nI (argOf (gF L l)) := f2
      have m33 : m.1 0 33 = nI w := by
        rw [f1 _ _ (by omega), k2 _ _ (by omega)]
        exact h33
      have m34 : m.1 0 34 = nI L.length := by
        rw [f1 _ _ (by omega), k2 _ _ (by omega)]
        exact h34
      obtain ⟨s1, s2⟩ := hS k hk
      left
      refine ⟨(nI (k + 1), sti (sti m 17 (400 * w + k) (nI (opOf (gF L k)))) 18 (400 * w + k) (nI (argOf (gF L k)))), ?_, rfl, (f1.sti (by omega)).sti (by omega), fun l hl => ?_⟩
      · show M_takesLaw_l84 _ _ _ = _
        unfold M_takesLaw_l84
        rw [m34, if_neg (nI_ge hk (by omega)), nI_add, chv_nI (by omega) (by decide), m33, nI_mulE, nI_add, chv_nI (by omega) (by decide), ix_nI (by omega), ix_nI (by omega), f1 _ _ (by omega), k2 _ _ (by omega), s1, lt_eq, chv_nI (by omega) (by decide), sti_n (by omega), m33, nI_mulE, nI_add, chv_nI (by omega) (by decide), ix_nI (by omega), sti_n (by omega), f1 _ _ (by omega), k2 _ _ (by omega), s2, lt_eq, nI_add]
      · show (sti _ _ _ _).1 17 _ = _ ∧ (sti _ _ _ _).1 18 _ = _
        by_cases y : l = k
        · rw [y]
          exact ⟨by rw [sti_n (by omega), sti_e ⟨rfl, rfl⟩], sti_e ⟨rfl, rfl⟩⟩
        · rw [sti_n (by omega), sti_n (by omega), sti_n (by omega), sti_n (by omega)]
          exact f2 l (by omega)
    · rintro ⟨s1, m⟩ ⟨rfl, f1, f2⟩
      have f1 : OutM (fun o j => (17 ≤ o ∧ o ≤ 18) ∧ 400 * w ≤ j ∧ j < 400 * w + 400) x m := f1
      have m34 : m.1 0 34 = nI L.length := by
        rw [f1 _ _ (by omega), k2 _ _ (by omega)]
        exact h34
      refine ⟨m, ?_, f1, f2⟩
      show M_takesLaw_l84 _ _ _ = _
      unfold M_takesLaw_l84
      rw [m34, if_pos (nI_le (Nat.le_refl _) (by omega))]
  · rintro k ⟨s1, m⟩ hk ⟨rfl, f1, f2⟩
    have f1 : OutM (fun o j => (14 ≤ o ∧ o ≤ 16) ∧ 16 * w ≤ j ∧ j < 16 * w + 16) ν m := f1
    have f2 : ∀ l, l < k → m.1 14 (16 * w + l) = nI (lnG D l).1 ∧ m.1 15 (16 * w + l) = nI (lnG D l).2.1 ∧ m.1 16 (16 * w + l) = nI (lnG D l).2.2 := f2
    have m33 : m.1 0 33 = nI w := by
      rw [f1 _ _ (by omega)]
      exact h33
    obtain ⟨s1, s2, s3⟩ := hd k hk
    left
    refine ⟨(nI (k + 1), sti (sti (sti m 14 (16 * w + k) (nI (lnG D k).1)) 15 (16 * w + k) (nI (lnG D k).2.1)) 16 (16 * w + k) (nI (lnG D k).2.2)), ?_, rfl, ((f1.sti (by omega)).sti (by omega)).sti (by omega), fun l hl => ?_⟩
    · show M_takesLaw_l2 _ _ _ = _
      unfold M_takesLaw_l2
      rw [if_neg (nI_ge hk (by omega)), nI_add, chv_nI (by omega) (by decide), m33, nI_mulE, nI_add, chv_nI (by omega) (by decide), ix_nI (by omega), ix_nI (by omega), f1 _ _ (by omega), s1, lt_eq, chv_nI (by omega) (by decide), sti_n (by omega), m33, nI_mulE, nI_add, chv_nI (by omega) (by decide), ix_nI (by omega), sti_n (by omega), f1 _ _ (by omega), s2, lt_eq, chv_nI (by omega) (by decide), sti_n (by omega), sti_n (by omega), m33, nI_mulE, nI_add, chv_nI (by omega) (by decide), ix_nI (by omega), sti_n (by omega), sti_n (by omega), f1 _ _ (by omega), s3, lt_eq, nI_add]
    · show (sti _ _ _ _).1 14 _ = _ ∧ (sti _ _ _ _).1 15 _ = _ ∧ (sti _ _ _ _).1 16 _ = _
      by_cases y : l = k
      · rw [y]
        exact ⟨by rw [sti_n (by omega), sti_n (by omega), sti_e ⟨rfl, rfl⟩], by rw [sti_n (by omega), sti_e ⟨rfl, rfl⟩], sti_e ⟨rfl, rfl⟩⟩
      · rw [sti_n (by omega), sti_n (by omega), sti_n (by omega), sti_n (by omega), sti_n (by omega), sti_n (by omega), sti_n (by omega), sti_n (by omega), sti_n (by omega)]
        exact f2 l (by omega)
  · rintro ⟨s1, m⟩ ⟨rfl, f1, f2⟩
    refine ⟨m, ?_, f1, f2⟩
    show M_takesLaw_l2 _ _ _ = _
    unfold M_takesLaw_l2
    rw [if_pos (nI_le (Nat.le_refl _) (by omega))]
end
