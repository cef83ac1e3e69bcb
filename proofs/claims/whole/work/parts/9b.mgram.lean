/-! THE CHECK READS: units, products, sums, comparisons -/
def EMr (o k : Nat) : Prop := (o = 0 ∧ ((22 ≤ k ∧ k ≤ 25) ∨ k = 34 ∨ k = 38 ∨ k = 39)) ∨ ((o = 17 ∨ o = 18) ∧ 800 ≤ k)
def mW (w : Nat) : Nat := if w = 0 then 11 else 7
section
variable {tp : Nat → Nat} {n c w : Nat}
def RMs (tp : Nat → Nat) (n w : Nat) (ν : Mm) : Prop := tapM ν n tp ∧ wrdM ν ∧ ν.1 0 33 = nI w ∧ w < 2
def RM (tp : Nat → Nat) (n c : Nat) (ν : Mm) (i : Nat) (L : List Nat) : Prop := tkM ν tp n i ∧ i ≤ c ∧ ν.1 0 34 = nI L.length ∧ ∀ k, k < L.length → ν.1 17 (800 + k) = nI (opOf (gF L k)) ∧ ν.1 18 (800 + k) = nI (argOf (gF L k))
def RMo (tp : Nat → Nat) (n c : Nat) (ν : Mm) (r : PR) : Prop := match r with
  | .inl e => ν.1 0 38 = nI e.1 ∧ ν.1 0 39 = nI (plc tp n e.2)
  | .inr x => RM tp n c ν x.1 x.2
def cdR {α β : Type} (r : α ⊕ β) : Int32 := match r with
  | .inl _ => -1
  | .inr _ => nI 0
theorem RMs.o {ν ν2 : Mm} (h : RMs tp n w ν) (ho : OutM EMr ν ν2) : RMs tp n w ν2 := ⟨h.1.out ho (by unfold EMr; omega) (fun k z => by unfold EMr at z; omega), h.2.1.out ho (fun k z => by unfold EMr at z; omega), (ho _ _ (by unfold EMr; omega)).trans h.2.2.1, h.2.2.2⟩
theorem m_errs (H : Hyp tp n c (mW w)) {ν : Mm} {i : Nat} {L : List Nat} (h : RM tp n c ν i L) (e : Nat) : ∃ ν2, M_errs (nI e) ν = some (-1, ν2) ∧ RMo tp n c ν2 (.inl (e, i)) ∧ OutM EMr ν ν2 := by
  unfold M_errs
  rw [lt_eq, sti_n (by omega), h.1.1, lt_eq]
  exact ⟨_, rfl, ⟨by rw [sti_n (by omega), sti_e ⟨rfl, rfl⟩], sti_e ⟨rfl, rfl⟩⟩, (OutM.rf.sti (by unfold EMr; omega)).sti (by unfold EMr; omega)⟩
theorem m_emit {ν : Mm} {i s : Nat} {L : List Nat} {a b : Int32} (h : RM tp n c ν i L) (hl : L.length < 400) (ha : a = nI (opOf s)) (hb : b = nI (argOf s)) : ∃ ν2, M_emits a b ν = some ν2 ∧ RM tp n c ν2 i (L ++ [s]) ∧ OutM EMr ν ν2 := by
  obtain ⟨h1, h2, h3, h4⟩ := h
  unfold M_emits
  rw [h3, nI_add, chv_nI (by omega) (by decide), ix_nI (by omega), lt_eq, sti_n (by omega), h3, nI_add, chv_nI (by omega) (by decide), ix_nI (by omega), lt_eq, sti_n (by omega), sti_n (by omega), h3, nI_add, lt_eq]
  refine ⟨_, rfl, ⟨⟨?_, ?_, ?_⟩, h2, ?_, fun k hk => ?_⟩, ((OutM.rf.sti (by unfold EMr; omega)).sti (by unfold EMr; omega)).sti (by unfold EMr; omega)⟩
  · rw [sti_n (by omega), sti_n (by omega), sti_n (by omega)]
    exact h1.1
  · rw [sti_n (by omega), sti_n (by omega), sti_n (by omega)]
    exact h1.2.1
  · rw [sti_n (by omega), sti_n (by omega), sti_n (by omega), sti_n (by omega), sti_n (by omega), sti_n (by omega)]
    exact h1.2.2
  · rw [sti_e ⟨rfl, rfl⟩, len_1]
  · rw [len_1] at hk
    by_cases y : k = L.length
    · rw [y, gF_e]
      exact ⟨by rw [sti_n (by omega), sti_n (by omega), sti_e ⟨rfl, rfl⟩, ha], by rw [sti_n (by omega), sti_e ⟨rfl, rfl⟩, hb]⟩
    · rw [gF_l (by omega)]
      obtain ⟨z1, z2⟩ := h4 k (by omega)
      refine ⟨?_, ?_⟩
      · rw [sti_n (by omega), sti_n (by omega), sti_n (by omega)]
        exact z1
      · rw [sti_n (by omega), sti_n (by omega), sti_n (by omega)]
        exact z2
theorem m_next (H : Hyp tp n c (mW w)) {ν : Mm} {i : Nat} {L : List Nat} (hs : RMs tp n w ν) (h : RM tp n c ν i L) (hk : Kd tp n i ≠ 256) : ∃ ν2, M_reads ν = some ν2 ∧ RM tp n c ν2 (i + 1) L ∧ OutM EMr ν ν2 := by
  obtain ⟨h1, h2, h3, h4⟩ := h
  have i1 := H.E i (by omega) hk
  obtain ⟨ν2, g1, g2, g3⟩ := m_reads hs.2.1 hs.1 H.2.2.2.2.1 h1 (H.2.2.2.1 i (by omega))
  refine ⟨ν2, g1, ⟨g2, by omega, (g3 _ _ (by unfold ER; omega)).trans h3, fun k hk => ?_⟩, g3.mono (fun o k z => by unfold ER at z; unfold EMr; omega)⟩
  rw [g3 _ _ (by unfold ER; omega), g3 _ _ (by unfold ER; omega)]
  exact h4 k hk
theorem m_unit (H : Hyp tp n c (mW w)) {ν : Mm} {i : Nat} {L : List Nat} (hs : RMs tp n w ν) (h : RM tp n c ν i L) (hl : L.length ≤ i) : ∃ ν2, M_readUnit ν = some (cdR (pU (Kd tp n) (Vd tp n) (mW w) i L), ν2) ∧ RMo tp n c ν2 (pU (Kd tp n) (Vd tp n) (mW w) i L) ∧ OutM EMr ν ν2 := by
  have hc : c ≤ 400 := Nat.le_trans H.2.1 H.1
  have i0 := h.2.1
  have vb := H.V i
  obtain ⟨νe, e1, e2, e3⟩ := m_errs H h 1
  have add : ∀ (s : Nat) (a b : Int32), a = nI (opOf s) → b = nI (argOf s) → Kd tp n i ≠ 256 → ∃ ν2, M_readUnit_j71 a b ν = some (nI 0, ν2) ∧ RM tp n c ν2 (i + 1) (L ++ [s]) ∧ OutM EMr ν ν2 := by
    intro s a b ha hb hk
    have i1 := H.E i (by omega) hk
    obtain ⟨m1, a1, a2, a3⟩ := m_emit h (s := s) (by omega) ha hb
    obtain ⟨m2, b1, b2, b3⟩ := m_next H (hs.o a3) a2 hk
    unfold M_readUnit_j71
    rw [a1, bnd_eq, b1, bnd_eq]
    exact ⟨m2, rfl, b2, a3.tr b3⟩
  have bad : ν.1 0 24 ≠ nI 3 → M_readUnit_j23 ν = some (-1, νe) := by
    intro z
    unfold M_readUnit_j23 M_readUnit_j24
    rw [if_00, if_neg z, e1, bnd2_eq]
  unfold M_readUnit pU
  rcases h.1.2.2 with ⟨z, t⟩ | ⟨z, t, v⟩ | ⟨z, t⟩ | ⟨j, hj, z, t, v⟩ | ⟨z, z2, t, v⟩ | ⟨z, z2, t⟩
  · rw [t, if_neg (by decide), bad (by rw [t]; decide), if_neg (by omega), if_neg (by omega)]
    exact ⟨νe, rfl, e2, e3⟩
  · rw [t, if_neg (by decide), if_pos z]
    obtain ⟨m1, a1, a2, a3⟩ := add (Vd tp n i) (nI 0) (nI (Vd tp n i)) (by unfold opOf; rw [if_pos (by omega)]) (by unfold argOf; rw [if_pos (by omega)]) (by omega)
    unfold M_readUnit_j23 M_readUnit_j24 M_readUnit_j43 M_readUnit_j53
    rw [if_00, t, if_pos rfl, if_00, if_00, v, a1]
    exact ⟨m1, rfl, a2, a3⟩
  · rw [t, if_neg (by decide), bad (by rw [t]; decide), if_neg (by omega), if_neg (by omega)]
    exact ⟨νe, rfl, e2, e3⟩
  · have wb := wM_b hj
    have ask : M_canAsk (nI (wM j)) ν = some (if 9 ≤ j ∧ j < 9 + mW w then nI 1 else nI 0) := by
      have w2 := hs.2.2.2
      have hh : ∀ hi, hi < 20 → hi + 3 = 8 + mW w + 0 → M_canAsk_j18 (nI (wM j)) (nI 6) (nI hi) ν = some (if 9 ≤ j ∧ j < 9 + mW w then nI 1 else nI 0) := by
        intro hi hh he
        have mw : mW w ≤ 11 := by unfold mW; split <;> decide
        unfold M_canAsk_j18
        rw [m_isIn, bnd_eq, inI_b (by omega) (by decide) (by omega)]
        have e : (6 ≤ wM j ∧ wM j ≤ hi) ↔ (9 ≤ j ∧ j < 9 + mW w) := by
          unfold wM
          split
          · omega
          · split
            · unfold mW at he ⊢
              split at he
              · rename_i q
                rw [if_pos q]
                omega
              · rename_i q
                rw [if_neg q]
                omega
            · omega
        by_cases y : 9 ≤ j ∧ j < 9 + mW w
        · rw [if_pos y, decide_eq_true (e.2 y), if_pos rfl, chk_ok (show nI 1 = 0 ∨ nI 1 = 1 from Or.inr rfl)]
        · rw [if_neg y, decide_eq_false (fun q => y (e.1 q)), if_neg Bool.false_ne_true, chk_ok (show nI 0 = 0 ∨ nI 0 = 1 from Or.inl rfl)]
      unfold M_canAsk
      rw [hs.2.2.1]
      by_cases y : w = 0
      · subst y
        rw [if_00]
        exact hh 16 (by decide) (by decide)
      · have : w = 1 := by omega
        subst this
        rw [if_10]
        exact hh 12 (by decide) (by decide)
    rw [t, if_pos rfl, v, ask, bnd_eq, if_neg (show ¬ Kd tp n i = 257 by omega)]
    by_cases y : 9 ≤ j ∧ j < 9 + mW w
    · have mw : mW w ≤ 11 := by unfold mW; split <;> decide
      have wj : wM j = j - 3 := by
        unfold wM
        rw [if_neg (by omega), if_neg (by omega)]
      rw [if_pos y, if_10, if_pos (by omega)]
      obtain ⟨m1, a1, a2, a3⟩ := add (10000 + (Kd tp n i - 309)) (nI 1) (nI (wM j - 6)) (by unfold opOf; rw [if_neg (by omega), if_pos (by omega)]) (by unfold argOf; rw [if_neg (by omega), if_pos (by omega)]; exact congrArg nI (by omega)) (by omega)
      unfold M_readUnit_j24 M_readUnit_j43 M_readUnit_j53
      rw [if_10, if_10, if_10, v, nI_subE (by omega), a1]
      exact ⟨m1, rfl, a2, a3⟩
    · rw [if_neg y, if_00, bad (by rw [t]; decide), if_neg (by omega)]
      exact ⟨νe, rfl, e2, e3⟩
  · rw [t, if_neg (by decide), bad (by rw [t]; decide), if_neg (by omega), if_neg (by omega)]
    exact ⟨νe, rfl, e2, e3⟩
  · rw [t, if_neg (by decide), bad (by rw [t]; decide), if_neg (by omega), if_neg (by omega)]
    exact ⟨νe, rfl, e2, e3⟩
theorem m1_ne0 : ¬ (nI 0 : Int32) = -1 := by decide
theorem cd_inr {α β : Type} (x : β) : cdR (.inr x : α ⊕ β) = nI 0 := rfl
theorem cd_inl {α β : Type} (x : α) : cdR (.inl x : α ⊕ β) = -1 := rfl
/-- what a product's turns end in -/
def fPr (x : Mm ⊕ (Mm ⊕ (Mm ⊕ Mm))) : Option (Int32 × Mm) := (Sum.elim (fun x10a =>
      bnd2 (M_errs (nI 1) x10a) fun r11 μ10 =>
      some (r11, μ10))
      (Sum.elim (fun x10b =>
        bnd2 (M_errs (nI 2) x10b) fun r13 μ12 =>
        some (r13, μ12))
        (Sum.elim (fun x10c =>
          some ((-1), x10c))
          (fun x10d =>
            some ((nI 0), x10d))))) x
theorem fPr_1 {m1 m2 : Mm} {e : Int32} (h : M_errs (nI 1) m1 = some (e, m2)) : fPr (Sum.inl m1) = some (e, m2) := by
  unfold fPr
  rw [Sum.elim_inl, h, bnd2_eq]
theorem fPr_2 {m1 m2 : Mm} {e : Int32} (h : M_errs (nI 2) m1 = some (e, m2)) : fPr (Sum.inr (Sum.inl m1)) = some (e, m2) := by
  unfold fPr
  rw [Sum.elim_inr, Sum.elim_inl, h, bnd2_eq]
theorem m_prodL (H : Hyp tp n c (mW w)) (f : Nat) : ∀ i L ν, RMs tp n w ν → RM tp n c ν i L → L.length ≤ i → c + 1 ≤ i + f → ∀ q, f ≤ q → ∃ x ν2, iter q (fun s => M_readProduct_l10 s) ν = some x ∧ fPr x = some (cdR (pPl (Kd tp n) (Vd tp n) (mW w) f i L), ν2) ∧ RMo tp n c ν2 (pPl (Kd tp n) (Vd tp n) (mW w) f i L) ∧ OutM EMr ν ν2 := by
  have hc : c ≤ 400 := Nat.le_trans H.2.1 H.1
  induction f with
  | zero =>
    intro i L ν hs h hl hf
    have := h.2.1
    omega
  | succ f ih =>
    intro i L ν hs h hl hf q hq
    obtain ⟨q, rfl⟩ : ∃ p, q = p + 1 := ⟨q - 1, by omega⟩
    have i0 := h.2.1
    have s42 := m_isSg h.1 (c := 42) (by decide) (by decide)
    have s47 := m_isSg h.1 (c := 47) (by decide) (by decide)
    show ∃ x ν2, _ ∧ fPr x = some (cdR (if Kd tp n i = 42 then _ else if Kd tp n i = 47 then _ else _), ν2) ∧ RMo tp n c ν2 (if Kd tp n i = 42 then _ else if Kd tp n i = 47 then _ else _) ∧ _
    by_cases c1 : Kd tp n i = 42
    · rw [if_pos c1] at s42 ⊢
      have i1 := H.E i (by omega) (by omega)
      obtain ⟨m1, a1, a2, a3⟩ := m_next H hs h (by omega)
      obtain ⟨m2, b1, b2, b3⟩ := m_unit H (hs.o a3) a2 (by omega)
      have gr := pU_ok (K := Kd tp n) (V := Vd tp n) (m := mW w) H.E H.V H.2.2.2.2.2 i1 L
      have e0 : M_readProduct_l10 ν = M_readProduct_j74 (nI 1) m1 := by
        unfold M_readProduct_l10 M_readProduct_j28 M_readProduct_j57
        rw [s42, bnd_eq, if_10, bnd_eq, a1, bnd_eq, if_10, if_10]
      unfold M_readProduct_j74 at e0
      rw [b1, bnd2_eq] at e0
      generalize pU (Kd tp n) (Vd tp n) (mW w) (i + 1) L = r at b2 gr e0 ⊢
      cases r with
      | inl e =>
        rw [cd_inl, if_pos rfl] at e0
        exact ⟨_, m2, iter_inr e0, rfl, b2, a3.tr b3⟩
      | inr x =>
        obtain ⟨j, l⟩ := x
        have b2 : RM tp n c m2 j l := b2
        obtain ⟨g1, g2, g3, g4, g5⟩ := gr
        have g1 : i + 1 < j := g1
        have g2 : j < c + 1 := g2
        have g3 : l.length + (i + 1) ≤ L.length + j := g3
        obtain ⟨m3, d1, d2, d3⟩ := m_emit b2 (s := 20042) (a := nI 4) (b := nI 0) (by omega) rfl rfl
        have hs3 : RMs tp n w m3 := ((hs.o a3).o b3).o d3
        obtain ⟨x, m4, p1, p2, p3, p4⟩ := ih j (l ++ [20042]) m3 hs3 d2 (by rw [len_1]; omega) (by omega) q (by omega)
        rw [cd_inr, if_neg m1_ne0, if_10] at e0
        unfold M_readProduct_j94 at e0
        rw [d1, bnd_eq] at e0
        exact ⟨x, m4, (iter_inl e0).trans p1, p2, p3, a3.tr (b3.tr (d3.tr p4))⟩
    · rw [if_neg c1] at s42 ⊢
      by_cases c2 : Kd tp n i = 47
      · rw [if_pos c2] at s47 ⊢
        have i1 := H.E i (by omega) (by omega)
        obtain ⟨m1, a1, a2, a3⟩ := m_next H hs h (by omega)
        obtain ⟨t1, t2⟩ := tk_num a2.1
        have vb := H.V (i + 1)
        have e0 : M_readProduct_l10 ν = if m1.1 0 24 = nI 3 then (if m1.1 0 25 = 0 then some (.inr (Sum.inr (Sum.inl m1))) else M_readProduct_j74 (nI 0) m1) else some (.inr (Sum.inl m1)) := by
          unfold M_readProduct_l10 M_readProduct_j28 M_readProduct_j57
          rw [s42, bnd_eq, if_00, s47, bnd_eq, if_10, bnd_eq, a1, bnd_eq, if_00, if_00]
        by_cases c3 : Kd tp n (i + 1) = 257
        · rw [if_pos c3]
          rw [if_pos (t1.2 c3), t2 c3] at e0
          by_cases c4 : Vd tp n (i + 1) = 0
          · rw [if_pos c4]
            rw [c4, if_00] at e0
            obtain ⟨m2, b1, b2, b3⟩ := m_errs H a2 2
            refine ⟨_, m2, iter_inr e0, ?_, b2, a3.tr b3⟩
            exact fPr_2 b1
          · rw [if_neg c4]
            have i2 := H.E (i + 1) i1 (by omega)
            rw [if_neg (show ¬ nI (Vd tp n (i + 1)) = 0 from fun z => c4 ((nI_eq (b := 0) (by omega) (by decide)).1 z))] at e0
            obtain ⟨m2, b1, b2, b3⟩ := m_unit H (hs.o a3) a2 (by omega)
            have eU : pU (Kd tp n) (Vd tp n) (mW w) (i + 1) L = .inr (i + 2, L ++ [Vd tp n (i + 1)]) := if_pos c3
            rw [eU] at b1 b2
            have b2 : RM tp n c m2 (i + 2) (L ++ [Vd tp n (i + 1)]) := b2
            obtain ⟨m3, d1, d2, d3⟩ := m_emit b2 (s := 20047) (a := nI 5) (b := nI 0) (by rw [len_1]; omega) rfl rfl
            have hs3 : RMs tp n w m3 := ((hs.o a3).o b3).o d3
            obtain ⟨x, m4, p1, p2, p3, p4⟩ := ih (i + 2) (L ++ [Vd tp n (i + 1)] ++ [20047]) m3 hs3 d2 (by rw [len_1, len_1]; omega) (by omega) q (by omega)
            unfold M_readProduct_j74 at e0
            rw [b1, bnd2_eq, cd_inr, if_neg m1_ne0, if_00] at e0
            unfold M_readProduct_j94 at e0
            rw [d1, bnd_eq] at e0
            exact ⟨x, m4, (iter_inl e0).trans p1, p2, p3, a3.tr (b3.tr (d3.tr p4))⟩
        · rw [if_neg c3]
          rw [if_neg (fun z => c3 (t1.1 z))] at e0
          obtain ⟨m2, b1, b2, b3⟩ := m_errs H a2 1
          refine ⟨_, m2, iter_inr e0, ?_, b2, a3.tr b3⟩
          exact fPr_1 b1
      · rw [if_neg c2] at s47 ⊢
        have e0 : M_readProduct_l10 ν = some (.inr (Sum.inr (Sum.inr (Sum.inr ν)))) := by
          unfold M_readProduct_l10
          rw [s42, bnd_eq, if_00, s47, bnd_eq, if_00]
        exact ⟨_, ν, iter_inr e0, rfl, h, OutM.rf⟩
theorem m_prod (H : Hyp tp n c (mW w)) {ν : Mm} {i : Nat} {L : List Nat} (hs : RMs tp n w ν) (h : RM tp n c ν i L) (hl : L.length ≤ i) : ∃ ν2, M_readProduct ν = some (cdR (pP (Kd tp n) (Vd tp n) (mW w) (c + 1) i L), ν2) ∧ RMo tp n c ν2 (pP (Kd tp n) (Vd tp n) (mW w) (c + 1) i L) ∧ OutM EMr ν ν2 := by
  have hc : c ≤ 400 := Nat.le_trans H.2.1 H.1
  have i0 := h.2.1
  obtain ⟨m1, a1, a2, a3⟩ := m_unit H hs h hl
  have gr := pU_ok (K := Kd tp n) (V := Vd tp n) (m := mW w) H.E H.V H.2.2.2.2.2 (show i < c + 1 by omega) L
  unfold M_readProduct pP
  rw [a1, bnd2_eq]
  generalize pU (Kd tp n) (Vd tp n) (mW w) i L = r at a2 gr ⊢
  cases r with
  | inl e =>
    rw [cd_inl, if_pos rfl]
    exact ⟨m1, rfl, a2, a3⟩
  | inr x =>
    obtain ⟨j, l⟩ := x
    obtain ⟨g1, g2, g3, g4, g5⟩ := gr
    have g1 : i < j := g1
    have g3 : l.length + i ≤ L.length + j := g3
    obtain ⟨x, m2, b1, b2, b3, b4⟩ := m_prodL H (c + 1) j l m1 (hs.o a3) a2 (by omega) (by omega) 1000000 (by omega)
    rw [cd_inr, if_neg m1_ne0, b1, bni_eq]
    exact ⟨m2, b2, b3, a3.tr b4⟩
def fSu (x : Mm ⊕ Mm) : Option (Int32 × Mm) := (Sum.elim (fun x10a =>
      some ((-1), x10a))
      (fun x10b =>
        some ((nI 0), x10b))) x
theorem m_sumL (H : Hyp tp n c (mW w)) (f : Nat) : ∀ i L ν, RMs tp n w ν → RM tp n c ν i L → L.length ≤ i → c + 1 ≤ i + f → ∀ q, f ≤ q → ∃ x ν2, iter q (fun s => M_readSum_l10 s) ν = some x ∧ fSu x = some (cdR (pSl (Kd tp n) (Vd tp n) (mW w) (c + 1) f i L), ν2) ∧ RMo tp n c ν2 (pSl (Kd tp n) (Vd tp n) (mW w) (c + 1) f i L) ∧ OutM EMr ν ν2 := by
  have hc : c ≤ 400 := Nat.le_trans H.2.1 H.1
  induction f with
  | zero =>
    intro i L ν hs h hl hf
    have := h.2.1
    omega
  | succ f ih =>
    intro i L ν hs h hl hf q hq
    obtain ⟨q, rfl⟩ : ∃ p, q = p + 1 := ⟨q - 1, by omega⟩
    have i0 := h.2.1
    have s43 := m_isSg h.1 (c := 43) (by decide) (by decide)
    have s45 := m_isSg h.1 (c := 45) (by decide) (by decide)
    show ∃ x ν2, _ ∧ fSu x = some (cdR (if Kd tp n i = 43 ∨ Kd tp n i = 45 then _ else _), ν2) ∧ RMo tp n c ν2 (if Kd tp n i = 43 ∨ Kd tp n i = 45 then _ else _) ∧ _
    by_cases c1 : Kd tp n i = 43 ∨ Kd tp n i = 45
    · rw [if_pos c1]
      have i1 := H.E i (by omega) (by omega)
      obtain ⟨m1, a1, a2, a3⟩ := m_next H hs h (by omega)
      obtain ⟨m2, b1, b2, b3⟩ := m_prod H (hs.o a3) a2 (by omega)
      have gr := pP_ok (K := Kd tp n) (V := Vd tp n) (m := mW w) H.E H.V H.2.2.2.2.2 i1 L
      have v25 : ν.1 0 25 = nI (Kd tp n i) := by
        rcases h.1.2.2 with ⟨z, t⟩ | ⟨z, t, v⟩ | ⟨z, t⟩ | ⟨j, hj, z, t, v⟩ | ⟨z, z2, t, v⟩ | ⟨z, z2, t⟩
        · omega
        · omega
        · omega
        · omega
        · exact v
        · exact absurd z2 (by rcases c1 with c1 | c1 <;> rw [c1] <;> decide)
      have op : opOf (20000 + Kd tp n i) = if Kd tp n i = 43 then 2 else 3 := by
        rcases c1 with c1 | c1 <;> rw [c1] <;> rfl
      have e0 : M_readSum_l10 ν = M_readSum_j42 (nI (opOf (20000 + Kd tp n i))) ν := by
        have e28 : M_readSum_j28 ν = M_readSum_j42 (nI (opOf (20000 + Kd tp n i))) ν := by
          unfold M_readSum_j28
          rw [v25, op]
          rcases c1 with c1 | c1
          · rw [c1, if_pos rfl, if_pos rfl]
          · rw [c1, if_neg (by decide), if_neg (by decide)]
        unfold M_readSum_l10
        rw [s43, bnd_eq]
        rcases c1 with c1 | c1
        · rw [if_pos c1, if_10, e28]
        · rw [if_neg (show ¬ Kd tp n i = 43 by omega), if_00, s45, bnd_eq, if_pos c1, if_10, e28]
      unfold M_readSum_j42 at e0
      rw [a1, bnd_eq, b1, bnd2_eq] at e0
      generalize pP (Kd tp n) (Vd tp n) (mW w) (c + 1) (i + 1) L = r at b2 gr e0 ⊢
      cases r with
      | inl e =>
        rw [cd_inl, if_pos rfl] at e0
        exact ⟨_, m2, iter_inr e0, rfl, b2, a3.tr b3⟩
      | inr x =>
        obtain ⟨j, l⟩ := x
        have b2 : RM tp n c m2 j l := b2
        obtain ⟨g1, g2, g3, g4, g5⟩ := gr
        have g1 : i + 1 < j := g1
        have g2 : j < c + 1 := g2
        have g3 : l.length + (i + 1) ≤ L.length + j := g3
        obtain ⟨m3, d1, d2, d3⟩ := m_emit b2 (s := 20000 + Kd tp n i) (a := nI (opOf (20000 + Kd tp n i))) (b := nI 0) (by omega) rfl (by unfold argOf; rw [if_neg (by omega), if_neg (by omega)])
        have hs3 : RMs tp n w m3 := ((hs.o a3).o b3).o d3
        obtain ⟨x, m4, p1, p2, p3, p4⟩ := ih j (l ++ [20000 + Kd tp n i]) m3 hs3 d2 (by rw [len_1]; omega) (by omega) q (by omega)
        rw [cd_inr, if_neg m1_ne0, d1, bnd_eq] at e0
        exact ⟨x, m4, (iter_inl e0).trans p1, p2, p3, a3.tr (b3.tr (d3.tr p4))⟩
    · rw [if_neg c1]
      have e0 : M_readSum_l10 ν = some (.inr (Sum.inr ν)) := by
        unfold M_readSum_l10
        rw [s43, bnd_eq, if_neg (show ¬ Kd tp n i = 43 by omega), if_00, s45, bnd_eq, if_neg (show ¬ Kd tp n i = 45 by omega), if_00]
      exact ⟨_, ν, iter_inr e0, rfl, h, OutM.rf⟩
theorem m_sum (H : Hyp tp n c (mW w)) {ν : Mm} {i : Nat} {L : List Nat} (hs : RMs tp n w ν) (h : RM tp n c ν i L) (hl : L.length ≤ i) : ∃ ν2, M_readSum ν = some (cdR (pS (Kd tp n) (Vd tp n) (mW w) (c + 1) i L), ν2) ∧ RMo tp n c ν2 (pS (Kd tp n) (Vd tp n) (mW w) (c + 1) i L) ∧ OutM EMr ν ν2 := by
  have hc : c ≤ 400 := Nat.le_trans H.2.1 H.1
  have i0 := h.2.1
  obtain ⟨m1, a1, a2, a3⟩ := m_prod H hs h hl
  have gr := pP_ok (K := Kd tp n) (V := Vd tp n) (m := mW w) H.E H.V H.2.2.2.2.2 (show i < c + 1 by omega) L
  unfold M_readSum pS
  rw [a1, bnd2_eq]
  generalize pP (Kd tp n) (Vd tp n) (mW w) (c + 1) i L = r at a2 gr ⊢
  cases r with
  | inl e =>
    rw [cd_inl, if_pos rfl]
    exact ⟨m1, rfl, a2, a3⟩
  | inr x =>
    obtain ⟨j, l⟩ := x
    obtain ⟨g1, g2, g3, g4, g5⟩ := gr
    have g1 : i < j := g1
    have g3 : l.length + i ≤ L.length + j := g3
    obtain ⟨x, m2, b1, b2, b3, b4⟩ := m_sumL H (c + 1) j l m1 (hs.o a3) a2 (by omega) (by omega) 1000000 (by omega)
    rw [cd_inr, if_neg m1_ne0, b1, bni_eq]
    exact ⟨m2, b2, b3, a3.tr b4⟩
theorem m_cmp (H : Hyp tp n c (mW w)) {ν : Mm} {i : Nat} {L : List Nat} (hs : RMs tp n w ν) (h : RM tp n c ν i L) (hl : L.length ≤ i) : ∃ ν2, M_readCompared ν = some (cdR (pQ (Kd tp n) (Vd tp n) (mW w) (c + 1) i L), ν2) ∧ RMo tp n c ν2 (pQ (Kd tp n) (Vd tp n) (mW w) (c + 1) i L) ∧ OutM EMr ν ν2 := by
  have hc : c ≤ 400 := Nat.le_trans H.2.1 H.1
  have i0 := h.2.1
  obtain ⟨m1, a1, a2, a3⟩ := m_sum H hs h hl
  have gr := pS_ok (K := Kd tp n) (V := Vd tp n) (m := mW w) H.E H.V H.2.2.2.2.2 (show i < c + 1 by omega) L
  unfold M_readCompared pQ
  rw [a1, bnd2_eq]
  generalize pS (Kd tp n) (Vd tp n) (mW w) (c + 1) i L = r at a2 gr ⊢
  cases r with
  | inl e =>
    rw [cd_inl, if_pos rfl]
    exact ⟨m1, rfl, a2, a3⟩
  | inr x =>
    obtain ⟨j, l⟩ := x
    have a2 : RM tp n c m1 j l := a2
    obtain ⟨g1, g2, g3, g4, g5⟩ := gr
    have g1 : i < j := g1
    have g2 : j < c + 1 := g2
    have g3 : l.length + i ≤ L.length + j := g3
    have s60 := m_isSg a2.1 (c := 60) (by decide) (by decide)
    have s61 := m_isSg a2.1 (c := 61) (by decide) (by decide)
    have s62 := m_isSg a2.1 (c := 62) (by decide) (by decide)
    rw [cd_inr, if_neg m1_ne0, s60, bnd_eq]
    show ∃ ν2, _ = some (cdR (if Kd tp n j = 60 ∨ Kd tp n j = 61 ∨ Kd tp n j = 62 then _ else _), ν2) ∧ RMo tp n c ν2 (if Kd tp n j = 60 ∨ Kd tp n j = 61 ∨ Kd tp n j = 62 then _ else _) ∧ _
    by_cases c1 : Kd tp n j = 60 ∨ Kd tp n j = 61 ∨ Kd tp n j = 62
    · rw [if_pos c1]
      have j1 := H.E j g2 (by omega)
      obtain ⟨m2, b1, b2, b3⟩ := m_next H (hs.o a3) a2 (by omega)
      obtain ⟨m3, d1, d2, d3⟩ := m_sum H ((hs.o a3).o b3) b2 (by omega)
      have gr2 := pS_ok (K := Kd tp n) (V := Vd tp n) (m := mW w) H.E H.V H.2.2.2.2.2 j1 l
      have v25 : m1.1 0 25 = nI (Kd tp n j) := by
        rcases a2.1.2.2 with ⟨z, t⟩ | ⟨z, t, v⟩ | ⟨z, t⟩ | ⟨j, hj, z, t, v⟩ | ⟨z, z2, t, v⟩ | ⟨z, z2, t⟩
        · omega
        · omega
        · omega
        · omega
        · exact v
        · exact absurd z2 (by rcases c1 with c1 | c1 | c1 <;> rw [c1] <;> decide)
      have e43 : M_readCompared_j43 m1 = M_readCompared_j73 (nI (opOf (20000 + Kd tp n j))) m1 := by
        unfold M_readCompared_j43
        rw [v25]
        rcases c1 with c1 | c1 | c1
        · rw [c1, if_pos rfl]
          rfl
        · rw [c1, if_neg (by decide), if_pos rfl]
          rfl
        · rw [c1, if_neg (by decide), if_neg (by decide)]
          rfl
      have e0 : (if (if Kd tp n j = 60 then nI 1 else nI 0) = 0 then bnd (M_isSign (nI 61) m1) fun r8 => if r8 = 0 then bnd (M_isSign (nI 62) m1) fun r9 => if r9 = 0 then bnd2 (M_errs (nI 1) m1) fun r11 μ10 => some (r11, μ10) else M_readCompared_j43 m1 else M_readCompared_j43 m1 else M_readCompared_j43 m1) = M_readCompared_j73 (nI (opOf (20000 + Kd tp n j))) m1 := by
        by_cases k1 : Kd tp n j = 60
        · rw [if_pos k1, if_10, e43]
        · rw [if_neg k1, if_00, s61, bnd_eq]
          by_cases k2 : Kd tp n j = 61
          · rw [if_pos k2, if_10, e43]
          · rw [if_neg k2, if_00, s62, bnd_eq, if_pos (show Kd tp n j = 62 by omega), if_10, e43]
      rw [e0]
      unfold M_readCompared_j73
      rw [b1, bnd_eq, d1, bnd2_eq]
      generalize pS (Kd tp n) (Vd tp n) (mW w) (c + 1) (j + 1) l = r at d2 gr2 ⊢
      cases r with
      | inl e =>
        rw [cd_inl, if_pos rfl]
        exact ⟨m3, rfl, d2, a3.tr (b3.tr d3)⟩
      | inr x =>
        obtain ⟨j2, l2⟩ := x
        have d2 : RM tp n c m3 j2 l2 := d2
        obtain ⟨q1, q2, q3, q4, q5⟩ := gr2
        have q2 : j2 < c + 1 := q2
        have q3 : l2.length + (j + 1) ≤ l.length + j2 := q3
        obtain ⟨m4, p1, p2, p3⟩ := m_emit d2 (s := 20000 + Kd tp n j) (a := nI (opOf (20000 + Kd tp n j))) (b := nI 0) (by omega) rfl (by unfold argOf; rw [if_neg (by omega), if_neg (by omega)])
        rw [cd_inr, if_neg m1_ne0, p1, bnd_eq]
        exact ⟨m4, rfl, p2, a3.tr (b3.tr (d3.tr p3))⟩
    · rw [if_neg c1, if_neg (show ¬ Kd tp n j = 60 by omega), if_00, s61, bnd_eq, if_neg (show ¬ Kd tp n j = 61 by omega), if_00, s62, bnd_eq, if_neg (show ¬ Kd tp n j = 62 by omega), if_00]
      obtain ⟨m2, b1, b2, b3⟩ := m_errs H a2 1
      rw [b1, bnd2_eq]
      exact ⟨m2, rfl, b2, a3.tr b3⟩
end
