/-! THE CHECK READS: conditions, with a row that waits -/
def Epa (o k : Nat) : Prop := (o = 0 ∧ (k = 35 ∨ k = 37)) ∨ o = 19
def EMa (o k : Nat) : Prop := EMr o k ∨ Epa o k
abbrev fA : Int32 × Int32 × Mm → Option ((Int32 × Int32 × Mm) ⊕ (Mm ⊕ (Mm ⊕ (Mm ⊕ Mm)))) := fun s => M_readAny_l9 s.1 s.2.1 s.2.2
def fAn (x : Mm ⊕ (Mm ⊕ (Mm ⊕ Mm))) : Option (Int32 × Mm) := (Sum.elim (fun x9a =>
    bnd2 (M_errs (nI 3) x9a) fun r27 μ26 =>
    some (r27, μ26))
    (Sum.elim (fun x9b =>
      some ((-1), x9b))
      (Sum.elim (fun x9c =>
        some ((nI 0), x9c))
        (fun x9d =>
          bnd2 (M_errs (nI 1) x9d) fun r29 μ28 =>
          some (r29, μ28))))) x
theorem fAn_3 {m1 m2 : Mm} {e : Int32} (h : M_errs (nI 3) m1 = some (e, m2)) : fAn (Sum.inl m1) = some (e, m2) := by
  unfold fAn
  rw [Sum.elim_inl, h, bnd2_eq]
theorem fAn_1 {m1 m2 : Mm} {e : Int32} (h : M_errs (nI 1) m1 = some (e, m2)) : fAn (Sum.inr (Sum.inr (Sum.inr m1))) = some (e, m2) := by
  unfold fAn
  rw [Sum.elim_inr, Sum.elim_inr, Sum.elim_inr, h, bnd2_eq]
section
variable {tp : Nat → Nat} {n c w : Nat}
def PD (ν : Mm) (o : Nat) (P : List Nat) : Prop := ν.1 0 35 = nI o ∧ ν.1 0 37 = nI P.length ∧ P.length ≤ 40 ∧ ∀ k, k < P.length → ν.1 19 k = nI (gF P k) ∧ gF P k < 20
def topNe (B : List Nat) (v : Nat) : Prop := B = [] ∨ gF B (B.length - 1) ≠ v
theorem EMr_pa {o k : Nat} (h : EMr o k) : ¬ Epa o k := by
  unfold EMr at h
  unfold Epa
  omega
theorem RMs.oa {ν ν2 : Mm} (h : RMs tp n w ν) (ho : OutM EMa ν ν2) : RMs tp n w ν2 := ⟨h.1.out ho (by unfold EMa EMr Epa; omega) (fun k z => by unfold EMa EMr Epa at z; omega), h.2.1.out ho (fun k z => by unfold EMa EMr Epa at z; omega), (ho _ _ (by unfold EMa EMr Epa; omega)).trans h.2.2.1, h.2.2.2⟩
theorem OutM.ra {ν ν2 : Mm} (h : OutM EMr ν ν2) : OutM EMa ν ν2 := h.mono (fun o k z => Or.inl z)
theorem OutM.pa {ν ν2 : Mm} (h : OutM Epa ν ν2) : OutM EMa ν ν2 := h.mono (fun o k z => Or.inr z)
theorem PD.o {ν ν2 : Mm} {o : Nat} {P : List Nat} (h : PD ν o P) (ho : OutM EMr ν ν2) : PD ν2 o P := ⟨(ho _ _ (by unfold EMr; omega)).trans h.1, (ho _ _ (by unfold EMr; omega)).trans h.2.1, h.2.2.1, fun k hk => ⟨(ho _ _ (by unfold EMr; omega)).trans (h.2.2.2 k hk).1, (h.2.2.2 k hk).2⟩⟩
theorem RM.pa {ν ν2 : Mm} {i : Nat} {L : List Nat} (h : RM tp n c ν i L) (ho : OutM Epa ν ν2) : RM tp n c ν2 i L := by
  obtain ⟨⟨h1, h2, h3⟩, h4, h5, h6⟩ := h
  refine ⟨⟨(ho _ _ (by unfold Epa; omega)).trans h1, (ho _ _ (by unfold Epa; omega)).trans h2, ?_⟩, h4, (ho _ _ (by unfold Epa; omega)).trans h5, fun k hk => ?_⟩
  · rw [ho _ _ (by unfold Epa; omega), ho _ _ (by unfold Epa; omega)]
    exact h3
  · rw [ho _ _ (by unfold Epa; omega), ho _ _ (by unfold Epa; omega)]
    exact h6 k hk
theorem m_wait {ν : Mm} {o v : Nat} {P : List Nat} (h : PD ν o P) (hl : P.length < 40) (hv : v < 20) : ∃ ν2, M_waits (nI v) ν = some ν2 ∧ PD ν2 o (P ++ [v]) ∧ OutM Epa ν ν2 := by
  obtain ⟨h1, h2, h3, h4⟩ := h
  unfold M_waits
  rw [h2, chv_nI hl (by decide), ix_nI (by omega), lt_eq, sti_n (by omega), h2, nI_add, lt_eq]
  refine ⟨_, rfl, ⟨?_, ?_, by rw [len_1]; omega, fun k hk => ?_⟩, (OutM.rf.sti (by unfold Epa; omega)).sti (by unfold Epa; omega)⟩
  · rw [sti_n (by omega), sti_n (by omega)]
    exact h1
  · rw [sti_e ⟨rfl, rfl⟩, len_1]
  · rw [len_1] at hk
    rw [sti_n (by omega)]
    by_cases y : k = P.length
    · rw [y, sti_e ⟨rfl, rfl⟩, gF_e]
      exact ⟨rfl, hv⟩
    · rw [sti_n (by omega), gF_l (by omega)]
      exact h4 k (by omega)
/-- what waits on top comes out, as long as it is so -/
theorem m_settleL {v s : Nat} (hv : v < 20) (hs : opOf s = v ∧ argOf s = 0) {B : List Nat} (hB : topNe B v) {i : Nat} (k : Nat) : ∀ (ν : Mm) (L : List Nat) (o : Nat), RM tp n c ν i L → PD ν o (B ++ List.replicate k v) → L.length + k ≤ 400 → (v = 9 → k ≤ o) → ∀ q, k < q → ∃ ν2, iter q (fun s => M_settles_l0 (nI v) s) ν = some ν2 ∧ RM tp n c ν2 i (L ++ List.replicate k s) ∧ PD ν2 (if v = 9 then o - k else o) B ∧ OutM EMa ν ν2 := by
  induction k with
  | zero =>
    intro ν L o h hp hl ho q hq
    obtain ⟨q, rfl⟩ : ∃ p, q = p + 1 := ⟨q - 1, by omega⟩
    rw [List.replicate_zero, List.append_nil] at hp ⊢
    have hp0 := hp
    obtain ⟨h1, h2, h3, h4⟩ := hp
    refine ⟨ν, iter_inr ?_, h, ?_, OutM.rf⟩
    · show M_settles_l0 (nI v) ν = _
      unfold M_settles_l0
      rw [h2]
      by_cases e : B = []
      · rw [e, if_pos (show nI ([] : List Nat).length ≤ 0 by decide)]
      · have hb : 0 < B.length := List.length_pos_iff.2 e
        have top := hB.resolve_left e
        obtain ⟨t1, t2⟩ := h4 (B.length - 1) (by omega)
        rw [if_neg (show ¬ nI B.length ≤ 0 from nI_nle hb (by omega)), nI_subE (by omega), chv_nI (by omega) (by decide), ix_nI (by omega), t1, if_neg (fun z => top ((nI_eq (by omega) (by omega)).1 z))]
    · split
      · exact hp0
      · exact hp0
  | succ k ih =>
    intro ν L o h hp hl ho q hq
    obtain ⟨q, rfl⟩ : ∃ p, q = p + 1 := ⟨q - 1, by omega⟩
    rw [List.replicate_succ', ← List.append_assoc] at hp
    obtain ⟨h1, h2, h3, h4⟩ := hp
    rw [len_1] at h2 h3 h4
    generalize hP : B ++ List.replicate k v = P at h2 h3 h4
    obtain ⟨t1, t2⟩ := h4 P.length (by omega)
    rw [gF_e] at t1
    have hp1 : OutM Epa ν (sti ν 0 37 (nI P.length)) := OutM.rf.sti (by unfold Epa; omega)
    obtain ⟨m2, a1, a2, a3⟩ := m_emit (h.pa hp1) (s := s) (a := nI v) (b := nI 0) (by omega) (by rw [hs.1]) (by rw [hs.2])
    have pd2 : m2.1 0 35 = nI o ∧ m2.1 0 37 = nI P.length ∧ ∀ k, k < P.length → m2.1 19 k = nI (gF P k) ∧ gF P k < 20 := by
      refine ⟨?_, ?_, fun k hk => ?_⟩
      · rw [a3 _ _ (by unfold EMr; omega), sti_n (by omega)]
        exact h1
      · rw [a3 _ _ (by unfold EMr; omega), sti_e ⟨rfl, rfl⟩]
      · obtain ⟨z1, z2⟩ := h4 k (by omega)
        rw [gF_l hk] at z1 z2
        rw [a3 _ _ (by unfold EMr; omega), sti_n (by omega)]
        exact ⟨z1, z2⟩
    have e0 : M_settles_l0 (nI v) ν = if nI v = nI 9 then some (.inl (sti m2 0 35 (m2.1 0 35 - nI 1))) else some (.inl m2) := by
      unfold M_settles_l0
      rw [h2, if_neg (show ¬ nI (P.length + 1) ≤ 0 from nI_nle (by omega) (by omega)), nI_subE (by omega), Nat.add_sub_cancel, chv_nI (by omega) (by decide), ix_nI (by omega), t1, if_pos rfl, lt_eq, a1, bnd_eq]
      split
      · rw [lt_eq]
      · rfl
    have er : L ++ List.replicate (k + 1) s = L ++ [s] ++ List.replicate k s := by
      rw [List.append_assoc]
      rfl
    rw [er]
    by_cases v9 : v = 9
    · subst v9
      have ho := ho rfl
      rw [if_pos rfl, pd2.1, nI_subE (by omega)] at e0
      have hp3 : OutM Epa m2 (sti m2 0 35 (nI (o - 1))) := OutM.rf.sti (by unfold Epa; omega)
      obtain ⟨m4, b1, b2, b3, b4⟩ := ih (sti m2 0 35 (nI (o - 1))) (L ++ [s]) (o - 1) (a2.pa hp3) (by
        rw [hP]
        refine ⟨sti_e ⟨rfl, rfl⟩, ?_, by omega, fun k hk => ?_⟩
        · rw [sti_n (by omega)]
          exact pd2.2.1
        · rw [sti_n (by omega)]
          exact pd2.2.2 k hk) (by rw [len_1]; omega) (fun _ => by omega) q (by omega)
      rw [if_pos rfl] at b3 ⊢
      rw [show o - 1 - k = o - (k + 1) by omega] at b3
      exact ⟨m4, (iter_inl e0).trans b1, b2, b3, hp1.pa.tr (a3.ra.tr (hp3.pa.tr b4))⟩
    · rw [if_neg (fun z => v9 ((nI_eq (by omega) (by decide)).1 z))] at e0
      obtain ⟨m4, b1, b2, b3, b4⟩ := ih m2 (L ++ [s]) o a2 (by
        rw [hP]
        exact ⟨pd2.1, pd2.2.1, by omega, pd2.2.2⟩) (by rw [len_1]; omega) (fun z => absurd z v9) q (by omega)
      rw [if_neg v9] at b3 ⊢
      exact ⟨m4, (iter_inl e0).trans b1, b2, b3, hp1.pa.tr (a3.ra.tr b4)⟩
theorem m_settle {v s : Nat} (hv : v < 20) (hs : opOf s = v ∧ argOf s = 0) {B : List Nat} (hB : topNe B v) {i k : Nat} {ν : Mm} {L : List Nat} {o : Nat} (h : RM tp n c ν i L) (hp : PD ν o (B ++ List.replicate k v)) (hl : L.length + k ≤ 400) (ho : v = 9 → k ≤ o) : ∃ ν2, M_settles (nI v) ν = some ν2 ∧ RM tp n c ν2 i (L ++ List.replicate k s) ∧ PD ν2 (if v = 9 then o - k else o) B ∧ OutM EMa ν ν2 := by
  obtain ⟨ν2, g1, g2⟩ := m_settleL hv hs hB k ν L o h hp hl ho 1000000 (by omega)
  refine ⟨ν2, ?_, g2⟩
  unfold M_settles
  rw [g1, bni_eq]
def bL (a : Bool) (s : Nat) : List Nat := if a = true then [s] else []
theorem bL_r (a : Bool) (s : Nat) : bL a s = List.replicate (bI a) s := by
  cases a <;> rfl
theorem bL_l (a : Bool) (s : Nat) : (bL a s).length = bI a := by
  cases a <;> rfl
theorem bI_le (a : Bool) : bI a ≤ 1 := by
  cases a <;> decide
theorem orL_b (e : Bool) (L : List Nat) : orL e L = L ++ bL e 20303 := by
  cases e
  · exact (List.append_nil L).symm
  · rfl
theorem topNe_1 {B : List Nat} {u v : Nat} (h : u ≠ v) : topNe (B ++ [u]) v := by
  refine Or.inr ?_
  rw [len_1, Nat.add_sub_cancel, gF_e]
  exact h
theorem topNe_b {B : List Nat} {e : Bool} {u v : Nat} (hB : topNe B v) (h : u ≠ v) : topNe (B ++ bL e u) v := by
  cases e
  · rw [show bL false u = [] from rfl, List.append_nil]
    exact hB
  · exact topNe_1 h
/-- and, then or, come out -/
theorem m_settle2 {B : List Nat} (hB : topNe B 10 ∧ topNe B 11) {i : Nat} {ν : Mm} {L : List Nat} {o : Nat} {e a : Bool} (h : RM tp n c ν i L) (hp : PD ν o (B ++ bL e 11 ++ bL a 10)) (hl : L.length + bI a + bI e ≤ 400) : ∃ ν2, M_settles (nI 10) ν = some ν2 ∧ RM tp n c ν2 i (L ++ bL a 20304) ∧ PD ν2 o (B ++ bL e 11) ∧ OutM EMa ν ν2 ∧ ∃ ν3, M_settles (nI 11) ν2 = some ν3 ∧ RM tp n c ν3 i (orL e (L ++ bL a 20304)) ∧ PD ν3 o B ∧ OutM EMa ν ν3 := by
  rw [bL_r a 10] at hp
  obtain ⟨m1, a1, a2, a3, a4⟩ := m_settle (v := 10) (s := 20304) (by decide) ⟨rfl, rfl⟩ (topNe_b hB.1 (by decide)) h hp (by omega) (fun z => by omega)
  rw [if_neg (by decide)] at a3
  rw [← bL_r] at a2
  have a3' := a3
  rw [bL_r e 11] at a3'
  obtain ⟨m2, b1, b2, b3, b4⟩ := m_settle (v := 11) (s := 20303) (by decide) ⟨rfl, rfl⟩ hB.2 a2 a3' (by rw [List.length_append, bL_l]; omega) (fun z => by omega)
  rw [if_neg (by decide)] at b3
  rw [← bL_r, ← orL_b] at b2
  exact ⟨m1, a1, a2, a3, a4, m2, b1, b2, b3, a4.tr b4⟩
/-- what a stretch of the reading comes to: a fault, or the next token, the steps, what waits -/
def Stre (tp : Nat → Nat) (n c : Nat) (s0 : Int32 × Int32 × Mm) (i b : Nat) (o : Nat) (B q0 : List Nat) (r : PR) : Prop := match r with
  | .inl e => ∃ s ν2 x, s + i ≤ c ∧ (∀ q, iter (q + s + 1) fA s0 = some x) ∧ fAn x = some (-1, ν2) ∧ RMo tp n c ν2 (.inl e) ∧ OutM EMa s0.2.2 ν2
  | .inr x => ∃ s ν2, s + i ≤ x.1 ∧ (∀ q, iter (q + s) fA s0 = iter q fA (nI b, nI 0, ν2)) ∧ RM tp n c ν2 x.1 (x.2 ++ q0) ∧ PD ν2 o B ∧ OutM EMa s0.2.2 ν2
/-- one step first -/
theorem Stre.step {s0 s1 : Int32 × Int32 × Mm} {i i2 b o : Nat} {B q0 : List Nat} {r : PR} (h : Stre tp n c s1 i2 b o B q0 r) (h0 : fA s0 = some (.inl s1)) (hi : i + 1 ≤ i2) (hf : OutM EMa s0.2.2 s1.2.2) : Stre tp n c s0 i b o B q0 r := by
  cases r with
  | inl e =>
    obtain ⟨s, ν2, x, g1, g2, g3, g4, g5⟩ := h
    refine ⟨s + 1, ν2, x, by omega, fun q => ?_, g3, g4, hf.tr g5⟩
    rw [show q + (s + 1) + 1 = (q + s + 1) + 1 by omega, iter_inl h0]
    exact g2 q
  | inr x =>
    obtain ⟨s, ν2, g1, g2, g3, g4, g5⟩ := h
    refine ⟨s + 1, ν2, by omega, fun q => ?_, g3, g4, hf.tr g5⟩
    rw [show q + (s + 1) = (q + s) + 1 by omega, iter_inl h0]
    exact g2 q
/-- the end of one stretch, another one behind it -/
theorem Stre.bind {s0 : Int32 × Int32 × Mm} {i b o o2 : Nat} {B B2 q0 q1 : List Nat} {r : PR} {f : Nat → List Nat → PR} (h : Stre tp n c s0 i b o B q0 r) {b2 : Nat} (h2 : ∀ j l ν2, r = .inr (j, l) → RM tp n c ν2 j (l ++ q0) → PD ν2 o B → OutM EMa s0.2.2 ν2 → Stre tp n c (nI b, nI 0, ν2) j b2 o2 B2 q1 (f j l)) : Stre tp n c s0 i b2 o2 B2 q1 (bR r f) := by
  cases r with
  | inl e => exact h
  | inr x =>
    obtain ⟨s, ν2, g1, g2, g3, g4, g5⟩ := h
    obtain ⟨j, l⟩ := x
    have g1 : s + i ≤ j := g1
    have k := h2 j l ν2 rfl g3 g4 g5
    show Stre tp n c s0 i b2 o2 B2 q1 (f j l)
    generalize f j l = r2 at k ⊢
    cases r2 with
    | inl e =>
      obtain ⟨s', ν3, x, k1, k2, k3, k4, k5⟩ := k
      refine ⟨s' + s, ν3, x, by omega, fun q => ?_, k3, k4, g5.tr k5⟩
      rw [show q + (s' + s) + 1 = (q + s' + 1) + s by omega, g2]
      exact k2 q
    | inr x =>
      obtain ⟨s', ν3, k1, k2, k3, k4, k5⟩ := k
      refine ⟨s' + s, ν3, by omega, fun q => ?_, k3, k4, g5.tr k5⟩
      rw [show q + (s' + s) = (q + s') + s by omega, g2]
      exact k2 q
/-- a condition's test is read -/
def Tst (tp : Nat → Nat) (n c w d : Nat) (t : Nat → List Nat → PR) : Prop := ∀ i L ν b k B, b ≤ 8 - d → RMs tp n w ν → RM tp n c ν i L → k + d ≤ 8 → PD ν (8 - d) (B ++ List.replicate k 9) → topNe B 9 → L.length + k ≤ i → B.length ≤ 3 * (8 - d - k) + 2 → Stre tp n c (nI b, nI 1, ν) i b (8 - d - k) B (List.replicate k 20305) (t i L)
theorem m_tcmp (H : Hyp tp n c (mW w)) {d i b k : Nat} {L B : List Nat} {ν : Mm} (hs : RMs tp n w ν) (h : RM tp n c ν i L) (hk : k + d ≤ 8) (hp : PD ν (8 - d) (B ++ List.replicate k 9)) (hB : topNe B 9) (hl : L.length + k ≤ i) (c1 : ¬ Kd tp n i = 305) (c2 : ¬ Kd tp n i = 40) : Stre tp n c (nI b, nI 1, ν) i b (8 - d - k) B (List.replicate k 20305) (pQ (Kd tp n) (Vd tp n) (mW w) (c + 1) i L) := by
  have hc : c ≤ 400 := Nat.le_trans H.2.1 H.1
  have i0 := h.2.1
  have w5 := m_isWo h.1 (j := 5) (w := 5) (by decide) rfl
  have s40 := m_isSg h.1 (c := 40) (by decide) (by decide)
  rw [if_neg c1] at w5
  rw [if_neg c2] at s40
  obtain ⟨m1, a1, a2, a3⟩ := m_cmp H hs h (by omega)
  have gr := pQ_ok (K := Kd tp n) (V := Vd tp n) (m := mW w) H.E H.V H.2.2.2.2.2 (show i < c + 1 by omega) L
  have e0 : fA (nI b, nI 1, ν) = if cdR (pQ (Kd tp n) (Vd tp n) (mW w) (c + 1) i L) = -1 then some (.inr (Sum.inr (Sum.inl m1))) else bnd (M_settles (nI 9) m1) fun μ25 => some (.inl (nI b, nI 0, μ25)) := by
    show M_readAny_l9 (nI b) (nI 1) ν = _
    unfold M_readAny_l9
    rw [if_10, w5, bnd_eq, if_00, s40, bnd_eq, if_00, a1, bnd2_eq]
  generalize pQ (Kd tp n) (Vd tp n) (mW w) (c + 1) i L = r at a2 gr e0 ⊢
  cases r with
  | inl e =>
    rw [cd_inl, if_pos rfl] at e0
    exact ⟨0, m1, _, by omega, fun q => iter_inr e0, rfl, a2, a3.ra⟩
  | inr x =>
    obtain ⟨j, l⟩ := x
    obtain ⟨g1, g2, g3, g4, g5⟩ := gr
    have g1 : i < j := g1
    have g2 : j < c + 1 := g2
    have g3 : l.length + i ≤ L.length + j := g3
    have a2 : RM tp n c m1 j l := a2
    obtain ⟨m2, b1, b2, b3, b4⟩ := m_settle (v := 9) (s := 20305) (by decide) ⟨rfl, rfl⟩ hB a2 (hp.o a3) (by omega) (fun _ => by omega)
    rw [cd_inr, if_neg m1_ne0, b1, bnd_eq] at e0
    rw [if_pos rfl] at b3
    refine ⟨1, m2, by show 1 + i ≤ j; omega, fun q => iter_inl e0, b2, b3, a3.ra.tr b4⟩
theorem tst_0 (H : Hyp tp n c (mW w)) : Tst tp n c w 0 (pT (Kd tp n) (Vd tp n) (mW w) (c + 1) 0) := by
  intro i L ν b k B hbb hs h hk hp hB hl hb
  have i0 := h.2.1
  have w5 := m_isWo h.1 (j := 5) (w := 5) (by decide) rfl
  have s40 := m_isSg h.1 (c := 40) (by decide) (by decide)
  show Stre tp n c _ i b _ B _ (if Kd tp n i = 305 ∨ Kd tp n i = 40 then .inl (3, i) else pQ (Kd tp n) (Vd tp n) (mW w) (c + 1) i L)
  by_cases c1 : Kd tp n i = 305 ∨ Kd tp n i = 40
  · rw [if_pos c1]
    obtain ⟨m1, a1, a2, a3⟩ := m_errs H h 3
    have j32 : ∀ v3, M_readAny_j32 (nI b) (nI 1) v3 ν = some (.inr (Sum.inl ν)) := by
      intro v3
      unfold M_readAny_j32
      rw [hp.1, if_pos rfl]
    have e0 : fA (nI b, nI 1, ν) = some (.inr (Sum.inl ν)) := by
      show M_readAny_l9 (nI b) (nI 1) ν = _
      unfold M_readAny_l9
      rw [if_10, w5, bnd_eq]
      by_cases c2 : Kd tp n i = 305
      · rw [if_pos c2, if_10, j32]
      · rw [if_neg c2, if_00, s40, bnd_eq, if_pos (c1.resolve_left c2), if_10, j32]
    exact ⟨0, m1, _, by omega, fun q => iter_inr e0, fAn_3 a1, a2, a3.ra⟩
  · rw [if_neg c1]
    exact m_tcmp H hs h hk hp hB hl (fun z => c1 (Or.inl z)) (fun z => c1 (Or.inr z))
/-- where a condition ends: neither 'and' nor 'or' stands there -/
def Cend (tp : Nat → Nat) (n c : Nat) (s0 : Int32 × Int32 × Mm) (i b o : Nat) (B : List Nat) (r : PR) : Prop := match r with
  | .inl e => ∃ s ν2 x, s + i ≤ c ∧ (∀ q, iter (q + s + 1) fA s0 = some x) ∧ fAn x = some (-1, ν2) ∧ RMo tp n c ν2 (.inl e) ∧ OutM EMa s0.2.2 ν2
  | .inr x => ∃ (s : Nat) (ν2 : Mm) (L : List Nat) (e a : Bool), s + i ≤ x.1 ∧ (∀ q, iter (q + s) fA s0 = iter q fA (nI b, nI 0, ν2)) ∧ RM tp n c ν2 x.1 L ∧ PD ν2 o (B ++ bL e 11 ++ bL a 10) ∧ OutM EMa s0.2.2 ν2 ∧ x.2 = orL e (L ++ bL a 20304) ∧ L.length + bI a + bI e ≤ x.1 ∧ Kd tp n x.1 ≠ 304 ∧ Kd tp n x.1 ≠ 303
theorem Cend.step {s0 s1 : Int32 × Int32 × Mm} {i i2 b o : Nat} {B : List Nat} {r : PR} (h : Cend tp n c s1 i2 b o B r) {s : Nat} (h0 : ∀ q, iter (q + s) fA s0 = iter q fA s1) (hi : s + i ≤ i2) (hf : OutM EMa s0.2.2 s1.2.2) : Cend tp n c s0 i b o B r := by
  cases r with
  | inl e =>
    obtain ⟨s', ν2, x, g1, g2, g3, g4, g5⟩ := h
    refine ⟨s' + s, ν2, x, by omega, fun q => ?_, g3, g4, hf.tr g5⟩
    rw [show q + (s' + s) + 1 = (q + s' + 1) + s by omega, h0]
    exact g2 q
  | inr x =>
    obtain ⟨s', ν2, L, e, a, g1, g2, g3, g4, g5, g6⟩ := h
    refine ⟨s' + s, ν2, L, e, a, by omega, fun q => ?_, g3, g4, hf.tr g5, g6⟩
    rw [show q + (s' + s) = (q + s') + s by omega, h0]
    exact g2 q
theorem Cend.of {s0 : Int32 × Int32 × Mm} {i b o i2 b2 o2 : Nat} {B B2 q0 : List Nat} {r : PR} {f : Nat → List Nat → PR} (h : Stre tp n c s0 i b o B q0 r) (h2 : ∀ j l ν2, r = .inr (j, l) → RM tp n c ν2 j (l ++ q0) → PD ν2 o B → OutM EMa s0.2.2 ν2 → Cend tp n c (nI b, nI 0, ν2) j b2 o2 B2 (f j l)) : Cend tp n c s0 i b2 o2 B2 (bR r f) := by
  cases r with
  | inl e => exact h
  | inr x =>
    obtain ⟨s, ν2, g1, g2, g3, g4, g5⟩ := h
    obtain ⟨j, l⟩ := x
    exact (h2 j l ν2 rfl g3 g4 g5).step g2 g1 g5
theorem m_condL (H : Hyp tp n c (mW w)) {d b : Nat} {t : Nat → List Nat → PR} (hd : d ≤ 8) (ht : Tst tp n c w d t) {P : Nat → List Nat → List Nat → Prop} (hg : ∀ i L, i < c + 1 → Gr (c + 1) i L (P i L) (t i L)) {B : List Nat} (hB : topNe B 10 ∧ topNe B 11) (hb : B.length ≤ 3 * (8 - d)) (hbb : b ≤ 8 - d) (f : Nat) : ∀ (e a : Bool) i L ν, RMs tp n w ν → RM tp n c ν i L → PD ν (8 - d) (B ++ bL e 11 ++ bL a 10) → L.length + bI a + bI e ≤ i → c + 1 ≤ i + f → Cend tp n c (nI b, nI 0, ν) i b (8 - d) B (pCl (Kd tp n) t f e i (L ++ bL a 20304)) := by
  have hc : c ≤ 400 := Nat.le_trans H.2.1 H.1
  induction f with
  | zero =>
    intro e a i L ν hs h hp hl hf
    have := h.2.1
    omega
  | succ f ih =>
    intro e a i L ν hs h hp hl hf
    have i0 := h.2.1
    have ba := bI_le a
    have be := bI_le e
    have w4 := m_isWo h.1 (j := 4) (w := 4) (by decide) rfl
    have w3 := m_isWo h.1 (j := 3) (w := 3) (by decide) rfl
    show Cend tp n c _ i b _ B (if Kd tp n i = 304 then _ else if Kd tp n i = 303 then _ else .inr (i, orL e (L ++ bL a 20304)))
    by_cases c1 : Kd tp n i = 304
    · rw [if_pos c1] at w4 ⊢
      have i1 := H.E i (by omega) (by omega)
      obtain ⟨m1, a1, a2, a3, a4, _⟩ := m_settle2 hB h hp (by omega)
      have pl : (B ++ bL e 11).length ≤ 3 * (8 - d) + 1 := by
        rw [List.length_append, bL_l]
        omega
      obtain ⟨m2, b1, b2, b3⟩ := m_wait (v := 10) a3 (by omega) (by decide)
      obtain ⟨m3, d1, d2, d3⟩ := m_next H ((hs.oa a4).oa b3.pa) (a2.pa b3) (by omega)
      have hs3 : RMs tp n w m3 := (((hs.oa a4).oa b3.pa).o d3)
      have e0 : fA (nI b, nI 0, ν) = some (.inl (nI b, nI 1, m3)) := by
        show M_readAny_l9 (nI b) (nI 0) ν = _
        unfold M_readAny_l9
        rw [if_00, w4, bnd_eq, if_10, a1, bnd_eq, b1, bnd_eq, d1, bnd_eq]
      have pd3 := b2.o d3
      have T := ht (i + 1) (L ++ bL a 20304) m3 b 0 (B ++ bL e 11 ++ [10]) hbb hs3 d2 (by omega) (by rw [List.replicate_zero, List.append_nil]; exact pd3) (topNe_1 (by decide)) (by rw [List.length_append, bL_l]; omega) (by rw [len_1]; omega)
      have gr := hg (i + 1) (L ++ bL a 20304) i1
      refine Cend.step (i2 := i + 1) (s := 1) (s1 := (nI b, nI 1, m3)) ?_ (fun q => iter_inl e0) (by omega) (a4.tr (b3.pa.tr d3.ra))
      refine Cend.of (i2 := 0) T (fun j l ν2 hr k1 k2 k3 => ?_)
      rw [List.replicate_zero, List.append_nil] at k1
      have g := Gr.get gr hr
      have g1 := g.1
      have g3 := g.2.2.1
      rw [List.length_append, bL_l] at g3
      have := ih e true j l ν2 (hs3.oa k3) k1 (by rw [Nat.sub_zero] at k2; exact k2) (by show l.length + 1 + bI e ≤ j; omega) (by omega)
      exact this
    · rw [if_neg c1] at w4 ⊢
      by_cases c2 : Kd tp n i = 303
      · rw [if_pos c2] at w3 ⊢
        have i1 := H.E i (by omega) (by omega)
        obtain ⟨m1, a1, a2, a3, a4, m1b, y1, y2, y3, y4⟩ := m_settle2 hB h hp (by omega)
        obtain ⟨m2, b1, b2, b3⟩ := m_wait (v := 11) y3 (by omega) (by decide)
        obtain ⟨m3, d1, d2, d3⟩ := m_next H ((hs.oa y4).oa b3.pa) (y2.pa b3) (by omega)
        have hs3 : RMs tp n w m3 := (((hs.oa y4).oa b3.pa).o d3)
        have e0 : fA (nI b, nI 0, ν) = some (.inl (nI b, nI 1, m3)) := by
          show M_readAny_l9 (nI b) (nI 0) ν = _
          unfold M_readAny_l9
          rw [if_00, w4, bnd_eq, if_00, w3, bnd_eq, if_10, a1, bnd_eq, y1, bnd_eq, b1, bnd_eq, d1, bnd_eq]
        have pd3 := b2.o d3
        have ol : (orL e (L ++ bL a 20304)).length ≤ i := by
          rw [orL_b, List.length_append, List.length_append, bL_l, bL_l]
          omega
        have T := ht (i + 1) (orL e (L ++ bL a 20304)) m3 b 0 (B ++ [11]) hbb hs3 d2 (by omega) (by rw [List.replicate_zero, List.append_nil]; exact pd3) (topNe_1 (by decide)) (by omega) (by rw [len_1]; omega)
        have gr := hg (i + 1) (orL e (L ++ bL a 20304)) i1
        refine Cend.step (i2 := i + 1) (s := 1) (s1 := (nI b, nI 1, m3)) ?_ (fun q => iter_inl e0) (by omega) (y4.tr (b3.pa.tr d3.ra))
        refine Cend.of (i2 := 0) T (fun j l ν2 hr k1 k2 k3 => ?_)
        rw [List.replicate_zero, List.append_nil] at k1
        have g := Gr.get gr hr
        have g1 := g.1
        have g3 := g.2.2.1
        have := ih true false j l ν2 (hs3.oa k3) k1 (by rw [Nat.sub_zero] at k2; rw [show bL false 10 = [] from rfl, List.append_nil]; exact k2) (by show l.length + 0 + 1 ≤ j; omega) (by omega)
        rw [show bL false 20304 = [] from rfl, List.append_nil] at this
        exact this
      · rw [if_neg c2]
        exact ⟨0, ν, L, e, a, by show 0 + i ≤ i; omega, fun q => rfl, h, hp, OutM.rf, rfl, hl, c1, c2⟩
theorem m_cond (H : Hyp tp n c (mW w)) {d b : Nat} {t : Nat → List Nat → PR} (hd : d ≤ 8) (ht : Tst tp n c w d t) {P : Nat → List Nat → List Nat → Prop} (hg : ∀ i L, i < c + 1 → Gr (c + 1) i L (P i L) (t i L)) {B : List Nat} (hB : topNe B 10 ∧ topNe B 11 ∧ topNe B 9) (hb : B.length ≤ 3 * (8 - d)) (hbb : b ≤ 8 - d) {i : Nat} {L : List Nat} {ν : Mm} (hs : RMs tp n w ν) (h : RM tp n c ν i L) (hp : PD ν (8 - d) B) (hl : L.length ≤ i) : Cend tp n c (nI b, nI 1, ν) i b (8 - d) B (pKo (Kd tp n) (c + 1) t i L) := by
  have i0 := h.2.1
  have T := ht i L ν b 0 B hbb hs h (by omega) (by rw [List.replicate_zero, List.append_nil]; exact hp) hB.2.2 (by omega) (by omega)
  have gr := hg i L (by omega)
  refine Cend.of (i2 := 0) T (fun j l ν2 hr k1 k2 k3 => ?_)
  rw [List.replicate_zero, List.append_nil] at k1
  have g := Gr.get gr hr
  have g1 := g.1
  have g3 := g.2.2.1
  have := m_condL H (b := b) hd ht hg ⟨hB.1, hB.2.1⟩ hb hbb (c + 1) false false j l ν2 (hs.oa k3) k1 (by rw [Nat.sub_zero] at k2; rw [show bL false 10 = [] from rfl, show bL false 11 = [] from rfl, List.append_nil, List.append_nil]; exact k2) (by show l.length + 0 + 0 ≤ j; omega) (by omega)
  rw [show bL false 20304 = [] from rfl, List.append_nil] at this
  exact this
theorem m_test (H : Hyp tp n c (mW w)) (d : Nat) : d ≤ 8 → Tst tp n c w d (pT (Kd tp n) (Vd tp n) (mW w) (c + 1) d) := by
  have hc : c ≤ 400 := Nat.le_trans H.2.1 H.1
  induction d with
  | zero => exact fun _ => tst_0 H
  | succ d ih =>
    intro hd i L ν b k B hbb hs h hk hp hB hl hb
    have ih := ih (by omega)
    have i0 := h.2.1
    have w5 := m_isWo h.1 (j := 5) (w := 5) (by decide) rfl
    have s40 := m_isSg h.1 (c := 40) (by decide) (by decide)
    have gT := pT_ok (K := Kd tp n) (V := Vd tp n) (m := mW w) H.E H.V H.2.2.2.2.2 d
    have o1 : OutM Epa ν (sti ν 0 35 (nI (8 - d))) := OutM.rf.sti (by unfold Epa; omega)
    have pd1 : PD (sti ν 0 35 (nI (8 - d))) (8 - d) (B ++ List.replicate k 9) := by
      obtain ⟨h1, h2, h3, h4⟩ := hp
      refine ⟨sti_e ⟨rfl, rfl⟩, ?_, h3, fun q hq => ?_⟩
      · rw [sti_n (by omega)]
        exact h2
      · rw [sti_n (by omega)]
        exact h4 q hq
    have plen : (B ++ List.replicate k 9).length ≤ 3 * (8 - (d + 1)) + 2 := by
      rw [List.length_append, List.length_replicate]
      omega
    have j32 : ∀ v3, M_readAny_j32 (nI b) (nI 1) v3 ν = if v3 = 0 then M_readAny_j65 (nI (b + 1)) (nI 1) v3 (sti ν 0 35 (nI (8 - d))) else M_readAny_j65 (nI b) (nI 1) v3 (sti ν 0 35 (nI (8 - d))) := by
      intro v3
      unfold M_readAny_j32
      rw [hp.1, if_neg (fun z => by have := (nI_eq (by omega) (by decide)).1 z; omega), nI_add, show 8 - (d + 1) + 1 = 8 - d by omega, lt_eq, nI_add]
    show Stre tp n c _ i b _ B _ (if Kd tp n i = 305 then _ else if Kd tp n i = 40 then _ else pQ (Kd tp n) (Vd tp n) (mW w) (c + 1) i L)
    by_cases c1 : Kd tp n i = 305
    · rw [if_pos c1] at w5 ⊢
      have i1 := H.E i (by omega) (by omega)
      obtain ⟨m2, b1, b2, b3⟩ := m_wait (v := 9) pd1 (by omega) (by decide)
      obtain ⟨m3, d1, d2, d3⟩ := m_next H ((hs.oa o1.pa).oa b3.pa) ((h.pa o1).pa b3) (by omega)
      have hs3 : RMs tp n w m3 := (((hs.oa o1.pa).oa b3.pa).o d3)
      have e0 : fA (nI b, nI 1, ν) = some (.inl (nI b, nI 1, m3)) := by
        show M_readAny_l9 (nI b) (nI 1) ν = _
        unfold M_readAny_l9
        rw [if_10, w5, bnd_eq, if_10, j32, if_10]
        unfold M_readAny_j65 M_readAny_j77
        rw [if_10, b1, bnd_eq, d1, bnd_eq]
      have pd3 := b2.o d3
      rw [List.append_assoc, ← List.replicate_succ'] at pd3
      have T := ih (i + 1) L m3 b (k + 1) B (by omega) hs3 d2 (by omega) pd3 hB (by omega) (by omega)
      have T2 := T.step (s0 := (nI b, nI 1, ν)) (i := i) e0 (Nat.le_refl _) (o1.pa.tr (b3.pa.tr d3.ra))
      rw [show 8 - d - (k + 1) = 8 - (d + 1) - k by omega] at T2
      generalize pT (Kd tp n) (Vd tp n) (mW w) (c + 1) d (i + 1) L = r at T2 ⊢
      cases r with
      | inl e => exact T2
      | inr x =>
        obtain ⟨s, ν2, g1, g2, g3, g4, g5⟩ := T2
        refine ⟨s, ν2, g1, g2, ?_, g4, g5⟩
        show RM tp n c ν2 x.1 (x.2 ++ [20305] ++ List.replicate k 20305)
        rw [List.append_assoc]
        exact g3
    · rw [if_neg c1] at w5 ⊢
      by_cases c2 : Kd tp n i = 40
      · rw [if_pos c2] at s40 ⊢
        have i1 := H.E i (by omega) (by omega)
        obtain ⟨m2, b1, b2, b3⟩ := m_wait (v := 12) pd1 (by omega) (by decide)
        obtain ⟨m3, d1, d2, d3⟩ := m_next H ((hs.oa o1.pa).oa b3.pa) ((h.pa o1).pa b3) (by omega)
        have hs3 : RMs tp n w m3 := (((hs.oa o1.pa).oa b3.pa).o d3)
        have e0 : fA (nI b, nI 1, ν) = some (.inl (nI (b + 1), nI 1, m3)) := by
          show M_readAny_l9 (nI b) (nI 1) ν = _
          unfold M_readAny_l9
          rw [if_10, w5, bnd_eq, if_00, s40, bnd_eq, if_10, j32, if_00]
          unfold M_readAny_j65 M_readAny_j77
          rw [if_00, b1, bnd_eq, d1, bnd_eq]
        have pd3 := b2.o d3
        have C := m_cond H (b := b + 1) (by omega) ih gT (B := B ++ List.replicate k 9 ++ [12]) ⟨topNe_1 (by decide), topNe_1 (by decide), topNe_1 (by decide)⟩ (by rw [len_1]; omega) (by omega) hs3 d2 pd3 (by omega)
        have gr := pKo_ok (m := mW w) H.E gT i1 L
        -- the bracket's end
        have oall : OutM EMa ν m3 := o1.pa.tr (b3.pa.tr d3.ra)
        have S1 : Stre tp n c (nI (b + 1), nI 1, m3) (i + 1) b (8 - (d + 1) - k) B (List.replicate k 20305) (bR (pKo (Kd tp n) (c + 1) (pT (Kd tp n) (Vd tp n) (mW w) (c + 1) d) (i + 1) L) (tkR (Kd tp n) 41)) := by
          generalize pKo (Kd tp n) (c + 1) (pT (Kd tp n) (Vd tp n) (mW w) (c + 1) d) (i + 1) L = r at C gr ⊢
          cases r with
          | inl e => exact C
          | inr x =>
            obtain ⟨j, l⟩ := x
            obtain ⟨s, ν2, Lr, e, a, q1, q2, q3, q4, q5, q6, q7, q8, q9⟩ := C
            obtain ⟨g1, g2, g3, g4, g5⟩ := gr
            have g1 : i + 1 < j := g1
            have g2 : j < c + 1 := g2
            have g3 : l.length + (i + 1) ≤ L.length + j := g3
            have q1 : s + (i + 1) ≤ j := q1
            have q3 : RM tp n c ν2 j Lr := q3
            have q6 : l = orL e (Lr ++ bL a 20304) := q6
            have q7 : Lr.length + bI a + bI e ≤ j := q7
            have q8 : Kd tp n j ≠ 304 := q8
            have q9 : Kd tp n j ≠ 303 := q9
            have v4 := m_isWo q3.1 (j := 4) (w := 4) (by decide) rfl
            have v3 := m_isWo q3.1 (j := 3) (w := 3) (by decide) rfl
            rw [if_neg q8] at v4
            rw [if_neg q9] at v3
            obtain ⟨p1, y1, y2, y3, y4, p2, z1, z2, z3, z4⟩ := m_settle2 (B := B ++ List.replicate k 9 ++ [12]) ⟨topNe_1 (by decide), topNe_1 (by decide)⟩ q3 q4 (by omega)
            rw [← q6] at z2
            have s41 := m_isSg z2.1 (c := 41) (by decide) (by decide)
            have e1 : fA (nI (b + 1), nI 0, ν2) = bnd (M_isSign (nI 41) p2) fun r6 => if r6 = 0 then some (.inr (Sum.inr (Sum.inr (Sum.inr p2)))) else lt (sti p2 0 37 ((p2.1 0 37) - (nI 1))) fun μ7 => lt (sti μ7 0 35 ((μ7.1 0 35) - (nI 1))) fun μ8 => bnd (M_settles (nI 9) μ8) fun μ9 => bnd (M_reads μ9) fun μ10 => some (.inl ((nI (b + 1) - nI 1), nI 0, μ10)) := by
              show M_readAny_l9 (nI (b + 1)) (nI 0) ν2 = _
              unfold M_readAny_l9
              rw [if_00, v4, bnd_eq, if_00, v3, bnd_eq, if_00, y1, bnd_eq, z1, bnd_eq, if_neg (show ¬ nI (b + 1) = 0 from nI_ne0 (by omega) (by omega))]
            show Stre tp n c _ _ b _ B _ (tkR (Kd tp n) 41 j l)
            unfold tkR
            by_cases c3 : Kd tp n j = 41
            · rw [if_pos c3] at s41 ⊢
              have j1 := H.E j g2 (by omega)
              rw [s41, bnd_eq, if_10, z3.2.1, len_1, nI_subE (by omega), Nat.add_sub_cancel, lt_eq, sti_n (by omega), z3.1, nI_subE (by omega), show 8 - d - 1 = 8 - (d + 1) by omega, lt_eq] at e1
              generalize hz : sti (sti p2 0 37 (nI (B ++ List.replicate k 9).length)) 0 35 (nI (8 - (d + 1))) = p3 at e1
              have o3 : OutM Epa p2 p3 := by
                rw [← hz]
                exact (OutM.rf.sti (by unfold Epa; omega)).sti (by unfold Epa; omega)
              have pd4 : PD p3 (8 - (d + 1)) (B ++ List.replicate k 9) := by
                obtain ⟨f1, f2, f3, f4⟩ := z3
                rw [len_1] at f3 f4
                refine ⟨by rw [← hz, sti_e ⟨rfl, rfl⟩], by rw [← hz, sti_n (by omega), sti_e ⟨rfl, rfl⟩], by omega, fun q hq => ?_⟩
                obtain ⟨u1, u2⟩ := f4 q (by omega)
                rw [gF_l hq] at u1 u2
                rw [← hz, sti_n (by omega), sti_n (by omega)]
                exact ⟨u1, u2⟩
              obtain ⟨p4, r1, r2, r3, r4⟩ := m_settle (v := 9) (s := 20305) (by decide) ⟨rfl, rfl⟩ hB (z2.pa o3) pd4 (by omega) (fun _ => by omega)
              rw [if_pos rfl] at r3
              have hs4 : RMs tp n w p4 := (((hs3.oa q5).oa z4).oa o3.pa).oa r4
              obtain ⟨p5, x1, x2, x3⟩ := m_next H hs4 r2 (by omega)
              rw [r1, bnd_eq, x1, bnd_eq, nI_subE (by omega), Nat.add_sub_cancel] at e1
              refine ⟨s + 1, p5, by show s + 1 + (i + 1) ≤ j + 1; omega, fun q => ?_, x2, r3.o x3, q5.tr (z4.tr (o3.pa.tr (r4.tr x3.ra)))⟩
              rw [show q + (s + 1) = (q + 1) + s by omega, q2]
              exact iter_inl e1
            · rw [if_neg c3] at s41 ⊢
              rw [s41, bnd_eq, if_00] at e1
              obtain ⟨m9, x1, x2, x3⟩ := m_errs H z2 1
              refine ⟨s, m9, _, by omega, fun q => ?_, fAn_1 x1, x2, q5.tr (z4.tr x3.ra)⟩
              rw [show q + s + 1 = (q + 1) + s by omega, q2]
              exact iter_inr e1
        exact S1.step (s0 := (nI b, nI 1, ν)) (i := i) e0 (Nat.le_refl _) oall
      · rw [if_neg c2]
        exact m_tcmp H hs h hk hp hB hl c1 c2
end
