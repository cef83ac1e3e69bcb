/-! FEED, END, FAULT, DAYS -/
def byS (v : Int32) (s : Nat) : Nat := v.toBitVec.toNat / 2 ^ s % 256
theorem n255 : (nI 255).toBitVec = 255#32 := rfl
theorem h255 : ∀ i, i < 32 → (255#32).getLsbD i = decide (i < 8) := by decide
theorem by_sshr (v : Int32) {s : Nat} (hs : s = 0 ∨ s = 8 ∨ s = 16 ∨ s = 24) : (v >>> (nI s &&& 31)) &&& nI 255 = nI (byS v s) := by
  apply Int32.toBitVec_inj.mp
  rw [Int32.toBitVec_and, Int32.toBitVec_shiftRight, sm31 s (by omega), n255]
  show _ = BitVec.ofNat 32 _
  unfold byS
  generalize v.toBitVec = x at *
  apply BitVec.eq_of_getLsbD_eq
  intro i hi
  rw [BitVec.getLsbD_and, BitVec.sshiftRight_eq', BitVec.getLsbD_sshiftRight, BitVec.toNat_ofNat, Nat.mod_eq_of_lt (show s < 2 ^ 32 by omega), h255 i hi]
  rw [BitVec.getLsbD_ofNat]
  by_cases h8 : i < 8
  · rw [show (256 : Nat) = 2 ^ 8 from rfl, Nat.testBit_mod_two_pow, Nat.testBit_div_two_pow]
    rw [if_pos (show s + i < 32 by omega), Nat.add_comm s i]
    simp only [h8, hi, decide_true, Bool.true_and, Bool.and_true, show ¬ 32 ≤ i by omega, decide_false, Bool.not_false]
    rfl
  · rw [show (256 : Nat) = 2 ^ 8 from rfl, Nat.testBit_mod_two_pow]
    simp [h8]
theorem by_ushr (v : Int32) {s : Nat} (hs : s = 0 ∨ s = 8 ∨ s = 16 ∨ s = 24) : ushr v (nI s) &&& nI 255 = nI (byS v s) := by
  apply Int32.toBitVec_inj.mp
  rw [Int32.toBitVec_and, n255]
  have e : (ushr v (nI s)).toBitVec = v.toBitVec >>> s := by
    unfold ushr
    show (v.toUInt32 >>> ((nI s).toUInt32 &&& Int32.toUInt32 31)).toBitVec = _
    rw [UInt32.toBitVec_shiftRight]
    have : ((nI s).toUInt32 &&& Int32.toUInt32 31).toBitVec % 32 = BitVec.ofNat 32 s := by
      rcases hs with rfl | rfl | rfl | rfl <;> decide
    rw [this]
    show v.toBitVec >>> (BitVec.ofNat 32 s) = _
    rw [BitVec.ushiftRight_eq', BitVec.toNat_ofNat, Nat.mod_eq_of_lt (show s < 2 ^ 32 by omega)]
  rw [e]
  show _ = BitVec.ofNat 32 _
  unfold byS
  generalize v.toBitVec = x at *
  apply BitVec.eq_of_getLsbD_eq
  intro i hi
  rw [BitVec.getLsbD_and, BitVec.getLsbD_ushiftRight, h255 i hi]
  rw [BitVec.getLsbD_ofNat]
  by_cases h8 : i < 8
  · rw [show (256 : Nat) = 2 ^ 8 from rfl, Nat.testBit_mod_two_pow, Nat.testBit_div_two_pow]
    rw [Nat.add_comm s i]
    simp only [h8, hi, decide_true, Bool.true_and, Bool.and_true]
    rfl
  · rw [show (256 : Nat) = 2 ^ 8 from rfl, Nat.testBit_mod_two_pow]
    simp [h8]
theorem byS_lt (v : Int32) (s : Nat) : byS v s < 256 := Nat.mod_lt _ (by decide)
/-- the tape: n bytes -/
def tapC (μ : Mm) (n : Nat) (tp : Nat → Nat) : Prop := μ.1 532 1 = nI n ∧ ∀ i, i < n → μ.1 533 i = nI (tp i)
def tapM (ν : Mm) (n : Nat) (tp : Nat → Nat) : Prop := ν.1 0 21 = nI n ∧ ∀ i, i < n → ν.1 11 i = nI (tp i)
def tapB (n : Nat) (tp : Nat → Nat) : Prop := n ≤ 400 ∧ ∀ i, i < n → tp i < 256
def tpN (n : Nat) (tp : Nat → Nat) (v : Int32) : Nat → Nat := fun i => if i < n then tp i else byS v (24 - 8 * (i - n))
theorem tapC.out {μ μ2 : Mm} {n : Nat} {tp : Nat → Nat} {E : Nat → Prop} (h : tapC μ n tp) (ho : Out E μ μ2) (h2 : ¬ E 532) (h3 : ¬ E 533) : tapC μ2 n tp := ⟨((ho 532 h2).1 1).trans h.1, fun i hi => ((ho 533 h3).1 i).trans (h.2 i hi)⟩
theorem tapM.out {ν ν2 : Mm} {n : Nat} {tp : Nat → Nat} {E : Nat → Nat → Prop} (h : tapM ν n tp) (ho : OutM E ν ν2) (h2 : ¬ E 0 21) (h3 : ∀ k, ¬ E 11 k) : tapM ν2 n tp := ⟨(ho _ _ h2).trans h.1, fun i hi => (ho _ _ (h3 i)).trans (h.2 i hi)⟩
theorem tapB.num {n : Nat} {tp : Nat → Nat} (h : tapB n tp) (hn : n + 4 ≤ 400) (v : Int32) : tapB (n + 4) (tpN n tp v) := ⟨hn, fun i hi => by
  unfold tpN
  split
  · exact h.2 i (by assumption)
  · exact byS_lt _ _⟩
def sh8 (k : Nat) : Int32 := nI 24 - nI (8 * k)
theorem sh8_s : ∀ k, k < 4 → sh8 k = nI (24 - 8 * k) ∧ ¬ sh8 k < 0 ∧ sh8 k + (-8) = sh8 (k + 1) ∧ (24 - 8 * k = 0 ∨ 24 - 8 * k = 8 ∨ 24 - 8 * k = 16 ∨ 24 - 8 * k = 24) := by decide +kernel
def EC (o : Nat) : Prop := o = 532 ∨ o = 533
def fdC (μ : Mm) (n : Nat) (v : Int32) : Nat → Mm
  | 0 => μ
  | k + 1 => sti (sti (fdC μ n v k) 533 (n + k) (nI (byS v (24 - 8 * k)))) 532 1 (nI (n + k + 1))
theorem fdC_is {μ : Mm} {n : Nat} {tp : Nat → Nat} (h : tapC μ n tp) (v : Int32) (k : Nat) : tapC (fdC μ n v k) (n + k) (tpN n tp v) ∧ Out EC μ (fdC μ n v k) := by
  induction k with
  | zero =>
    refine ⟨⟨h.1, fun i hi => ?_⟩, Out.rf⟩
    show μ.1 533 i = _
    rw [h.2 i hi]
    unfold tpN
    rw [if_pos (show i < n from hi)]
  | succ k ih =>
    obtain ⟨⟨a, b⟩, c⟩ := ih
    refine ⟨⟨sti_e ⟨rfl, rfl⟩, fun i hi => ?_⟩, (c.sti (Or.inr rfl)).sti (Or.inl rfl)⟩
    show (sti (sti _ _ _ _) _ _ _).1 533 i = _
    rw [sti_n (by omega)]
    by_cases e : i = n + k
    · rw [sti_e ⟨rfl, e⟩, e]
      unfold tpN
      rw [if_neg (by omega), Nat.add_sub_cancel_left]
    · rw [sti_n (by omega)]
      exact b i (by omega)
theorem c_num {μ : Mm} {n : Nat} {tp : Nat → Nat} (h : tapC μ n tp) (hn : n + 4 ≤ 400) (v : Int32) : ∃ μ2, Reader_appendNumber 532 v μ = some μ2 ∧ tapC μ2 (n + 4) (tpN n tp v) ∧ Out EC μ μ2 := by
  have key := iter_traj (f := fun s : Int32 × Mm => Reader_appendNumber_l3 532 v s.1 s.2) (fun k => (sh8 k, fdC μ n v k)) (y := fdC μ n v 4) 4 1000000 ?_ ?_ (by decide)
  · refine ⟨fdC μ n v 4, ?_, (fdC_is h v 4).1, (fdC_is h v 4).2⟩
    unfold Reader_appendNumber
    rw [show sh8 0 = nI 24 from rfl] at key
    rw [show fdC μ n v 0 = μ from rfl] at key
    rw [key, bni_eq]
  · intro k hk
    obtain ⟨e1, e2, e3, e4⟩ := sh8_s k hk
    obtain ⟨⟨a, b⟩, c⟩ := fdC_is h v k
    show Reader_appendNumber_l3 532 _ _ _ = _
    unfold Reader_appendNumber_l3
    rw [if_neg e2, a, chv_nI (by omega) (by decide), ix_nI (by omega), e3, e1, by_ushr v e4, lt_eq, sti_n (by omega), a, nI_add, lt_eq]
    rfl
  · show Reader_appendNumber_l3 532 _ _ _ = _
    unfold Reader_appendNumber_l3
    rw [if_pos (show sh8 4 < 0 by decide)]
def ECM (o k : Nat) : Prop := o = 11 ∨ (o = 0 ∧ k = 21)
def fdM (ν : Mm) (n : Nat) (v : Int32) : Nat → Mm
  | 0 => ν
  | k + 1 => sti (sti (fdM ν n v k) 11 (n + k) (nI (byS v (24 - 8 * k)))) 0 21 (nI (n + k + 1))
theorem fdM_is {ν : Mm} {n : Nat} {tp : Nat → Nat} (h : tapM ν n tp) (v : Int32) (k : Nat) : tapM (fdM ν n v k) (n + k) (tpN n tp v) ∧ OutM ECM ν (fdM ν n v k) := by
  induction k with
  | zero =>
    refine ⟨⟨h.1, fun i hi => ?_⟩, OutM.rf⟩
    show ν.1 11 i = _
    rw [h.2 i hi]
    unfold tpN
    rw [if_pos (show i < n from hi)]
  | succ k ih =>
    obtain ⟨⟨a, b⟩, c⟩ := ih
    refine ⟨⟨sti_e ⟨rfl, rfl⟩, fun i hi => ?_⟩, (c.sti (by unfold ECM; omega)).sti (by unfold ECM; omega)⟩
    show (sti (sti _ _ _ _) _ _ _).1 11 i = _
    rw [sti_n (by omega)]
    by_cases e : i = n + k
    · rw [sti_e ⟨rfl, e⟩, e]
      unfold tpN
      rw [if_neg (by omega), Nat.add_sub_cancel_left]
    · rw [sti_n (by omega)]
      exact b i (by omega)
theorem m_num {ν : Mm} {n : Nat} {tp : Nat → Nat} (h : tapM ν n tp) (hn : n + 4 ≤ 400) (v : Int32) : ∃ ν2, M_types v ν = some ν2 ∧ tapM ν2 (n + 4) (tpN n tp v) ∧ OutM ECM ν ν2 := by
  have key := iter_traj (f := fun s : Int32 × Mm => M_types_l3 v s.1 s.2) (fun k => (sh8 k, fdM ν n v k)) (y := fdM ν n v 4) 4 1000000 ?_ ?_ (by decide)
  · refine ⟨fdM ν n v 4, ?_, (fdM_is h v 4).1, (fdM_is h v 4).2⟩
    unfold M_types
    rw [show sh8 0 = nI 24 from rfl] at key
    rw [show fdM ν n v 0 = ν from rfl] at key
    rw [key, bni_eq]
  · intro k hk
    obtain ⟨e1, e2, e3, e4⟩ := sh8_s k hk
    obtain ⟨⟨a, b⟩, c⟩ := fdM_is h v k
    show M_types_l3 _ _ _ = _
    unfold M_types_l3
    rw [if_neg e2, a, chv_nI (by omega) (by decide), ix_nI (by omega), e3, e1, by_sshr v e4, lt_eq, sti_n (by omega), a, nI_add, lt_eq]
    rfl
  · show M_types_l3 _ _ _ = _
    unfold M_types_l3
    rw [if_pos (show sh8 4 < 0 by decide)]
def tp5 (n : Nat) (tp : Nat → Nat) (a b c d e : Int32) : Nat → Nat := tpN (n + 16) (tpN (n + 12) (tpN (n + 8) (tpN (n + 4) (tpN n tp a) b) c) d) e
theorem tapB.five {n : Nat} {tp : Nat → Nat} (h : tapB n tp) (hn : n + 20 ≤ 400) (a b c d e : Int32) : tapB (n + 20) (tp5 n tp a b c d e) := ((((h.num (by omega) a).num (by omega) b).num (by omega) c).num (by omega) d).num (by omega) e
theorem c_feed {μ : Mm} {n : Nat} {tp : Nat → Nat} (h : tapC μ n tp) (hn : n ≤ 400) (a b c d e : Int32) :
    (380 < n ∧ Nine_feed a b c d e μ = some (-1, μ)) ∨ (n ≤ 380 ∧ ∃ μ2, Nine_feed a b c d e μ = some (nI (n + 20), μ2) ∧ tapC μ2 (n + 20) (tp5 n tp a b c d e) ∧ Out EC μ μ2) := by
  unfold Nine_feed Reader_append
  rw [h.1, nI_add]
  by_cases c1 : n ≤ 380
  · right
    refine ⟨c1, ?_⟩
    obtain ⟨m1, f1, g1, o1⟩ := c_num h (by omega) a
    obtain ⟨m2, f2, g2, o2⟩ := c_num g1 (by omega) b
    obtain ⟨m3, f3, g3, o3⟩ := c_num g2 (by omega) c
    obtain ⟨m4, f4, g4, o4⟩ := c_num g3 (by omega) d
    obtain ⟨m5, f5, g5, o5⟩ := c_num g4 (by omega) e
    refine ⟨m5, ?_, g5, (((o1.tr o2).tr o3).tr o4).tr o5⟩
    rw [if_pos (nI_le (by omega) (by decide)), f1, bnd_eq, f2, bnd_eq, f3, bnd_eq, f4, bnd_eq, f5, bnd_eq, g5.1, bnd2_eq]
  · left
    refine ⟨by omega, ?_⟩
    rw [if_neg (nI_ge (by omega) (by omega)), bnd2_eq]
theorem m_feed {ν : Mm} {n : Nat} {tp : Nat → Nat} (h : tapM ν n tp) (hn : n ≤ 400) (a b c d e : Int32) :
    (380 < n ∧ M_feed a b c d e ν = some (-1, sti ν 0 0 (nI 0))) ∨ (n ≤ 380 ∧ ∃ ν2, M_feed a b c d e ν = some (nI (n + 20), ν2) ∧ tapM ν2 (n + 20) (tp5 n tp a b c d e) ∧ OutM (fun o k => ECM o k ∨ (o = 0 ∧ k = 0)) ν ν2) := by
  have h0 : tapM (sti ν 0 0 (nI 0)) n tp := h.out (OutM.rf.sti (E := fun o k => o = 0 ∧ k = 0) ⟨rfl, rfl⟩) (by omega) (fun k => by omega)
  unfold M_feed
  rw [lt_eq, h0.1]
  by_cases c1 : n ≤ 380
  · right
    refine ⟨c1, ?_⟩
    obtain ⟨m1, f1, g1, o1⟩ := m_num h0 (by omega) a
    obtain ⟨m2, f2, g2, o2⟩ := m_num g1 (by omega) b
    obtain ⟨m3, f3, g3, o3⟩ := m_num g2 (by omega) c
    obtain ⟨m4, f4, g4, o4⟩ := m_num g3 (by omega) d
    obtain ⟨m5, f5, g5, o5⟩ := m_num g4 (by omega) e
    refine ⟨m5, ?_, g5, (OutM.rf.sti (Or.inr ⟨rfl, rfl⟩)).tr (((((o1.tr o2).tr o3).tr o4).tr o5).mono (fun o k z => Or.inl z))⟩
    rw [if_pos (nI_le (by omega) (by decide)), f1, bnd_eq, f2, bnd_eq, f3, bnd_eq, f4, bnd_eq, f5, bnd_eq, g5.1]
  · left
    refine ⟨by omega, ?_⟩
    rw [if_neg (nI_ge (by omega) (by omega))]
theorem c_end {μ : Mm} {n : Nat} {tp : Nat → Nat} (h : tapC μ n tp) (hn : n ≤ 400) (v : Int32) : (inI v (nI 0) (nI n) = false ∧ Nine_end v μ = some (nI 0, μ)) ∨ ∃ k, k ≤ n ∧ v = nI k ∧ inI v (nI 0) (nI n) = true ∧ Nine_end v μ = some (nI 1, sti μ 532 1 (nI k)) := by
  unfold Nine_end
  rw [h.1]
  by_cases c1 : inI v (nI 0) (nI n) = true
  · right
    obtain ⟨k, hk, rfl⟩ := inI_some c1 (by omega)
    refine ⟨k, hk, rfl, c1, ?_⟩
    rw [if_neg (show ¬ nI k < 0 from nI_nlt (Nat.zero_le _) (by omega)), if_pos (nI_le hk (by omega)), lt_eq]
  · left
    refine ⟨Bool.eq_false_iff.2 c1, ?_⟩
    unfold inI at c1
    by_cases c2 : v < 0
    · rw [if_pos c2]
    · rw [if_neg c2, if_neg (fun z => c1 (decide_eq_true ⟨c2, Int32.not_lt.2 z⟩))]
theorem m_end {ν : Mm} {n : Nat} {tp : Nat → Nat} (h : tapM ν n tp) (v : Int32) : M_end v ν = if inI v (nI 0) (nI n) = true then some (nI 1, sti (sti ν 0 0 (nI 0)) 0 21 v) else some (nI 0, sti ν 0 0 (nI 0)) := by
  unfold M_end
  rw [lt_eq, sti_n (by omega), h.1, m_isIn, bnd_eq]
  by_cases c1 : inI v (nI 0) (nI n) = true
  · rw [if_pos c1, if_pos c1, if_neg (by decide), lt_eq]
  · rw [if_neg c1, if_neg c1, if_00]
theorem c_fault (v : Int32) (μ : Mm) : Nine_fault v μ = some (if v = nI 0 then μ.1 532 2 else if v = nI 1 then μ.1 532 3 else -1) := by
  unfold Nine_fault
  split
  · rfl
  · split
    · rfl
    · rfl
theorem m_fault (v : Int32) (ν : Mm) : M_fault v ν = some (if v = nI 0 then ν.1 0 40 else if v = nI 1 then ν.1 0 41 else -1, sti ν 0 0 (nI 0)) := by
  unfold M_fault
  rw [lt_eq, sti_n (by omega), sti_n (by omega)]
  by_cases c1 : v = nI 0
  · rw [if_pos c1, if_pos (show v = 0 from c1)]
  · rw [if_neg c1, if_neg (show ¬ v = 0 from c1)]
    split
    · rfl
    · rfl
