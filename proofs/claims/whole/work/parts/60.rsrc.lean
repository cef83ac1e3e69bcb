/-! REACH, SOURCES, CIRCLE -/
theorem c_hasP {μ : Mm} {V : VS} (h : HC μ 1 V) (v : Int32) : World_hasPerson 1 v μ = some (if inI v (nI 0) (nI (V 0 0 0) - nI 1) = true then nI 1 else nI 0) := by
  have eP := h.P
  have P16 := h.P16
  unfold World_hasPerson inI
  rw [eP]
  by_cases h1 : v < 0
  · rw [if_pos h1, if_neg (by rw [decide_eq_true_iff]; exact fun z => z.1 h1)]
  · obtain ⟨j, hj, rfl⟩ := nI_ofN h1
    rw [if_neg h1]
    by_cases e : V 0 0 0 ≤ j
    · rw [if_pos (nI_le e hj), if_neg]
      rw [decide_eq_true_iff]
      intro z
      refine z.2 ?_
      by_cases e0 : V 0 0 0 = 0
      · rw [e0]
        exact Int32.lt_of_lt_of_le (by decide : nI 0 - nI 1 < nI 0) (nI_le (Nat.zero_le _) hj)
      · rw [nI_subE (by omega)]
        exact nI_lt (by omega) hj
    · rw [if_neg (nI_ge (by omega) (by omega)), if_pos]
      rw [decide_eq_true_iff, nI_subE (by omega)]
      exact ⟨nI_nlt (Nat.zero_le _) hj, nI_nlt (by omega) (by omega)⟩
/-- a person's number -/
def pnV (V : VS) (v : Int32) : Bool := inI v (nI 0) (nI (V 0 0 0) - nI 1)
theorem pnV_some {V : VS} {v : Int32} (hP : V 0 0 0 ≤ 16) (h : pnV V v = true) : ∃ p, p < V 0 0 0 ∧ v = nI p := by
  have h := of_decide_eq_true h
  obtain ⟨j, hj, rfl⟩ := nI_ofN h.1
  refine ⟨j, ?_, rfl⟩
  have h2 := h.2
  by_cases e0 : V 0 0 0 = 0
  · rw [e0] at h2
    exact absurd (Int32.lt_of_lt_of_le (by decide : nI 0 - nI 1 < nI 0) (nI_le (Nat.zero_le _) hj)) h2
  · rw [nI_subE (by omega), nI_ltI (by omega) hj] at h2
    omega
theorem m_isP {ν : Mm} {th : Nat} {V : VS} (h : HM ν th V) (v : Int32) : M_isPerson v ν = some (if pnV V v = true then nI 1 else nI 0) := by
  have eP := h.P
  have P16 := h.P16
  unfold M_isPerson
  rw [eP]
  by_cases h1 : v < 0
  · rw [if_pos h1, if_neg (by unfold pnV inI; rw [decide_eq_true_iff]; exact fun z => z.1 h1)]
  · obtain ⟨j, hj, rfl⟩ := nI_ofN h1
    rw [if_neg h1]
    by_cases e : V 0 0 0 ≤ j
    · rw [if_pos (nI_le e hj), if_neg]
      intro z
      obtain ⟨p, hp, hq⟩ := pnV_some P16 z
      have := (nI_eq hj (by omega)).1 hq
      omega
    · rw [if_neg (nI_ge (by omega) (by omega)), if_pos]
      unfold pnV inI
      rw [decide_eq_true_iff, nI_subE (by omega)]
      exact ⟨nI_nlt (Nat.zero_le _) hj, nI_nlt (by omega) (by omega)⟩
def reachR (V : VS) (v : Int32) : Int32 := if pnV V v = true then nI (reV V (ix v) 16) else -1
theorem c_reach {μ : Mm} {V : VS} {d : Nat} (h : HC μ 1 V) (hw : WF d V) (v : Int32) : Nine_reach v μ = some (reachR V v) := by
  have P16 := h.P16
  unfold Nine_reach reachR
  rw [c_hasP h, bnd_eq]
  by_cases c1 : pnV V v = true
  · obtain ⟨p, hp, rfl⟩ := pnV_some P16 c1
    rw [if_pos (show inI (nI p) (nI 0) (nI (V 0 0 0) - nI 1) = true from c1), if_neg (by decide), c_reachF h hw.2.2.2.2.2.1 hw.2.2.2.2.2.2.1 hp (by decide) (Nat.le_refl _), bnd_eq, if_pos c1, ix_nI (by omega)]
  · rw [if_neg (show ¬ inI v (nI 0) (nI (V 0 0 0) - nI 1) = true from c1), if_pos (by decide), if_neg c1]
theorem m_reach {ν : Mm} {V : VS} {d : Nat} (h : HM ν 0 V) (hw : WF d V) (v : Int32) : M_reach v ν = some (reachR V v, sti ν 0 0 (nI 0)) := by
  have h' := h.told (nI 0)
  have P16 := h.P16
  unfold M_reach reachR
  rw [lt_eq, m_isP h', bnd_eq]
  by_cases c1 : pnV V v = true
  · obtain ⟨p, hp, rfl⟩ := pnV_some P16 c1
    rw [if_pos c1, if_neg (by decide), m_reachOf h' hw.2.2.2.2.2.1 hw.2.2.2.2.2.2.1 hp (by decide) (Nat.le_refl _), bnd_eq, if_pos c1, ix_nI (by omega)]
  · rw [if_neg c1, if_pos (by decide), if_neg c1]
/-! circle -/
def ciB (V : VS) (p k : Nat) : Bool := (reV V p (k + 1)).testBit p
def circR (V : VS) (v : Int32) : Int32 := if pnV V v = true then (if frs (ciB V (ix v)) 16 < 16 then nI (frs (ciB V (ix v)) 16 + 1) else -1) else -1
theorem loop_first {f : Int32 → Option (Int32 ⊕ (Int32 ⊕ Unit))} {b : Nat → Bool} {N : Nat} (hN : N < 1000000) (h1 : ∀ n, n < N → b n = true → f (nI (n + 1)) = some (.inr (.inl (nI (n + 1))))) (h0 : ∀ n, n < N → b n = false → f (nI (n + 1)) = some (.inl (nI (n + 1 + 1)))) (h2 : f (nI (N + 1)) = some (.inr (.inr ()))) : iter 1000000 f (nI 1) = some (if frs b N < N then Sum.inl (nI (frs b N + 1)) else Sum.inr ()) := by
  have hF := frs_le b N
  refine iter_traj (f := f) (fun k => nI (k + 1)) (y := if frs b N < N then Sum.inl (nI (frs b N + 1)) else Sum.inr ()) (frs b N) 1000000 (fun k hk => ?_) ?_ (by omega)
  · exact h0 k (by omega) (frs_not hk)
  · by_cases e : frs b N < N
    · rw [if_pos e]
      exact h1 _ e (frs_is e)
    · have e2 : frs b N = N := by omega
      rw [if_neg e, e2]
      exact h2
theorem c_circle {μ : Mm} {V : VS} {d : Nat} (h : HC μ 1 V) (hw : WF d V) (v : Int32) : Nine_circle v μ = some (circR V v) := by
  have P16 := h.P16
  unfold Nine_circle circR
  rw [c_hasP h, bnd_eq]
  by_cases c1 : pnV V v = true
  · obtain ⟨p, hp, rfl⟩ := pnV_some P16 c1
    have hr : ∀ n, n < 16 → World_reachedFrom 1 (nI p) (nI (n + 1)) μ = some (nI (reV V p (n + 1))) := fun n hn => c_reachF h hw.2.2.2.2.2.1 hw.2.2.2.2.2.2.1 hp (by omega) (by omega)
    have hb : ∀ n, hb (nI (reV V p (n + 1))) p = ciB V p n := fun n => hb_test (by have := reI_lt (V := V) (p := p) hw.2.2.2.2.2.2.1 P16 hp (n + 1 - 1); unfold reV; omega) (by omega)
    have key := loop_first (f := fun s => Nine_circle_l15 (nI p) s μ) (b := ciB V p) (N := 16) (by decide) (fun n hn hx => ?_) (fun n hn hx => ?_) ?_
    · rw [if_pos (show inI (nI p) (nI 0) (nI (V 0 0 0) - nI 1) = true from c1), if_neg (by decide), key, bni_eq, if_pos c1, ix_nI (by omega)]
      by_cases e : frs (ciB V p) 16 < 16
      · rw [if_pos e, if_pos e]
        rfl
      · rw [if_neg e, if_neg e]
        rfl
    · show Nine_circle_l15 _ _ _ = _
      unfold Nine_circle_l15
      rw [if_neg (nI_nlt (by omega) (by omega)), hr n hn, bnd_eq, c_hasBit, hb, hx, bnd_eq, if_neg (by decide)]
    · show Nine_circle_l15 _ _ _ = _
      unfold Nine_circle_l15
      rw [if_neg (nI_nlt (by omega) (by omega)), hr n hn, bnd_eq, c_hasBit, hb, hx, bnd_eq, if_pos (by decide), nI_add]
    · show Nine_circle_l15 _ _ _ = _
      unfold Nine_circle_l15
      rw [if_pos (nI_lt (by decide) (by decide))]
  · rw [if_neg (show ¬ inI v (nI 0) (nI (V 0 0 0) - nI 1) = true from c1), if_pos (by decide), if_neg c1]
theorem m_circle {ν : Mm} {V : VS} {d : Nat} (h : HM ν 0 V) (hw : WF d V) (v : Int32) : M_circle v ν = some (circR V v, sti ν 0 0 (nI 0)) := by
  have h' := h.told (nI 0)
  have P16 := h.P16
  unfold M_circle circR
  rw [lt_eq, m_isP h', bnd_eq]
  by_cases c1 : pnV V v = true
  · obtain ⟨p, hp, rfl⟩ := pnV_some P16 c1
    have hr : ∀ n, n < 16 → M_reachOf (nI p) (nI (n + 1)) (sti ν 0 0 (nI 0)) = some (nI (reV V p (n + 1))) := fun n hn => m_reachOf h' hw.2.2.2.2.2.1 hw.2.2.2.2.2.2.1 hp (by omega) (by omega)
    have hb : ∀ n, hb (nI (reV V p (n + 1))) p = ciB V p n := fun n => hb_test (by have := reI_lt (V := V) (p := p) hw.2.2.2.2.2.2.1 P16 hp (n + 1 - 1); unfold reV; omega) (by omega)
    have key := loop_first (f := fun s => M_circle_l17 (nI p) s (sti ν 0 0 (nI 0))) (b := ciB V p) (N := 16) (by decide) (fun n hn hx => ?_) (fun n hn hx => ?_) ?_
    · rw [if_pos c1, if_neg (by decide), key, bni_eq, if_pos c1, ix_nI (by omega)]
      by_cases e : frs (ciB V p) 16 < 16
      · rw [if_pos e, if_pos e]
        rfl
      · rw [if_neg e, if_neg e]
        rfl
    · show M_circle_l17 _ _ _ = _
      unfold M_circle_l17
      rw [if_neg (nI_nlt (by omega) (by omega)), hr n hn, bnd_eq, if_pos (of_decide_eq_true ((hb n).trans hx))]
    · show M_circle_l17 _ _ _ = _
      unfold M_circle_l17
      rw [if_neg (nI_nlt (by omega) (by omega)), hr n hn, bnd_eq, if_neg (of_decide_eq_false ((hb n).trans hx)), nI_add]
    · show M_circle_l17 _ _ _ = _
      unfold M_circle_l17
      rw [if_pos (nI_lt (by decide) (by decide))]
  · rw [if_neg c1, if_pos (by decide), if_neg c1]
/-! sources -/
/-- one from whom all the others of the set are reached -/
def srcG (V : VS) (s d q : Nat) : Nat := if ∀ t, t < 16 → s.testBit t = true → t ≠ q → (reV V q d).testBit t = true then 2 ^ q else 0
theorem Int32_shl1 {P : Nat} (h : P ≤ 16) : nI 1 <<< (nI P &&& 31) = nI (2 ^ P) := shl1 P (by omega)
theorem oth_bit {s q : Nat} (hs : s < 2 ^ 16) (hq : q < 16) (t : Nat) : (s &&& (2 ^ q ^^^ 4294967295)).testBit t = true ↔ s.testBit t = true ∧ t ≠ q := by
  rw [Nat.testBit_and, Nat.testBit_xor, Nat.testBit_two_pow, show (4294967295 : Nat) = 2 ^ 32 - 1 from rfl, Nat.testBit_two_pow_sub_one]
  by_cases ht : t < 32
  · by_cases e : q = t
    · simp [ht, e]
    · have : t ≠ q := fun z => e z.symm
      simp [ht, e, this]
  · have : s.testBit t = false := Nat.testBit_lt_two_pow (Nat.lt_of_lt_of_le hs (Nat.pow_le_pow_right (by decide) (by omega)))
    simp [this]
theorem bit_lt {s t : Nat} (hs : s < 2 ^ 16) (h : s.testBit t = true) : t < 16 := by
  by_cases e : t < 16
  · exact e
  · have := Nat.testBit_lt_two_pow (x := s) (i := t) (Nat.lt_of_lt_of_le hs (Nat.pow_le_pow_right (by decide) (by omega)))
    rw [this] at h
    exact absurd h (by decide)
theorem src_c {V : VS} {s d q : Nat} (hs : s < 2 ^ 16) (hq : q < 16) : (reV V q d &&& (s &&& (2 ^ q ^^^ 4294967295)) = s &&& (2 ^ q ^^^ 4294967295)) ↔ ∀ t, t < 16 → s.testBit t = true → t ≠ q → (reV V q d).testBit t = true := by
  constructor
  · intro e t ht h1 h2
    have := (oth_bit hs hq t).2 ⟨h1, h2⟩
    rw [← e, Nat.testBit_and, Bool.and_eq_true] at this
    exact this.1
  · intro h
    refine bits_eq (fun t => ?_)
    rw [Nat.testBit_and, Bool.and_eq_true]
    refine ⟨fun z => z.2, fun z => ⟨?_, z⟩⟩
    obtain ⟨z1, z2⟩ := (oth_bit hs hq t).1 z
    exact h t (bit_lt hs z1) z1 z2
theorem src_m {V : VS} {s d q : Nat} (hs : s < 2 ^ 16) (hq : q < 16) : ((s &&& (2 ^ q ^^^ 4294967295)) &&& (reV V q d ^^^ 4294967295) = 0) ↔ ∀ t, t < 16 → s.testBit t = true → t ≠ q → (reV V q d).testBit t = true := by
  have hx : ∀ t, t < 32 → (reV V q d ^^^ 4294967295).testBit t = !(reV V q d).testBit t := fun t ht => by
    rw [Nat.testBit_xor, show (4294967295 : Nat) = 2 ^ 32 - 1 from rfl, Nat.testBit_two_pow_sub_one]
    simp [ht]
  constructor
  · intro e t ht h1 h2
    have a := (oth_bit hs hq t).2 ⟨h1, h2⟩
    have b : ((s &&& (2 ^ q ^^^ 4294967295)) &&& (reV V q d ^^^ 4294967295)).testBit t = false := by rw [e, Nat.zero_testBit]
    rw [Nat.testBit_and, a, hx t (by omega)] at b
    simpa using b
  · intro h
    refine Nat.eq_of_testBit_eq (fun t => ?_)
    rw [Nat.zero_testBit, Nat.testBit_and]
    by_cases e : (s &&& (2 ^ q ^^^ 4294967295)).testBit t = true
    · obtain ⟨z1, z2⟩ := (oth_bit hs hq t).1 e
      have ht := bit_lt hs z1
      rw [hx t (by omega), h t ht z1 z2]
      simp
    · simp [e]
def srcR (V : VS) (v1 v2 : Int32) : Int32 := if inI v1 (nI 1) (nI (2 ^ V 0 0 0) - nI 1) = true ∧ inI v2 (nI 1) (nI 15) = true then nI (orG (srcG V (ix v1) (ix v2)) (V 0 0 0)) else -1
theorem inI_1 {v : Int32} {n : Nat} (h : inI v (nI 1) (nI n) = true) (hn : n < 2 ^ 31) : ∃ j, 1 ≤ j ∧ j ≤ n ∧ v = nI j := by
  have h := of_decide_eq_true h
  have h0 : ¬ v < 0 := fun z => h.1 (Int32.lt_trans z (by decide : (0 : Int32) < nI 1))
  obtain ⟨j, hj, rfl⟩ := nI_ofN h0
  have h1 := h.1
  have h2 := h.2
  rw [nI_ltI hj (by decide)] at h1
  rw [nI_ltI hn hj] at h2
  exact ⟨j, by omega, by omega, rfl⟩
