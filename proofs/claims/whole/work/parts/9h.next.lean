/-! THE NEXT SET; where it is kept who wrote -/
/-- where the next set stands: as many, or one more -/
def nxK (P k i : Nat) : Nat × Nat := if 1 ≤ k ∧ i + 1 < cn k P then (k, i + 1) else (k + 1, 0)
theorem c_behind {P k i : Nat} (hP : P < 17) (hk : k < 4) (hi : i < cn k P) : Nine_setBehind (nI (tb k i)) (nI P) = some (if (nxK P k i).1 < 4 ∧ (nxK P k i).2 < cn (nxK P k i).1 P then nI (tb (nxK P k i).1 (nxK P k i).2) else -1) := by
  have c16 := (cn_16 k hk P hP).1
  have hi16 : i < cn k 16 := by omega
  obtain ⟨pp, p16⟩ := tb_p hk hi16
  have j35 : Nine_setBehind_j35 (nI (tb k i)) (nI P) = some (if k + 1 < 4 ∧ 0 < cn (k + 1) P then nI (tb (k + 1) 0) else -1) := by
    unfold Nine_setBehind_j35 Nine_setBehind_j52
    rw [JI_popc (by omega), pp, bnd_eq, nI_add]
    by_cases e : k + 1 < 4
    · rw [if_neg (nI_nlt (by omega) (by decide))]
      have hc : k + 1 ≤ P ↔ 0 < cn (k + 1) P := by
        have : k = 0 ∨ k = 1 ∨ k = 2 := by omega
        have q : ∀ k, k < 3 → ∀ P, P < 17 → (k + 1 ≤ P ↔ 0 < cn (k + 1) P) := by decide +kernel
        exact q k (by omega) P hP
      by_cases e2 : k + 1 ≤ P
      · rw [if_pos (nI_le e2 (by omega)), if_pos ⟨e, hc.1 e2⟩, (tb_00 (k + 1) e).2]
      · rw [if_neg (nI_ge (by omega) (by omega)), if_neg (fun z => e2 (hc.2 z.2))]
    · rw [if_pos (nI_lt (by omega) (by omega)), if_neg (fun z => e z.1)]
  unfold Nine_setBehind
  by_cases h1 : 1 ≤ k
  · obtain ⟨g1, g2⟩ := gs_k hk h1 hi16
    have v0 : ¬ nI (tb k i) = 0 := fun z => by
      have := (nI_eq (b := 0) (by omega) (by decide)).1 z
      rw [this] at pp
      exact absurd pp (by show ¬ 0 = k; omega)
    have b31 := tb_31 hk (show i + 1 ≤ cn k 16 by omega)
    have le : 2 ^ P < 2 ^ 31 := Nat.pow_lt_pow_right (by decide) (by omega)
    rw [if_neg v0, chk_ok g1, lt_eq]
    show (if _ ≤ gsp (nI (tb k i)) then _ else some (gsp (nI (tb k i)))) = _
    rw [g2, shl1 P (by omega)]
    by_cases e : i + 1 < cn k P
    · have en : nxK P k i = (k, i + 1) := if_pos ⟨h1, e⟩
      rw [if_neg (nI_ge ((tb_lt hk hP (by omega)).2 e) (by omega)), en]
      show _ = some (if k < 4 ∧ i + 1 < cn k P then nI (tb k (i + 1)) else -1)
      rw [if_pos ⟨hk, e⟩]
    · have en : nxK P k i = (k + 1, 0) := if_neg (fun z => e z.2)
      have : 2 ^ P ≤ tb k (i + 1) := by
        have : i + 1 = cn k P := by omega
        rw [this]
        exact (tb_b k hk h1 P hP).1
      rw [if_pos (nI_le this b31), en]
      exact j35
  · have : k = 0 := by omega
    subst this
    have en : nxK P 0 i = (0 + 1, 0) := if_neg (fun z => h1 z.1)
    rw [if_pos (show nI (tb 0 i) = 0 from rfl), en]
    exact j35
theorem sl_k {k i : Nat} (hk : k < 3) (hi : i < cn k 16) : slN (tb k i) 16 < 289 ∧ unS (slN (tb k i) 16) = tb k i := by
  have : k = 0 ∨ k = 1 ∨ k = 2 := by omega
  rcases this with rfl | rfl | rfl
  · exact (show slN 0 16 < 289 ∧ unS (slN 0 16) = 0 by decide)
  · exact sl_1 i hi
  · exact sl_2 i hi
theorem slt_lt {s : Nat} (hs : s < 2 ^ 16) : slt s < 290 := by
  unfold slt
  split
  · rename_i h
    obtain ⟨i, hi, e⟩ := tb_all hs (show popc s < 4 by omega) rfl
    have := (sl_k h hi).1
    rw [e] at this
    omega
  · decide
theorem slt_one {s s2 : Nat} (hs : s < 2 ^ 16) (hs2 : s2 < 2 ^ 16) (h : popc s < 3) (e : slt s2 = slt s) : s2 = s := by
  obtain ⟨i, hi, e1⟩ := tb_all hs (show popc s < 4 by omega) rfl
  have k1 := sl_k h hi
  rw [e1] at k1
  unfold slt at e
  rw [if_pos h] at e
  by_cases h2 : popc s2 < 3
  · rw [if_pos h2] at e
    obtain ⟨i2, hi2, e2⟩ := tb_all hs2 (show popc s2 < 4 by omega) rfl
    have k2 := sl_k h2 hi2
    rw [e2] at k2
    rw [← k2.2, e, k1.2]
  · rw [if_neg h2] at e
    omega
theorem c_slot {s : Nat} (hs : s < 2 ^ 16) : Nine_writerSlot (nI s) = some (nI (slt s)) := by
  have key := iter_traj (f := fun s2 : Int32 × Int32 => Nine_writerSlot_l16 (nI s) s2.1 s2.2) (fun k => (nI (slN s k), nI k)) (y := nI (slN s 16)) 16 1000000 (fun k hk => ?_) ?_ (by decide)
  · unfold Nine_writerSlot slt
    rw [JI_popc (by omega), bnd_eq]
    have pb : popc s < 2 ^ 31 := by
      have := popc_256 s (by omega)
      have := popc_8 (x := s % 256) (Nat.mod_lt _ (by decide))
      have := popc_8 (x := s / 256) (by omega)
      omega
    by_cases e : popc s < 3
    · rw [if_pos (nI_lt e (by decide)), if_pos e]
      show bni (iter 1000000 _ (nI (slN s 0), nI 0)) _ = _
      rw [key, bni_eq]
    · rw [if_neg (nI_nlt (by omega) pb), if_neg e]
  · show Nine_writerSlot_l16 _ _ _ = _
    unfold Nine_writerSlot_l16 Nine_writerSlot_j39
    rw [if_neg (nI_ge hk (by decide)), c_hasBit, bnd_eq, hb_test (by omega) (by omega), nI_mulE, nI_add, nI_add, nI_add]
    show _ = some (Sum.inl (nI (if s.testBit k = true then slN s k * 17 + k + 1 else slN s k), nI (k + 1)))
    cases e : s.testBit k with
    | true => rw [if_pos rfl, if_10, if_pos rfl]
    | false => rw [if_neg Bool.false_ne_true, if_00, if_neg Bool.false_ne_true]
  · show Nine_writerSlot_l16 _ _ _ = _
    unfold Nine_writerSlot_l16
    rw [if_pos (show nI 16 ≤ nI 16 by decide)]
/-- one less of a set -/
theorem sub_set {k i p : Nat} (hk : k < 4) (hi : i < cn k 16) (hp : p < 16) (h : (tb k i).testBit p = true) : 1 ≤ k ∧ popc (tb k i ^^^ 2 ^ p) = k - 1 ∧ tb k i ^^^ 2 ^ p < tb k i := by
  have : k = 0 ∨ k = 1 ∨ k = 2 ∨ k = 3 := by omega
  rcases this with rfl | rfl | rfl | rfl
  · rw [show tb 0 i = 0 from rfl, Nat.zero_testBit] at h
    cases h
  · exact ⟨by decide, sb_1 i hi p hp h⟩
  · exact ⟨by decide, sb_2 i hi p hp h⟩
  · exact ⟨by decide, sb_3 i hi p hp h⟩
theorem frs_cong {b b2 : Nat → Bool} {n : Nat} (h : ∀ k, k < n → b k = b2 k) : frs b n = frs b2 n := by
  induction n with
  | zero => rfl
  | succ n ih =>
    unfold frs
    rw [ih (fun k hk => h k (by omega)), h n (Nat.lt_succ_self n)]
/-! a state with some stopped -/
def stS (V : VS) (s : Nat) : VS := fun c q k => if c = 1 ∧ k = 5 ∧ s.testBit q = true then 1 else V c q k
theorem stS_o {V : VS} {s c q k : Nat} (h : ¬ (c = 1 ∧ k = 5)) : stS V s c q k = V c q k := if_neg (fun z => h ⟨z.1, z.2.1⟩)
theorem stS_s5 {V : VS} {s p : Nat} (h : s.testBit p = true) : stS V s = s5 p 1 (stS V (s ^^^ 2 ^ p)) := by
  funext c q k
  by_cases e : c = 1 ∧ q = p ∧ k = 5
  · obtain ⟨rfl, rfl, rfl⟩ := e
    rw [s5_eq]
    exact if_pos ⟨rfl, rfl, h⟩
  · rw [s5_at e]
    unfold stS
    by_cases e2 : c = 1 ∧ k = 5
    · have hq : ¬ p = q := fun z => e ⟨e2.1, z.symm, e2.2⟩
      have hb : (s ^^^ 2 ^ p).testBit q = s.testBit q := by
        rw [Nat.testBit_xor, Nat.testBit_two_pow, decide_eq_false hq, Bool.xor_false]
      rw [hb]
    · rw [if_neg (fun z => e2 ⟨z.1, z.2.1⟩), if_neg (fun z => e2 ⟨z.1, z.2.1⟩)]
theorem WF.stS {V : VS} {d s : Nat} (hw : WF d V) : WF d (stS V s) := by
  obtain ⟨w0, w1, w2, w3, w4, w5, w6, w7, w8, w9, w10⟩ := hw
  have o : ∀ c q k, ¬ (c = 1 ∧ k = 5) → Jvm.Pilot.CNineCopiesLaw_law_r8239_772bdc.stS V s c q k = V c q k := fun c q k h => stS_o h
  refine ⟨?_, ?_, ?_, ?_, ?_, ?_, ?_, ?_, ?_, ?_, ?_⟩
  · rw [o _ _ _ (by omega)]; exact w0
  · rw [o _ _ _ (by omega)]; exact w1
  · rw [o _ _ _ (by omega)]; exact w2
  · rw [o _ _ _ (by omega)]; exact w3
  · rw [o _ _ _ (by omega)]; exact w4
  · intro p hp
    rw [o _ _ _ (by omega)] at hp
    obtain ⟨a0, a1, a2, a3, a4, a5, a6⟩ := w5 p hp
    rw [o 1 p 0 (by omega), o 1 p 1 (by omega), o 1 p 2 (by omega), o 1 p 3 (by omega), o 1 p 4 (by omega), o 3 p 0 (by omega), o 4 p 0 (by omega), o 6 p 0 (by omega), o 21 p 0 (by omega), o 22 p 0 (by omega)]
    refine ⟨a0, a1, a2, a3, a4, ?_, a6⟩
    unfold Jvm.Pilot.CNineCopiesLaw_law_r8239_772bdc.stS
    split
    · decide
    · exact a5
  · intro p i hp hi
    rw [o _ _ _ (by omega)] at hp hi ⊢
    exact w6 p i hp hi
  · intro p i hp hi
    rw [o _ _ _ (by omega)] at hp hi
    rw [o 7 p i (by omega), o 0 0 1 (by omega), o 9 p i (by omega), o 10 p i (by omega)]
    exact w7 p i hp hi
  · intro v hv
    rw [o _ _ _ (by omega)] at hv
    rw [o 11 0 v (by omega), o 12 0 v (by omega), o 13 0 v (by omega)]
    exact w8 v hv
  · intro i hi
    rw [o _ _ _ (by omega)] at hi
    rw [o 15 0 i (by omega), o 16 0 i (by omega), o 17 0 i (by omega), o 18 0 i (by omega), o 0 0 1 (by omega), o 0 0 0 (by omega)]
    exact w9 i hi
  · unfold W10
    rw [o 20 0 0 (by omega), o 20 0 1 (by omega), o 20 0 2 (by omega), o 20 0 3 (by omega)]
    exact w10
theorem LV.stS {V : VS} {s : Nat} (h : LV V) : LV (stS V s) := LV.same (V := V) (U := Jvm.Pilot.CNineCopiesLaw_law_r8239_772bdc.stS V s) h (stS_o (by omega)) (fun p => stS_o (by omega)) (fun p i => stS_o (by omega))
theorem LV.thV {V : VS} (h : LV V) : LV (thV V) := LV.same (V := V) (U := Jvm.Pilot.CNineCopiesLaw_law_r8239_772bdc.thV V) h (thV_o (by omega) (by omega)) (fun p => thV_o (by omega) (by omega)) (fun p i => thV_o (by omega) (by omega))
/-- is it over by n days with those stopped; who wrote -/
def eS (T : TT) (U : VS) (n s : Nat) : Bool := decide (frs (ovB T (stS U s)) (n + 1) ≤ n)
def wS (T : TT) (U : VS) (n s : Nat) : Nat := itn n (dayV T) (stS U s) 0 0 9
theorem same_S {T : TT} {U : VS} {d n s p : Nat} (hw : WF d U) (hB : TB T) (hL : LV U) (hp : p < U 0 0 0) (hs : s.testBit p = true) (h : (wS T U n (s ^^^ 2 ^ p)).testBit p = false) : eS T U n s = eS T U n (s ^^^ 2 ^ p) ∧ wS T U n s = wS T U n (s ^^^ 2 ^ p) := by
  have key := s5_itn (T := T) (hw.stS (s := s ^^^ 2 ^ p)) hB (hL.stS (s := s ^^^ 2 ^ p)) (show p < _ by rw [stS_o (by omega)]; exact hp) n h
  rw [← stS_s5 hs] at key
  refine ⟨?_, ?_⟩
  · unfold eS
    rw [frs_cong (b := ovB T (stS U s)) (b2 := ovB T (stS U (s ^^^ 2 ^ p))) (fun k hk => ?_)]
    unfold ovB
    rw [key k (by omega), s5_over]
  · unfold wS
    rw [key n (Nat.le_refl n), s5_at (by omega)]
