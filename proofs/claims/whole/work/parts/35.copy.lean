/-! COPIES: numbers, and what they leave alone -/
theorem nI_mod (x : Nat) : nI (x % 4294967296) = nI x := by
  unfold nI
  apply Int32.toBitVec_inj.1
  simp only [Int32.toBitVec_ofNat']
  exact BitVec.eq_of_toNat_eq (by simp)
theorem nI_or (a b : Nat) : nI a ||| nI b = nI (a ||| b) := by
  unfold nI
  apply Int32.toBitVec_inj.1
  simp
theorem nI_xor (a b : Nat) : nI a ^^^ nI b = nI (a ^^^ b) := by
  unfold nI
  apply Int32.toBitVec_inj.1
  simp
theorem nI_and (a b : Nat) : nI a &&& nI b = nI (a &&& b) := by
  unfold nI
  apply Int32.toBitVec_inj.1
  simp
theorem shl1 : ∀ m, m < 31 → nI 1 <<< (nI m &&& 31) = nI (2 ^ m) := by decide +kernel
theorem ushr8 {n : Nat} (h : n < 2 ^ 32) : ushr (nI n) (nI 8) = nI (n / 256) := pk_ushrN h (nI 8) 8 (by decide)
theorem jmax_sub {a b : Nat} (ha : a < 2 ^ 30) (hb : b < 2 ^ 30) : jmax (nI 0) (nI a - nI b) = nI (a - b) := by
  unfold jmax
  by_cases e : b ≤ a
  · rw [nI_subE e]
    by_cases e2 : 0 < a - b
    · rw [if_pos ((nI_ltI (by decide) (by omega)).2 e2)]
    · rw [if_neg (fun z => e2 ((nI_ltI (by decide) (by omega)).1 z)), show a - b = 0 by omega]
  · have h := pk_sneg (a := a) (b := b) hb (by omega)
    rw [if_neg, show a - b = 0 by omega]
    intro h2
    have h3 : nI a - nI b < nI a - nI b := Int32.lt_trans h h2
    exact Int32.lt_irrefl h3
theorem jmin_nI {a b : Nat} (ha : a < 2 ^ 31) (hb : b < 2 ^ 31) : jmin (nI a) (nI b) = nI (min a b) := by
  unfold jmin
  by_cases e : b < a
  · rw [if_pos ((nI_ltI hb ha).2 e), Nat.min_eq_right (Nat.le_of_lt e)]
  · rw [if_neg (fun z => e ((nI_ltI hb ha).1 z)), Nat.min_eq_left (Nat.le_of_not_lt e)]
theorem nI_orN (x i : Nat) : nI x ||| (nI 1 <<< (nI i &&& 31)) = nI (orN x i) := (nI_uN _).symm
theorem drwN_lt (x : Nat) : drwN x < 2 ^ 32 := Nat.mod_lt _ (by decide)
section
variable {V : VS} {d v q c p j i f t e x : Nat} {T : TT}
theorem d1V_o (h : ¬ (c = 0 ∧ j = 8)) : d1V V c q j = V c q j := vset_ne (by omega)
theorem d1V_8 : d1V V 0 0 8 = drwN (V 0 0 8) := vset_eq ⟨rfl, rfl, rfl⟩
theorem verV_o (h : ¬ (11 ≤ c ∧ c ≤ 14)) (h2 : ¬ (c = 0 ∧ j = 1)) : verV V e x f t c q j = V c q j := by
  unfold verV
  simp (disch := omega) only [vset_ne]
theorem verV_1 : verV V e x f t 0 0 1 = V 0 0 1 + 1 := vset_eq ⟨rfl, rfl, rfl⟩
theorem verV_n (h : j ≠ V 0 0 1) (h2 : c ≠ 0) : verV V e x f t c q j = V c q j := by
  unfold verV
  simp (disch := omega) only [vset_ne]
theorem verV_at : verV V e x f t 11 0 (V 0 0 1) = e ∧ verV V e x f t 12 0 (V 0 0 1) = x ∧ verV V e x f t 13 0 (V 0 0 1) = f ∧ verV V e x f t 14 0 (V 0 0 1) = t := by
  unfold verV
  simp (disch := omega) only [vset_ne, vset_eq, and_self]
theorem WF.d1 (hw : WF d V) : WF d (d1V V) := hw.lost (by decide)
theorem WF.ver (hw : WF d V) (h1 : V 0 0 1 < 40) (he : e < 10) (hx : x < 1024) (hf : f ≤ V 0 0 1) : WF d (verV V e x f t) := by
  obtain ⟨w0, w1, w2, w3, w4, w5, w6, w7, w8, w9, w10⟩ := hw
  have o : ∀ {c q k : Nat}, ¬ (11 ≤ c ∧ c ≤ 14) → ¬ (c = 0 ∧ k = 1) → verV V e x f t c q k = V c q k := fun a b => verV_o a b
  unfold WF W5 W6 W7 W8 W9 W10
  simp (disch := omega) only [o, verV_1]
  refine ⟨w0, h1, w2, w3, w4, w5, w6, fun q k hq hk => ?_, fun y hy => ?_, fun k hk => ?_, w10⟩
  · have := w7 q k hq hk
    omega
  · by_cases ey : y = V 0 0 1
    · subst ey
      rw [verV_at.1, verV_at.2.1, verV_at.2.2.1]
      exact ⟨he, hx, hf⟩
    · rw [verV_n ey (by decide), verV_n ey (by decide), verV_n ey (by decide)]
      exact w8 y (by omega)
  · have := w9 k hk
    omega
/-- a copy's version leaves all but versions and STATE alone -/
theorem copV_o (h : ¬ (11 ≤ c ∧ c ≤ 14)) (h2 : ¬ (c = 0 ∧ (j = 1 ∨ j = 8))) : (copV V v p).1 c q j = V c q j := by
  unfold copV
  split
  · rfl
  · split
    · exact d1V_o (by omega)
    · split
      · exact (d1V_o (by omega)).trans (d1V_o (by omega))
      · exact (verV_o h (by omega)).trans ((d1V_o (by omega)).trans (d1V_o (by omega)))
theorem copV_1 (h1 : V 0 0 1 ≤ 40) (hv : v < V 0 0 1) : (copV V v p).2 < (copV V v p).1 0 0 1 := by
  unfold copV
  split
  · exact hv
  · split
    · show v < d1V V 0 0 1
      rw [d1V_o (by omega)]
      exact hv
    · split
      · show v < d1V (d1V V) 0 0 1
        rw [d1V_o (by omega), d1V_o (by omega)]
        exact hv
      · simp only [verV_1]
        rw [d1V_o (by omega), d1V_o (by omega)]
        exact Nat.lt_succ_self _
theorem WF.cop (hw : WF d V) (hv : v < V 0 0 1) : WF d (copV V v p).1 := by
  have w8 := hw.2.2.2.2.2.2.2.2.1 v hv
  have w1 := hw.2.1
  unfold copV
  split
  · exact hw
  · split
    · exact hw.d1
    · split
      · exact hw.d1.d1
      · have hm : drwN (drwN (V 0 0 8)) / 256 % 10 < 10 := Nat.mod_lt _ (by decide)
        have hx : V 12 0 v ^^^ 2 ^ (drwN (drwN (V 0 0 8)) / 256 % 10) < 2 ^ 10 := Nat.xor_lt_two_pow (by omega) (Nat.pow_lt_pow_right (by decide) hm)
        refine hw.d1.d1.ver ?_ ?_ hx ?_
        · rw [d1V_o (by omega), d1V_o (by omega)]
          omega
        · split <;> omega
        · rw [d1V_o (by omega), d1V_o (by omega)]
          omega
theorem wayV_o (h : ¬ (15 ≤ c ∧ c ≤ 18)) (h2 : ¬ (c = 0 ∧ j = 2)) : wayV V v f t e c q j = V c q j := by
  unfold wayV
  simp (disch := omega) only [vset_ne]
theorem wayV_2 : wayV V v f t e 0 0 2 = V 0 0 2 + 1 := vset_eq ⟨rfl, rfl, rfl⟩
theorem wayV_n (h : j ≠ V 0 0 2) (h2 : c ≠ 0) : wayV V v f t e c q j = V c q j := by
  unfold wayV
  simp (disch := omega) only [vset_ne]
theorem wayV_at : wayV V v f t e 15 0 (V 0 0 2) = v ∧ wayV V v f t e 16 0 (V 0 0 2) = f ∧ wayV V v f t e 17 0 (V 0 0 2) = t ∧ wayV V v f t e 18 0 (V 0 0 2) = e := by
  unfold wayV
  simp (disch := omega) only [vset_ne, vset_eq, and_self]
theorem WF.way (hw : WF d V) (h2 : V 0 0 2 < 60) (hv : v < V 0 0 1) (hf : f < V 0 0 0) (ht : t < V 0 0 0) (he : e ≤ d + 20) : WF d (wayV V v f t e) := by
  obtain ⟨w0, w1, w2, w3, w4, w5, w6, w7, w8, w9, w10⟩ := hw
  have o : ∀ {c q k : Nat}, ¬ (15 ≤ c ∧ c ≤ 18) → ¬ (c = 0 ∧ k = 2) → wayV V v f t e c q k = V c q k := fun a b => wayV_o a b
  unfold WF W5 W6 W7 W8 W9 W10
  simp (disch := omega) only [o, wayV_2]
  refine ⟨w0, w1, h2, w3, w4, w5, w6, w7, w8, fun y hy => ?_, w10⟩
  by_cases ey : y = V 0 0 2
  · subst ey
    rw [wayV_at.1, wayV_at.2.1, wayV_at.2.2.1, wayV_at.2.2.2]
    exact ⟨hv, hf, ht, he⟩
  · rw [wayV_n ey (by decide), wayV_n ey (by decide), wayV_n ey (by decide), wayV_n ey (by decide)]
    exact w9 y (by omega)
theorem pstV_o (h : ¬ (15 ≤ c ∧ c ≤ 18)) (h2 : ¬ (c = 0 ∧ (j = 2 ∨ j = 7))) : pstV T V v f t c q j = V c q j := by
  unfold pstV
  split
  · exact vset_ne (by omega)
  · exact wayV_o h (by omega)
theorem WF.pst (hw : WF d V) (hT : TB T) (hv : v < V 0 0 1) (hf : f < V 0 0 0) (ht : t < V 0 0 0) : WF d (pstV T V v f t) := by
  have b := hT.2 (V 1 f 0) (V 1 t 0) (hw.2.2.2.2.2.1 f hf).1 (hw.2.2.2.2.2.1 t ht).1
  have w4 := hw.2.2.2.2.1
  have w2 := hw.2.2.1
  unfold pstV
  split
  · exact hw.lost (by decide)
  · exact hw.way (by omega) hv hf ht (by omega)
theorem sntV_o (h : ¬ (c = 5 ∧ q = p)) (h1 : ¬ (c = 4 ∧ q = p)) (h2 : ¬ (c = 1 ∧ q = p ∧ j = 3)) (h3 : ¬ (c = 10 ∧ q = p ∧ j = i)) (h4 : ¬ (c = 0 ∧ j = 9)) : sntV V p i t c q j = V c q j := by
  unfold sntV
  simp (disch := omega) only [vset_ne]
theorem sntV_4 : sntV V p i t 4 p 0 = if V 4 p 0 + 1 < V 3 p 0 then V 4 p 0 + 1 else 0 := by
  unfold sntV
  simp (disch := omega) only [vset_ne, vset_eq]
theorem sntV_1 : sntV V p i t 1 p 3 = V 1 p 3 - 1 := by
  unfold sntV
  simp (disch := omega) only [vset_ne, vset_eq]
theorem sntV_10 : sntV V p i t 10 p i = V 10 p i - 1 := by
  unfold sntV
  simp (disch := omega) only [vset_ne, vset_eq]
theorem WF.snt (hw : WF d V) : WF d (sntV V p i t) := by
  obtain ⟨w0, w1, w2, w3, w4, w5, w6, w7, w8, w9, w10⟩ := hw
  have o : ∀ {c q k : Nat}, c ≠ 5 → c ≠ 4 → ¬ (c = 1 ∧ k = 3) → c ≠ 10 → ¬ (c = 0 ∧ k = 9) → sntV V p i t c q k = V c q k := fun a b c d e => sntV_o (by omega) (by omega) (by omega) (by omega) (by omega)
  unfold WF W5 W6 W7 W8 W9 W10
  simp (disch := omega) only [o]
  refine ⟨w0, w1, w2, w3, w4, fun q hq => ?_, w6, fun q k hq hk => ?_, w8, w9, w10⟩
  · have h := w5 q hq
    by_cases e : q = p
    · subst e
      rw [sntV_4, sntV_1]
      split <;> omega
    · rw [sntV_o (by omega) (by omega) (by omega) (by omega) (by omega), sntV_o (by omega) (by omega) (by omega) (by omega) (by omega)]
      exact h
  · have h := w7 q k hq hk
    by_cases e : q = p ∧ k = i
    · obtain ⟨rfl, rfl⟩ := e
      rw [sntV_10]
      omega
    · rw [sntV_o (by omega) (by omega) (by omega) (by omega) (by omega)]
      exact h
/-- what sending a copy leaves alone -/
theorem sndV_o (h : ¬ (11 ≤ c ∧ c ≤ 18)) (h1 : ¬ (c = 0 ∧ (j = 1 ∨ j = 2 ∨ j = 7 ∨ j = 8 ∨ j = 9))) (h2 : ¬ (c = 5 ∧ q = p)) (h3 : ¬ (c = 4 ∧ q = p)) (h4 : ¬ (c = 1 ∧ q = p ∧ j = 3)) (h5 : ¬ (c = 10 ∧ q = p ∧ j = i)) : sndV T V p i c q j = V c q j := by
  unfold sndV
  rw [sntV_o h2 h3 h4 h5 (by omega), pstV_o (by omega) (by omega), copV_o (by omega) (by omega)]
theorem sndV_1 : sndV T V p i 1 p 3 = V 1 p 3 - 1 := by
  unfold sndV
  rw [sntV_1, pstV_o (by omega) (by omega), copV_o (by omega) (by omega)]
theorem sndV_10 : sndV T V p i 10 p i = V 10 p i - 1 := by
  unfold sndV
  rw [sntV_10, pstV_o (by omega) (by omega), copV_o (by omega) (by omega)]
theorem WF.snd (hw : WF d V) (hT : TB T) (hp : p < V 0 0 0) (hi : i < V 6 p 0) (hr : 0 < V 3 p 0) : WF d (sndV T V p i) := by
  have w7 := hw.2.2.2.2.2.2.2.1 p i hp hi
  have w5 := hw.2.2.2.2.2.1 p hp
  have w6 := hw.2.2.2.2.2.2.1 p (V 4 p 0) hp (by omega)
  unfold sndV
  refine ((hw.cop w7.1).pst hT (copV_1 hw.2.1 w7.1) ?_ ?_).snt
  · rw [copV_o (by omega) (by omega)]
    exact hp
  · rw [copV_o (by omega) (by omega)]
    exact w6.1
end
