/-! THE LAW'S LOOP -/
theorem and31 (x : Int32) : ∃ k, k < 32 ∧ x &&& nI 31 = nI k := by
  refine ⟨(x &&& nI 31).toBitVec.toNat, ?_, ?_⟩
  · rw [Int32.toBitVec_and, BitVec.toNat_and]
    exact Nat.lt_of_le_of_lt Nat.and_le_right (by decide)
  · apply Int32.toBitVec_inj.mp
    show _ = BitVec.ofNat 32 _
    rw [BitVec.ofNat_toNat, BitVec.setWidth_eq]
theorem law_cond {i L : Nat} (hi : i ≤ 4000) (hL : L ≤ 3072) : nI L - nI 6 < nI i ↔ ¬ i + 6 ≤ L := by
  by_cases c : 6 ≤ L
  · rw [nI_subE c]
    constructor
    · intro z y
      exact nI_nlt (show i ≤ L - 6 by omega) (by omega) z
    · intro z
      exact nI_lt (by omega) (by omega)
  · have h6 : ∀ L, L < 6 → nI L - nI 6 < nI 0 := by decide
    refine ⟨fun _ => by omega, fun _ => Int32.lt_of_lt_of_le (h6 L (by omega)) (nI_le (Nat.zero_le _) (by omega))⟩
theorem law_case {p : Program} {e : Env} {s : State} {m : MethodId} {below : List Frame} {meth : Method} {c : Code} {l : Launch} {b0 Lx : Nat} {xs : Nat → Int32} {i k : Nat} {μ ν : Mm} (h : Sim μ ν) (hi : i + 6 ≤ Lx) (h3 : Lx ≤ 3072) (hk : k < 32) (kk : ∀ μ2 ν2, Sim μ2 ν2 → WL l p e s m below meth c b0 Lx xs 1118 [some (.ref 2), some (.ref 0), some (.ref 1), some (.int (nI i))] [] μ2 ν2) : WL l p e s m below meth c b0 Lx xs 33 [some (.ref 2), some (.ref 0), some (.ref 1), some (.int (nI i))] [.int (nI k)] μ ν := by
  have z : k = 0 ∨ k = 1 ∨ k = 2 ∨ k = 3 ∨ k = 4 ∨ k = 5 ∨ k = 6 ∨ k = 7 ∨ k = 8 ∨ k = 9 ∨ k = 10 ∨ k = 11 ∨ k = 12 ∨ k = 13 ∨ k = 14 ∨ k = 15 ∨ k = 16 ∨ k = 17 ∨ k = 18 ∨ k = 19 ∨ k = 20 ∨ k = 21 ∨ k = 22 ∨ k = 23 ∨ k = 24 ∨ k = 25 ∨ k = 26 ∨ k = 27 ∨ k = 28 ∨ k = 29 ∨ k = 30 ∨ k = 31 := by omega
  rcases z with rfl | rfl | rfl | rfl | rfl | rfl | rfl | rfl | rfl | rfl | rfl | rfl | rfl | rfl | rfl | rfl | rfl | rfl | rfl | rfl | rfl | rfl | rfl | rfl | rfl | rfl | rfl | rfl | rfl | rfl | rfl | rfl
  · exact wl_table (tgt := 176) dL_33 (by decide) (by decide) rfl (by decide) (law_0 h hi h3 kk)
  · exact wl_table (tgt := 199) dL_33 (by decide) (by decide) rfl (by decide) (law_1 h hi h3 kk)
  · exact wl_table (tgt := 242) dL_33 (by decide) (by decide) rfl (by decide) (law_2 h hi h3 kk)
  · exact wl_table (tgt := 285) dL_33 (by decide) (by decide) rfl (by decide) (law_3 h hi h3 kk)
  · exact wl_table (tgt := 318) dL_33 (by decide) (by decide) rfl (by decide) (law_4 h hi h3 kk)
  · exact wl_table (tgt := 351) dL_33 (by decide) (by decide) rfl (by decide) (law_5 h hi h3 kk)
  · exact wl_table (tgt := 384) dL_33 (by decide) (by decide) rfl (by decide) (law_6 h hi h3 kk)
  · exact wl_table (tgt := 417) dL_33 (by decide) (by decide) rfl (by decide) (law_7 h hi h3 kk)
  · exact wl_table (tgt := 480) dL_33 (by decide) (by decide) rfl (by decide) (law_8 h hi h3 kk)
  · exact wl_table (tgt := 503) dL_33 (by decide) (by decide) rfl (by decide) (law_9 h hi h3 kk)
  · exact wl_table (tgt := 526) dL_33 (by decide) (by decide) rfl (by decide) (law_10 h hi h3 kk)
  · exact wl_table (tgt := 549) dL_33 (by decide) (by decide) rfl (by decide) (law_11 h hi h3 kk)
  · exact wl_table (tgt := 572) dL_33 (by decide) (by decide) rfl (by decide) (law_12 h hi h3 kk)
  · exact wl_table (tgt := 605) dL_33 (by decide) (by decide) rfl (by decide) (law_13 h hi h3 kk)
  · exact wl_table (tgt := 648) dL_33 (by decide) (by decide) rfl (by decide) (law_14 h hi h3 kk)
  · exact wl_table (tgt := 681) dL_33 (by decide) (by decide) rfl (by decide) (law_15 h hi h3 kk)
  · exact wl_table (tgt := 714) dL_33 (by decide) (by decide) rfl (by decide) (law_16 h hi h3 kk)
  · exact wl_table (tgt := 747) dL_33 (by decide) (by decide) rfl (by decide) (law_17 h hi h3 kk)
  · exact wl_table (tgt := 780) dL_33 (by decide) (by decide) rfl (by decide) (law_18 h hi h3 kk)
  · exact wl_table (tgt := 813) dL_33 (by decide) (by decide) rfl (by decide) (law_19 h hi h3 kk)
  · exact wl_table (tgt := 826) dL_33 (by decide) (by decide) rfl (by decide) (law_20 h hi h3 kk)
  · exact wl_table (tgt := 849) dL_33 (by decide) (by decide) rfl (by decide) (law_21 h hi h3 kk)
  · exact wl_table (tgt := 872) dL_33 (by decide) (by decide) rfl (by decide) (law_22 h hi h3 kk)
  · exact wl_table (tgt := 905) dL_33 (by decide) (by decide) rfl (by decide) (law_23 h hi h3 kk)
  · exact wl_table (tgt := 928) dL_33 (by decide) (by decide) rfl (by decide) (law_24 h hi h3 kk)
  · exact wl_table (tgt := 951) dL_33 (by decide) (by decide) rfl (by decide) (law_25 h hi h3 kk)
  · exact wl_table (tgt := 964) dL_33 (by decide) (by decide) rfl (by decide) (law_26 h hi h3 kk)
  · exact wl_table (tgt := 997) dL_33 (by decide) (by decide) rfl (by decide) (law_27 h hi h3 kk)
  · exact wl_table (tgt := 1020) dL_33 (by decide) (by decide) rfl (by decide) (law_28 h hi h3 kk)
  · exact wl_table (tgt := 1043) dL_33 (by decide) (by decide) rfl (by decide) (law_29 h hi h3 kk)
  · exact wl_table (tgt := 1056) dL_33 (by decide) (by decide) rfl (by decide) (law_30 h hi h3 kk)
  · exact wl_table (tgt := 1095) dL_33 (by decide) (by decide) rfl (by decide) (law_31 h hi h3 kk)
theorem law_loop {p : Program} {e : Env} {s : State} {m : MethodId} {below : List Frame} {meth : Method} {c : Code} {l : Launch} {b0 Lx : Nat} {xs : Nat → Int32} (h3 : Lx ≤ 3072) (n : Nat) : ∀ (i : Nat) (μ ν : Mm), i ≤ 3072 → Lx < i + 6 * n → Sim μ ν → WL l p e s m below meth c b0 Lx xs 18 [some (.ref 2), some (.ref 0), some (.ref 1), some (.int (nI i))] [] μ ν := by
  have ends : ∀ (i : Nat) (μ ν : Mm), WL l p e s m below meth c b0 Lx xs 1124 [some (.ref 2), some (.ref 0), some (.ref 1), some (.int (nI i))] [] μ ν := fun i μ ν => wl_iconst (nI 1) dL_1124 rfl (wl_ret dL_1125)
  induction n with
  | zero =>
    intro i μ ν hi hn h
    refine wl_iload (n := 3) (x := nI i) dL_18 rfl ?_
    refine wl_aload (n := 0) (x := 2) dL_19 rfl ?_
    refine wl_alen dL_20 ?_
    refine wl_bipush (nI 6) dL_21 rfl ?_
    refine wl_isub dL_23 ?_
    exact wl_gt 1124 dL_24 (by decide) (fun _ => ends i μ ν) (fun z => absurd ((law_cond (by omega) h3).2 (by omega)) z)
  | succ n ih =>
    intro i μ ν hi hn h
    refine wl_iload (n := 3) (x := nI i) dL_18 rfl ?_
    refine wl_aload (n := 0) (x := 2) dL_19 rfl ?_
    refine wl_alen dL_20 ?_
    refine wl_bipush (nI 6) dL_21 rfl ?_
    refine wl_isub dL_23 ?_
    refine wl_gt 1124 dL_24 (by decide) (fun _ => ends i μ ν) (fun z => ?_)
    have hi6 : i + 6 ≤ Lx := Classical.byContradiction fun y => z ((law_cond (by omega) h3).2 y)
    refine wl_aload (n := 0) (x := 2) dL_27 rfl ?_
    refine wl_iload (n := 3) (x := nI i) dL_28 rfl ?_
    refine wl_iald (i := nI i) (vin_nI (by omega) (by omega)) dL_29 ?_
    refine wl_bipush (nI 31) dL_30 rfl ?_
    refine wl_iand dL_32 ?_
    obtain ⟨k, hk, ek⟩ := and31 (xs (ix (nI i)))
    rw [ek]
    refine law_case h hi6 h3 hk (fun μ2 ν2 s2 => ?_)
    refine wl_iinc (n := 3) (x := nI i) (L2 := [some (.ref 2), some (.ref 0), some (.ref 1), some (.int (nI (i + 6)))]) dL_1118 rfl (by decide) (by rw [show nI i + Int32.ofInt 6 = nI (i + 6) from nI_add i 6]; rfl) ?_
    refine wl_goto 18 dL_1121 (by decide) ?_
    exact ih (i + 6) μ2 ν2 (by omega) (by omega) s2
