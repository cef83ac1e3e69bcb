/-! WHAT THE STATEMENT GIVES OF THE START: statics, the constant text -/
theorem law_Xc {s : State} {b0 : Addr} (hts : ∀ w ∈ lw_tbl, w.before #[Value.ref b0] s = true) (hgv : (Jvm.Cond.and given_1 narrow_1).before #[Value.ref b0] s = true) : ∃ ad : Nat → Nat, Xc ad (frA s) s s.heap := by
  have hs := flat_of_before _ hgv
  have hA : ∀ a : Nat, a < s.heap.size → ¬ frA s a := fun a h z => by
    unfold frA at z
    omega
  have m0 : ∀ j, j < 10 → Cond.eq (.elem (.static "NineCopies" "LEAST_TOLD" "[I") (.int (Int32.ofNat j))) (.int (leastT.getD j 0)) ∈ flatC (Jvm.Cond.and given_1 narrow_1) := by decide +kernel
  have m1 : ∀ j, j < 10 → Cond.eq (.elem (.static "NineCopies" "MOST_TOLD" "[I") (.int (Int32.ofNat j))) (.int (mostT.getD j 0)) ∈ flatC (Jvm.Cond.and given_1 narrow_1) := by decide +kernel
  have m2 : ∀ j, j < 96 → Cond.eq (.elem (.field (.string "NineCopies$Reader" 82) "java/lang/String" "value" "[B") (.int (Int32.ofNat j))) (.int (wordsBytes.getD j 0)) ∈ flatC (Jvm.Cond.and given_1 narrow_1) := by decide +kernel
  obtain ⟨t0, e0, T0⟩ := va_Tof (args := #[Value.ref b0]) (s := s) (tm := .static "NineCopies" "LEAST_TOLD" "[I") (ty := .int) (N := 10) (f := fun j => .int (leastT.getD j 0)) (A := frA s) (by decide) (hs (.arrayOf (.static "NineCopies" "LEAST_TOLD" "[I") .int) (by decide +kernel)) (va_eqt (hs (.eq (.length (.static "NineCopies" "LEAST_TOLD" "[I")) (.int (Int32.ofNat 10))) (by decide +kernel))) (fun j hj => va_eqt (hs _ (m0 j hj))) hA
  obtain ⟨t1, e1, T1⟩ := va_Tof (args := #[Value.ref b0]) (s := s) (tm := .static "NineCopies" "MOST_TOLD" "[I") (ty := .int) (N := 10) (f := fun j => .int (mostT.getD j 0)) (A := frA s) (by decide) (hs (.arrayOf (.static "NineCopies" "MOST_TOLD" "[I") .int) (by decide +kernel)) (va_eqt (hs (.eq (.length (.static "NineCopies" "MOST_TOLD" "[I")) (.int (Int32.ofNat 10))) (by decide +kernel))) (fun j hj => va_eqt (hs _ (m1 j hj))) hA
  obtain ⟨adK, adV, S1, S2⟩ := vk_Sof (args := #[Value.ref b0]) (s := s) (N := 1) (tm := fun _ => .string "NineCopies$Reader" 82) (len := [96]) (byt := [wordsBytes]) (A := frA s)
    (fun i hi => by rw [show i = 0 by omega]; decide)
    (fun i hi => hs (.exactly (.string "NineCopies$Reader" 82) "java/lang/String") (by decide +kernel))
    (fun i hi => hs (.eq (.field (.string "NineCopies$Reader" 82) "java/lang/String" "coder" "B") (.int 0)) (by decide +kernel))
    (fun i hi => hs (.arrayOf (.field (.string "NineCopies$Reader" 82) "java/lang/String" "value" "[B") .byte) (by decide +kernel))
    (fun i hi => by
      rw [show i = 0 by omega]
      exact hs (.eq (.length (.field (.string "NineCopies$Reader" 82) "java/lang/String" "value" "[B")) (.int (Int32.ofNat 96))) (by decide +kernel))
    (fun i hi j hj => by
      rw [show i = 0 by omega] at hj ⊢
      exact hs _ (m2 j hj))
    (fun i j hi hj hne => absurd (show i = j by omega) hne) hA
  have hF := va_Zqof (args := #[Value.ref b0]) (s := s) (C := "jdk/internal/util/Preconditions") (n := "SIOOBE_FORMATTER") (d := "Ljava/util/function/BiFunction;") (A := frA s) (hts (.laysStatic "jdk/internal/util/Preconditions" "SIOOBE_FORMATTER" "Ljava/util/function/BiFunction;") (by decide +kernel)) (hts (.initialized "jdk/internal/util/Preconditions") (by decide +kernel)) (hs (.isRef (.static "jdk/internal/util/Preconditions" "SIOOBE_FORMATTER" "Ljava/util/function/BiFunction;")) (by decide +kernel)) hA
  have hNC : (Cond.initialized "NineCopies").before #[Value.ref b0] s = true := hts (.initialized "NineCopies") (by decide +kernel)
  have Z0 := va_Zref (hts (.laysStatic "NineCopies" "LEAST_TOLD" "[I") (by decide +kernel)) hNC e0 hA
  have Z1 := va_Zref (hts (.laysStatic "NineCopies" "MOST_TOLD" "[I") (by decide +kernel)) hNC e1 hA
  have Z2 := va_Zof (v := .int 1) (hts (.laysStatic "java/lang/String" "COMPACT_STRINGS" "Z") (by decide +kernel)) (hts (.initialized "java/lang/String") (by decide +kernel)) (va_eqt (hs (.eq (.static "java/lang/String" "COMPACT_STRINGS" "Z") (.int 1)) (by decide +kernel))) hA
  have R1 := vk_R.of (hts (.stringRef "NineCopies$Reader" 82 wordsText) (by decide +kernel)) (S2 0 (by decide))
  have hN : ∀ q ∈ nestL, Cond.methodLinkNest q.1 q.2.1 q.2.2.1 q.2.2.2 ∈ lw_tbl := by decide +kernel
  have A1 := va_AO.of (hts (.arrayOver (.object "NineCopies$Person")) (by decide +kernel))
  have A2 := va_AO.of (hts (.arrayOver (.object "NineCopies$World")) (by decide +kernel))
  have fin : ∀ tF : Nat, (va_Z "jdk/internal/util/Preconditions" "SIOOBE_FORMATTER" "Ljava/util/function/BiFunction;" .null (frA s) s s.heap ∨ va_Z "jdk/internal/util/Preconditions" "SIOOBE_FORMATTER" "Ljava/util/function/BiFunction;" (.ref tF) (frA s) s s.heap) → ∃ ad : Nat → Nat, Xc ad (frA s) s s.heap := fun tF hF => by
    refine ⟨fun i => if i = 1000000 then t0 else if i = 1000001 then t1 else if i = 1000002 then adK 0 else if i = 1000003 then adV 0 else tF, ⟨Z0, T0⟩, ⟨Z1, T1⟩, ⟨R1, ⟨fun i hi => ?_, fun i j hi hj _ => by omega⟩, Z2⟩, ⟨fun q hq => va_Nw.of rfl (hts _ (hN q hq)), A1, A2⟩, hF⟩
    have z := S1.1 i hi
    rw [show i = 0 by omega] at z ⊢
    exact z
  rcases hF with h | ⟨t, h⟩
  · exact fin 0 (Or.inl h)
  · exact fin t (Or.inr h)
