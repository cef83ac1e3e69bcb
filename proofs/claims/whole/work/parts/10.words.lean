/-! THE CONSTANT TEXT -/
section
variable {l : Launch} {S : Sh} {d : Nat} {b : Nat × Nat} {M : MD} {pc : Nat} {L : Lc} {st : List Value} {μ : Mm} {Q : Option Value → Sh → Mm → Prop}
theorem wp_ldcWords (ho : M.1.cls = "NineCopies$Reader") (hd : decode M.2.1 pc = .ok (.ldc 82, 2)) (kk : Wp l S d b M (pc + 2) L (.ref 1000002 :: st) μ Q) : Wp l S d b M pc L st μ Q := by
  intro p e R s m args below meth c H locs cells slots ls D ad ca tys A QQ mc ms C B P X hl K
  exact va_ldcS C.1 C.2.1 (by rw [← ho]; exact C.2.2.2.1) X.2.2.1.1 hd (kk p e R s m args below meth c H locs cells slots ls D ad ca tys A QQ mc ms C B P X hl K)
theorem wp_wlen {idx : Nat} (hl0 : Cond.methodLink M.1.cls idx yJ0_length_8abf5 ∈ lwT) (h : 8 ≤ d) (hr : (st.map fun v => v.category).sum ≤ 8) (hd : decode M.2.1 pc = .ok (.invokevirtual idx, 3)) (kk : Wp l S d b M (pc + 3) L (.int 96 :: st) μ Q) : Wp l S d b M pc L (.ref 1000002 :: st) μ Q := by
  sorry
theorem wp_wchar {idx : Nat} {i : Int32} (hl0 : Cond.methodLink M.1.cls idx yJ0_charAt_5068e ∈ lwT) (hi : vin i 96) (h : 8 ≤ d) (hr : (st.map fun v => v.category).sum ≤ 8) (hd : decode M.2.1 pc = .ok (.invokevirtual idx, 3)) (kk : Wp l S d b M (pc + 3) L (.int (wordsBytes.getD (ix i) 0) :: st) μ Q) : Wp l S d b M pc L (.int i :: .ref 1000002 :: st) μ Q := by
  sorry
end
