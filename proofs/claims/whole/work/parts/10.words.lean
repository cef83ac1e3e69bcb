/-! THE CONSTANT TEXT; a method that takes a long -/
/-- a method's contract out of its walk -/
theorem met_ofL {l : Launch} {S : Sh} {d : Nat} {b : Nat × Nat} {M : MD} {args : List Value} {μ : Mm} {Q : Option Value → Sh → Mm → Prop} {n : Nat} {L0 : Lc} (hM : MW M n) (hE : ∀ ad : Nat → Nat, lrel ad L0 ((lg_sl (args.map (rl ad)) ++ List.replicate (M.2.2.1 - (lg_sl (args.map (rl ad))).length) Slot.unset).toArray) M.2.2.1) (hW : Wp l S d b M 0 L0 [] μ Q) (ad : Nat → Nat) (ca : Nat → ClassId) (D : va_G) (tys : List (ClassId × FieldType)) (sz : Nat) (hT : Tk ca tys S) :
    Met l M.1 (Cond.code M.1 M.2.1 M.2.2.1 M.2.2.2 :: lwT) (rmd d b) (va_Pc (args.map (rl ad)) (PN S μ ad ca D tys sz)) (QN Q (sN S) ad ca D (va_A (conc ad ca S μ) sz)) b.1 b.2 (va_A (conc ad ca S μ) sz) := by
  refine Met.ofW (cc := M.2.1) (maxL := M.2.2.1) (ret := M.2.2.2) hM.2.2.1 rfl ?_
  intro p e s m as below meth c s₁ B hml hv
  obtain ⟨rfl, hsz, hP, hK, hD0, hX⟩ := hv
  have hts := atoms_spec (ws := Cond.code M.1 M.2.1 M.2.2.1 M.2.2.2 :: lwT) B.pre
  have hown : s.vm.findClass M.1.cls = some m.cls := findClass_of_methodNamed B.named
  have hnm : meth.name = M.1.name := (name_of_methodNamed B.named B.method).1
  subst hsz
  rw [lg_entry_eq]
  refine hW p e (headSpec (Cond.code M.1 M.2.1 M.2.2.1 M.2.2.2 :: lwT) (rmd d b)).room s m _ below meth c s.heap [] 0 0 _ D ad ca tys (va_A (conc ad ca S μ) s.heap.size) _ b.1 b.2 ⟨B.exec, B.bytes, hml, hown, fun w hw => hts w (List.mem_cons_of_mem _ hw), B.notSynchronized, B.returns, hnm⟩ ?_ ?_ hX (hE ad) ?_
  · exact ⟨Nat.le_refl _, Nat.le_refl _, by omega, by omega, Nat.le_refl _, Nat.le_refl _⟩
  · exact ⟨hK, hP, hD0.self, va_S.rf, fun q hq => Or.inr hq, hT⟩
  · intro v S' μ' ad' ca' tys' H' locs' t hQ hiv hle hext hca hR ht hw
    exact ⟨⟨v, S', μ', ad', ca', tys', rfl, hiv, hQ, hle, hext, hca, va_K.moved hw.alike hR.1, by rw [ht]; exact hR.2.1, hR.2.2.1, hR.2.2.2.2.2⟩, hR.2.2.2.1.F ht⟩
theorem lrel_long {ad : Nat → Nat} {x : Int64} : lrel ad [some (.long x), none] ((lg_sl (([.long x] : List Value).map (rl ad)) ++ List.replicate (2 - (lg_sl (([.long x] : List Value).map (rl ad))).length) Slot.unset).toArray) 2 := by
  have h := lv_entry (([.long x] : List Value).map (rl ad)) (n := 2) (by simp [lg_sl, rl, Value.category])
  refine ⟨rfl, h.1, h.2.1, fun i v hv => ?_⟩
  match i, hv with
  | 0, hv =>
    cases hv
    exact h.2.2 (0, .long x) List.mem_cons_self
  | 1, hv => cases hv
  | i + 2, hv => cases hv
theorem wp_cLi {l : Launch} {S : Sh} {d d0 : Nat} {b : Nat × Nat} {M : MD} {pc : Nat} {L : Lc} {μ : Mm} {Q : Option Value → Sh → Mm → Prop} {idx : Nat} {rest : List Value} {r : Int32} {x : Int64} (hM : CS M.1.cls idx mJ13_bitCount_95d88 1) (hd : decode M.2.1 pc = .ok (.invokestatic idx, 3)) (hd0 : d + 1 ≤ d0) (hS : clo S) (hrest : (rest.map fun v => v.category).sum ≤ 8)
    (hW : Wp l S d (0, 0) mJ13_bitCount_95d88 0 [some (.long x), none] [] μ (Qi S r μ)) (kk : Wp l S d0 b M (pc + 3) L (.int r :: rest) μ Q) : Wp l S d0 b M pc L (.long x :: rest) μ Q := by
  intro p e R s m args below meth c H locs cells slots ls D ad ca tys A QQ mc ms C B P X hlr K
  refine call_on (Qc := Qi S r μ) (fun _ _ _ q => q.2.1) hS (fun v m2 _ q => by obtain ⟨rfl, -, rfl⟩ := q; exact kk) C B P X hlr K (rest := rest) (a := (([.long x] : List Value).map (rl ad)).toArray) ?_
  exact va_runS (As := ([.long x] : List Value).map (rl ad)) (rest := rest.map (rl ad)) (nL := M.2.2.1) ⟨C.1, C.2.1, C.2.2.1, C.2.2.2.1, C.2.2.2.2.1⟩ (met_ofL hM.1 (fun ad => lrel_long) hW ad ca D tys H.size P.2.2.2.2.2) ⟨callB_T C.2.2.2.2.1 hM.1 hM.2.1 B hd0, C.2.2.2.2.1 _ hM.2.2⟩ ⟨pn_blind, fun U hU hw => ⟨rfl, pn_pre P X U hU hw⟩⟩ rfl rfl hlr.2.1 (by simp [rl]) (cats_room hrest) hd ⟨by have := B.2.2.1; have := B.2.2.2.2.1; show cells + 0 ≤ _; omega, by have := B.2.2.2.1; have := B.2.2.2.2.2; show slots + 0 ≤ _; omega⟩
section
variable {l : Launch} {S : Sh} {d : Nat} {b : Nat × Nat} {M : MD} {pc : Nat} {L : Lc} {st : List Value} {μ : Mm} {Q : Option Value → Sh → Mm → Prop}
theorem wp_ldcWords (ho : M.1.cls = "NineCopies$Reader") (hd : decode M.2.1 pc = .ok (.ldc 82, 2)) (kk : Wp l S d b M (pc + 2) L (.ref 1000002 :: st) μ Q) : Wp l S d b M pc L st μ Q := by
  intro p e R s m args below meth c H locs cells slots ls D ad ca tys A QQ mc ms C B P X hl K
  exact va_ldcS C.1 C.2.1 (by rw [← ho]; exact C.2.2.2.1) X.2.2.1.1 hd (kk p e R s m args below meth c H locs cells slots ls D ad ca tys A QQ mc ms C B P X hl K)
theorem wp_wlen {idx : Nat} (hl0 : Cond.methodLink M.1.cls idx yJ0_length_8abf5 ∈ lwT) (h : 8 ≤ d) (hr : (st.map fun v => v.category).sum ≤ 8) (hd : decode M.2.1 pc = .ok (.invokevirtual idx, 3)) (kk : Wp l S d b M (pc + 3) L (.int 96 :: st) μ Q) : Wp l S d b M pc L (.ref 1000002 :: st) μ Q := by
  sorry
theorem wp_wchar {idx : Nat} {i : Int32} (hl0 : Cond.methodLink M.1.cls idx yJ0_charAt_5068e ∈ lwT) (hi : vin i 96) (h : 8 ≤ d) (hr : (st.map fun v => v.category).sum ≤ 8) (hd : decode M.2.1 pc = .ok (.invokevirtual idx, 3)) (kk : Wp l S d b M (pc + 3) L (.int (wordsBytes.getD (ix i) 0) :: st) μ Q) : Wp l S d b M pc L (.int i :: .ref 1000002 :: st) μ Q := by
  sorry
end
