/-! CALLS of what makes an object -/
section
variable {l : Launch} {l1 l2 : List Ob} {d d1 : Nat} {b1 b2 : Nat × Nat} {M M' : MD} {pc : Nat} {L : Lc} {μ μ2 : Mm} {Q Qc : Option Value → Sh → Mm → Prop} {rest : List Value}
theorem init_on (hQc : ∀ v S' m', Qc v S' m' → v = none ∧ S' = shl l2 ∧ m' = μ2 ∧ clO l2 ∧ zM l2.length μ2) (hle : l1.length ≤ l2.length) (hrS : rfS l1.length rest) (hrL : rfL l1.length L) (kk : clO l2 → zM l2.length μ2 → Wp l (shl l2) d b2 M (pc + 3) L rest μ2 Q)
    {p : Program} {e : Env} {R : Room} {s : State} {m : MethodId} {args : Array Value} {below : List Frame} {meth : Method} {c : Code} {H : Heap} {locs : List Loc} {cells slots : Nat} {ls : Array Slot} {D : va_G} {ad : Nat → Nat} {ca : Nat → ClassId} {tys : List (ClassId × FieldType)} {A : Nat → Prop} {QQ : Array Value → State → Outcome → State → Prop} {mc ms : Nat} {st0 : List Value} {a : Array Value}
    (C : Cx M p s m args meth c) (B : Bd d (b1.1 + b2.1, b1.2 + b2.2) R cells slots mc ms) (P : Rp D ad ca tys (shl l1) μ A s H locs) (X : Xc ad A s s.heap) (hl : lrel ad L ls M.2.2.1) (K : Rok Q l1.length ad ca D A args s QQ)
    (hr : va_Run p l e R s m args below meth c H locs cells slots b1.1 b1.2 (F0 m pc ls st0) (rest.map (rl ad)) (QN Qc l1.length ad ca D (va_A (conc ad ca (shl l1) μ) H.size) a) (va_A (conc ad ca (shl l1) μ) H.size)) :
    W p l e R s m args below meth c H locs cells slots (MQ below QQ args s mc ms A) (F0 m pc ls st0) := by
  have hAA : ∀ q, va_A (conc ad ca (shl l1) μ) H.size q → A q := by
    rintro q (⟨k, e, hk⟩ | hq)
    · exact P.2.2.1.2 k _ hk
    · exact P.2.2.2.2.1 q (Nat.le_trans P.2.2.2.1.1 hq)
  intro T hT X'
  obtain ⟨v, st₀, t, T', Lc', h0, Y, hL, e1, e2, ⟨⟨v', S', μ', ad', ca', tys', ho, hiv, hQ, hle', hext, hca, hK1, hP1, hD1, hT1⟩, hz, hk⟩, st⟩ := hr T hT X'
  cases ho
  rw [h0] at hz hk
  obtain ⟨rfl, rfl, rfl, hcl2, hz2⟩ := hQc _ _ _ hQ
  have hH1 : va_S A s.heap T'.heap (locs ++ Lc') := ⟨Nat.le_trans P.2.2.2.1.1 (by rw [e1]; exact hz), fun q h1 h2 => by
      rw [e1, hk q (Nat.lt_of_lt_of_le h1 P.2.2.2.1.1) (fun z => h2 (hAA q z))]
      exact P.2.2.2.1.2.1 q h1 h2, fun q hq => by
      rcases List.mem_append.mp hq with h | h
      · exact P.2.2.2.1.2.2 q h
      · exact hAA _ (hL q h)⟩
  have hvm : s.vm.Alike t.vm := by rw [← e2]; exact Y.warmed.alike
  have P' : Rp D ad' ca' tys' (shl l2) μ' A s T'.heap (locs ++ Lc') := ⟨va_K.moved hvm.symm hK1, by rw [e1]; exact hP1, ⟨hD1.1, fun k q hq => hAA _ (hD1.2 k q hq)⟩, hH1, P.2.2.2.2.1, hT1⟩
  have st' : Goes p e below T (F0 m pc ls st0) T' (F0 m (pc + 3) ls (rest.map (rl ad'))) := by
    rw [rlS_ext hext hrS]
    exact st
  obtain ⟨B1, B2, B3, B4, B5, B6⟩ := B
  have B3 : cells + (b1.1 + b2.1) ≤ mc := B3
  have B4 : slots + (b1.2 + b2.2) ≤ ms := B4
  obtain ⟨t2, a1, b1⟩ := kk hcl2 hz2 p e R s m args below meth c T'.heap (locs ++ Lc') (cells + b1.1) (slots + b1.2) ls D ad' ca' tys' A QQ mc ms C ⟨B1, B2, by omega, by omega, B5, B6⟩ P' (X.ext hext) (hl.ext hext hrL) (K.grow hle hext hca) T' rfl Y
  exact ⟨t2, st' t2 a1, b1⟩
theorem wp_initL {n idx o : Nat} {as : List Value} (hM : MW M' n) (hl : Cond.methodLink M.1.cls idx M'.1 ∈ lwT) (hin : Cond.instanceMethod M'.1 ∈ lwT) (hnm : M'.1.name = "<init>") (hret : M'.2.2.2 = none) (hd : decode M.2.1 pc = .ok (.invokespecial idx, 3)) (hd0 : d1 + 1 ≤ d)
    (hn : as.length = n) (hcat : ∀ v ∈ (.ref o :: as : List Value), v.category = 1) (hlen : as.length + 1 ≤ M'.2.2.1) (hrest : (rest.map fun v => v.category).sum ≤ 8)
    (hW : Wp l (shl l1) d1 b1 M' 0 (ent M'.2.2.1 (.ref o :: as)) [] μ Qc) (hQc : ∀ v S' m', Qc v S' m' → v = none ∧ S' = shl l2 ∧ m' = μ2 ∧ clO l2 ∧ zM l2.length μ2) (hle : l1.length ≤ l2.length) (hrS : rfS l1.length rest) (hrL : rfL l1.length L) (kk : clO l2 → zM l2.length μ2 → Wp l (shl l2) d b2 M (pc + 3) L rest μ2 Q) {st : List Value} (hst : st = as.reverse ++ .ref o :: rest) : Wp l (shl l1) d (b1.1 + b2.1, b1.2 + b2.2) M pc L st μ Q := by
  subst hst
  obtain ⟨y, bt, mx, ret⟩ := M'
  have hret : ret = none := hret
  subst hret
  intro p e R s m args below meth c H locs cells slots ls D ad ca tys A QQ mc ms C B P X hlr K
  refine init_on (Qc := Qc) hQc hle hrS hrL kk C B P X hlr K (a := ((Value.ref (ad o) :: as.map (rl ad)).toArray)) ?_
  have B' := B
  obtain ⟨B1, B2, B3, B4, B5, B6⟩ := B'
  have B3 : cells + (b1.1 + b2.1) ≤ mc := B3
  have B4 : slots + (b1.2 + b2.2) ≤ ms := B4
  exact va_runI (As := as.map (rl ad)) (rest := rest.map (rl ad)) (nL := M.2.2.1) ⟨C.1, C.2.1, C.2.2.1, C.2.2.2.1, C.2.2.2.2.1⟩ (met_of hM hcat hlen hW ad ca D tys H.size P.2.2.2.2.2) ⟨callB_T C.2.2.2.2.1 hM hl B hd0, hnm, C.2.2.2.2.1 _ hin⟩ ⟨pn_blind, fun U hU hw => ⟨rfl, pn_pre P X U hU hw⟩⟩ rfl (by rw [List.length_map]; exact hn) hlr.2.1 (by simp [rl]) (cats_room hrest) hd ⟨by omega, by omega⟩
theorem wp_initN {n idx o : Nat} {as : List Value} {host : String} (hM : MW M' n) (hl : (M.1.cls, idx, M'.1, host) ∈ nestL) (hin : Cond.instanceMethod M'.1 ∈ lwT) (hnm : M'.1.name = "<init>") (hret : M'.2.2.2 = none) (hd : decode M.2.1 pc = .ok (.invokespecial idx, 3)) (hd0 : d1 + 1 ≤ d)
    (hn : as.length = n) (hcat : ∀ v ∈ (.ref o :: as : List Value), v.category = 1) (hlen : as.length + 1 ≤ M'.2.2.1) (hrest : (rest.map fun v => v.category).sum ≤ 8)
    (hW : Wp l (shl l1) d1 b1 M' 0 (ent M'.2.2.1 (.ref o :: as)) [] μ Qc) (hQc : ∀ v S' m', Qc v S' m' → v = none ∧ S' = shl l2 ∧ m' = μ2 ∧ clO l2 ∧ zM l2.length μ2) (hle : l1.length ≤ l2.length) (hrS : rfS l1.length rest) (hrL : rfL l1.length L) (kk : clO l2 → zM l2.length μ2 → Wp l (shl l2) d b2 M (pc + 3) L rest μ2 Q) {st : List Value} (hst : st = as.reverse ++ .ref o :: rest) : Wp l (shl l1) d (b1.1 + b2.1, b1.2 + b2.2) M pc L st μ Q := by
  subst hst
  obtain ⟨y, bt, mx, ret⟩ := M'
  have hret : ret = none := hret
  subst hret
  intro p e R s m args below meth c H locs cells slots ls D ad ca tys A QQ mc ms C B P X hlr K
  refine init_on (Qc := Qc) hQc hle hrS hrL kk C B P X hlr K (a := ((Value.ref (ad o) :: as.map (rl ad)).toArray)) ?_
  have B' := B
  obtain ⟨B1, B2, B3, B4, B5, B6⟩ := B'
  have B3 : cells + (b1.1 + b2.1) ≤ mc := B3
  have B4 : slots + (b1.2 + b2.2) ≤ ms := B4
  exact va_runIN (As := as.map (rl ad)) (rest := rest.map (rl ad)) (nL := M.2.2.1) (ws := Cond.code y bt mx none :: lwT) (host := host) ⟨C.1, C.2.1, C.2.2.1, C.2.2.2.1, C.2.2.2.2.1⟩ (met_of hM hcat hlen hW ad ca D tys H.size P.2.2.2.2.2) ⟨va_cnB n C.2.2.2.2.1 (lwT_good (fun w hw => by
    rcases List.mem_cons.mp hw with rfl | h
    · exact hM.1
    · exact h)) rfl rfl rfl (X.2.2.2.1.1 _ hl) (C.2.2.2.2.1 _ hM.2.1) hM.2.2.2.1 ⟨by show d1 + 1 ≤ _; omega, by have := hM.2.2.2.2; have : mx ≤ 44 := this; show 8 + (mx + 11) + 64 * d1 ≤ _; omega⟩, hnm, C.2.2.2.2.1 _ hin⟩ ⟨pn_blind, fun U hU hw => ⟨rfl, pn_pre P X U hU hw⟩⟩ rfl (by rw [List.length_map]; exact hn) hlr.2.1 (by simp [rl]) (cats_room hrest) hd ⟨by omega, by omega⟩
end
