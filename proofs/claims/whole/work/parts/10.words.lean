/-! THE CONSTANT TEXT; a method that takes a long -/
/-- a method's contract out of its walk -/
theorem met_ofL {l : Launch} {S : Sh} {d : Nat} {b : Nat × Nat} {M : MD} {args : List Value} {μ : Mm} {Q : Option Value → Sh → Mm → Prop} {n : Nat} {L0 : Lc} (hM : MW M n) (hE : ∀ ad : Nat → Nat, lrel ad L0 ((lg_sl (args.map (rl ad)) ++ List.replicate (M.2.2.1 - (lg_sl (args.map (rl ad))).length) Slot.unset).toArray) M.2.2.1) (hW : Wp l S d b M 0 L0 [] μ Q) (ad : Nat → Nat) (ca : Nat → ClassId) (D : va_G) (tys : List (ClassId × FieldType)) (sz : Nat) (hT : Tk ca tys S) :
    Met l M.1 (Cond.code M.1 M.2.1 M.2.2.1 M.2.2.2 :: lwT) (rmd d b) (va_Pc (args.map (rl ad)) (PN S μ ad ca D tys sz)) (QN Q (sN S) ad ca D (va_A (conc ad ca S μ) sz)) b.1 b.2 (va_A (conc ad ca S μ) sz) := by
  refine Met.ofW (cc := M.2.1) (maxL := M.2.2.1) (ret := M.2.2.2) hM.2.2.1 rfl ?_
  intro p e s m as below meth c s₁ B hml hv
  obtain ⟨rfl, hsz, hP, hK, hD0, hX⟩ := hv
  have hts := atoms_spec (ws := Cond.code M.1 M.2.1 M.2.2.1 M.2.2.2 :: lwT) B.pre
  have hown : s.vm.findClass M.1.cls = some m.cls := findClass_of_methodNamed B.named
  have hnm : meth.name = M.1.name := (name_of_methodNamed B.named B.method).1
  subst hsz
  rw [lg_entry_eq]
  refine hW p e (headSpec (Cond.code M.1 M.2.1 M.2.2.1 M.2.2.2 :: lwT) (rmd d b)).room s m _ below meth c s.heap [] 0 0 _ D ad ca tys (va_A (conc ad ca S μ) s.heap.size) _ b.1 b.2 ⟨B.exec, B.bytes, hml, hown, fun w hw => hts w (List.mem_cons_of_mem _ hw), B.notSynchronized, B.returns, hnm⟩ ?_ ?_ hX (hE ad) ?_
  · exact ⟨Nat.le_refl _, Nat.le_refl _, by omega, by omega, Nat.le_refl _, Nat.le_refl _⟩
  · exact ⟨hK, hP, hD0.self, va_S.rf, fun q hq => Or.inr hq, hT⟩
  · intro v S' μ' ad' ca' tys' H' locs' t hQ hiv hle hext hca hR ht hw
    exact ⟨⟨v, S', μ', ad', ca', tys', rfl, hiv, hQ, hle, hext, hca, va_K.moved hw.alike hR.1, by rw [ht]; exact hR.2.1, hR.2.2.1, hR.2.2.2.2.2⟩, hR.2.2.2.1.F ht⟩
theorem lrel_long {ad : Nat → Nat} {x : Int64} : lrel ad [some (.long x), none] ((lg_sl (([.long x] : List Value).map (rl ad)) ++ List.replicate (2 - (lg_sl (([.long x] : List Value).map (rl ad))).length) Slot.unset).toArray) 2 := by
  have h := lv_entry (([.long x] : List Value).map (rl ad)) (n := 2) (by simp [lg_sl, rl, Value.category])
  refine ⟨rfl, h.1, h.2.1, fun i v hv => ?_⟩
  match i, hv with
  | 0, hv =>
    cases hv
    exact h.2.2 (0, .long x) List.mem_cons_self
  | 1, hv => cases hv
  | i + 2, hv => cases hv
theorem wp_cLi {l : Launch} {S : Sh} {d d0 : Nat} {b : Nat × Nat} {M : MD} {pc : Nat} {L : Lc} {μ : Mm} {Q : Option Value → Sh → Mm → Prop} {idx : Nat} {rest : List Value} {r : Int32} {x : Int64} (hM : CS M.1.cls idx mJ13_bitCount_95d88 1) (hd : decode M.2.1 pc = .ok (.invokestatic idx, 3)) (hd0 : d + 1 ≤ d0) (hS : clo S) (hrest : (rest.map fun v => v.category).sum ≤ 8)
    (hW : Wp l S d (0, 0) mJ13_bitCount_95d88 0 [some (.long x), none] [] μ (Qi S r μ)) (kk : Wp l S d0 b M (pc + 3) L (.int r :: rest) μ Q) : Wp l S d0 b M pc L (.long x :: rest) μ Q := by
  intro p e R s m args below meth c H locs cells slots ls D ad ca tys A QQ mc ms C B P X hlr K
  refine call_on (Qc := Qi S r μ) (fun _ _ _ q => q.2.1) hS (fun v m2 _ q => by obtain ⟨rfl, -, rfl⟩ := q; exact kk) C B P X hlr K (rest := rest) (a := (([.long x] : List Value).map (rl ad)).toArray) ?_
  exact va_runS (As := ([.long x] : List Value).map (rl ad)) (rest := rest.map (rl ad)) (nL := M.2.2.1) ⟨C.1, C.2.1, C.2.2.1, C.2.2.2.1, C.2.2.2.2.1⟩ (met_ofL hM.1 (fun ad => lrel_long) hW ad ca D tys H.size P.2.2.2.2.2) ⟨callB_T C.2.2.2.2.1 hM.1 hM.2.1 B hd0, C.2.2.2.2.1 _ hM.2.2⟩ ⟨pn_blind, fun U hU hw => ⟨rfl, pn_pre P X U hU hw⟩⟩ rfl rfl hlr.2.1 (by simp [rl]) (cats_room hrest) hd ⟨by have := B.2.2.1; have := B.2.2.2.2.1; show cells + 0 ≤ _; omega, by have := B.2.2.2.1; have := B.2.2.2.2.2; show slots + 0 ≤ _; omega⟩
section
variable {l : Launch} {S : Sh} {d : Nat} {b : Nat × Nat} {M : MD} {pc : Nat} {L : Lc} {st : List Value} {μ : Mm} {Q : Option Value → Sh → Mm → Prop}
theorem wp_ldcWords (ho : M.1.cls = "NineCopies$Reader") (hd : decode M.2.1 pc = .ok (.ldc 82, 2)) (kk : Wp l S d b M (pc + 2) L (.ref 1000002 :: st) μ Q) : Wp l S d b M pc L st μ Q := by
  intro p e R s m args below meth c H locs cells slots ls D ad ca tys A QQ mc ms C B P X hl K
  exact va_ldcS C.1 C.2.1 (by rw [← ho]; exact C.2.2.2.1) X.2.2.1.1 hd (kk p e R s m args below meth c H locs cells slots ls D ad ca tys A QQ mc ms C B P X hl K)
theorem wp_nret {v : Int32} {ty : FieldType} (hr : M.2.2.2 = some ty) (hn : narrow ty (.int v) = .int v) (hd : decode M.2.1 pc = .ok (.ireturn, 1)) (kk : Q (some (.int v)) S μ) : Wp l S d b M pc L [.int v] μ Q := by
  intro p e R s m args below meth c H locs cells slots ls D ad ca tys A QQ mc ms C B P X hl K
  refine W.widen (k := mc) (n := ms) (by have := B.2.2.1; omega) (by have := B.2.2.2.1; omega) ?_
  exact W.zret C.1 C.2.1 (C.2.2.2.2.2.2.1.trans hr) hn (fun t ht hw => K (some (.int v)) S μ ad ca tys H locs t kk (Or.inr ⟨v, rfl⟩) (Nat.le_refl _) ext.rf (fun _ _ => rfl) P ht hw) P.2.2.2.1.2.2 hd C.2.2.2.2.2.1
theorem wp_i2c {x : Int32} (hd : decode M.2.1 pc = .ok (.i2c, 1)) (k : Wp l S d b M (pc + 1) L (.int (x.toUInt32 % 65536).toInt32 :: st) μ Q) : Wp l S d b M pc L (.int x :: st) μ Q := by
  intro p e R s m args below meth c H locs cells slots ls D ad ca tys A QQ mc ms C B P X hl K
  exact lv_i2c C.1 C.2.1 hd rfl (k p e R s m args below meth c H locs cells slots ls D ad ca tys A QQ mc ms C B P X hl K)
theorem wp_getCompact {idx : Nat} (hl0 : Cond.fieldLink M.1.cls idx "java/lang/String" "COMPACT_STRINGS" "Z" ∈ lwT) (hd : decode M.2.1 pc = .ok (.getstatic idx, 3)) (kk : Wp l S d b M (pc + 3) L (.int 1 :: st) μ Q) : Wp l S d b M pc L st μ Q := by
  intro p e R s m args below meth c H locs cells slots ls D ad ca tys A QQ mc ms C B P X hl K
  exact va_gets C.1 C.2.1 X.2.2.1.2.2 P.2.2.2.1 C.2.2.2.1 (C.2.2.2.2.1 _ hl0) (fun _ h => h) hd (kk p e R s m args below meth c H locs cells slots ls D ad ca tys A QQ mc ms C B P X hl K)
theorem wp_getSi {idx : Nat} (hl0 : Cond.fieldLink M.1.cls idx "jdk/internal/util/Preconditions" "SIOOBE_FORMATTER" "Ljava/util/function/BiFunction;" ∈ lwT) (hd : decode M.2.1 pc = .ok (.getstatic idx, 3)) (k1 : Wp l S d b M (pc + 3) L (.null :: st) μ Q) (k2 : Wp l S d b M (pc + 3) L (.ref 1000004 :: st) μ Q) : Wp l S d b M pc L st μ Q := by
  intro p e R s m args below meth c H locs cells slots ls D ad ca tys A QQ mc ms C B P X hl K
  rcases X.2.2.2.2 with z | z
  · exact va_gets C.1 C.2.1 z P.2.2.2.1 C.2.2.2.1 (C.2.2.2.2.1 _ hl0) (fun _ h => h) hd (k1 p e R s m args below meth c H locs cells slots ls D ad ca tys A QQ mc ms C B P X hl K)
  · exact va_gets C.1 C.2.1 z P.2.2.2.1 C.2.2.2.1 (C.2.2.2.2.1 _ hl0) (fun _ h => h) hd (k2 p e R s m args below meth c H locs cells slots ls D ad ca tys A QQ mc ms C B P X hl K)
theorem wp_strCoder {idx : Nat} (hl0 : Cond.fieldLink M.1.cls idx "java/lang/String" "coder" "B" ∈ lwT) (hd : decode M.2.1 pc = .ok (.getfield idx, 3)) (kk : Wp l S d b M (pc + 3) L (.int 0 :: st) μ Q) : Wp l S d b M pc L (.ref 1000002 :: st) μ Q := by
  intro p e R s m args below meth c H locs cells slots ls D ad ca tys A QQ mc ms C B P X hl K
  exact vk_getf C.1 C.2.1 (X.2.2.1.2.1.1 0 (by decide)).2.1 P.2.2.2.1 C.2.2.2.1 (C.2.2.2.2.1 _ hl0) (fun _ h => h) hd (kk p e R s m args below meth c H locs cells slots ls D ad ca tys A QQ mc ms C B P X hl K)
theorem wp_strValue {idx : Nat} (hl0 : Cond.fieldLink M.1.cls idx "java/lang/String" "value" "[B" ∈ lwT) (hd : decode M.2.1 pc = .ok (.getfield idx, 3)) (kk : Wp l S d b M (pc + 3) L (.ref 1000003 :: st) μ Q) : Wp l S d b M pc L (.ref 1000002 :: st) μ Q := by
  intro p e R s m args below meth c H locs cells slots ls D ad ca tys A QQ mc ms C B P X hl K
  exact vk_getf C.1 C.2.1 (X.2.2.1.2.1.1 0 (by decide)).2.2.1 P.2.2.2.1 C.2.2.2.1 (C.2.2.2.2.1 _ hl0) (fun _ h => h) hd (kk p e R s m args below meth c H locs cells slots ls D ad ca tys A QQ mc ms C B P X hl K)
theorem wp_strLen (hd : decode M.2.1 pc = .ok (.arraylength, 1)) (kk : Wp l S d b M (pc + 1) L (.int 96 :: st) μ Q) : Wp l S d b M pc L (.ref 1000003 :: st) μ Q := by
  intro p e R s m args below meth c H locs cells slots ls D ad ca tys A QQ mc ms C B P X hl K
  exact va_tlen C.1 C.2.1 (X.2.2.1.2.1.1 0 (by decide)).2.2.2 P.2.2.2.1 rfl hd (kk p e R s m args below meth c H locs cells slots ls D ad ca tys A QQ mc ms C B P X hl K)
theorem wp_strByte {i : Int32} (hin : vp_in i 96) (hd : decode M.2.1 pc = .ok (.baload, 1)) (kk : Wp l S d b M (pc + 1) L (.int (wordsBytes.getD (ix i) 0) :: st) μ Q) : Wp l S d b M pc L (.int i :: .ref 1000003 :: st) μ Q := by
  intro p e R s m args below meth c H locs cells slots ls D ad ca tys A QQ mc ms C B P X hl K
  exact va_tb C.1 C.2.1 (X.2.2.1.2.1.1 0 (by decide)).2.2.2 P.2.2.2.1 hin rfl hd (kk p e R s m args below meth c H locs cells slots ls D ad ca tys A QQ mc ms C B P X hl K)
end
section
variable {l : Launch} {S : Sh} {d d0 : Nat} {b : Nat × Nat} {M M' : MD} {pc : Nat} {L : Lc} {μ : Mm} {Q Qc : Option Value → Sh → Mm → Prop} {n idx : Nat} {as rest st : List Value}
/-- a call upon the constant text; the world stays -/
theorem wp_callT (hM : MW M' n) (hl : Cond.methodLink M.1.cls idx M'.1 ∈ lwT) (hin : Cond.instanceMethod M'.1 ∈ lwT) (hse : Cond.selects M'.1.cls M'.1 M'.1 ∈ lwT) (hcs : M'.1.cls = "java/lang/String") (hd : decode M.2.1 pc = .ok (.invokevirtual idx, 3)) (hd0 : d + 1 ≤ d0) (hS : clo S)
    (hn : as.length = n) (hcat : ∀ v ∈ (.ref 1000002 :: as : List Value), v.category = 1) (hlen : (as.length + 1) ≤ M'.2.2.1) (hrest : (rest.map fun v => v.category).sum ≤ 8)
    (hW : Wp l S d (0, 0) M' 0 (ent M'.2.2.1 (.ref 1000002 :: as)) [] μ Qc) (hcl : ∀ v S' μ', Qc v S' μ' → S' = S) (kk : ∀ v μ', iv v → Qc v S μ' → Wp l S d0 b M (pc + 3) L (v.toList ++ rest) μ' Q) (hst : st = as.reverse ++ .ref 1000002 :: rest) : Wp l S d0 b M pc L st μ Q := by
  subst hst
  intro p e R s m args below meth c H locs cells slots ls D ad ca tys A QQ mc ms C B P X hlr K
  refine call_on (Qc := Qc) hcl hS kk C B P X hlr K (rest := rest) (a := ((Value.ref (ad 1000002) :: as.map (rl ad)).toArray)) ?_
  have hrecv := vk_recv (i := 0) X.2.2.1.2.1 (by decide) P.2.2.2.1
  rw [← hcs] at hrecv
  exact va_runV (As := as.map (rl ad)) (rest := rest.map (rl ad)) (nL := M.2.2.1) (C := M'.1.cls) ⟨C.1, C.2.1, C.2.2.1, C.2.2.2.1, C.2.2.2.2.1⟩ (met_of hM hcat hlen hW ad ca D tys H.size P.2.2.2.2.2) ⟨callB_T C.2.2.2.2.1 hM hl B hd0, C.2.2.2.2.1 _ hin, C.2.2.2.2.1 _ hse⟩ ⟨pn_blind, hrecv, fun U hU hw => ⟨rfl, pn_pre P X U hU hw⟩⟩ rfl (by rw [List.length_map]; exact hn) hlr.2.1 (by simp [rl]) (cats_room hrest) hd ⟨by have := B.2.2.1; have := B.2.2.2.2.1; show cells + 0 ≤ _; omega, by have := B.2.2.2.1; have := B.2.2.2.2.2; show slots + 0 ≤ _; omega⟩
end
def mJ0_length_8abf5 : MD := (yJ0_length_8abf5, cJ0_length_8abf5, 1, some .int)
theorem mw_J0_length_8abf5 : MW mJ0_length_8abf5 0 := ⟨lwT_of (by decide +kernel) rfl, lwT_of (by decide +kernel) rfl, by decide +kernel, ⟨by decide +kernel, by decide +kernel, by decide +kernel⟩, by decide⟩
def mJ0_coder_7d493 : MD := (yJ0_coder_7d493, cJ0_coder_7d493, 1, some .byte)
theorem mw_J0_coder_7d493 : MW mJ0_coder_7d493 0 := ⟨lwT_of (by decide +kernel) rfl, lwT_of (by decide +kernel) rfl, by decide +kernel, ⟨by decide +kernel, by decide +kernel, by decide +kernel⟩, by decide⟩
def mJ0_isLatin1_aae02 : MD := (yJ0_isLatin1_aae02, cJ0_isLatin1_aae02, 1, some .boolean)
theorem mw_J0_isLatin1_aae02 : MW mJ0_isLatin1_aae02 0 := ⟨lwT_of (by decide +kernel) rfl, lwT_of (by decide +kernel) rfl, by decide +kernel, ⟨by decide +kernel, by decide +kernel, by decide +kernel⟩, by decide⟩
def mJ0_checkIndex_df160 : MD := (yJ0_checkIndex_df160, cJ0_checkIndex_df160, 2, none)
theorem mw_J0_checkIndex_df160 : MW mJ0_checkIndex_df160 2 := ⟨lwT_of (by decide +kernel) rfl, lwT_of (by decide +kernel) rfl, by decide +kernel, ⟨by decide +kernel, by decide +kernel, by decide +kernel⟩, by decide⟩
def mJ3_checkIndex_8e157 : MD := (yJ3_checkIndex_8e157, cJ3_checkIndex_8e157, 3, some .int)
theorem mw_J3_checkIndex_8e157 : MW mJ3_checkIndex_8e157 3 := ⟨lwT_of (by decide +kernel) rfl, lwT_of (by decide +kernel) rfl, by decide +kernel, ⟨by decide +kernel, by decide +kernel, by decide +kernel⟩, by decide⟩
def mJ1_charAt_3b067 : MD := (yJ1_charAt_3b067, cJ1_charAt_3b067, 2, some .char)
theorem mw_J1_charAt_3b067 : MW mJ1_charAt_3b067 2 := ⟨lwT_of (by decide +kernel) rfl, lwT_of (by decide +kernel) rfl, by decide +kernel, ⟨by decide +kernel, by decide +kernel, by decide +kernel⟩, by decide⟩
def mJ0_charAt_5068e : MD := (yJ0_charAt_5068e, cJ0_charAt_5068e, 2, some .char)
theorem mw_J0_charAt_5068e : MW mJ0_charAt_5068e 1 := ⟨lwT_of (by decide +kernel) rfl, lwT_of (by decide +kernel) rfl, by decide +kernel, ⟨by decide +kernel, by decide +kernel, by decide +kernel⟩, by decide⟩
section
variable {l : Launch} {d : Nat} {b : Nat × Nat} {M : MD} {pc : Nat} {L : Lc} {st : List Value} {μ : Mm} {Q : Option Value → Sh → Mm → Prop}
theorem ok_J3_check {S : Sh} (i n : Int32) (v : Value) (h0 : ¬ i < 0) (h1 : i < n) : Wp l S d (0, 0) mJ3_checkIndex_8e157 0 [some (.int i), some (.int n), some v] [] μ (Qi S i μ) := by
  refine wp_iload_n (x := i) dJ3_checkIndex_8e157_0 rfl ?_
  refine wp_if_lt 9 dJ3_checkIndex_8e157_1 (by decide) (fun c1 => absurd c1 h0) (fun c1 => ?_)
  refine wp_iload_n (x := i) dJ3_checkIndex_8e157_4 rfl ?_
  refine wp_iload_n (x := n) dJ3_checkIndex_8e157_5 rfl ?_
  refine wp_icmp_lt 16 dJ3_checkIndex_8e157_6 (by decide) (fun c2 => ?_) (fun c2 => absurd h1 c2)
  refine wp_iload_n (x := i) dJ3_checkIndex_8e157_16 rfl ?_
  exact wp_iret rfl dJ3_checkIndex_8e157_17 ⟨rfl, rfl, rfl⟩
theorem cs_J3 : CS RJ0 1059 mJ3_checkIndex_8e157 3 := ⟨mw_J3_checkIndex_8e157, lwT_of (by decide +kernel) rfl, lwT_of (by decide +kernel) rfl⟩
theorem ok_J0_check (i n : Int32) (h0 : ¬ i < 0) (h1 : i < n) (hd : 2 ≤ d) : Wp l SC d (0, 0) mJ0_checkIndex_df160 0 [some (.int i), some (.int n)] [] μ (Qv SC μ) := by
  refine wp_iload_n (x := i) dJ0_checkIndex_df160_0 rfl ?_
  refine wp_iload_n (x := n) dJ0_checkIndex_df160_1 rfl ?_
  refine wp_getSi (lwT_of (by decide +kernel) rfl) dJ0_checkIndex_df160_2 ?_ ?_
  · refine wp_cSi (d := d - 1) cs_J3 (as := [.int i, .int n, .null]) (rest := []) dJ0_checkIndex_df160_5 (by omega) cloC rfl rfl (Nat.le_of_ble_eq_true rfl) (Nat.le_of_ble_eq_true rfl) (ok_J3_check i n .null h0 h1) ?_ rfl
    refine wp_pop dJ0_checkIndex_df160_8 rfl ?_
    exact wp_vret rfl dJ0_checkIndex_df160_9 ⟨rfl, rfl, rfl⟩
  · refine wp_cSi (d := d - 1) cs_J3 (as := [.int i, .int n, .ref 1000004]) (rest := []) dJ0_checkIndex_df160_5 (by omega) cloC rfl rfl (Nat.le_of_ble_eq_true rfl) (Nat.le_of_ble_eq_true rfl) (ok_J3_check i n (.ref 1000004) h0 h1) ?_ rfl
    refine wp_pop dJ0_checkIndex_df160_8 rfl ?_
    exact wp_vret rfl dJ0_checkIndex_df160_9 ⟨rfl, rfl, rfl⟩
theorem cs_J0 : CS RJ1 9 mJ0_checkIndex_df160 2 := ⟨mw_J0_checkIndex_df160, lwT_of (by decide +kernel) rfl, lwT_of (by decide +kernel) rfl⟩
theorem word_c : ∀ j, j < 96 → (((wordsBytes.getD j 0 &&& 255).toUInt32 % 65536).toInt32 = wordsBytes.getD j 0 ∧ narrow .char (.int (wordsBytes.getD j 0)) = .int (wordsBytes.getD j 0)) := by decide +kernel
theorem ok_J1_char (i : Int32) (hi : vin i 96) (hd : 3 ≤ d) : Wp l SC d (0, 0) mJ1_charAt_3b067 0 [some (.ref 1000003), some (.int i)] [] μ (Qi SC (wordsBytes.getD (ix i) 0) μ) := by
  have h0 : ¬ i < 0 := fun h => hi (Or.inl h)
  have hj : ix i < 96 := Nat.lt_of_not_le (fun h => hi (Or.inr h))
  have h1 : i < 96 := by
    rw [Int32.lt_iff_toInt_lt] at h0 ⊢
    have : ix i = i.toInt.toNat := rfl
    have e : (96 : Int32).toInt = 96 := rfl
    have e0 : (0 : Int32).toInt = 0 := rfl
    omega
  refine wp_iload_n (x := i) dJ1_charAt_3b067_0 rfl ?_
  refine wp_aload_n (x := 1000003) dJ1_charAt_3b067_1 rfl ?_
  refine wp_strLen dJ1_charAt_3b067_2 ?_
  refine wp_cSv (d := d - 1) cs_J0 (as := [.int i, .int 96]) (rest := []) dJ1_charAt_3b067_3 (by omega) cloC rfl rfl (Nat.le_of_ble_eq_true rfl) (Nat.le_of_ble_eq_true rfl) (ok_J0_check i 96 h0 h1 (by omega)) ?_ rfl
  refine wp_aload_n (x := 1000003) dJ1_charAt_3b067_6 rfl ?_
  refine wp_iload_n (x := i) dJ1_charAt_3b067_7 rfl ?_
  refine wp_strByte hi dJ1_charAt_3b067_8 ?_
  refine wp_sipush 255 dJ1_charAt_3b067_9 rfl ?_
  refine wp_iand dJ1_charAt_3b067_12 ?_
  refine wp_i2c dJ1_charAt_3b067_13 ?_
  rw [(word_c (ix i) hj).1]
  exact wp_nret rfl (word_c (ix i) hj).2 dJ1_charAt_3b067_14 ⟨rfl, rfl, rfl⟩
theorem ok_J0_latin : Wp l SC d (0, 0) mJ0_isLatin1_aae02 0 [some (.ref 1000002)] [] μ (Qi SC 1 μ) := by
  refine wp_getCompact (lwT_of (by decide +kernel) rfl) dJ0_isLatin1_aae02_0 ?_
  refine wp_if_eq 17 dJ0_isLatin1_aae02_3 (by decide) (fun c1 => absurd c1 (by decide)) (fun c1 => ?_)
  refine wp_aload_n (x := 1000002) dJ0_isLatin1_aae02_6 rfl ?_
  refine wp_strCoder (lwT_of (by decide +kernel) rfl) dJ0_isLatin1_aae02_7 ?_
  refine wp_if_ne 17 dJ0_isLatin1_aae02_10 (by decide) (fun c1 => absurd rfl c1) (fun c1 => ?_)
  refine wp_iconst 1 dJ0_isLatin1_aae02_13 rfl ?_
  refine wp_goto 18 dJ0_isLatin1_aae02_14 (by decide) ?_
  exact wp_zret rfl (Or.inr rfl) dJ0_isLatin1_aae02_18 ⟨rfl, rfl, rfl⟩
theorem ok_J0_coder : Wp l SC d (0, 0) mJ0_coder_7d493 0 [some (.ref 1000002)] [] μ (Qi SC 0 μ) := by
  refine wp_getCompact (lwT_of (by decide +kernel) rfl) dJ0_coder_7d493_0 ?_
  refine wp_if_eq 13 dJ0_coder_7d493_3 (by decide) (fun c1 => absurd c1 (by decide)) (fun c1 => ?_)
  refine wp_aload_n (x := 1000002) dJ0_coder_7d493_6 rfl ?_
  refine wp_strCoder (lwT_of (by decide +kernel) rfl) dJ0_coder_7d493_7 ?_
  refine wp_goto 14 dJ0_coder_7d493_10 (by decide) ?_
  exact wp_nret rfl rfl dJ0_coder_7d493_14 ⟨rfl, rfl, rfl⟩
theorem ok_J0_length (hd : 2 ≤ d) : Wp l SC d (0, 0) mJ0_length_8abf5 0 [some (.ref 1000002)] [] μ (Qi SC 96 μ) := by
  refine wp_aload_n (x := 1000002) dJ0_length_8abf5_0 rfl ?_
  refine wp_strValue (lwT_of (by decide +kernel) rfl) dJ0_length_8abf5_1 ?_
  refine wp_strLen dJ0_length_8abf5_4 ?_
  refine wp_aload_n (x := 1000002) dJ0_length_8abf5_5 rfl ?_
  refine wp_callT (d := d - 1) (as := []) (rest := [.int 96]) mw_J0_coder_7d493 (lwT_of (by decide +kernel) rfl) (lwT_of (by decide +kernel) rfl) (lwT_of (by decide +kernel) rfl) rfl dJ0_length_8abf5_6 (by omega) cloC rfl (cats_of rfl) (Nat.le_of_ble_eq_true rfl) (Nat.le_of_ble_eq_true rfl) ok_J0_coder (fun _ _ _ q => q.2.1) (fun v m _ q => ?_) rfl
  obtain ⟨rfl, -, rfl⟩ := q
  refine wp_ishr dJ0_length_8abf5_9 ?_
  exact wp_iret rfl dJ0_length_8abf5_10 ⟨rfl, rfl, rfl⟩
theorem ok_J0_char (i : Int32) (hi : vin i 96) (hd : 4 ≤ d) : Wp l SC d (0, 0) mJ0_charAt_5068e 0 [some (.ref 1000002), some (.int i)] [] μ (Qi SC (wordsBytes.getD (ix i) 0) μ) := by
  have hj : ix i < 96 := Nat.lt_of_not_le (fun h => hi (Or.inr h))
  refine wp_aload_n (x := 1000002) dJ0_charAt_5068e_0 rfl ?_
  refine wp_callT (d := d - 1) (as := []) (rest := []) mw_J0_isLatin1_aae02 (lwT_of (by decide +kernel) rfl) (lwT_of (by decide +kernel) rfl) (lwT_of (by decide +kernel) rfl) rfl dJ0_charAt_5068e_1 (by omega) cloC rfl (cats_of rfl) (Nat.le_of_ble_eq_true rfl) (Nat.le_of_ble_eq_true rfl) ok_J0_latin (fun _ _ _ q => q.2.1) (fun v m _ q => ?_) rfl
  obtain ⟨rfl, -, rfl⟩ := q
  refine wp_if_eq 16 dJ0_charAt_5068e_4 (by decide) (fun c1 => absurd c1 (by decide)) (fun c1 => ?_)
  refine wp_aload_n (x := 1000002) dJ0_charAt_5068e_7 rfl ?_
  refine wp_strValue (lwT_of (by decide +kernel) rfl) dJ0_charAt_5068e_8 ?_
  refine wp_iload_n (x := i) dJ0_charAt_5068e_11 rfl ?_
  refine wp_callS (d := d - 1) (as := [.ref 1000003, .int i]) (rest := []) mw_J1_charAt_3b067 (lwT_of (by decide +kernel) rfl) (lwT_of (by decide +kernel) rfl) dJ0_charAt_5068e_12 (by omega) cloC rfl (cats_of rfl) (Nat.le_of_ble_eq_true rfl) (Nat.le_of_ble_eq_true rfl) (ok_J1_char i hi (by omega)) (fun _ _ _ q => q.2.1) (fun v m _ q => ?_) rfl
  obtain ⟨rfl, -, rfl⟩ := q
  exact wp_nret rfl (word_c (ix i) hj).2 dJ0_charAt_5068e_15 ⟨rfl, rfl, rfl⟩
theorem wp_wlen {idx : Nat} (hl0 : Cond.methodLink M.1.cls idx yJ0_length_8abf5 ∈ lwT) (h : 8 ≤ d) (hr : (st.map fun v => v.category).sum ≤ 8) (hd : decode M.2.1 pc = .ok (.invokevirtual idx, 3)) (kk : Wp l SC d b M (pc + 3) L (.int 96 :: st) μ Q) : Wp l SC d b M pc L (.ref 1000002 :: st) μ Q := by
  refine wp_callT (d := d - 1) (as := []) (rest := st) mw_J0_length_8abf5 hl0 (lwT_of (by decide +kernel) rfl) (lwT_of (by decide +kernel) rfl) rfl hd (by omega) cloC rfl (cats_of rfl) (Nat.le_of_ble_eq_true rfl) hr (ok_J0_length (by omega)) (fun _ _ _ q => q.2.1) (fun v m _ q => ?_) rfl
  obtain ⟨rfl, -, rfl⟩ := q
  exact kk
theorem wp_wchar {idx : Nat} {i : Int32} (hl0 : Cond.methodLink M.1.cls idx yJ0_charAt_5068e ∈ lwT) (hi : vin i 96) (h : 8 ≤ d) (hr : (st.map fun v => v.category).sum ≤ 8) (hd : decode M.2.1 pc = .ok (.invokevirtual idx, 3)) (kk : Wp l SC d b M (pc + 3) L (.int (wordsBytes.getD (ix i) 0) :: st) μ Q) : Wp l SC d b M pc L (.int i :: .ref 1000002 :: st) μ Q := by
  refine wp_callT (d := d - 1) (as := [.int i]) (rest := st) mw_J0_charAt_5068e hl0 (lwT_of (by decide +kernel) rfl) (lwT_of (by decide +kernel) rfl) rfl hd (by omega) cloC rfl (cats_of rfl) (Nat.le_of_ble_eq_true rfl) hr (ok_J0_char i hi (by omega)) (fun _ _ _ q => q.2.1) (fun v m _ q => ?_) rfl
  obtain ⟨rfl, -, rfl⟩ := q
  exact kk
end
section
variable {l : Launch} {S : Sh} {d : Nat} {b : Nat × Nat} {M : MD} {pc : Nat} {L : Lc} {st : List Value} {μ : Mm} {Q : Option Value → Sh → Mm → Prop}
theorem wp_ialdLeastX {i : Int32} (hin : vin i 10) (hd : decode M.2.1 pc = .ok (.iaload, 1)) (kk : Wp l S d b M (pc + 1) L (.int (leastT.getD (ix i) 0) :: st) μ Q) : Wp l S d b M pc L (.int i :: .ref 1000000 :: st) μ Q := wp_ialdLeast hin hd kk
theorem wp_ialdMostX {i : Int32} (hin : vin i 10) (hd : decode M.2.1 pc = .ok (.iaload, 1)) (kk : Wp l S d b M (pc + 1) L (.int (mostT.getD (ix i) 0) :: st) μ Q) : Wp l S d b M pc L (.int i :: .ref 1000001 :: st) μ Q := wp_ialdMost hin hd kk
end
