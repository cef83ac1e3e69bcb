/-! THE LAW'S OWN FRAME: the class's objects and the check's, and the script -/
def frA (s : State) : Nat → Prop := fun q => s.heap.size ≤ q
def adL (adC adM : Nat → Nat) (b0 : Nat) : Nat → Nat := fun i => if i = 0 then adC 0 else if i = 1 then adM 0 else b0
def LLp (D : va_G) (adC adM : Nat → Nat) (caC caM : Nat → ClassId) (tys : List (ClassId × FieldType)) (s : State) (μ ν : Mm) (H : Heap) (locs : List Loc) : Prop := Rp D adC caC tys SC μ (frA s) s H locs ∧ Rp D adM caM tys SM ν (frA s) s H locs ∧ (∀ i j, i < 1535 → j < 25 → adC i ≠ adM j) ∧ Xc adC (frA s) s s.heap ∧ Xc adM (frA s) s s.heap
def WL (l : Launch) (p : Program) (e : Env) (s : State) (m : MethodId) (below : List Frame) (meth : Method) (c : Code) (b0 Lx : Nat) (xs : Nat → Int32) (pc : Nat) (L : Lc) (st : List Value) (μ ν : Mm) : Prop := ∀ (D : va_G) (adC adM : Nat → Nat) (caC caM : Nat → ClassId) (tys : List (ClassId × FieldType)) (H : Heap) (locs : List Loc) (cells slots : Nat) (ls : Array Slot), lw_At p s m meth c b0 Lx xs → LLp D adC adM caC caM tys s μ ν H locs → lrel (adL adC adM b0) L ls 4 → cells ≤ 2000 → slots ≤ 50000 → W p l e room_1 s m #[Value.ref b0] below meth c H locs cells slots (lw_Z below #[Value.ref b0] s) (F0 m pc ls (st.map (rl (adL adC adM b0))))
theorem conc_inv {ad : Nat → Nat} {ca : Nat → ClassId} {S : Sh} {μ : Mm} {k : Nat} {q : Nat × va_E} (h : (conc ad ca S μ)[k]? = some q) : k < sN S ∧ q.1 = ad k := by
  have hk : k < sN S := by
    have := (List.getElem?_eq_some_iff.mp h).1
    unfold conc at this
    rw [List.length_map, List.length_range] at this
    exact this
  rw [conc_get hk] at h
  cases h
  exact ⟨hk, rfl⟩
section
variable {p : Program} {e : Env} {s : State} {m : MethodId} {below : List Frame} {meth : Method} {c : Code} {l : Launch} {b0 Lx : Nat} {xs : Nat → Int32} {pc : Nat} {L L2 : Lc} {st : List Value} {μ ν : Mm}
theorem wl_iadd {x y : Int32} (hd : decode code pc = .ok (.iadd, 1)) (k : WL l p e s m below meth c b0 Lx xs (pc + 1) L (.int (x + y) :: st) μ ν) : WL l p e s m below meth c b0 Lx xs pc L (.int y :: .int x :: st) μ ν := by
  intro D adC adM caC caM tys H locs cells slots ls C P hl h1 h2
  exact lv_iadd C.1 C.2.1 hd (k D adC adM caC caM tys H locs cells slots ls C P hl h1 h2)
theorem wl_isub {x y : Int32} (hd : decode code pc = .ok (.isub, 1)) (k : WL l p e s m below meth c b0 Lx xs (pc + 1) L (.int (x - y) :: st) μ ν) : WL l p e s m below meth c b0 Lx xs pc L (.int y :: .int x :: st) μ ν := by
  intro D adC adM caC caM tys H locs cells slots ls C P hl h1 h2
  exact lv_isub C.1 C.2.1 hd (k D adC adM caC caM tys H locs cells slots ls C P hl h1 h2)
theorem wl_iand {x y : Int32} (hd : decode code pc = .ok (.iand, 1)) (k : WL l p e s m below meth c b0 Lx xs (pc + 1) L (.int (x &&& y) :: st) μ ν) : WL l p e s m below meth c b0 Lx xs pc L (.int y :: .int x :: st) μ ν := by
  intro D adC adM caC caM tys H locs cells slots ls C P hl h1 h2
  exact lv_iand C.1 C.2.1 hd (k D adC adM caC caM tys H locs cells slots ls C P hl h1 h2)
theorem wl_iconst {n : Int} (v : Int32) (hd : decode code pc = .ok (.iconst n, 1)) (hv : Int32.ofInt n = v) (k : WL l p e s m below meth c b0 Lx xs (pc + 1) L (.int v :: st) μ ν) : WL l p e s m below meth c b0 Lx xs pc L st μ ν := by
  intro D adC adM caC caM tys H locs cells slots ls C P hl h1 h2
  exact lv_iconst C.1 C.2.1 hd hv (k D adC adM caC caM tys H locs cells slots ls C P hl h1 h2)
theorem wl_bipush {n : Int} (v : Int32) (hd : decode code pc = .ok (.bipush n, 2)) (hv : (Int8.ofInt n).toInt32 = v) (k : WL l p e s m below meth c b0 Lx xs (pc + 2) L (.int v :: st) μ ν) : WL l p e s m below meth c b0 Lx xs pc L st μ ν := by
  intro D adC adM caC caM tys H locs cells slots ls C P hl h1 h2
  exact lv_bipush C.1 C.2.1 hd hv (k D adC adM caC caM tys H locs cells slots ls C P hl h1 h2)
theorem wl_iload {n : Fin 4} {x : Int32} (hd : decode code pc = .ok (.iload_n n, 1)) (hv : L[(n : Nat)]? = some (some (.int x))) (k : WL l p e s m below meth c b0 Lx xs (pc + 1) L (.int x :: st) μ ν) : WL l p e s m below meth c b0 Lx xs pc L st μ ν := by
  intro D adC adM caC caM tys H locs cells slots ls C P hl h1 h2
  exact lv_iload_n C.1 C.2.1 hd rfl (hl.at hv) (k D adC adM caC caM tys H locs cells slots ls C P hl h1 h2)
theorem wl_aload {n : Fin 4} {x : Nat} (hd : decode code pc = .ok (.aload_n n, 1)) (hv : L[(n : Nat)]? = some (some (.ref x))) (k : WL l p e s m below meth c b0 Lx xs (pc + 1) L (.ref x :: st) μ ν) : WL l p e s m below meth c b0 Lx xs pc L st μ ν := by
  intro D adC adM caC caM tys H locs cells slots ls C P hl h1 h2
  exact lv_aload_n C.1 C.2.1 hd rfl (hl.at hv) (k D adC adM caC caM tys H locs cells slots ls C P hl h1 h2)
theorem wl_goto {o : Int} (tgt : Nat) (hd : decode code pc = .ok (.goto o, 3)) (ht : (pc : Int) + o = (tgt : Int)) (k : WL l p e s m below meth c b0 Lx xs tgt L st μ ν) : WL l p e s m below meth c b0 Lx xs pc L st μ ν := by
  intro D adC adM caC caM tys H locs cells slots ls C P hl h1 h2
  exact lv_goto C.1 C.2.1 hd ht (k D adC adM caC caM tys H locs cells slots ls C P hl h1 h2)
theorem wl_table {x : Int32} {dflt lo hi : Int} {offs : Array Int} {len : Nat} {off : Int} {tgt : Nat} (hd : decode code pc = .ok (.tableswitch dflt lo hi offs, len)) (g1 : ¬ x.toInt < lo) (g2 : ¬ hi < x.toInt) (ho : offs[(x.toInt - lo).toNat]? = some off) (ht : (pc : Int) + off = (tgt : Int)) (k : WL l p e s m below meth c b0 Lx xs tgt L st μ ν) : WL l p e s m below meth c b0 Lx xs pc L (.int x :: st) μ ν := by
  intro D adC adM caC caM tys H locs cells slots ls C P hl h1 h2
  exact lv_tableIn C.1 C.2.1 hd g1 g2 ho ht (k D adC adM caC caM tys H locs cells slots ls C P hl h1 h2)
theorem wl_gt {x y : Int32} {o : Int} (tgt : Nat) (hd : decode code pc = .ok (.if_icmp .gt o, 3)) (ht : (pc : Int) + o = (tgt : Int)) (k1 : y < x → WL l p e s m below meth c b0 Lx xs tgt L st μ ν) (k2 : ¬ y < x → WL l p e s m below meth c b0 Lx xs (pc + 3) L st μ ν) : WL l p e s m below meth c b0 Lx xs pc L (.int y :: .int x :: st) μ ν := by
  intro D adC adM caC caM tys H locs cells slots ls C P hl h1 h2
  exact lv_icmp_gt C.1 C.2.1 hd ht (fun h => k1 h D adC adM caC caM tys H locs cells slots ls C P hl h1 h2) (fun h => k2 h D adC adM caC caM tys H locs cells slots ls C P hl h1 h2)
theorem wl_eq {x y : Int32} {o : Int} (tgt : Nat) (hd : decode code pc = .ok (.if_icmp .eq o, 3)) (ht : (pc : Int) + o = (tgt : Int)) (k1 : x = y → WL l p e s m below meth c b0 Lx xs tgt L st μ ν) (k2 : ¬ x = y → WL l p e s m below meth c b0 Lx xs (pc + 3) L st μ ν) : WL l p e s m below meth c b0 Lx xs pc L (.int y :: .int x :: st) μ ν := by
  intro D adC adM caC caM tys H locs cells slots ls C P hl h1 h2
  exact lv_icmp_eq C.1 C.2.1 hd ht (fun h => k1 h D adC adM caC caM tys H locs cells slots ls C P hl h1 h2) (fun h => k2 h D adC adM caC caM tys H locs cells slots ls C P hl h1 h2)
theorem wl_ifeq {x : Int32} {o : Int} (tgt : Nat) (hd : decode code pc = .ok (.ifCond .eq o, 3)) (ht : (pc : Int) + o = (tgt : Int)) (k1 : x = 0 → WL l p e s m below meth c b0 Lx xs tgt L st μ ν) (k2 : ¬ x = 0 → WL l p e s m below meth c b0 Lx xs (pc + 3) L st μ ν) : WL l p e s m below meth c b0 Lx xs pc L (.int x :: st) μ ν := by
  intro D adC adM caC caM tys H locs cells slots ls C P hl h1 h2
  exact lv_if_eq C.1 C.2.1 hd ht (fun h => k1 h D adC adM caC caM tys H locs cells slots ls C P hl h1 h2) (fun h => k2 h D adC adM caC caM tys H locs cells slots ls C P hl h1 h2)
theorem wl_istore {n : Fin 4} {x : Int32} (hd : decode code pc = .ok (.istore_n n, 1)) (hL : sl L n (.int x) = L2) (k : WL l p e s m below meth c b0 Lx xs (pc + 1) L2 st μ ν) : WL l p e s m below meth c b0 Lx xs pc L (.int x :: st) μ ν := by
  subst hL
  intro D adC adM caC caM tys H locs cells slots ls C P hl h1 h2
  exact lv_istore_n C.1 C.2.1 hd rfl hl.has n.2 rfl (fun ls1 g1 => k D adC adM caC caM tys H locs cells slots ls1 C P (lrel_store (v := .int x) hl rfl g1) h1 h2)
theorem wl_iinc {n : Nat} {i : Int} {x : Int32} (hd : decode code pc = .ok (.iinc n i, 3)) (hv : L[n]? = some (some (.int x))) (hn : n < 4) (hL : sl L n (.int (x + Int32.ofInt i)) = L2) (k : WL l p e s m below meth c b0 Lx xs (pc + 3) L2 st μ ν) : WL l p e s m below meth c b0 Lx xs pc L st μ ν := by
  subst hL
  intro D adC adM caC caM tys H locs cells slots ls C P hl h1 h2
  obtain ⟨kk, hkk⟩ := List.getElem?_of_mem (llist_mem (ad := adL adC adM b0) hv)
  exact lv_iinc C.1 C.2.1 hd hl.has hkk rfl hn rfl (fun ls1 g1 => k D adC adM caC caM tys H locs cells slots ls1 C P (lrel_store (v := .int (x + Int32.ofInt i)) hl rfl g1) h1 h2)
theorem wl_alen (hd : decode code pc = .ok (.arraylength, 1)) (k : WL l p e s m below meth c b0 Lx xs (pc + 1) L (.int (nI Lx) :: st) μ ν) : WL l p e s m below meth c b0 Lx xs pc L (.ref 2 :: st) μ ν := by
  intro D adC adM caC caM tys H locs cells slots ls C P hl h1 h2
  exact va_slen C.1 C.2.1 C.2.2.2.2.2.2.1 C.2.2.2.2.2.2.2.1 (Nat.not_le.mpr C.2.2.2.2.2.2.2.1) P.1.2.2.2.1 hd (k D adC adM caC caM tys H locs cells slots ls C P hl h1 h2)
theorem wl_iald {i : Int32} (hin : vp_in i Lx) (hd : decode code pc = .ok (.iaload, 1)) (k : WL l p e s m below meth c b0 Lx xs (pc + 1) L (.int (xs (ix i)) :: st) μ ν) : WL l p e s m below meth c b0 Lx xs pc L (.int i :: .ref 2 :: st) μ ν := by
  intro D adC adM caC caM tys H locs cells slots ls C P hl h1 h2
  exact va_sld C.1 C.2.1 C.2.2.2.2.2.2.1 C.2.2.2.2.2.2.2.1 (Nat.not_le.mpr C.2.2.2.2.2.2.2.1) P.1.2.2.2.1 hin hd (k D adC adM caC caM tys H locs cells slots ls C P hl h1 h2)
theorem wl_ret (hd : decode code pc = .ok (.ireturn, 1)) : WL l p e s m below meth c b0 Lx xs pc L [.int 1] μ ν := by
  intro D adC adM caC caM tys H locs cells slots ls C P hl h1 h2
  refine va_forget (fun q hq => P.1.2.2.2.1.2.2 q hq) ?_
  refine W.widen (k := 600000) (n := 7302250) (by omega) (by omega) ?_
  exact lw_ret C.1 C.2.1 C.2.2.1 C.2.2.2.2.2.2.2.2.1 hd
theorem wl_callC {M' : MD} {n idx : Nat} {as rest : List Value} {μ2 : Mm} {r : Int32} (hM : MW M' n) (hl : Cond.methodLink R_law idx M'.1 ∈ lwT) (hin : Cond.instanceMethod M'.1 ∈ lwT ∧ Cond.selects M'.1.cls M'.1 M'.1 ∈ lwT) (hq : M'.1.cls = RX10) (hd : decode code pc = .ok (.invokevirtual idx, 3)) (hn : as.length = n) (hI : ∀ v ∈ as, ∃ x : Int32, v = .int x) (hlen : as.length + 1 ≤ M'.2.2.1) (hrest : (rest.map fun v => v.category).sum ≤ 8) (hW : Wp l SC 60 (0, 0) M' 0 (ent M'.2.2.1 (.ref 0 :: as)) [] μ (Qi SC r μ2)) (k : WL l p e s m below meth c b0 Lx xs (pc + 3) L (.int r :: rest) μ2 ν) (hst : st = as.reverse ++ .ref 0 :: rest) : WL l p e s m below meth c b0 Lx xs pc L st μ ν := by
  subst hst
  intro D adC adM caC caM tys H locs cells slots ls C P hl0 h1 h2
  have C' := C
  obtain ⟨hx, hb, hr, hml, hown, hts, hX, hbl, hlocks, hgv⟩ := C'
  obtain ⟨PC, PM, hdis, XC, XM⟩ := P
  have hT : ∀ w ∈ lwT, w.before #[Value.ref b0] s = true := fun w hw => hts w (List.mem_filter.mp hw).1
  have hrecv := va_recv PC.1 PC.2.1 (show vwCl[10]? = some (RX10, TX10, 13) from rfl) (getf_at (i := 0) (S := SC) (by decide) kRoot (by decide))
  rw [show ((RX10, TX10, 13) : vw_C).1 = M'.1.cls from hq.symm] at hrecv
  have has : ∀ ad : Nat → Nat, as.map (rl ad) = as := fun ad => by
    rw [List.map_congr_left (g := id) (fun v hv => by obtain ⟨x, rfl⟩ := hI v hv; rfl), List.map_id]
  have hcat : ∀ v ∈ (.ref 0 :: as : List Value), v.category = 1 := fun v hv => by
    rcases List.mem_cons.mp hv with rfl | h
    · rfl
    · obtain ⟨x, rfl⟩ := hI v h
      rfl
  have hm := met_of hM hcat hlen hW adC caC D tys H.size PC.2.2.2.2.2
  rw [show (.ref 0 :: as : List Value).map (rl adC) = .ref (adC 0) :: as from by rw [List.map_cons, has]; rfl] at hm
  have hst : (as.reverse ++ .ref 0 :: rest).map (rl (adL adC adM b0)) = as.reverse ++ .ref (adC 0) :: rest.map (rl (adL adC adM b0)) := by
    rw [List.map_append, List.map_reverse, has, List.map_cons]
    rfl
  rw [hst]
  have hrun := va_runV (p := p) (l := l) (e := e) (R := room_1) (s := s) (m := m) (args := #[Value.ref b0]) (below := below) (meth := meth) (c := c) (H := H) (locs := locs) (cells := cells) (slots := slots) (g := F0 m pc ls (as.reverse ++ .ref (adC 0) :: rest.map (rl (adL adC adM b0)))) (As := as) (rest := rest.map (rl (adL adC adM b0))) (nL := 4) (C := M'.1.cls) ⟨hx, hb, hml, hown, hT⟩ hm ⟨callB_T (cells := 0) (slots := 0) (mc := 0) (ms := 0) (d0 := 61) (b0 := (0, 0)) hT hM hl ⟨by decide, by decide, by decide, by decide, by decide, by decide⟩ (by decide), hT _ hin.1, hT _ hin.2⟩ ⟨pn_blind, hrecv, fun U hU hw => ⟨rfl, pn_pre PC XC U hU hw⟩⟩ rfl hn hl0.2.1 rfl (cats_room hrest) hd ⟨by show cells + 0 ≤ 600000; omega, by show slots + 0 ≤ 7302250; omega⟩
  intro T hTT X'
  obtain ⟨v, st₀, t, T', Lc', h0, Y, hL, e1, e2, ⟨⟨v', S', μ', ad', ca', tys', ho, hiv, hQ, hle, hext, hca, hK1, hP1, hD1, hT1⟩, hz, hk⟩, st⟩ := hrun T hTT X'
  cases ho
  rw [h0] at hz hk
  obtain ⟨rfl, rfl, rfl⟩ := hQ
  rw [conc_ext (μ := μ') cloC hext hca] at hP1 hD1
  have hAA : ∀ q, va_A (conc adC caC SC μ) H.size q → frA s q := by
    rintro q (⟨k, e, hk⟩ | hq)
    · exact PC.2.2.1.2 k _ hk
    · exact PC.2.2.2.2.1 q (Nat.le_trans PC.2.2.2.1.1 hq)
  have hH1 : va_S (frA s) s.heap T'.heap (locs ++ Lc') := ⟨Nat.le_trans PC.2.2.2.1.1 (by rw [e1]; exact hz), fun q h1 h2 => by
      rw [e1, hk q (Nat.lt_of_lt_of_le h1 PC.2.2.2.1.1) (fun z => h2 (hAA q z))]
      exact PC.2.2.2.1.2.1 q h1 h2, fun q hq => by
      rcases List.mem_append.mp hq with h | h
      · exact PC.2.2.2.1.2.2 q h
      · exact hAA _ (hL q h)⟩
  have P1 : Rp D adC caC tys SC μ' (frA s) s T'.heap (locs ++ Lc') := ⟨PC.1, by rw [e1]; exact hP1, ⟨hD1.1, fun k q hq => hAA _ (hD1.2 k q hq)⟩, hH1, PC.2.2.2.2.1, PC.2.2.2.2.2⟩
  have P2 : Rp D adM caM tys SM ν (frA s) s T'.heap (locs ++ Lc') := ⟨PM.1, PM.2.1.kept (fun k q hq => by
    obtain ⟨z1, z2⟩ := conc_inv hq
    rw [e1]
    refine hk q.1 ((PM.2.1 k q hq).lt) (fun y => ?_)
    rcases y with ⟨k2, e, hk2⟩ | y
    · obtain ⟨y1, y2⟩ := conc_inv hk2
      exact hdis k2 k y1 z1 (y2.symm.trans z2)
    · exact absurd ((PM.2.1 k q hq).lt) (Nat.not_lt.mpr y)), PM.2.2.1, hH1, PM.2.2.2.2.1, PM.2.2.2.2.2⟩
  obtain ⟨t2, a1, b1⟩ := k D adC adM caC caM tys T'.heap (locs ++ Lc') (cells + 0) (slots + 0) ls C ⟨P1, P2, hdis, XC, XM⟩ hl0 h1 h2 T' rfl Y
  exact ⟨t2, st t2 a1, b1⟩
theorem wl_callM {M' : MD} {n idx : Nat} {as rest : List Value} {μ2 : Mm} {r : Int32} (hM : MW M' n) (hl : Cond.methodLink R_law idx M'.1 ∈ lwT) (hin : Cond.instanceMethod M'.1 ∈ lwT ∧ Cond.selects M'.1.cls M'.1 M'.1 ∈ lwT) (hq : M'.1.cls = RX11) (hd : decode code pc = .ok (.invokevirtual idx, 3)) (hn : as.length = n) (hI : ∀ v ∈ as, ∃ x : Int32, v = .int x) (hlen : as.length + 1 ≤ M'.2.2.1) (hrest : (rest.map fun v => v.category).sum ≤ 8) (hW : Wp l SM 60 (0, 0) M' 0 (ent M'.2.2.1 (.ref 0 :: as)) [] ν (Qi SM r μ2)) (k : WL l p e s m below meth c b0 Lx xs (pc + 3) L (.int r :: rest) μ μ2) (hst : st = as.reverse ++ .ref 1 :: rest) : WL l p e s m below meth c b0 Lx xs pc L st μ ν := by
  subst hst
  intro D adC adM caC caM tys H locs cells slots ls C P hl0 h1 h2
  have C' := C
  obtain ⟨hx, hb, hr, hml, hown, hts, hX, hbl, hlocks, hgv⟩ := C'
  obtain ⟨PC, PM, hdis, XC, XM⟩ := P
  have hT : ∀ w ∈ lwT, w.before #[Value.ref b0] s = true := fun w hw => hts w (List.mem_filter.mp hw).1
  have hrecv := va_recv PM.1 PM.2.1 (show vwCl[11]? = some (RX11, TX11, 51) from rfl) (getf_at (i := 0) (S := SM) (by decide) kRootM (by decide))
  rw [show ((RX11, TX11, 51) : vw_C).1 = M'.1.cls from hq.symm] at hrecv
  have has : ∀ ad : Nat → Nat, as.map (rl ad) = as := fun ad => by
    rw [List.map_congr_left (g := id) (fun v hv => by obtain ⟨x, rfl⟩ := hI v hv; rfl), List.map_id]
  have hcat : ∀ v ∈ (.ref 0 :: as : List Value), v.category = 1 := fun v hv => by
    rcases List.mem_cons.mp hv with rfl | h
    · rfl
    · obtain ⟨x, rfl⟩ := hI v h
      rfl
  have hm := met_of hM hcat hlen hW adM caM D tys H.size PM.2.2.2.2.2
  rw [show (.ref 0 :: as : List Value).map (rl adM) = .ref (adM 0) :: as from by rw [List.map_cons, has]; rfl] at hm
  have hst : (as.reverse ++ .ref 1 :: rest).map (rl (adL adC adM b0)) = as.reverse ++ .ref (adM 0) :: rest.map (rl (adL adC adM b0)) := by
    rw [List.map_append, List.map_reverse, has, List.map_cons]
    rfl
  rw [hst]
  have hrun := va_runV (p := p) (l := l) (e := e) (R := room_1) (s := s) (m := m) (args := #[Value.ref b0]) (below := below) (meth := meth) (c := c) (H := H) (locs := locs) (cells := cells) (slots := slots) (g := F0 m pc ls (as.reverse ++ .ref (adM 0) :: rest.map (rl (adL adC adM b0)))) (As := as) (rest := rest.map (rl (adL adC adM b0))) (nL := 4) (C := M'.1.cls) ⟨hx, hb, hml, hown, hT⟩ hm ⟨callB_T (cells := 0) (slots := 0) (mc := 0) (ms := 0) (d0 := 61) (b0 := (0, 0)) hT hM hl ⟨by decide, by decide, by decide, by decide, by decide, by decide⟩ (by decide), hT _ hin.1, hT _ hin.2⟩ ⟨pn_blind, hrecv, fun U hU hw => ⟨rfl, pn_pre PM XM U hU hw⟩⟩ rfl hn hl0.2.1 rfl (cats_room hrest) hd ⟨by show cells + 0 ≤ 600000; omega, by show slots + 0 ≤ 7302250; omega⟩
  intro T hTT X'
  obtain ⟨v, st₀, t, T', Lc', h0, Y, hL, e1, e2, ⟨⟨v', S', μ', ad', ca', tys', ho, hiv, hQ, hle, hext, hca, hK1, hP1, hD1, hT1⟩, hz, hk⟩, st⟩ := hrun T hTT X'
  cases ho
  rw [h0] at hz hk
  obtain ⟨rfl, rfl, rfl⟩ := hQ
  rw [conc_ext (μ := μ') cloM hext hca] at hP1 hD1
  have hAA : ∀ q, va_A (conc adM caM SM ν) H.size q → frA s q := by
    rintro q (⟨k, e, hk⟩ | hq)
    · exact PM.2.2.1.2 k _ hk
    · exact PM.2.2.2.2.1 q (Nat.le_trans PM.2.2.2.1.1 hq)
  have hH1 : va_S (frA s) s.heap T'.heap (locs ++ Lc') := ⟨Nat.le_trans PM.2.2.2.1.1 (by rw [e1]; exact hz), fun q h1 h2 => by
      rw [e1, hk q (Nat.lt_of_lt_of_le h1 PM.2.2.2.1.1) (fun z => h2 (hAA q z))]
      exact PM.2.2.2.1.2.1 q h1 h2, fun q hq => by
      rcases List.mem_append.mp hq with h | h
      · exact PM.2.2.2.1.2.2 q h
      · exact hAA _ (hL q h)⟩
  have P1 : Rp D adM caM tys SM μ' (frA s) s T'.heap (locs ++ Lc') := ⟨PM.1, by rw [e1]; exact hP1, ⟨hD1.1, fun k q hq => hAA _ (hD1.2 k q hq)⟩, hH1, PM.2.2.2.2.1, PM.2.2.2.2.2⟩
  have P2 : Rp D adC caC tys SC μ (frA s) s T'.heap (locs ++ Lc') := ⟨PC.1, PC.2.1.kept (fun k q hq => by
    obtain ⟨z1, z2⟩ := conc_inv hq
    rw [e1]
    refine hk q.1 ((PC.2.1 k q hq).lt) (fun y => ?_)
    rcases y with ⟨k2, e, hk2⟩ | y
    · obtain ⟨y1, y2⟩ := conc_inv hk2
      exact hdis k k2 z1 y1 (z2.symm.trans y2)
    · exact absurd ((PC.2.1 k q hq).lt) (Nat.not_lt.mpr y)), PC.2.2.1, hH1, PC.2.2.2.2.1, PC.2.2.2.2.2⟩
  obtain ⟨t2, a1, b1⟩ := k D adC adM caC caM tys T'.heap (locs ++ Lc') (cells + 0) (slots + 0) ls C ⟨P2, P1, hdis, XC, XM⟩ hl0 h1 h2 T' rfl Y
  exact ⟨t2, st t2 a1, b1⟩
end
