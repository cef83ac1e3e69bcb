/-! AN OBJECT MADE in the law's frame -/
theorem clO_nil1 (c : Nat) : clO ([] ++ [(c, 0, [])]) := fun i o h q hq => by
  cases i with
  | zero =>
    simp at h
    subst h
    cases hq
  | succ i => simp at h
theorem law_made {p : Program} {e : Env} {s : State} {m : MethodId} {below : List Frame} {meth : Method} {c : Code} {l : Launch} {b0 Lx : Nat} {xs : Nat → Int32} {M' : MD} {ck idx idx2 d pc cells slots : Nat} {b1 : Nat × Nat} {body : Nat → List Ob} {mf : Nat → Mm → Mm} {S : Sh} {Cn : String} {Tt : u_T} {ty : Nat → FieldType} {D : va_G} {ad0 : Nat → Nat} {H : Heap} {locs : List Loc} {ls : Array Slot} {Q : State → Prop}
    (hMk : Mk l M' ck d b1 [] body mf) (hS : shl (body 0) = S) (hM : MW M' 0) (him : Cond.instanceMethod M'.1 ∈ lwT) (hnm : M'.1.name = "<init>") (hret : M'.2.2.2 = none) (hlen : 1 ≤ M'.2.2.1) (hd2 : d + 1 ≤ 10)
    (hc : vwCl[ck]? = some (Cn, Tt, nfc ck)) (h12 : ck < 12) (h2 : ∀ w ∈ u_ws Cn Tt (nfc ck), w ∈ lwT) (hty : ∀ k, k < nfc ck → parseFieldDescriptor (Tt k).2.2.1 = some (ty k)) (hdf : ∀ k, k < nfc ck → defaultValue (ty k) = dfV ck k)
    (hcl : Cond.classLink R_law idx Cn ∈ lwT) (hinst : Cond.instantiable Cn (nfc ck) ∈ lwT) (hini : Cond.initialized Cn ∈ lwT) (hl2 : Cond.methodLink R_law idx2 M'.1 ∈ lwT)
    (d0 : decode code pc = .ok (.new idx, 3)) (d3 : decode code (pc + 3) = .ok (.dup, 1)) (d4 : decode code (pc + 3 + 1) = .ok (.invokespecial idx2, 3))
    (C0 : lw_At p s m meth c b0 Lx xs) (hKn : ∀ (k : Nat) (q : vw_C), vwCl[k]? = some q → u_Kn s q.1 q.2.1 q.2.2 (D.1 k) (D.2 k)) (XA : Xc ad0 (frA s) s s.heap) (hls : ls.size = 4) (hSS : va_S (frA s) s.heap H locs) (hcs : cells + 1 + b1.1 ≤ 2000) (hss : slots + nfc ck + b1.2 ≤ 50000)
    (kk : ∀ (adN : Nat → Nat) (caN : Nat → ClassId) (tysN : List (ClassId × FieldType)) (H2 : Heap) (locs2 : List Loc), Rp D adN caN tysN S (mf 0 mz0) (frA s) s H2 locs2 → Xc adN (frA s) s s.heap → (∀ j, j < sN S → H.size ≤ adN j) → (∀ q, q < H.size → H2[q]? = H[q]?) → W p l e room_1 s m #[Value.ref b0] below meth c H2 locs2 (cells + 1 + b1.1) (slots + nfc ck + b1.2) Q (F0 m (pc + 3 + 1 + 3) ls [.ref (adN 0)])) : W p l e room_1 s m #[Value.ref b0] below meth c H locs cells slots Q (F0 m pc ls []) := by
  obtain ⟨hx, hb, hr, hml, hown, hts, hX, hbl, hlocks, hgv⟩ := C0
  have hT : ∀ w ∈ lwT, w.before #[Value.ref b0] s = true := fun w hw => hts w (List.mem_filter.mp hw).1
  have hKc := hKn ck _ hc
  refine W.newcK hx hb hown (hT _ hcl) (hT _ hinst) (hT _ hini) rfl d0 (by show cells + 1 ≤ 600000; omega) (by show slots + nfc ck ≤ 7302250; omega) hKc.2.1 rfl fun H1 kC hkC e1 z1 o1 => ?_
  refine lv_dup hx hb d3 rfl ?_
  have hx1 : ext 0 ad0 (adP ad0 0 H.size) := adP_ext (by decide)
  have hfs : ∀ j, j < nfc ck → defaultValue (ty j) = vp_V ((List.range (nfc ck)).map (dfV ck)) j := fun j hj => by
    rw [hdf j hj]
    show _ = ((List.range (nfc ck)).map (dfV ck)).getD j .null
    rw [List.getD_eq_getElem?_getD, List.getElem?_map, List.getElem?_range hj]
    rfl
  have hcon : conc (adP ad0 0 H.size) (fun _ => 0) (shl ([] ++ [(ck, 0, [])])) mz0 = [(H.size, .inr (ck, (List.range (nfc ck)).map (dfV ck)))] := by
    have z := conc_push (ad := ad0) (ad2 := adP ad0 0 H.size) (ca := fun _ => 0) (ca2 := fun _ => 0) (l := []) (o := (ck, 0, [])) (μ := mz0) (fun i o h => by simp at h) hx1 (fun _ _ => rfl)
    have k1 : sK (shl ([] ++ [(ck, 0, [])])) 0 = ck := rfl
    have hce : cellE (adP ad0 0 H.size) (fun _ => 0) (shl ([] ++ [(ck, 0, [])])) mz0 0 = .inr (ck, (List.range (nfc ck)).map (dfV ck)) := by
      rw [cellE_obj k1 h12]
      refine congrArg (fun w => Sum.inr (ck, w)) (List.map_congr_left (fun k _ => ?_))
      unfold fv dfV
      rw [k1]
      rfl
    rw [z, show (([] : List Ob).length) = 0 from rfl, adP_at, hce]
    rfl
  have P : Rp D (adP ad0 0 H.size) (fun _ => 0) [] (shl ([] ++ [(ck, 0, [])])) mz0 (frA s) s H1 locs := by
    refine ⟨⟨hKn, fun k q h => by simp at h⟩, ?_, ?_, ⟨Nat.le_trans hSS.1 (by omega), fun x h1 h2 => (o1 x (Nat.lt_of_lt_of_le h1 hSS.1)).trans (hSS.2.1 x h1 h2), hSS.2.2⟩, fun q hq => hq, fun i hi h => ?_⟩
    · rw [hcon]
      intro k x hx2
      have hz : k < 1 := (List.getElem?_eq_some_iff.mp hx2).1
      rw [show k = 0 by omega] at hx2
      cases hx2
      exact ⟨_, hc, (u_born ty hT h2 hKc hkC e1 hty).to hfs⟩
    · rw [hcon]
      refine ⟨fun i j p q h h3 _ => ?_, fun k q h => ?_⟩
      · have hi : i < 1 := (List.getElem?_eq_some_iff.mp h).1
        have hj : j < 1 := (List.getElem?_eq_some_iff.mp h3).1
        omega
      · have hz : k < 1 := (List.getElem?_eq_some_iff.mp h).1
        rw [show k = 0 by omega] at h
        cases h
        exact hSS.1
    · have hi : i < 1 := hi
      rw [show i = 0 by omega, show sK (shl ([] ++ [(ck, 0, [])])) 0 = ck from rfl] at h
      omega
  have X1 := XA.ext hx1
  have k0 := hMk [] mz0 (clO_nil1 ck) (fun i k _ => ⟨rfl, rfl⟩) (by show 1 + b1.1 ≤ 100000; omega)
  obtain ⟨y, bt, mx, ret0⟩ := M'
  have hret : ret0 = none := hret
  subst hret
  have hm := met_of (args := [.ref 0]) hM (cats_of rfl) hlen k0 (adP ad0 0 H.size) (fun _ => 0) D [] H1.size P.2.2.2.2.2
  have hrun := va_runI (p := p) (l := l) (e := e) (R := room_1) (s := s) (m := m) (args := #[Value.ref b0]) (below := below) (meth := meth) (c := c) (H := H1) (locs := locs) (cells := cells + 1) (slots := slots + nfc ck) (g := F0 m (pc + 3 + 1) ls [.ref H.size, .ref H.size]) (As := []) (rest := [.ref H.size]) (nL := 4) ⟨hx, hb, hml, hown, hT⟩ hm ⟨callB_T (cells := 0) (slots := 0) (mc := 0) (ms := 0) (d0 := 11) (b0 := (0, 0)) hT hM hl2 ⟨by decide, by decide, by decide, by decide, by decide, by decide⟩ (by omega), hnm, hT _ him⟩ ⟨pn_blind, fun U hU hw => ⟨rfl, pn_pre P X1 U hU hw⟩⟩ rfl rfl hls rfl (Nat.le_of_ble_eq_true rfl) d4 ⟨by show cells + 1 + b1.1 ≤ 600000; omega, by show slots + nfc ck + b1.2 ≤ 7302250; omega⟩
  intro T hTT X'
  obtain ⟨v, st₀, t, T', Lc', h0, Y, hL, e2, e3, ⟨⟨v', S', μ', ad', ca', tys', ho, hiv, hQ, hle, hext, hca, hK1, hP1, hD1, hT1⟩, hz, hk⟩, st⟩ := hrun T hTT X'
  cases ho
  rw [h0] at hz hk
  obtain ⟨rfl, hS', rfl, -, -⟩ := hQ
  have hS' : S' = S := hS'.trans hS
  subst hS'
  have hAA : ∀ q, va_A (conc (adP ad0 0 H.size) (fun _ => 0) (shl ([] ++ [(ck, 0, [])])) mz0) H1.size q → frA s q := by
    rintro q (⟨k, e, hk⟩ | hq)
    · exact P.2.2.1.2 k _ hk
    · exact P.2.2.2.2.1 q (Nat.le_trans P.2.2.2.1.1 hq)
  have inA : ∀ q, va_A (conc (adP ad0 0 H.size) (fun _ => 0) (shl ([] ++ [(ck, 0, [])])) mz0) H1.size q → H.size ≤ q := by
    rintro q (⟨k, e, hk⟩ | hq)
    · rw [hcon] at hk
      have hz : k < 1 := (List.getElem?_eq_some_iff.mp hk).1
      rw [show k = 0 by omega] at hk
      cases hk
      exact Nat.le_refl _
    · omega
  have hvm : s.vm.Alike t.vm := by rw [← e3]; exact Y.warmed.alike
  have hH1 : va_S (frA s) s.heap T'.heap (locs ++ Lc') := ⟨Nat.le_trans P.2.2.2.1.1 (by rw [e2]; exact hz), fun q h1 h2 => by
      rw [e2, hk q (Nat.lt_of_lt_of_le h1 P.2.2.2.1.1) (fun z => h2 (hAA q z))]
      exact P.2.2.2.1.2.1 q h1 h2, fun q hq => by
      rcases List.mem_append.mp hq with h | h
      · exact P.2.2.2.1.2.2 q h
      · exact hAA _ (hL q h)⟩
  have P2 : Rp D ad' ca' tys' S' (mf 0 mz0) (frA s) s T'.heap (locs ++ Lc') := ⟨va_K.moved hvm.symm hK1, by rw [e2]; exact hP1, ⟨hD1.1, fun k q hq => hAA _ (hD1.2 k q hq)⟩, hH1, P.2.2.2.2.1, hT1⟩
  have ea : ad' 0 = H.size := (hext 0 (Or.inl (by show 0 < 1; decide))).trans adP_at
  obtain ⟨t2, a1, b2⟩ := kk ad' ca' tys' T'.heap (locs ++ Lc') P2 (X1.ext hext) (fun j hj => inA _ (hD1.2 j _ (conc_get hj))) (fun q hq => by
    rw [e2, hk q (by omega) (fun z => by have := inA q z; omega)]
    exact o1 q hq) T' rfl Y
  rw [ea] at a1
  exact ⟨t2, st t2 a1, b2⟩
