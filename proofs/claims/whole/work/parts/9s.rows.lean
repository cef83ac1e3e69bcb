/-! ROWS for shapes that grow -/
section
variable {l : Launch} {l0 : List Ob} {d : Nat} {b : Nat × Nat} {M : MD} {pc : Nat} {L : Lc} {st : List Value} {μ : Mm} {Q : Option Value → Sh → Mm → Prop}
theorem Tk.push {ca : Nat → ClassId} {tys t2 : List (ClassId × FieldType)} {c N : Nat} {cA : ClassId} (h : Tk ca tys (shl l0)) (hn : 12 ≤ c → t2 = [(cA, ety c)]) : Tk (caP ca l0.length cA) (tys ++ t2) (shl (l0 ++ [(c, N, [])])) := by
  intro i hi h12
  have hi : i < (l0 ++ [(c, N, ([] : List (Nat × Nat)))]).length := hi
  rw [List.length_append] at hi
  have hi : i < l0.length + 1 := hi
  by_cases e : i < l0.length
  · have k1 : sK (shl (l0 ++ [(c, N, [])])) i = sK (shl l0) i := (obK_push e).1
    rw [k1] at h12 ⊢
    obtain ⟨t0, ht⟩ := h i e h12
    refine ⟨t0, ?_⟩
    rw [caP_lt e, List.getElem?_append_left (List.getElem?_eq_some_iff.mp ht).1]
    exact ht
  · have e : i = l0.length := by omega
    subst e
    have k1 : sK (shl (l0 ++ [(c, N, [])])) l0.length = c := ob_last.1
    rw [k1] at h12 ⊢
    refine ⟨tys.length, ?_⟩
    rw [hn h12, List.getElem?_append_right (Nat.le_refl _), Nat.sub_self]
    show some (cA, ety c) = some (caP ca l0.length cA l0.length, ety c)
    unfold caP
    rw [if_pos rfl]
def dfV (c k : Nat) : Value := if ftc c k = 0 then .int 0 else if ftc c k = 1 then .long 0 else .null
theorem wp_newL {c idx : Nat} {C : String} {T : u_T} (ty : Nat → FieldType) (hc : vwCl[c]? = some (C, T, nfc c)) (h12 : c < 12) (h2 : ∀ w ∈ u_ws C T (nfc c), w ∈ lwT) (hty : ∀ k, k < nfc c → parseFieldDescriptor (T k).2.2.1 = some (ty k)) (hdf : ∀ k, k < nfc c → defaultValue (ty k) = dfV c k)
    (hcl : Cond.classLink M.1.cls idx C ∈ lwT) (hinst : Cond.instantiable C (nfc c) ∈ lwT) (hini : Cond.initialized C ∈ lwT) (hrS : rfS l0.length st) (hrL : rfL l0.length L) (hcl0 : clO l0) (hz : zM l0.length μ) (hb : l0.length + (b.1 + 1) ≤ 100000) (hd : decode M.2.1 pc = .ok (.new idx, 3))
    (kk : Wg l (l0 ++ [(c, 0, [])]) d b M (pc + 3) L (.ref l0.length :: st) μ Q) : Wp l (shl l0) d (b.1 + 1, b.2 + nfc c) M pc L st μ Q := by
  intro p e R s m args below meth c0 H locs cells slots ls D ad ca tys A QQ mc ms C0 B P X hl K
  obtain ⟨B1, B2, B3, B4, B5, B6⟩ := B
  have B3 : cells + (b.1 + 1) ≤ mc := B3
  have B4 : slots + (b.2 + nfc c) ≤ ms := B4
  refine va_new C0.1 C0.2.1 C0.2.2.2.2.1 h2 ty hty C0.2.2.2.1 (C0.2.2.2.2.1 _ hcl) (C0.2.2.2.2.1 _ hinst) (C0.2.2.2.2.1 _ hini) P.1 P.2.1 P.2.2.1 P.2.2.2.1 P.2.2.2.2.1 hc (fs := (List.range (nfc c)).map (dfV c)) (fun j hj => ?_) (by omega) (by omega) hd (fun q H1 hP hD hS => ?_)
  · rw [hdf j hj]
    show _ = ((List.range (nfc c)).map (dfV c)).getD j .null
    rw [List.getD_eq_getElem?_getD, List.getElem?_map, List.getElem?_range hj]
    rfl
  have hx : ext l0.length ad (adP ad l0.length q) := adP_ext (by omega)
  have hlen : (l0 ++ [(c, 0, ([] : List (Nat × Nat)))]).length = l0.length + 1 := by rw [List.length_append]; rfl
  have hcon : conc (adP ad l0.length q) (caP ca l0.length 0) (shl (l0 ++ [(c, 0, [])])) μ = conc ad ca (shl l0) μ ++ [(q, .inr (c, (List.range (nfc c)).map (dfV c)))] := by
    rw [conc_push hcl0 hx (fun i hi => caP_lt hi), adP_at]
    congr 2
    have k1 : sK (shl (l0 ++ [(c, 0, [])])) l0.length = c := ob_last.1
    rw [cellE_obj k1 h12]
    congr 3
    refine List.map_congr_left (fun k _ => ?_)
    unfold fv dfV
    rw [k1, (hz l0.length k (Nat.le_refl _)).1, (hz l0.length k (Nat.le_refl _)).2, show sR (shl (l0 ++ [(c, 0, [])])) l0.length k = none from ob_last.2.2 k]
    rfl
  rw [← hcon] at hP hD
  have hT := P.2.2.2.2.2.push (t2 := []) (N := 0) (c := c) (cA := 0) (fun z => by omega)
  rw [List.append_nil] at hT
  rw [show Value.ref q :: st.map (rl ad) = (Value.ref l0.length :: st).map (rl (adP ad l0.length q)) from by
    rw [List.map_cons, rlS_ext hx hrS]
    show _ = Value.ref (adP ad l0.length q l0.length) :: _
    rw [adP_at]]
  refine kk (hcl0.push c 0) (by rw [hlen]; exact hz.mono (Nat.le_succ _)) (by rw [hlen]; omega) p e R s m args below meth c0 H1 locs (cells + 1) (slots + nfc c) ls D (adP ad l0.length q) (caP ca l0.length 0) tys A QQ mc ms C0 ⟨B1, B2, by omega, by omega, B5, B6⟩ ⟨P.1, hP, hD, hS, P.2.2.2.2.1, hT⟩ (X.ext hx) (hl.ext hx hrL) ?_
  show Rok Q (l0 ++ [(c, 0, ([] : List (Nat × Nat)))]).length _ _ _ _ _ _ _
  rw [hlen]
  exact K.grow (Nat.le_succ _) hx (fun i hi => caP_lt hi)
theorem wp_newaL {n : Int32} {N : Nat} (hn : n = nI N) (hN : N < 100000) (harr : Cond.arrayClass .int ∈ lwT) (hrS : rfS l0.length st) (hrL : rfL l0.length L) (hcl0 : clO l0) (hz : zM l0.length μ) (hb : l0.length + (b.1 + 1) ≤ 100000) (hd : decode M.2.1 pc = .ok (.newarray .int, 2))
    (kk : Wg l (l0 ++ [(12, N, [])]) d b M (pc + 2) L (.ref l0.length :: st) μ Q) : Wp l (shl l0) d (b.1 + 1, b.2 + N) M pc L (.int n :: st) μ Q := by
  subst hn
  intro p e R s m args below meth c0 H locs cells slots ls D ad ca tys A QQ mc ms C0 B P X hl K
  obtain ⟨B1, B2, B3, B4, B5, B6⟩ := B
  have B3 : cells + (b.1 + 1) ≤ mc := B3
  have B4 : slots + (b.2 + N) ≤ ms := B4
  refine va_newa C0.1 C0.2.1 (atype := .int) (C0.2.2.2.2.1 _ harr) (ty := .int) rfl P.1 P.2.1 P.2.2.1 P.2.2.2.1 P.2.2.2.2.1 (N' := N) (a0 := (N, .inl (fun _ => 0))) (fun _ => rfl) (nI_nlt (Nat.zero_le _) (by omega)) (ix_nI (by omega)) (by show N * 4 ≤ _; omega) (by omega) (by omega) hd (fun q cA H1 hK hP hD hS => ?_)
  have hx : ext l0.length ad (adP ad l0.length q) := adP_ext (by omega)
  have hlen : (l0 ++ [(12, N, ([] : List (Nat × Nat)))]).length = l0.length + 1 := by rw [List.length_append]; rfl
  have hcon : conc (adP ad l0.length q) (caP ca l0.length cA) (shl (l0 ++ [(12, N, [])])) μ = conc ad ca (shl l0) μ ++ [(q, .inl (cA, N, .inl (fun _ => 0)))] := by
    rw [conc_push hcl0 hx (fun i hi => caP_lt hi), adP_at]
    congr 2
    have k1 : sK (shl (l0 ++ [(12, N, [])])) l0.length = 12 := ob_last.1
    have k2 : sL (shl (l0 ++ [(12, N, [])])) l0.length = N := ob_last.2.1
    rw [cellE_row k1, k2, show caP ca l0.length cA l0.length = cA from if_pos rfl, show μ.1 l0.length = fun _ => 0 from funext fun k => (hz l0.length k (Nat.le_refl _)).1]
  rw [← hcon] at hP hD
  have hT := P.2.2.2.2.2.push (t2 := [(cA, .int)]) (N := N) (c := 12) (cA := cA) (fun _ => rfl)
  rw [show Value.ref q :: st.map (rl ad) = (Value.ref l0.length :: st).map (rl (adP ad l0.length q)) from by
    rw [List.map_cons, rlS_ext hx hrS]
    show _ = Value.ref (adP ad l0.length q l0.length) :: _
    rw [adP_at]]
  refine kk (hcl0.push 12 N) (by rw [hlen]; exact hz.mono (Nat.le_succ _)) (by rw [hlen]; omega) p e R s m args below meth c0 H1 locs (cells + 1) (slots + N) ls D (adP ad l0.length q) (caP ca l0.length cA) (tys ++ [(cA, .int)]) A QQ mc ms C0 ⟨B1, B2, by omega, by omega, B5, B6⟩ ⟨hK, hP, hD, hS, P.2.2.2.2.1, hT⟩ (X.ext hx) (hl.ext hx hrL) ?_
  show Rok Q (l0 ++ [(12, N, ([] : List (Nat × Nat)))]).length _ _ _ _ _ _ _
  rw [hlen]
  exact K.grow (Nat.le_succ _) hx (fun i hi => caP_lt hi)
theorem wp_newqL {n : Int32} {N c idx : Nat} {C : String} (hn : n = nI N) (hN : N < 100000) (hc : 12 < c) (hty : ety c = .object C) (hcl : Cond.classLink M.1.cls idx C ∈ lwT) (hAO : C = "NineCopies$Person" ∨ C = "NineCopies$World") (hrS : rfS l0.length st) (hrL : rfL l0.length L) (hcl0 : clO l0) (hz : zM l0.length μ) (hb : l0.length + (b.1 + 1) ≤ 100000) (hd : decode M.2.1 pc = .ok (.anewarray idx, 3))
    (kk : Wg l (l0 ++ [(c, N, [])]) d b M (pc + 3) L (.ref l0.length :: st) μ Q) : Wp l (shl l0) d (b.1 + 1, b.2 + N) M pc L (.int n :: st) μ Q := by
  subst hn
  intro p e R s m args below meth c0 H locs cells slots ls D ad ca tys A QQ mc ms C0 B P X hl K
  obtain ⟨B1, B2, B3, B4, B5, B6⟩ := B
  have B3 : cells + (b.1 + 1) ≤ mc := B3
  have B4 : slots + (b.2 + N) ≤ ms := B4
  have hover : va_AO C s := by
    rcases hAO with rfl | rfl
    · exact X.2.2.2.1.2.1
    · exact X.2.2.2.1.2.2
  refine va_newq C0.1 C0.2.1 C0.2.2.2.1 (C0.2.2.2.2.1 _ hcl) hover P.1 P.2.1 P.2.2.1 P.2.2.2.1 P.2.2.2.2.1 (N' := N) (nI_nlt (Nat.zero_le _) (by omega)) (ix_nI (by omega)) (by omega) (by omega) (by omega) hd (fun q cA H1 hK hP hD hS => ?_)
  have hx : ext l0.length ad (adP ad l0.length q) := adP_ext (by omega)
  have hlen : (l0 ++ [(c, N, ([] : List (Nat × Nat)))]).length = l0.length + 1 := by rw [List.length_append]; rfl
  have hcon : conc (adP ad l0.length q) (caP ca l0.length cA) (shl (l0 ++ [(c, N, [])])) μ = conc ad ca (shl l0) μ ++ [(q, .inl (cA, N, .inr (.inr (.inr (.inr (fun _ => none))))))] := by
    rw [conc_push hcl0 hx (fun i hi => caP_lt hi), adP_at]
    congr 2
    have k1 : sK (shl (l0 ++ [(c, N, [])])) l0.length = c := ob_last.1
    have k2 : sL (shl (l0 ++ [(c, N, [])])) l0.length = N := ob_last.2.1
    rw [cellE_refs k1 hc, k2, show caP ca l0.length cA l0.length = cA from if_pos rfl, show (fun j => (sR (shl (l0 ++ [(c, N, [])])) l0.length j).map (adP ad l0.length q)) = fun _ => none from funext fun k => by
      rw [show sR (shl (l0 ++ [(c, N, [])])) l0.length k = none from ob_last.2.2 k]
      rfl]
  rw [← hcon] at hP hD
  have hT := P.2.2.2.2.2.push (t2 := [(cA, .object C)]) (N := N) (c := c) (cA := cA) (fun _ => by rw [hty])
  rw [show Value.ref q :: st.map (rl ad) = (Value.ref l0.length :: st).map (rl (adP ad l0.length q)) from by
    rw [List.map_cons, rlS_ext hx hrS]
    show _ = Value.ref (adP ad l0.length q l0.length) :: _
    rw [adP_at]]
  refine kk (hcl0.push c N) (by rw [hlen]; exact hz.mono (Nat.le_succ _)) (by rw [hlen]; omega) p e R s m args below meth c0 H1 locs (cells + 1) (slots + N) ls D (adP ad l0.length q) (caP ca l0.length cA) (tys ++ [(cA, .object C)]) A QQ mc ms C0 ⟨B1, B2, by omega, by omega, B5, B6⟩ ⟨hK, hP, hD, hS, P.2.2.2.2.1, hT⟩ (X.ext hx) (hl.ext hx hrL) ?_
  show Rok Q (l0 ++ [(c, N, ([] : List (Nat × Nat)))]).length _ _ _ _ _ _ _
  rw [hlen]
  exact K.grow (Nat.le_succ _) hx (fun i hi => caP_lt hi)
/-- a reference set -/
theorem shl_set {x c N k y : Nat} {rs : List (Nat × Nat)} (hx : l0[x]? = some (c, N, rs)) : shl (l0.set x (c, N, (k, y) :: rs)) = str (shl l0) x k (some y) := by
  have hlt : x < l0.length := (List.getElem?_eq_some_iff.mp hx).1
  have g : ∀ i, (l0.set x (c, N, (k, y) :: rs))[i]? = if i = x then some (c, N, (k, y) :: rs) else l0[i]? := fun i => by
    rw [List.getElem?_set]
    by_cases e : x = i
    · subst e
      rw [if_pos rfl, if_pos rfl, if_pos hlt]
    · rw [if_neg e, if_neg (fun z => e z.symm)]
  have e1 : obK (l0.set x (c, N, (k, y) :: rs)) = obK l0 := funext fun i => by
    unfold obK
    rw [g]
    by_cases e : i = x
    · subst e
      rw [if_pos rfl, hx]
    · rw [if_neg e]
  have e2 : obL (l0.set x (c, N, (k, y) :: rs)) = obL l0 := funext fun i => by
    unfold obL
    rw [g]
    by_cases e : i = x
    · subst e
      rw [if_pos rfl, hx]
    · rw [if_neg e]
  have e3 : obR (l0.set x (c, N, (k, y) :: rs)) = fun i k2 => if i = x ∧ k2 = k then some y else obR l0 i k2 := funext fun i => funext fun k2 => by
    unfold obR
    rw [g]
    by_cases e : i = x
    · subst e
      rw [if_pos rfl, hx]
      show (if k2 = k then some y else lkp rs k2) = _
      by_cases e2 : k2 = k
      · rw [if_pos e2, if_pos ⟨rfl, e2⟩]
      · rw [if_neg e2, if_neg (fun z => e2 z.2)]
    · rw [if_neg e, if_neg (fun z => e z.1)]
  unfold shl
  rw [e1, e2, e3, List.length_set]
  rfl
theorem wp_putFL {idx ck k x y N : Nat} {rs : List (Nat × Nat)} {ty : FieldType} (hx : l0[x]? = some (ck, N, rs)) (hy : y < l0.length) (hF : FL M.1.cls idx ck k ty true) (hc : ck < 12) (hf : ftc ck k = 2) (hnm : M.1.name = "<init>") (hown : ((vwCl.getD ck ("", (fun _ => ("", "", "", false)), 0)).1) = M.1.cls) (hfit : ∀ a : Nat, narrow ty (.ref a) = .ref a ∧ fits ty (.ref a) = true) (hcl0 : clO l0) (hz : zM l0.length μ) (hb : l0.length + b.1 ≤ 100000) (hd : decode M.2.1 pc = .ok (.putfield idx, 3))
    (kk : Wg l (l0.set x (ck, N, (k, y) :: rs)) d b M (pc + 3) L st μ Q) : Wp l (shl l0) d b M pc L (.ref y :: .ref x :: st) μ Q := by
  have hlt : x < l0.length := (List.getElem?_eq_some_iff.mp hx).1
  refine wp_putF hF hc hf hlt (by show obK l0 x = ck; unfold obK; rw [hx]) hnm hown hfit hd ?_
  rw [← shl_set hx]
  exact kk (hcl0.set hx hy) (by rw [List.length_set]; exact hz) (by rw [List.length_set]; exact hb)
theorem wp_objI {x idx : Nat} (hlink : Cond.methodLink M.1.cls idx Lib.objectInit ∈ lwT) (hinst : Cond.instanceMethod Lib.objectInit ∈ lwT) (hcode : Cond.code Lib.objectInit ⟨#[0xb1]⟩ 1 none ∈ lwT) (hd1 : 1 ≤ d) {S : Sh} (hrest : (st.map fun v => v.category).sum ≤ 8) (hd : decode M.2.1 pc = .ok (.invokespecial idx, 3)) (kk : Wp l S d b M (pc + 3) L st μ Q) : Wp l S d b M pc L (.ref x :: st) μ Q := by
  intro p e R s m args below meth c0 H locs cells slots ls D ad ca tys A QQ mc ms C B P X hl K
  have h8 := cats_room (ad := ad) (m := m) (pc := pc) (ls := ls) (st0 := (Value.ref (ad x) :: st.map (rl ad))) (rest := st) hrest
  refine W.objInit C.1 C.2.1 C.2.2.2.1 (C.2.2.2.2.1 _ hlink) (C.2.2.2.2.1 _ hinst) (C.2.2.2.2.1 _ hcode) (g := F0 m pc ls (Value.ref (ad x) :: st.map (rl ad))) rfl (by rw [C.2.2.1]; exact hl.2.1) rfl hd (by have := B.1; omega) (by have := B.2.1; omega) ?_
  exact kk p e R s m args below meth c0 H locs cells slots ls D ad ca tys A QQ mc ms C B P X hl K
end
