/-! ROWS in the form that a maker's walk has: what lay there, and what was made since -/
section
variable {l : Launch} {l0 T T2 : List Ob} {d : Nat} {b b2 : Nat × Nat} {M : MD} {pc : Nat} {L : Lc} {st : List Value} {μ μ2 : Mm} {Q : Option Value → Sh → Mm → Prop}
theorem lT {j : Nat} (hj : T.length = j) : (l0 ++ T).length = l0.length + j := by rw [List.length_append, hj]
theorem gT {i : Nat} {o : Ob} (h : T[i]? = some o) : (l0 ++ T)[l0.length + i]? = some o := by
  rw [List.getElem?_append_right (Nat.le_add_right _ _), Nat.add_sub_cancel_left]
  exact h
theorem kT {i c N : Nat} {rs : List (Nat × Nat)} (h : T[i]? = some (c, N, rs)) : sK (shl (l0 ++ T)) (l0.length + i) = c ∧ sL (shl (l0 ++ T)) (l0.length + i) = N ∧ l0.length + i < sN (shl (l0 ++ T)) := by
  have g := gT (l0 := l0) h
  refine ⟨?_, ?_, (List.getElem?_eq_some_iff.mp g).1⟩
  · show obK _ _ = _
    unfold obK
    rw [g]
  · show obL _ _ = _
    unfold obL
    rw [g]
theorem wfT (l1 : List Ob) : ∀ x, sK (shl l1) x < 15 → x < sN (shl l1) := fun x h => by
  have h : obK l1 x < 15 := h
  unfold obK at h
  split at h
  · rename_i o ho
    exact (List.getElem?_eq_some_iff.mp ho).1
  · omega
theorem wp_newT {c idx j : Nat} {C : String} {Tt : u_T} (ty : Nat → FieldType) (hc : vwCl[c]? = some (C, Tt, nfc c)) (h12 : c < 12) (h2 : ∀ w ∈ u_ws C Tt (nfc c), w ∈ lwT) (hty : ∀ k, k < nfc c → parseFieldDescriptor (Tt k).2.2.1 = some (ty k)) (hdf : ∀ k, k < nfc c → defaultValue (ty k) = dfV c k)
    (hcl : Cond.classLink M.1.cls idx C ∈ lwT) (hinst : Cond.instantiable C (nfc c) ∈ lwT) (hini : Cond.initialized C ∈ lwT) (hT : T ++ [(c, 0, [])] = T2) (hj : T.length = j) (hbb : b = (b2.1 + 1, b2.2 + nfc c)) (hrS : rfS (l0.length + j) st) (hrL : rfL (l0.length + j) L) (hcl0 : clO (l0 ++ T)) (hz : zM (l0 ++ T).length μ) (hb : (l0 ++ T).length + b.1 ≤ 100000) (hd : decode M.2.1 pc = .ok (.new idx, 3))
    (kk : clO (l0 ++ T2) → zM (l0 ++ T2).length μ → (l0 ++ T2).length + b2.1 ≤ 100000 → Wp l (shl (l0 ++ T2)) d b2 M (pc + 3) L (.ref (l0.length + j) :: st) μ Q) : Wp l (shl (l0 ++ T)) d b M pc L st μ Q := by
  subst hbb hT
  have e := lT (l0 := l0) hj
  rw [← e] at hrS hrL kk
  refine wp_newL ty hc h12 h2 hty hdf hcl hinst hini hrS hrL hcl0 hz hb hd ?_
  rw [List.append_assoc]
  exact kk
theorem wp_newaT {j N : Nat} {n : Int32} (hn : n = nI N) (hN : N < 100000) (harr : Cond.arrayClass .int ∈ lwT) (hT : T ++ [(12, N, [])] = T2) (hj : T.length = j) (hbb : b = (b2.1 + 1, b2.2 + N)) (hrS : rfS (l0.length + j) st) (hrL : rfL (l0.length + j) L) (hcl0 : clO (l0 ++ T)) (hz : zM (l0 ++ T).length μ) (hb : (l0 ++ T).length + b.1 ≤ 100000) (hd : decode M.2.1 pc = .ok (.newarray .int, 2))
    (kk : clO (l0 ++ T2) → zM (l0 ++ T2).length μ → (l0 ++ T2).length + b2.1 ≤ 100000 → Wp l (shl (l0 ++ T2)) d b2 M (pc + 2) L (.ref (l0.length + j) :: st) μ Q) : Wp l (shl (l0 ++ T)) d b M pc L (.int n :: st) μ Q := by
  subst hbb hT
  have e := lT (l0 := l0) hj
  rw [← e] at hrS hrL kk
  refine wp_newaL hn hN harr hrS hrL hcl0 hz hb hd ?_
  rw [List.append_assoc]
  exact kk
theorem wp_newqT {j N c idx : Nat} {C : String} {n : Int32} (hn : n = nI N) (hN : N < 100000) (hc : 12 < c) (hty : ety c = .object C) (hcl : Cond.classLink M.1.cls idx C ∈ lwT) (hAO : C = "NineCopies$Person" ∨ C = "NineCopies$World") (hT : T ++ [(c, N, [])] = T2) (hj : T.length = j) (hbb : b = (b2.1 + 1, b2.2 + N)) (hrS : rfS (l0.length + j) st) (hrL : rfL (l0.length + j) L) (hcl0 : clO (l0 ++ T)) (hz : zM (l0 ++ T).length μ) (hb : (l0 ++ T).length + b.1 ≤ 100000) (hd : decode M.2.1 pc = .ok (.anewarray idx, 3))
    (kk : clO (l0 ++ T2) → zM (l0 ++ T2).length μ → (l0 ++ T2).length + b2.1 ≤ 100000 → Wp l (shl (l0 ++ T2)) d b2 M (pc + 3) L (.ref (l0.length + j) :: st) μ Q) : Wp l (shl (l0 ++ T)) d b M pc L (.int n :: st) μ Q := by
  subst hbb hT
  have e := lT (l0 := l0) hj
  rw [← e] at hrS hrL kk
  refine wp_newqL hn hN hc hty hcl hAO hrS hrL hcl0 hz hb hd ?_
  rw [List.append_assoc]
  exact kk
theorem wp_putT {idx ck k i y j N : Nat} {rs : List (Nat × Nat)} {ty : FieldType} (hx : T[i]? = some (ck, N, rs)) (hj : T.length = j) (hy : y < l0.length + j) (hT : T.set i (ck, N, (k, y) :: rs) = T2) (hF : FL M.1.cls idx ck k ty true) (hc : ck < 12) (hf : ftc ck k = 2) (hnm : M.1.name = "<init>") (hown : ((vwCl.getD ck ("", (fun _ => ("", "", "", false)), 0)).1) = M.1.cls) (hfit : ∀ a : Nat, narrow ty (.ref a) = .ref a ∧ fits ty (.ref a) = true) (hcl0 : clO (l0 ++ T)) (hz : zM (l0 ++ T).length μ) (hb : (l0 ++ T).length + b.1 ≤ 100000) (hd : decode M.2.1 pc = .ok (.putfield idx, 3))
    (kk : clO (l0 ++ T2) → zM (l0 ++ T2).length μ → (l0 ++ T2).length + b.1 ≤ 100000 → Wp l (shl (l0 ++ T2)) d b M (pc + 3) L st μ Q) : Wp l (shl (l0 ++ T)) d b M pc L (.ref y :: .ref (l0.length + i) :: st) μ Q := by
  subst hT
  refine wp_putFL (gT hx) (by rw [lT hj]; exact hy) hF hc hf hnm hown hfit hcl0 hz hb hd ?_
  rw [show (l0 ++ T).set (l0.length + i) (ck, N, (k, y) :: rs) = l0 ++ T.set i (ck, N, (k, y) :: rs) from by
    rw [List.set_append_right _ _ (Nat.le_add_right _ _), Nat.add_sub_cancel_left]]
  exact kk
theorem wp_aastT {c i N m ck y j : Nat} {C : vw_C} {rs : List (Nat × Nat)} {oy : Ob} (hx : T[i]? = some (c, N, rs)) (h12 : 12 < c) (hy : T[y]? = some oy) (hyk : oy.1 = ck) (hck : ck < 12) (hr : vwCl[ck]? = some C) (hr2 : C.2.2 = nfc ck) (hty : ety c = .object C.1) (hm : m < N) (hN : N < 100000) (hj : T.length = j) (hT : T.set i (c, N, (m, l0.length + y) :: rs) = T2) (hcl0 : clO (l0 ++ T)) (hz : zM (l0 ++ T).length μ) (hb : (l0 ++ T).length + b.1 ≤ 100000) (hd : decode M.2.1 pc = .ok (.aastore, 1))
    (kk : clO (l0 ++ T2) → zM (l0 ++ T2).length μ → (l0 ++ T2).length + b.1 ≤ 100000 → Wp l (shl (l0 ++ T2)) d b M (pc + 1) L st μ Q) : Wp l (shl (l0 ++ T)) d b M pc L (.ref (l0.length + y) :: .int (nI m) :: .ref (l0.length + i) :: st) μ Q := by
  subst hT
  obtain ⟨kx, lx, nx⟩ := kT (l0 := l0) hx
  obtain ⟨oy1, oy2, oy3⟩ := oy
  obtain ⟨ky, ly, ny⟩ := kT (l0 := l0) hy
  have hyk : oy1 = ck := hyk
  subst hyk
  have g := gT (l0 := l0) hx
  have hset : (l0 ++ T).set (l0.length + i) (c, N, (m, l0.length + y) :: rs) = l0 ++ T.set i (c, N, (m, l0.length + y) :: rs) := by
    rw [List.set_append_right _ _ (Nat.le_add_right _ _), Nat.add_sub_cancel_left]
  have kk := kk (hset ▸ hcl0.set g ny) (by rw [← hset, List.length_set]; exact hz) (by rw [← hset, List.length_set]; exact hb)
  rw [← hset, shl_set g] at kk
  intro p e R s m2 args below meth c0 H locs cells slots ls D ad ca tys A QQ mc ms C0 B P X hl K
  obtain ⟨t0, ht⟩ := P.2.2.2.2.2 (l0.length + i) nx (by rw [kx]; omega)
  rw [kx, hty] at ht
  have hxx : (conc ad ca (shl (l0 ++ T)) μ)[l0.length + i]? = some (ad (l0.length + i), .inl (ca (l0.length + i), N, .inr (.inr (.inr (.inr (fun j => (sR (shl (l0 ++ T)) (l0.length + i) j).map ad)))))) := by
    rw [conc_get nx, cellE_refs kx h12, lx]
  refine va_astq C0.1 C0.2.1 P.1 P.2.1 P.2.2.1 P.2.2.2.1 (l0.length + i) t0 (l0.length + y) oy1 hxx ht (getf_at ny ky hck) hr (i := nI m) (by
    show ¬ (nI m < 0 ∨ N ≤ (nI m).toNatClampNeg)
    rw [show (nI m).toNatClampNeg = m from ix_nI (by omega)]
    exact fun z => z.elim (nI_nlt (Nat.zero_le _) (by omega)) (by omega)) hd (fun H1 locs1 hP hD hS => ?_)
  refine kk p e R s m2 args below meth c0 H1 locs1 cells slots ls D ad ca tys A QQ mc ms C0 B (P.put (S' := str (shl (l0 ++ T)) (l0.length + i) m (some (l0.length + y))) rfl (fun _ => rfl) ?_ (fun j hj => cellE_str hj) hP hD hS) X hl K
  rw [cellE_refs (show sK (str (shl (l0 ++ T)) (l0.length + i) m (some (l0.length + y))) (l0.length + i) = c from kx) h12]
  show Sum.inl (_, sL (shl (l0 ++ T)) (l0.length + i), _) = _
  rw [lx, show (nI m).toNatClampNeg = m from ix_nI (by omega)]
  congr 7
  funext k
  unfold va_up
  by_cases ek : k = m
  · subst ek
    rw [if_pos rfl]
    simp [sR, str]
  · rw [if_neg ek]
    simp [sR, str, ek]
/-- thirty-six ones -/
def fil (μ : Mm) (x n : Nat) : Mm := (fun i k => if i = x ∧ k < n then nI 1 else μ.1 i k, μ.2)
theorem fil_is {S : Sh} {x : Nat} (h : sL S x = 36) : JA_fill S x (nI 1) μ = some (fil μ x 36) := by
  have z : fil μ x 0 = μ := by
    unfold fil
    refine Prod.ext (funext fun i => funext fun k => ?_) rfl
    show (if i = x ∧ k < 0 then _ else _) = _
    rw [if_neg (by omega)]
  have key := iter_traj (f := fun s : Int32 × Mm => JA_fill_l5 S x (nI 1) s.1 (nI (sL S x)) s.2) (fun k => (nI k, fil μ x k)) (y := fil μ x 36) 36 1000000 ?_ ?_ (by decide)
  · unfold JA_fill
    rw [z] at key
    rw [show (nI 0, μ) = ((nI 0, μ) : Int32 × Mm) from rfl, key, bni_eq]
  · intro k hk
    show JA_fill_l5 _ _ _ _ _ _ = _
    unfold JA_fill_l5
    rw [h, if_neg (nI_ge (by omega) (by omega)), chv_nI (by omega) (by decide), lt_eq, ix_nI (by omega), nI_add]
    congr 3
    unfold fil sti
    refine Prod.ext (funext fun i => funext fun j => ?_) rfl
    show (if i = x ∧ j = k then nI 1 else (if i = x ∧ j < k then nI 1 else μ.1 i j)) = (if i = x ∧ j < k + 1 then nI 1 else μ.1 i j)
    by_cases e1 : i = x ∧ j = k
    · rw [if_pos e1, if_pos (by omega)]
    · by_cases e2 : i = x ∧ j < k
      · rw [if_neg e1, if_pos e2, if_pos (by omega)]
      · rw [if_neg e1, if_neg e2, if_neg (by omega)]
  · show JA_fill_l5 _ _ _ _ _ _ = _
    unfold JA_fill_l5
    rw [h, if_pos (nI_le (Nat.le_refl _) (by omega))]
theorem zM.fil {n x : Nat} (h : zM n μ) (hx : x < n) : zM n (fil μ x 36) := fun i j hi => ⟨by
  show (if i = x ∧ j < 36 then _ else _) = _
  rw [if_neg (by omega)]
  exact (h i j hi).1, (h i j hi).2⟩
end
