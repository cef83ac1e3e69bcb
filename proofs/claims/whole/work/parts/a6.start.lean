/-! THE LAW FROM ITS START -/
theorem nwL10 : Cond.classLink R_law 7 RX10 ∈ lwT ∧ Cond.instantiable RX10 (nfc 10) ∈ lwT ∧ Cond.initialized RX10 ∈ lwT := ⟨(lwT_1 (i := 22) (by decide +kernel) rfl), (lwT_1 (i := 23) (by decide +kernel) rfl), (lwT_1 (i := 1) (by decide +kernel) rfl)⟩
theorem nwL11 : Cond.classLink R_law 10 RX11 ∈ lwT ∧ Cond.instantiable RX11 (nfc 11) ∈ lwT ∧ Cond.initialized RX11 ∈ lwT := ⟨(lwT_5 (i := 49) (by decide +kernel) rfl), (lwT_5 (i := 50) (by decide +kernel) rfl), (lwT_1 (i := 13) (by decide +kernel) rfl)⟩
theorem il_L_9 : Cond.methodLink R_law 9 mX10_init.1 ∈ lwT := (lwT_1 (i := 24) (by decide +kernel) rfl)
theorem il_L_12 : Cond.methodLink R_law 12 mX11_init.1 ∈ lwT := (lwT_5 (i := 51) (by decide +kernel) rfl)
theorem law_D {s : State} {b0 : Addr} (hT : ∀ w ∈ lwT, w.before #[Value.ref b0] s = true) (k : Nat) : ∃ z : ClassId × (Nat → Nat), ∀ q : vw_C, vwCl[k]? = some q → u_Kn s q.1 q.2.1 q.2.2 z.1 z.2 := by
  have row : ∀ (C : String) (T : u_T) (N n : Nat), (∀ w ∈ u_ws C T N, w ∈ lwT) → Cond.instantiable C n ∈ lwT → ∃ z : ClassId × (Nat → Nat), u_Kn s C T N z.1 z.2 := fun C T N n h1 h2 => by
    obtain ⟨a, b, h⟩ := u_known hT h1 (hT _ h2)
    exact ⟨(a, b), h⟩
  match k with
  | 0 =>
    obtain ⟨z, h⟩ := row RX0 TX0 6 (nfc 0) uw0 nw_X9_33.2.1
    exact ⟨z, fun q hq => by cases hq; exact h⟩
  | 1 =>
    obtain ⟨z, h⟩ := row RX1 TX1 7 (nfc 1) uw1 nw_X7_7.2.1
    exact ⟨z, fun q hq => by cases hq; exact h⟩
  | 2 =>
    obtain ⟨z, h⟩ := row RX2 TX2 6 (nfc 2) uw2 nw_X9_24.2.1
    exact ⟨z, fun q hq => by cases hq; exact h⟩
  | 3 =>
    obtain ⟨z, h⟩ := row RX3 TX3 7 (nfc 3) uw3 nw_X9_9.2.1
    exact ⟨z, fun q hq => by cases hq; exact h⟩
  | 4 =>
    obtain ⟨z, h⟩ := row RX4 TX4 2 (nfc 4) uw4 nw_X10_23.2.1
    exact ⟨z, fun q hq => by cases hq; exact h⟩
  | 5 =>
    obtain ⟨z, h⟩ := row RX5 TX5 2 (nfc 5) uw5 nw_X7_19.2.1
    exact ⟨z, fun q hq => by cases hq; exact h⟩
  | 6 =>
    obtain ⟨z, h⟩ := row RX6 TX6 12 (nfc 6) uw6 nw_X10_50.2.1
    exact ⟨z, fun q hq => by cases hq; exact h⟩
  | 7 =>
    obtain ⟨z, h⟩ := row RX7 TX7 3 (nfc 7) uw7 nw_X10_16.2.1
    exact ⟨z, fun q hq => by cases hq; exact h⟩
  | 8 =>
    obtain ⟨z, h⟩ := row RX8 TX8 5 (nfc 8) uw8 nw_X9_17.2.1
    exact ⟨z, fun q hq => by cases hq; exact h⟩
  | 9 =>
    obtain ⟨z, h⟩ := row RX9 TX9 13 (nfc 9) uw9 nw_X10_9.2.1
    exact ⟨z, fun q hq => by cases hq; exact h⟩
  | 10 =>
    obtain ⟨z, h⟩ := row RX10 TX10 13 (nfc 10) uw10 nwL10.2.1
    exact ⟨z, fun q hq => by cases hq; exact h⟩
  | 11 =>
    obtain ⟨z, h⟩ := row RX11 TX11 51 (nfc 11) uw11 nwL11.2.1
    exact ⟨z, fun q hq => by cases hq; exact h⟩
  | k + 12 => exact ⟨(0, fun _ => 0), fun q hq => by simp at hq⟩
/-- YOUR PART: from the entry, for every script of at most 3072 ints, the law comes to its end with true ('hflags': the launch's flags, for a law that throws: no stack traces) -/
theorem whole_start {p : Program} {e : Env} {s : State} {m : MethodId} {below : List Frame} {meth : Method} {c : Code} (l : Launch) (hflags : l.flags = flags0) {b L : Nat} {xs : Nat → Int32} (hL : L ≤ 3072) (C0 : lw_At p s m meth c b L xs) : W p l e room_1 s m #[Value.ref b] below meth c s.heap [] 0 0 (lw_Z below #[Value.ref b] s) (entryFrame m ([Value.ref b] : List Value).toArray 4) := by
  obtain ⟨hx, hb, hr, hml, hown, hts, hX, hbl, hlocks, hgv⟩ := id C0
  have hT : ∀ w ∈ lwT, w.before #[Value.ref b] s = true := fun w hw => hts w (List.mem_filter.mp hw).1
  obtain ⟨D, hKn⟩ : ∃ D : va_G, ∀ (k : Nat) (q : vw_C), vwCl[k]? = some q → u_Kn s q.1 q.2.1 q.2.2 (D.1 k) (D.2 k) := ⟨(fun k => (Classical.choose (law_D hT k)).1, fun k => (Classical.choose (law_D hT k)).2), fun k q hq => Classical.choose_spec (law_D hT k) q hq⟩
  obtain ⟨ad0, XA⟩ := law_Xc hts hgv
  suffices hgo : ∀ ls : Array Slot, (∀ adC adM, lrel (adL adC adM b) [some (.ref 2), none, none, none] ls 4) → W p l e room_1 s m #[Value.ref b] below meth c s.heap [] 0 0 (lw_Z below #[Value.ref b] s) (F0 m 0 ls []) by
    rw [lg_entry_eq]
    exact hgo _ (fun adC adM => lrel_ent (ad := adL adC adM b) (args := [.ref 2]) (n := 4) (cats_of rfl) (by decide))
  intro ls hl
  refine law_made (M' := mX10_init) (ck := 10) (d := 4) (b1 := (1534, 24367)) (body := bd10) (mf := mf10) in_X10 shl_SC mw_X10_init im_X10_init rfl rfl (by decide) (by decide) rfl (by decide) uw10 tyX10_ok df_X10_init nwL10.1 nwL10.2.1 nwL10.2.2 il_L_9 dL_0 dL_3 dL_4 C0 hKn XA (hl ad0 ad0).2.1 va_S.rf (by decide) (by decide) (fun adC caC tysC H1 locs1 PC XC geC keepC => ?_)
  refine lv_astore_n hx hb dL_7 rfl (hl adC ad0).has (by decide) rfl (fun ls1 g1 => ?_)
  have hl1 : ∀ adM, lrel (adL adC adM b) [some (.ref 2), some (.ref 0), none, none] ls1 4 := fun adM => lrel_store (v := .ref 0) (hl adC adM) rfl g1
  refine law_made (M' := mX11_init) (ck := 11) (d := 1) (b1 := (24, 14408)) (body := bd11) (mf := mf11) in_X11 shl_SM mw_X11_init im_X11_init rfl rfl (by decide) (by decide) rfl (by decide) uw11 tyX11_ok df_X11_init nwL11.1 nwL11.2.1 nwL11.2.2 il_L_12 dL_8 dL_11 dL_12 C0 hKn XA (hl1 ad0).2.1 PC.2.2.2.1 (by decide) (by decide) (fun adM caM tysM H2 locs2 PM XM geM keepM => ?_)
  refine lv_astore_n hx hb dL_15 rfl (hl1 adM).has (by decide) rfl (fun ls2 g2 => ?_)
  have hl2 : lrel (adL adC adM b) [some (.ref 2), some (.ref 0), some (.ref 1), none] ls2 4 := lrel_store (v := .ref 1) (hl1 adM) rfl g2
  have w16 : WL l p e s m below meth c b L xs 16 [some (.ref 2), some (.ref 0), some (.ref 1), none] [] (mf10 0 mz0) (mf11 0 mz0) := wl_iconst (nI 0) dL_16 rfl (wl_istore (n := 3) (x := nI 0) (L2 := [some (.ref 2), some (.ref 0), some (.ref 1), some (.int (nI 0))]) dL_17 rfl (law_loop hL 600 0 _ _ (by decide) (by omega) Sim0))
  have hK := PC.1.app PM.1
  have TC : Tk caC (tysC ++ tysM) SC := fun i hi h => by
    obtain ⟨t0, ht⟩ := PC.2.2.2.2.2 i hi h
    exact ⟨t0, by rw [List.getElem?_append_left (List.getElem?_eq_some_iff.mp ht).1]; exact ht⟩
  have TM : Tk caM (tysC ++ tysM) SM := fun i hi h => by
    obtain ⟨t0, ht⟩ := PM.2.2.2.2.2 i hi h
    exact ⟨tysC.length + t0, by rw [List.getElem?_append_right (Nat.le_add_right _ _), Nat.add_sub_cancel_left]; exact ht⟩
  exact w16 D adC adM caC caM (tysC ++ tysM) H2 locs2 _ _ ls2 C0 ⟨⟨hK, PC.2.1.kept (fun k q hq => keepM q.1 ((PC.2.1 k q hq).lt)), PC.2.2.1, PM.2.2.2.1, PC.2.2.2.2.1, TC⟩, ⟨hK, PM.2.1, PM.2.2.1, PM.2.2.2.1, PM.2.2.2.2.1, TM⟩, fun i j hi hj e => by
    have z1 := (PC.2.1 i _ (conc_get (show i < sN SC from hi))).lt
    have z2 := geM j hj
    have z1 : adC i < H1.size := z1
    omega, XC, XM⟩ hl2 (by decide) (by decide)
