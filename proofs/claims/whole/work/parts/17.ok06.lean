theorem ok_M_curses_l12 {l : Launch} {d : Nat} (hd : 6 ≤ d) (v1 : Int32)  (v2 : Int32)  (μ : Mm) {Q : Option Value → Sh → Mm → Prop} (K : (Int32 × Mm) ⊕ Mm → Prop) (hb : ∀ (s : (Int32 × Mm)), K (Sum.inl s) → Wp l SM d (0, 0) mX11_curses 12 [some (.ref 0), some (.int v1), some (.int s.1)] [] s.2 Q) (he0 : ∀ (x : Mm) (z2 : Option Value), K (Sum.inr x) → Wp l SM d (0, 0) mX11_curses 74 [some (.ref 0), some (.int v1), z2] [] x Q) {z : (Int32 × Mm) ⊕ Mm} (h : M_curses_l12 v1 v2 μ = some z) (hz : K z) : Wp l SM d (0, 0) mX11_curses 12 [some (.ref 0), some (.int v1), some (.int v2)] [] μ Q := by
  unfold M_curses_l12 at h
  refine wp_aload_n (x := 0) dX11_curses_12 rfl ?_
  refine wp_getR 5 fl_X11_22 (by decide) rfl (kltM kRootM) kRootM (ly11_8 kRootM).1 dX11_curses_13 ?_
  refine wp_iload_n (x := v1) dX11_curses_16 rfl ?_
  obtain ⟨c1, h⟩ := chv_some h
  refine wp_ialde (kltM (ly11_8 kRootM).2.1) (ly11_8 kRootM).2.1 (ly11_8 kRootM).2.2 c1 dX11_curses_17 ?_
  refine wp_iconst (nI 2) dX11_curses_18 rfl ?_
  refine wp_icmp_eq 74 dX11_curses_19 (by decide) (fun c1 => ?_) (fun c1 => ?_)
  · rw [if_pos c1] at h
    obtain rfl := some1 h
    exact he0 μ _ hz
  · rw [if_neg c1] at h
    refine wp_iload_n (x := v2) dX11_curses_22 rfl ?_
    refine wp_aload_n (x := 0) dX11_curses_23 rfl ?_
    refine wp_getR 1 fl_X11_7 (by decide) rfl (kltM kRootM) kRootM (ly11_1 kRootM).1 dX11_curses_24 ?_
    refine wp_sipush (nI 263) dX11_curses_27 rfl ?_
    refine wp_iload_n (x := v1) dX11_curses_30 rfl ?_
    refine wp_iadd dX11_curses_31 ?_
    obtain ⟨c1, h⟩ := chv_some h
    refine wp_ialde (kltM (ly11_1 kRootM).2.1) (ly11_1 kRootM).2.1 (ly11_1 kRootM).2.2 c1 dX11_curses_32 ?_
    refine wp_icmp_ge 74 dX11_curses_33 (by decide) (fun c1 => ?_) (fun c1 => ?_)
    · rw [if_pos c1] at h
      obtain rfl := some1 h
      exact he0 μ _ hz
    · rw [if_neg c1] at h
      refine wp_aload_n (x := 0) dX11_curses_36 rfl ?_
      refine wp_getR 1 fl_X11_7 (by decide) rfl (kltM kRootM) kRootM (ly11_1 kRootM).1 dX11_curses_37 ?_
      refine wp_aload_n (x := 0) dX11_curses_40 rfl ?_
      refine wp_iload_n (x := v1) dX11_curses_41 rfl ?_
      refine wp_iload_n (x := v2) dX11_curses_42 rfl ?_
      obtain ⟨r1, g1, h⟩ := bnd_some h
      refine wp_cVi (d := d - 1) (o := 0) cv_X11_144 (kltM kRootM) kRootM (as := [.int v1, .int v2]) (rest := [.ref 1]) dX11_curses_43 (by omega) cloM rfl rfl (Nat.le_of_ble_eq_true rfl) (Nat.le_of_ble_eq_true rfl) (ok_M_letterAt (by omega) v1 v2 μ g1) ?_ rfl
      refine wp_iconst (nI 2) dX11_curses_46 rfl ?_
      refine wp_iadd dX11_curses_47 ?_
      obtain ⟨c1, h⟩ := chv_some h
      refine wp_ialde (kltM (ly11_1 kRootM).2.1) (ly11_1 kRootM).2.1 (ly11_1 kRootM).2.2 c1 dX11_curses_48 ?_
      refine wp_aload_n (x := 0) dX11_curses_49 rfl ?_
      refine wp_getR 1 fl_X11_7 (by decide) rfl (kltM kRootM) kRootM (ly11_1 kRootM).1 dX11_curses_50 ?_
      refine wp_iconst (nI 0) dX11_curses_53 rfl ?_
      obtain ⟨c1, h⟩ := chv_some h
      refine wp_ialde (kltM (ly11_1 kRootM).2.1) (ly11_1 kRootM).2.1 (ly11_1 kRootM).2.2 c1 dX11_curses_54 ?_
      refine wp_icmp_gt 67 dX11_curses_55 (by decide) (fun c1 => ?_) (fun c1 => ?_)
      · rw [if_pos c1] at h
        refine wp_iload_n (x := v2) dX11_curses_67 rfl ?_
        refine wp_iconst (nI 1) dX11_curses_68 rfl ?_
        refine wp_iadd dX11_curses_69 ?_
        refine wp_istore_n (L2 := [some (.ref 0), some (.int v1), some (.int (v2 + (nI 1)))]) dX11_curses_70 (by decide) rfl rfl ?_
        refine wp_goto 12 dX11_curses_71 (by decide) ?_
        obtain rfl := some1 h
        exact hb ((v2 + (nI 1)), μ) hz
      · rw [if_neg c1] at h
        refine wp_aload_n (x := 0) dX11_curses_58 rfl ?_
        refine wp_iload_n (x := v1) dX11_curses_59 rfl ?_
        refine wp_iload_n (x := v2) dX11_curses_60 rfl ?_
        obtain ⟨μ2, g1, h⟩ := bnd_some h
        refine wp_cVv (d := d - 1) (o := 0) cv_X11_345 (kltM kRootM) kRootM (as := [.int v1, .int v2]) (rest := []) dX11_curses_61 (by omega) cloM rfl rfl (Nat.le_of_ble_eq_true rfl) (Nat.le_of_ble_eq_true rfl) (ok_M_cursesOne (by omega) v1 v2 μ g1) ?_ rfl
        refine wp_goto 12 dX11_curses_64 (by decide) ?_
        obtain rfl := some1 h
        exact hb (v2, μ2) hz
theorem okl_M_curses_l12 {l : Launch} {d : Nat} (hd : 6 ≤ d) (v1 : Int32)  {Q : Option Value → Sh → Mm → Prop} (K : Mm → Prop) (he0 : ∀ (x : Mm) (z2 : Option Value), K x → Wp l SM d (0, 0) mX11_curses 74 [some (.ref 0), some (.int v1), z2] [] x Q) : ∀ (n : Nat) (s : (Int32 × Mm)) (y : Mm) , iter n (fun s => M_curses_l12 v1 s.1 s.2) s = some y → K y → Wp l SM d (0, 0) mX11_curses 12 [some (.ref 0), some (.int v1), some (.int s.1)] [] s.2 Q := by
  intro n
  induction n with
  | zero => intro s y  h; cases h
  | succ n ih =>
    intro s y  h hK
    obtain ⟨z, hz, hn⟩ := iter_some h
    refine ok_M_curses_l12 hd v1 s.1 s.2 (fun z => nxt n (fun s => M_curses_l12 v1 s.1 s.2) z y) ?_ ?_ hz hn
    · intro s2  h2
      exact ih s2 y h2 hK
    · intro x z2 h2
      have h3 : x = y := h2
      subst h3
      exact he0 x _ hK
theorem ok_M_curses_j74 {l : Launch} {d : Nat} (hd : 6 ≤ d) (v1 : Int32)  (μ : Mm) (z2 : Option Value) {Q : Option Value → Sh → Mm → Prop} (K : (Int32 × Mm) ⊕ Mm → Prop) (hb : ∀ (s : (Int32 × Mm)) (z2 : Option Value), K (Sum.inl s) → Wp l SM d (0, 0) mX11_curses 2 [some (.ref 0), some (.int s.1), z2] [] s.2 Q) (he0 : ∀ (x : Mm) (z1 : Option Value) (z2 : Option Value), K (Sum.inr x) → Wp l SM d (0, 0) mX11_curses 80 [some (.ref 0), z1, z2] [] x Q) {z : (Int32 × Mm) ⊕ Mm} (h : M_curses_j74 v1 μ = some z) (hz : K z) : Wp l SM d (0, 0) mX11_curses 74 [some (.ref 0), some (.int v1), z2] [] μ Q := by
  unfold M_curses_j74 at h
  refine wp_iinc (x := v1) (k0 := (nI 1)) (L2 := [some (.ref 0), some (.int (v1 + (nI 1))), z2]) dX11_curses_74 rfl rfl (by decide) rfl rfl ?_
  refine wp_goto 2 dX11_curses_77 (by decide) ?_
  obtain rfl := some1 h
  exact hb ((v1 + (nI 1)), μ) _ hz
theorem ok_M_curses_l2 {l : Launch} {d : Nat} (hd : 6 ≤ d) (v1 : Int32)  (μ : Mm) (z2 : Option Value) {Q : Option Value → Sh → Mm → Prop} (K : (Int32 × Mm) ⊕ Mm → Prop) (hb : ∀ (s : (Int32 × Mm)) (z2 : Option Value), K (Sum.inl s) → Wp l SM d (0, 0) mX11_curses 2 [some (.ref 0), some (.int s.1), z2] [] s.2 Q) (he0 : ∀ (x : Mm) (z1 : Option Value) (z2 : Option Value), K (Sum.inr x) → Wp l SM d (0, 0) mX11_curses 80 [some (.ref 0), z1, z2] [] x Q) {z : (Int32 × Mm) ⊕ Mm} (h : M_curses_l2 v1 μ = some z) (hz : K z) : Wp l SM d (0, 0) mX11_curses 2 [some (.ref 0), some (.int v1), z2] [] μ Q := by
  unfold M_curses_l2 at h
  refine wp_iload_n (x := v1) dX11_curses_2 rfl ?_
  refine wp_aload_n (x := 0) dX11_curses_3 rfl ?_
  refine wp_getI fl_X11_107 (by decide) rfl (kltM kRootM) kRootM dX11_curses_4 ?_
  refine wp_icmp_ge 80 dX11_curses_7 (by decide) (fun c1 => ?_) (fun c1 => ?_)
  · rw [if_pos c1] at h
    obtain rfl := some1 h
    exact he0 μ _ _ hz
  · rw [if_neg c1] at h
    refine wp_iconst (nI 0) dX11_curses_10 rfl ?_
    refine wp_istore_n (L2 := [some (.ref 0), some (.int v1), some (.int (nI 0))]) dX11_curses_11 (by decide) rfl rfl ?_
    obtain ⟨x12, hi, h⟩ := bni_some h
    refine okl_M_curses_l12 hd v1 (fun z => z = x12) ?_ 1000000 ((nI 0), μ) x12 hi rfl
    · intro y0 z2 e0
      have e0 : y0 = x12 := e0
      subst e0
      exact ok_M_curses_j74 hd v1 y0 _ K hb he0 h hz
theorem okl_M_curses_l2 {l : Launch} {d : Nat} (hd : 6 ≤ d) {Q : Option Value → Sh → Mm → Prop} (K : Mm → Prop) (he0 : ∀ (x : Mm) (z1 : Option Value) (z2 : Option Value), K x → Wp l SM d (0, 0) mX11_curses 80 [some (.ref 0), z1, z2] [] x Q) : ∀ (n : Nat) (s : (Int32 × Mm)) (y : Mm) (z2 : Option Value) , iter n (fun s => M_curses_l2 s.1 s.2) s = some y → K y → Wp l SM d (0, 0) mX11_curses 2 [some (.ref 0), some (.int s.1), z2] [] s.2 Q := by
  intro n
  induction n with
  | zero => intro s y z2 h; cases h
  | succ n ih =>
    intro s y z2 h hK
    obtain ⟨z, hz, hn⟩ := iter_some h
    refine ok_M_curses_l2 hd s.1 s.2 _ (fun z => nxt n (fun s => M_curses_l2 s.1 s.2) z y) ?_ ?_ hz hn
    · intro s2 z2 h2
      exact ih s2 y _ h2 hK
    · intro x z1 z2 h2
      have h3 : x = y := h2
      subst h3
      exact he0 x _ _ hK
theorem ok_M_curses {l : Launch} {d : Nat} (hd : 6 ≤ d) (μ : Mm) {μ' : Mm} (h : M_curses μ = some μ') : Wp l SM d (0, 0) mX11_curses 0 [some (.ref 0), none, none] [] μ (Qv SM μ') := by
  unfold M_curses at h
  refine wp_iconst (nI 0) dX11_curses_0 rfl ?_
  refine wp_istore_n (L2 := [some (.ref 0), some (.int (nI 0)), none]) dX11_curses_1 (by decide) rfl rfl ?_
  obtain ⟨x2, hi, h⟩ := bni_some h
  refine okl_M_curses_l2 hd  (fun z => z = x2) ?_ 1000000 ((nI 0), μ) x2 _ hi rfl
  · intro y0 z1 z2 e0
    have e0 : y0 = x2 := e0
    subst e0
    obtain rfl := ret1 h
    exact wp_vret rfl dX11_curses_80 ⟨rfl, rfl, rfl⟩
theorem ok_M_goesBy_j15 {l : Launch} {d : Nat} (hd : 7 ≤ d) (s0 : Int32) (μ : Mm) (z1 : Option Value) {r : Int32} {μ' : Mm} (h : M_goesBy_j15 s0 μ = some (r, μ')) : Wp l SM d (0, 0) mX11_goesBy 15 [some (.ref 0), z1] [.int s0] μ (Qi SM r μ') := by
  unfold M_goesBy_j15 at h
  refine wp_istore_n (L2 := [some (.ref 0), some (.int s0)]) dX11_goesBy_15 (by decide) rfl rfl ?_
  refine wp_aload_n (x := 0) dX11_goesBy_16 rfl ?_
  obtain ⟨μ1, g1, h⟩ := bnd_some h
  refine wp_cVv (d := d - 1) (o := 0) cv_X11_351 (kltM kRootM) kRootM (as := []) (rest := []) dX11_goesBy_17 (by omega) cloM rfl rfl (Nat.le_of_ble_eq_true rfl) (Nat.le_of_ble_eq_true rfl) (ok_M_allWrite (by omega) μ g1) ?_ rfl
  refine wp_aload_n (x := 0) dX11_goesBy_20 rfl ?_
  obtain ⟨μ2, g1, h⟩ := bnd_some h
  refine wp_cVv (d := d - 1) (o := 0) cv_X11_354 (kltM kRootM) kRootM (as := []) (rest := []) dX11_goesBy_21 (by omega) cloM rfl rfl (Nat.le_of_ble_eq_true rfl) (Nat.le_of_ble_eq_true rfl) (ok_M_curses (by omega) μ1 g1) ?_ rfl
  refine wp_aload_n (x := 0) dX11_goesBy_24 rfl ?_
  refine wp_getR 1 fl_X11_7 (by decide) rfl (kltM kRootM) kRootM (ly11_1 kRootM).1 dX11_goesBy_25 ?_
  refine wp_iconst (nI 0) dX11_goesBy_28 rfl ?_
  refine wp_aload_n (x := 0) dX11_goesBy_29 rfl ?_
  refine wp_getR 1 fl_X11_7 (by decide) rfl (kltM kRootM) kRootM (ly11_1 kRootM).1 dX11_goesBy_30 ?_
  refine wp_iconst (nI 0) dX11_goesBy_33 rfl ?_
  obtain ⟨c1, h⟩ := chv_some h
  refine wp_ialde (kltM (ly11_1 kRootM).2.1) (ly11_1 kRootM).2.1 (ly11_1 kRootM).2.2 c1 dX11_goesBy_34 ?_
  refine wp_iconst (nI 1) dX11_goesBy_35 rfl ?_
  refine wp_iadd dX11_goesBy_36 ?_
  obtain ⟨c1, h⟩ := chv_some h
  obtain ⟨μ3, e1, h⟩ := lt_some h
  refine wp_iaste e1 (kltM (ly11_1 kRootM).2.1) (ly11_1 kRootM).2.1 (ly11_1 kRootM).2.2 c1 dX11_goesBy_37 ?_
  refine wp_iload_n (x := s0) dX11_goesBy_38 rfl ?_
  obtain ⟨rfl, rfl⟩ := ret2 h
  exact wp_iret rfl dX11_goesBy_39 ⟨rfl, rfl, rfl⟩
theorem ok_M_goesBy {l : Launch} {d : Nat} (hd : 7 ≤ d) (μ : Mm) {r : Int32} {μ' : Mm} (h : M_goesBy μ = some (r, μ')) : Wp l SM d (0, 0) mX11_goesBy 0 [some (.ref 0), none] [] μ (Qi SM r μ') := by
  unfold M_goesBy at h
  refine wp_aload_n (x := 0) dX11_goesBy_0 rfl ?_
  refine wp_getI fl_X11_137 (by decide) rfl (kltM kRootM) kRootM dX11_goesBy_1 ?_
  refine wp_if_ne 14 dX11_goesBy_4 (by decide) (fun c1 => ?_) (fun c1 => ?_)
  · rw [if_neg c1] at h
    refine wp_iconst (nI 0) dX11_goesBy_14 rfl ?_
    exact ok_M_goesBy_j15 hd (nI 0) μ _ h
  · rw [if_pos c1] at h
    refine wp_aload_n (x := 0) dX11_goesBy_7 rfl ?_
    obtain ⟨r5, μ4, g1, h⟩ := bnd2_some h
    refine wp_cVi (d := d - 1) (o := 0) cv_X11_348 (kltM kRootM) kRootM (as := []) (rest := []) dX11_goesBy_8 (by omega) cloM rfl rfl (Nat.le_of_ble_eq_true rfl) (Nat.le_of_ble_eq_true rfl) (ok_M_arrives (by omega) μ g1) ?_ rfl
    refine wp_goto 15 dX11_goesBy_11 (by decide) ?_
    exact ok_M_goesBy_j15 hd r5 μ4 _ h
theorem ok_M_days_l36 {l : Launch} {d : Nat} (hd : 8 ≤ d) (v1 : Int32)  (v2 : Int32)  (v3 : Int32)  (μ : Mm) {Q : Option Value → Sh → Mm → Prop} (K : (Int32 × Int32 × Mm) ⊕ (Int32 × Mm) → Prop) (hb : ∀ (s : (Int32 × Int32 × Mm)), K (Sum.inl s) → Wp l SM d (0, 0) mX11_days 36 [some (.ref 0), some (.int v1), some (.int s.1), some (.int s.2.1)] [] s.2.2 Q) (he0 : ∀ (x : (Int32 × Mm)) (z1 : Option Value) (z3 : Option Value), K (Sum.inr x) → Wp l SM d (0, 0) mX11_days 58 [some (.ref 0), z1, some (.int x.1), z3] [] x.2 Q) {z : (Int32 × Int32 × Mm) ⊕ (Int32 × Mm)} (h : M_days_l36 v1 v2 v3 μ = some z) (hz : K z) : Wp l SM d (0, 0) mX11_days 36 [some (.ref 0), some (.int v1), some (.int v2), some (.int v3)] [] μ Q := by
  unfold M_days_l36 at h
  refine wp_iload_n (x := v3) dX11_days_36 rfl ?_
  refine wp_iload_n (x := v1) dX11_days_37 rfl ?_
  refine wp_icmp_ge 58 dX11_days_38 (by decide) (fun c1 => ?_) (fun c1 => ?_)
  · rw [if_pos c1] at h
    obtain rfl := some1 h
    exact he0 (v2, μ) _ _ hz
  · rw [if_neg c1] at h
    refine wp_aload_n (x := 0) dX11_days_41 rfl ?_
    obtain ⟨μ3, g1, h⟩ := bnd_some h
    refine wp_cVv (d := d - 1) (o := 0) cv_X11_151 (kltM kRootM) kRootM (as := []) (rest := []) dX11_days_42 (by omega) cloM rfl rfl (Nat.le_of_ble_eq_true rfl) (Nat.le_of_ble_eq_true rfl) (ok_M_keepsAhead (by omega) μ g1) ?_ rfl
    refine wp_iload_n (x := v2) dX11_days_45 rfl ?_
    refine wp_aload_n (x := 0) dX11_days_46 rfl ?_
    obtain ⟨r5, μ4, g1, h⟩ := bnd2_some h
    refine wp_cVi (d := d - 1) (o := 0) cv_X11_357 (kltM kRootM) kRootM (as := []) (rest := [.int v2]) dX11_days_47 (by omega) cloM rfl rfl (Nat.le_of_ble_eq_true rfl) (Nat.le_of_ble_eq_true rfl) (ok_M_goesBy (by omega) μ3 g1) ?_ rfl
    refine wp_iadd dX11_days_50 ?_
    refine wp_istore_n (L2 := [some (.ref 0), some (.int v1), some (.int (v2 + r5)), some (.int v3)]) dX11_days_51 (by decide) rfl rfl ?_
    refine wp_iinc (x := v3) (k0 := (nI 1)) (L2 := [some (.ref 0), some (.int v1), some (.int (v2 + r5)), some (.int (v3 + (nI 1)))]) dX11_days_52 rfl rfl (by decide) rfl rfl ?_
    refine wp_goto 36 dX11_days_55 (by decide) ?_
    obtain rfl := some1 h
    exact hb ((v2 + r5), (v3 + (nI 1)), μ4) hz
theorem okl_M_days_l36 {l : Launch} {d : Nat} (hd : 8 ≤ d) (v1 : Int32)  {Q : Option Value → Sh → Mm → Prop} (K : (Int32 × Mm) → Prop) (he0 : ∀ (x : (Int32 × Mm)) (z1 : Option Value) (z3 : Option Value), K x → Wp l SM d (0, 0) mX11_days 58 [some (.ref 0), z1, some (.int x.1), z3] [] x.2 Q) : ∀ (n : Nat) (s : (Int32 × Int32 × Mm)) (y : (Int32 × Mm)) , iter n (fun s => M_days_l36 v1 s.1 s.2.1 s.2.2) s = some y → K y → Wp l SM d (0, 0) mX11_days 36 [some (.ref 0), some (.int v1), some (.int s.1), some (.int s.2.1)] [] s.2.2 Q := by
  intro n
  induction n with
  | zero => intro s y  h; cases h
  | succ n ih =>
    intro s y  h hK
    obtain ⟨z, hz, hn⟩ := iter_some h
    refine ok_M_days_l36 hd v1 s.1 s.2.1 s.2.2 (fun z => nxt n (fun s => M_days_l36 v1 s.1 s.2.1 s.2.2) z y) ?_ ?_ hz hn
    · intro s2  h2
      exact ih s2 y h2 hK
    · intro x z1 z3 h2
      have h3 : x = y := h2
      subst h3
      exact he0 x _ _ hK
theorem ok_M_days {l : Launch} {d : Nat} (hd : 8 ≤ d) (v1 : Int32)  (μ : Mm) {r : Int32} {μ' : Mm} (h : M_days v1 μ = some (r, μ')) : Wp l SM d (0, 0) mX11_days 0 [some (.ref 0), some (.int v1), none, none] [] μ (Qi SM r μ') := by
  unfold M_days at h
  refine wp_aload_n (x := 0) dX11_days_0 rfl ?_
  refine wp_iconst (nI 0) dX11_days_1 rfl ?_
  obtain ⟨μ1, e1, h⟩ := lt_some h
  refine wp_putIe e1 fl_X11_86 (by decide) rfl (kltM kRootM) kRootM dX11_days_2 ?_
  refine wp_aload_n (x := 0) dX11_days_5 rfl ?_
  refine wp_iload_n (x := v1) dX11_days_6 rfl ?_
  refine wp_iconst (nI 1) dX11_days_7 rfl ?_
  refine wp_bipush (nI 60) dX11_days_8 rfl ?_
  obtain ⟨r2, g1, h⟩ := bnd_some h
  refine wp_cVi (d := d - 1) (o := 0) cv_X11_113 (kltM kRootM) kRootM (as := [.int v1, .int (nI 1), .int (nI 60)]) (rest := []) dX11_days_10 (by omega) cloM rfl rfl (Nat.le_of_ble_eq_true rfl) (Nat.le_of_ble_eq_true rfl) (ok_M_isIn (by omega) v1 (nI 1) (nI 60) μ1 g1) ?_ rfl
  refine wp_if_eq 30 dX11_days_13 (by decide) (fun c1 => ?_) (fun c1 => ?_)
  · rw [if_pos c1] at h
    refine wp_iconst (-1) dX11_days_30 rfl ?_
    obtain ⟨rfl, rfl⟩ := ret2 h
    exact wp_iret rfl dX11_days_31 ⟨rfl, rfl, rfl⟩
  · rw [if_neg c1] at h
    refine wp_aload_n (x := 0) dX11_days_16 rfl ?_
    refine wp_getR 1 fl_X11_7 (by decide) rfl (kltM kRootM) kRootM (ly11_1 kRootM).1 dX11_days_17 ?_
    refine wp_iconst (nI 0) dX11_days_20 rfl ?_
    obtain ⟨c1, h⟩ := chv_some h
    refine wp_ialde (kltM (ly11_1 kRootM).2.1) (ly11_1 kRootM).2.1 (ly11_1 kRootM).2.2 c1 dX11_days_21 ?_
    refine wp_iload_n (x := v1) dX11_days_22 rfl ?_
    refine wp_iadd dX11_days_23 ?_
    refine wp_sipush (nI 9999) dX11_days_24 rfl ?_
    refine wp_icmp_le 32 dX11_days_27 (by decide) (fun c1 => ?_) (fun c1 => ?_)
    · rw [if_pos c1] at h
      refine wp_iconst (nI 0) dX11_days_32 rfl ?_
      refine wp_istore_n (L2 := [some (.ref 0), some (.int v1), some (.int (nI 0)), none]) dX11_days_33 (by decide) rfl rfl ?_
      refine wp_iconst (nI 0) dX11_days_34 rfl ?_
      refine wp_istore_n (L2 := [some (.ref 0), some (.int v1), some (.int (nI 0)), some (.int (nI 0))]) dX11_days_35 (by decide) rfl rfl ?_
      obtain ⟨x36, hi, h⟩ := bni_some h
      refine okl_M_days_l36 hd v1 (fun z => z = x36) ?_ 1000000 ((nI 0), (nI 0), μ1) x36 hi rfl
      · intro y0 z1 z3 e0
        have e0 : y0 = x36 := e0
        subst e0
        refine wp_iload_n (x := y0.1) dX11_days_58 rfl ?_
        obtain ⟨rfl, rfl⟩ := ret2 h
        exact wp_iret rfl dX11_days_59 ⟨rfl, rfl, rfl⟩
    · rw [if_neg c1] at h
      refine wp_iconst (-1) dX11_days_30 rfl ?_
      obtain ⟨rfl, rfl⟩ := ret2 h
      exact wp_iret rfl dX11_days_31 ⟨rfl, rfl, rfl⟩
theorem ok_M_hadBy {l : Launch} {d : Nat} (hd : 2 ≤ d) (v1 : Int32)  (μ : Mm) {r : Int32} (h : M_hadBy v1 μ = some r) : Wp l SM d (0, 0) mX11_hadBy 0 [some (.ref 0), some (.int v1)] [] μ (Qi SM r μ) := by
  unfold M_hadBy at h
  refine wp_aload_n (x := 0) dX11_hadBy_0 rfl ?_
  refine wp_aload_n (x := 0) dX11_hadBy_1 rfl ?_
  refine wp_getR 1 fl_X11_7 (by decide) rfl (kltM kRootM) kRootM (ly11_1 kRootM).1 dX11_hadBy_2 ?_
  refine wp_sipush (nI 215) dX11_hadBy_5 rfl ?_
  refine wp_iload_n (x := v1) dX11_hadBy_8 rfl ?_
  refine wp_iadd dX11_hadBy_9 ?_
  obtain ⟨c1, h⟩ := chv_some h
  refine wp_ialde (kltM (ly11_1 kRootM).2.1) (ly11_1 kRootM).2.1 (ly11_1 kRootM).2.2 c1 dX11_hadBy_10 ?_
  obtain ⟨r1, g1, h⟩ := bnd_some h
  refine wp_cVi (d := d - 1) (o := 0) cv_X11_299 (kltM kRootM) kRootM (as := [.int (μ.1 1 (ix ((nI 215) + v1)))]) (rest := []) dX11_hadBy_11 (by omega) cloM rfl rfl (Nat.le_of_ble_eq_true rfl) (Nat.le_of_ble_eq_true rfl) (ok_M_ones (by omega) (μ.1 1 (ix ((nI 215) + v1))) μ g1) ?_ rfl
  refine wp_aload_n (x := 0) dX11_hadBy_14 rfl ?_
  refine wp_aload_n (x := 0) dX11_hadBy_15 rfl ?_
  refine wp_getR 1 fl_X11_7 (by decide) rfl (kltM kRootM) kRootM (ly11_1 kRootM).1 dX11_hadBy_16 ?_
  refine wp_sipush (nI 231) dX11_hadBy_19 rfl ?_
  refine wp_iload_n (x := v1) dX11_hadBy_22 rfl ?_
  refine wp_iadd dX11_hadBy_23 ?_
  obtain ⟨c1, h⟩ := chv_some h
  refine wp_ialde (kltM (ly11_1 kRootM).2.1) (ly11_1 kRootM).2.1 (ly11_1 kRootM).2.2 c1 dX11_hadBy_24 ?_
  obtain ⟨r2, g1, h⟩ := bnd_some h
  refine wp_cVi (d := d - 1) (o := 0) cv_X11_299 (kltM kRootM) kRootM (as := [.int (μ.1 1 (ix ((nI 231) + v1)))]) (rest := [.int r1]) dX11_hadBy_25 (by omega) cloM rfl rfl (Nat.le_of_ble_eq_true rfl) (Nat.le_of_ble_eq_true rfl) (ok_M_ones (by omega) (μ.1 1 (ix ((nI 231) + v1))) μ g1) ?_ rfl
  refine wp_iadd dX11_hadBy_28 ?_
  obtain rfl := ret1 h
  exact wp_iret rfl dX11_hadBy_29 ⟨rfl, rfl, rfl⟩
theorem ok_M_of {l : Launch} {d : Nat} (hd : 3 ≤ d) (v1 : Int32)  (v2 : Int32)  (μ : Mm) {r : Int32} {μ' : Mm} (h : M_of v1 v2 μ = some (r, μ')) : Wp l SM d (0, 0) mX11_of 0 [some (.ref 0), some (.int v1), some (.int v2)] [] μ (Qi SM r μ') := by
  unfold M_of at h
  refine wp_aload_n (x := 0) dX11_of_0 rfl ?_
  refine wp_iconst (nI 0) dX11_of_1 rfl ?_
  obtain ⟨μ1, e1, h⟩ := lt_some h
  refine wp_putIe e1 fl_X11_86 (by decide) rfl (kltM kRootM) kRootM dX11_of_2 ?_
  refine wp_aload_n (x := 0) dX11_of_5 rfl ?_
  refine wp_iload_n (x := v1) dX11_of_6 rfl ?_
  obtain ⟨r2, g1, h⟩ := bnd_some h
  refine wp_cVi (d := d - 1) (o := 0) cv_X11_117 (kltM kRootM) kRootM (as := [.int v1]) (rest := []) dX11_of_7 (by omega) cloM rfl rfl (Nat.le_of_ble_eq_true rfl) (Nat.le_of_ble_eq_true rfl) (ok_M_isPerson (by omega) v1 μ1 g1) ?_ rfl
  refine wp_if_ne 15 dX11_of_10 (by decide) (fun c1 => ?_) (fun c1 => ?_)
  · rw [if_neg c1] at h
    refine wp_iload_n (x := v2) dX11_of_15 rfl ?_
    refine wp_if_ne 26 dX11_of_16 (by decide) (fun c1 => ?_) (fun c1 => ?_)
    · rw [if_neg c1] at h
      refine wp_iload_n (x := v2) dX11_of_26 rfl ?_
      refine wp_iconst (nI 1) dX11_of_27 rfl ?_
      refine wp_icmp_ne 38 dX11_of_28 (by decide) (fun c1 => ?_) (fun c1 => ?_)
      · rw [if_neg c1] at h
        refine wp_iload_n (x := v2) dX11_of_38 rfl ?_
        refine wp_iconst (nI 2) dX11_of_39 rfl ?_
        refine wp_icmp_ne 50 dX11_of_40 (by decide) (fun c1 => ?_) (fun c1 => ?_)
        · rw [if_neg c1] at h
          refine wp_iload_n (x := v2) dX11_of_50 rfl ?_
          refine wp_iconst (nI 3) dX11_of_51 rfl ?_
          refine wp_icmp_ne 66 dX11_of_52 (by decide) (fun c1 => ?_) (fun c1 => ?_)
          · rw [if_neg c1] at h
            refine wp_iload_n (x := v2) dX11_of_66 rfl ?_
            refine wp_iconst (nI 4) dX11_of_67 rfl ?_
            refine wp_icmp_ne 82 dX11_of_68 (by decide) (fun c1 => ?_) (fun c1 => ?_)
            · rw [if_neg c1] at h
              refine wp_iload_n (x := v2) dX11_of_82 rfl ?_
              refine wp_iconst (nI 5) dX11_of_83 rfl ?_
              refine wp_icmp_ne 101 dX11_of_84 (by decide) (fun c1 => ?_) (fun c1 => ?_)
              · rw [if_neg c1] at h
                refine wp_iload_n (x := v2) dX11_of_101 rfl ?_
                refine wp_bipush (nI 6) dX11_of_102 rfl ?_
                refine wp_icmp_ne 118 dX11_of_104 (by decide) (fun c1 => ?_) (fun c1 => ?_)
                · rw [if_neg c1] at h
                  refine wp_iload_n (x := v2) dX11_of_118 rfl ?_
                  refine wp_bipush (nI 7) dX11_of_119 rfl ?_
                  refine wp_icmp_ne 131 dX11_of_121 (by decide) (fun c1 => ?_) (fun c1 => ?_)
                  · rw [if_neg c1] at h
                    refine wp_iload_n (x := v2) dX11_of_131 rfl ?_
                    refine wp_bipush (nI 8) dX11_of_132 rfl ?_
                    refine wp_icmp_ne 148 dX11_of_134 (by decide) (fun c1 => ?_) (fun c1 => ?_)
                    · rw [if_neg c1] at h
                      refine wp_iload_n (x := v2) dX11_of_148 rfl ?_
                      refine wp_bipush (nI 9) dX11_of_149 rfl ?_
                      refine wp_icmp_ne 160 dX11_of_151 (by decide) (fun c1 => ?_) (fun c1 => ?_)
                      · rw [if_neg c1] at h
                        refine wp_iload_n (x := v2) dX11_of_160 rfl ?_
                        refine wp_bipush (nI 10) dX11_of_161 rfl ?_
                        refine wp_icmp_ne 177 dX11_of_163 (by decide) (fun c1 => ?_) (fun c1 => ?_)
                        · rw [if_neg c1] at h
                          refine wp_aload_n (x := 0) dX11_of_177 rfl ?_
                          refine wp_iload_n (x := v2) dX11_of_178 rfl ?_
                          refine wp_bipush (nI 20) dX11_of_179 rfl ?_
                          refine wp_bipush (nI 19) dX11_of_181 rfl ?_
                          refine wp_aload_n (x := 0) dX11_of_183 rfl ?_
                          refine wp_getR 7 fl_X11_28 (by decide) rfl (kltM kRootM) kRootM (ly11_11 kRootM).1 dX11_of_184 ?_
                          refine wp_iload_n (x := v1) dX11_of_187 rfl ?_
                          obtain ⟨c1, h⟩ := chv_some h
                          refine wp_ialde (kltM (ly11_11 kRootM).2.1) (ly11_11 kRootM).2.1 (ly11_11 kRootM).2.2 c1 dX11_of_188 ?_
                          refine wp_iadd dX11_of_189 ?_
                          obtain ⟨r3, g1, h⟩ := bnd_some h
                          refine wp_cVi (d := d - 1) (o := 0) cv_X11_113 (kltM kRootM) kRootM (as := [.int v2, .int (nI 20), .int ((nI 19) + (μ1.1 7 (ix v1)))]) (rest := []) dX11_of_190 (by omega) cloM rfl rfl (Nat.le_of_ble_eq_true rfl) (Nat.le_of_ble_eq_true rfl) (ok_M_isIn (by omega) v2 (nI 20) ((nI 19) + (μ1.1 7 (ix v1))) μ1 g1) ?_ rfl
                          refine wp_if_eq 213 dX11_of_193 (by decide) (fun c1 => ?_) (fun c1 => ?_)
                          · rw [if_pos c1] at h
                            refine wp_iconst (-1) dX11_of_213 rfl ?_
                            obtain ⟨rfl, rfl⟩ := ret2 h
                            exact wp_iret rfl dX11_of_214 ⟨rfl, rfl, rfl⟩
                          · rw [if_neg c1] at h
                            refine wp_aload_n (x := 0) dX11_of_196 rfl ?_
                            refine wp_getR 8 fl_X11_31 (by decide) rfl (kltM kRootM) kRootM (ly11_12 kRootM).1 dX11_of_197 ?_
                            refine wp_bipush (nI 9) dX11_of_200 rfl ?_
                            refine wp_iload_n (x := v1) dX11_of_202 rfl ?_
                            refine wp_imul dX11_of_203 ?_
                            refine wp_iload_n (x := v2) dX11_of_204 rfl ?_
                            refine wp_iadd dX11_of_205 ?_
                            refine wp_bipush (nI 20) dX11_of_206 rfl ?_
                            refine wp_isub dX11_of_208 ?_
                            obtain ⟨c1, h⟩ := chv_some h
                            refine wp_ialde (kltM (ly11_12 kRootM).2.1) (ly11_12 kRootM).2.1 (ly11_12 kRootM).2.2 c1 dX11_of_209 ?_
                            refine wp_goto 214 dX11_of_210 (by decide) ?_
                            obtain ⟨rfl, rfl⟩ := ret2 h
                            exact wp_iret rfl dX11_of_214 ⟨rfl, rfl, rfl⟩
                        · rw [if_pos c1] at h
                          refine wp_aload_n (x := 0) dX11_of_166 rfl ?_
                          refine wp_getR 1 fl_X11_7 (by decide) rfl (kltM kRootM) kRootM (ly11_1 kRootM).1 dX11_of_167 ?_
                          refine wp_sipush (nI 247) dX11_of_170 rfl ?_
                          refine wp_iload_n (x := v1) dX11_of_173 rfl ?_
                          refine wp_iadd dX11_of_174 ?_
                          obtain ⟨c1, h⟩ := chv_some h
                          refine wp_ialde (kltM (ly11_1 kRootM).2.1) (ly11_1 kRootM).2.1 (ly11_1 kRootM).2.2 c1 dX11_of_175 ?_
                          obtain ⟨rfl, rfl⟩ := ret2 h
                          exact wp_iret rfl dX11_of_176 ⟨rfl, rfl, rfl⟩
                      · rw [if_pos c1] at h
                        refine wp_aload_n (x := 0) dX11_of_154 rfl ?_
                        refine wp_iload_n (x := v1) dX11_of_155 rfl ?_
                        obtain ⟨r4, g1, h⟩ := bnd_some h
                        refine wp_cVi (d := d - 1) (o := 0) cv_X11_360 (kltM kRootM) kRootM (as := [.int v1]) (rest := []) dX11_of_156 (by omega) cloM rfl rfl (Nat.le_of_ble_eq_true rfl) (Nat.le_of_ble_eq_true rfl) (ok_M_hadBy (by omega) v1 μ1 g1) ?_ rfl
                        obtain ⟨rfl, rfl⟩ := ret2 h
                        exact wp_iret rfl dX11_of_159 ⟨rfl, rfl, rfl⟩
                    · rw [if_pos c1] at h
                      refine wp_aload_n (x := 0) dX11_of_137 rfl ?_
                      refine wp_getR 1 fl_X11_7 (by decide) rfl (kltM kRootM) kRootM (ly11_1 kRootM).1 dX11_of_138 ?_
                      refine wp_sipush (nI 167) dX11_of_141 rfl ?_
                      refine wp_iload_n (x := v1) dX11_of_144 rfl ?_
                      refine wp_iadd dX11_of_145 ?_
                      obtain ⟨c1, h⟩ := chv_some h
                      refine wp_ialde (kltM (ly11_1 kRootM).2.1) (ly11_1 kRootM).2.1 (ly11_1 kRootM).2.2 c1 dX11_of_146 ?_
                      obtain ⟨rfl, rfl⟩ := ret2 h
                      exact wp_iret rfl dX11_of_147 ⟨rfl, rfl, rfl⟩
                  · rw [if_pos c1] at h
                    refine wp_aload_n (x := 0) dX11_of_124 rfl ?_
                    refine wp_getR 7 fl_X11_28 (by decide) rfl (kltM kRootM) kRootM (ly11_11 kRootM).1 dX11_of_125 ?_
                    refine wp_iload_n (x := v1) dX11_of_128 rfl ?_
                    obtain ⟨c1, h⟩ := chv_some h
                    refine wp_ialde (kltM (ly11_11 kRootM).2.1) (ly11_11 kRootM).2.1 (ly11_11 kRootM).2.2 c1 dX11_of_129 ?_
                    obtain ⟨rfl, rfl⟩ := ret2 h
                    exact wp_iret rfl dX11_of_130 ⟨rfl, rfl, rfl⟩
                · rw [if_pos c1] at h
                  refine wp_aload_n (x := 0) dX11_of_107 rfl ?_
                  refine wp_getR 1 fl_X11_7 (by decide) rfl (kltM kRootM) kRootM (ly11_1 kRootM).1 dX11_of_108 ?_
                  refine wp_sipush (nI 263) dX11_of_111 rfl ?_
                  refine wp_iload_n (x := v1) dX11_of_114 rfl ?_
                  refine wp_iadd dX11_of_115 ?_
                  obtain ⟨c1, h⟩ := chv_some h
                  refine wp_ialde (kltM (ly11_1 kRootM).2.1) (ly11_1 kRootM).2.1 (ly11_1 kRootM).2.2 c1 dX11_of_116 ?_
                  obtain ⟨rfl, rfl⟩ := ret2 h
                  exact wp_iret rfl dX11_of_117 ⟨rfl, rfl, rfl⟩
              · rw [if_pos c1] at h
                refine wp_aload_n (x := 0) dX11_of_87 rfl ?_
                refine wp_iload_n (x := v1) dX11_of_88 rfl ?_
                obtain ⟨r5, g1, h⟩ := bnd_some h
                refine wp_cVi (d := d - 1) (o := 0) cv_X11_336 (kltM kRootM) kRootM (as := [.int v1]) (rest := []) dX11_of_89 (by omega) cloM rfl rfl (Nat.le_of_ble_eq_true rfl) (Nat.le_of_ble_eq_true rfl) (ok_M_isStopped (by omega) v1 μ1 g1) ?_ rfl
                refine wp_if_eq 99 dX11_of_92 (by decide) (fun c1 => ?_) (fun c1 => ?_)
                · rw [if_pos c1] at h
                  refine wp_iconst (nI 0) dX11_of_99 rfl ?_
                  obtain ⟨rfl, rfl⟩ := ret2 h
                  exact wp_iret rfl dX11_of_100 ⟨rfl, rfl, rfl⟩
                · rw [if_neg c1] at h
                  refine wp_iconst (nI 1) dX11_of_95 rfl ?_
                  refine wp_goto 100 dX11_of_96 (by decide) ?_
                  obtain ⟨rfl, rfl⟩ := ret2 h
                  exact wp_iret rfl dX11_of_100 ⟨rfl, rfl, rfl⟩
            · rw [if_pos c1] at h
              refine wp_aload_n (x := 0) dX11_of_71 rfl ?_
              refine wp_getR 1 fl_X11_7 (by decide) rfl (kltM kRootM) kRootM (ly11_1 kRootM).1 dX11_of_72 ?_
              refine wp_sipush (nI 199) dX11_of_75 rfl ?_
              refine wp_iload_n (x := v1) dX11_of_78 rfl ?_
              refine wp_iadd dX11_of_79 ?_
              obtain ⟨c1, h⟩ := chv_some h
              refine wp_ialde (kltM (ly11_1 kRootM).2.1) (ly11_1 kRootM).2.1 (ly11_1 kRootM).2.2 c1 dX11_of_80 ?_
              obtain ⟨rfl, rfl⟩ := ret2 h
              exact wp_iret rfl dX11_of_81 ⟨rfl, rfl, rfl⟩
          · rw [if_pos c1] at h
            refine wp_aload_n (x := 0) dX11_of_55 rfl ?_
            refine wp_getR 1 fl_X11_7 (by decide) rfl (kltM kRootM) kRootM (ly11_1 kRootM).1 dX11_of_56 ?_
            refine wp_sipush (nI 183) dX11_of_59 rfl ?_
            refine wp_iload_n (x := v1) dX11_of_62 rfl ?_
            refine wp_iadd dX11_of_63 ?_
            obtain ⟨c1, h⟩ := chv_some h
            refine wp_ialde (kltM (ly11_1 kRootM).2.1) (ly11_1 kRootM).2.1 (ly11_1 kRootM).2.2 c1 dX11_of_64 ?_
            obtain ⟨rfl, rfl⟩ := ret2 h
            exact wp_iret rfl dX11_of_65 ⟨rfl, rfl, rfl⟩
        · rw [if_pos c1] at h
          refine wp_aload_n (x := 0) dX11_of_43 rfl ?_
          refine wp_getR 6 fl_X11_25 (by decide) rfl (kltM kRootM) kRootM (ly11_9 kRootM).1 dX11_of_44 ?_
          refine wp_iload_n (x := v1) dX11_of_47 rfl ?_
          obtain ⟨c1, h⟩ := chv_some h
          refine wp_ialde (kltM (ly11_9 kRootM).2.1) (ly11_9 kRootM).2.1 (ly11_9 kRootM).2.2 c1 dX11_of_48 ?_
          obtain ⟨rfl, rfl⟩ := ret2 h
          exact wp_iret rfl dX11_of_49 ⟨rfl, rfl, rfl⟩
      · rw [if_pos c1] at h
        refine wp_aload_n (x := 0) dX11_of_31 rfl ?_
        refine wp_getR 5 fl_X11_22 (by decide) rfl (kltM kRootM) kRootM (ly11_8 kRootM).1 dX11_of_32 ?_
        refine wp_iload_n (x := v1) dX11_of_35 rfl ?_
        obtain ⟨c1, h⟩ := chv_some h
        refine wp_ialde (kltM (ly11_8 kRootM).2.1) (ly11_8 kRootM).2.1 (ly11_8 kRootM).2.2 c1 dX11_of_36 ?_
        obtain ⟨rfl, rfl⟩ := ret2 h
        exact wp_iret rfl dX11_of_37 ⟨rfl, rfl, rfl⟩
    · rw [if_pos c1] at h
      refine wp_aload_n (x := 0) dX11_of_19 rfl ?_
      refine wp_getR 4 fl_X11_19 (by decide) rfl (kltM kRootM) kRootM (ly11_7 kRootM).1 dX11_of_20 ?_
      refine wp_iload_n (x := v1) dX11_of_23 rfl ?_
      obtain ⟨c1, h⟩ := chv_some h
      refine wp_ialde (kltM (ly11_7 kRootM).2.1) (ly11_7 kRootM).2.1 (ly11_7 kRootM).2.2 c1 dX11_of_24 ?_
      obtain ⟨rfl, rfl⟩ := ret2 h
      exact wp_iret rfl dX11_of_25 ⟨rfl, rfl, rfl⟩
  · rw [if_pos c1] at h
    refine wp_iconst (-1) dX11_of_13 rfl ?_
    obtain ⟨rfl, rfl⟩ := ret2 h
    exact wp_iret rfl dX11_of_14 ⟨rfl, rfl, rfl⟩
theorem ok_M_addressesOf_l4 {l : Launch} {d : Nat} (hd : 1 ≤ d) (v1 : Int32)  (v2 : Int32)  (v3 : Int32)  (μ : Mm) {Q : Option Value → Sh → Mm → Prop} (K : (Int32 × Int32) ⊕ Int32 → Prop) (hb : ∀ (s : (Int32 × Int32)), K (Sum.inl s) → Wp l SM d (0, 0) mX11_addressesOf 4 [some (.ref 0), some (.int v1), some (.int s.1), some (.int s.2)] [] μ Q) (he0 : ∀ (x : Int32) (z1 : Option Value) (z3 : Option Value), K (Sum.inr x) → Wp l SM d (0, 0) mX11_addressesOf 36 [some (.ref 0), z1, some (.int x), z3] [] μ Q) {z : (Int32 × Int32) ⊕ Int32} (h : M_addressesOf_l4 v1 v2 v3 μ = some z) (hz : K z) : Wp l SM d (0, 0) mX11_addressesOf 4 [some (.ref 0), some (.int v1), some (.int v2), some (.int v3)] [] μ Q := by
  unfold M_addressesOf_l4 at h
  refine wp_iload_n (x := v3) dX11_addressesOf_4 rfl ?_
  refine wp_aload_n (x := 0) dX11_addressesOf_5 rfl ?_
  refine wp_getR 7 fl_X11_28 (by decide) rfl (kltM kRootM) kRootM (ly11_11 kRootM).1 dX11_addressesOf_6 ?_
  refine wp_iload_n (x := v1) dX11_addressesOf_9 rfl ?_
  obtain ⟨c1, h⟩ := chv_some h
  refine wp_ialde (kltM (ly11_11 kRootM).2.1) (ly11_11 kRootM).2.1 (ly11_11 kRootM).2.2 c1 dX11_addressesOf_10 ?_
  refine wp_icmp_ge 36 dX11_addressesOf_11 (by decide) (fun c1 => ?_) (fun c1 => ?_)
  · rw [if_pos c1] at h
    obtain rfl := some1 h
    exact he0 v2 _ _ hz
  · rw [if_neg c1] at h
    refine wp_iload_n (x := v2) dX11_addressesOf_14 rfl ?_
    refine wp_iconst (nI 1) dX11_addressesOf_15 rfl ?_
    refine wp_aload_n (x := 0) dX11_addressesOf_16 rfl ?_
    refine wp_getR 8 fl_X11_31 (by decide) rfl (kltM kRootM) kRootM (ly11_12 kRootM).1 dX11_addressesOf_17 ?_
    refine wp_bipush (nI 9) dX11_addressesOf_20 rfl ?_
    refine wp_iload_n (x := v1) dX11_addressesOf_22 rfl ?_
    refine wp_imul dX11_addressesOf_23 ?_
    refine wp_iload_n (x := v3) dX11_addressesOf_24 rfl ?_
    refine wp_iadd dX11_addressesOf_25 ?_
    obtain ⟨c1, h⟩ := chv_some h
    refine wp_ialde (kltM (ly11_12 kRootM).2.1) (ly11_12 kRootM).2.1 (ly11_12 kRootM).2.2 c1 dX11_addressesOf_26 ?_
    refine wp_ishl dX11_addressesOf_27 ?_
    refine wp_ior dX11_addressesOf_28 ?_
    obtain ⟨u1, e1, h⟩ := lt_some h
    rw [← e1]
    refine wp_istore_n (L2 := [some (.ref 0), some (.int v1), some (.int u1), some (.int v3)]) dX11_addressesOf_29 (by decide) rfl rfl ?_
    refine wp_iinc (x := v3) (k0 := (nI 1)) (L2 := [some (.ref 0), some (.int v1), some (.int u1), some (.int (v3 + (nI 1)))]) dX11_addressesOf_30 rfl rfl (by decide) rfl rfl ?_
    refine wp_goto 4 dX11_addressesOf_33 (by decide) ?_
    obtain rfl := some1 h
    exact hb (u1, (v3 + (nI 1))) hz
theorem okl_M_addressesOf_l4 {l : Launch} {d : Nat} (hd : 1 ≤ d) (v1 : Int32)  (μ : Mm) {Q : Option Value → Sh → Mm → Prop} (K : Int32 → Prop) (he0 : ∀ (x : Int32) (z1 : Option Value) (z3 : Option Value), K x → Wp l SM d (0, 0) mX11_addressesOf 36 [some (.ref 0), z1, some (.int x), z3] [] μ Q) : ∀ (n : Nat) (s : (Int32 × Int32)) (y : Int32) , iter n (fun s => M_addressesOf_l4 v1 s.1 s.2 μ) s = some y → K y → Wp l SM d (0, 0) mX11_addressesOf 4 [some (.ref 0), some (.int v1), some (.int s.1), some (.int s.2)] [] μ Q := by
  intro n
  induction n with
  | zero => intro s y  h; cases h
  | succ n ih =>
    intro s y  h hK
    obtain ⟨z, hz, hn⟩ := iter_some h
    refine ok_M_addressesOf_l4 hd v1 s.1 s.2 μ (fun z => nxt n (fun s => M_addressesOf_l4 v1 s.1 s.2 μ) z y) ?_ ?_ hz hn
    · intro s2  h2
      exact ih s2 y h2 hK
    · intro x z1 z3 h2
      have h3 : x = y := h2
      subst h3
      exact he0 x _ _ hK
theorem ok_M_addressesOf {l : Launch} {d : Nat} (hd : 1 ≤ d) (v1 : Int32)  (μ : Mm) {r : Int32} (h : M_addressesOf v1 μ = some r) : Wp l SM d (0, 0) mX11_addressesOf 0 [some (.ref 0), some (.int v1), none, none] [] μ (Qi SM r μ) := by
  unfold M_addressesOf at h
  refine wp_iconst (nI 0) dX11_addressesOf_0 rfl ?_
  refine wp_istore_n (L2 := [some (.ref 0), some (.int v1), some (.int (nI 0)), none]) dX11_addressesOf_1 (by decide) rfl rfl ?_
  refine wp_iconst (nI 0) dX11_addressesOf_2 rfl ?_
  refine wp_istore_n (L2 := [some (.ref 0), some (.int v1), some (.int (nI 0)), some (.int (nI 0))]) dX11_addressesOf_3 (by decide) rfl rfl ?_
  obtain ⟨x4, hi, h⟩ := bni_some h
  refine okl_M_addressesOf_l4 hd v1 μ (fun z => z = x4) ?_ 1000000 ((nI 0), (nI 0)) x4 hi rfl
  · intro y0 z1 z3 e0
    have e0 : y0 = x4 := e0
    subst e0
    refine wp_iload_n (x := y0) dX11_addressesOf_36 rfl ?_
    obtain rfl := ret1 h
    exact wp_iret rfl dX11_addressesOf_37 ⟨rfl, rfl, rfl⟩
theorem ok_M_stampsOf_j101 {l : Launch} {d : Nat} (hd : 2 ≤ d) (v1 : Int32)  (v2 : Int32)  (v3 : Int32)  (v4 : Int32)  (v5 : Int32)  (v6 : Int32)  (v7 : Int32)  (μ : Mm) {Q : Option Value → Sh → Mm → Prop} (K : (Int32 × Int32) ⊕ Int32 → Prop) (hb : ∀ (s : (Int32 × Int32)), K (Sum.inl s) → Wp l SM d (0, 0) mX11_stampsOf 35 [some (.ref 0), some (.int v1), some (.int v2), some (.int v3), some (.int v4), some (.int v5), some (.int s.1), some (.int s.2)] [] μ Q) (he0 : ∀ (x : Int32) (z7 : Option Value), K (Sum.inr x) → Wp l SM d (0, 0) mX11_stampsOf 107 [some (.ref 0), some (.int v1), some (.int v2), some (.int v3), some (.int v4), some (.int v5), some (.int x), z7] [] μ Q) {z : (Int32 × Int32) ⊕ Int32} (h : M_stampsOf_j101 v1 v2 v3 v4 v5 v6 v7 μ = some z) (hz : K z) : Wp l SM d (0, 0) mX11_stampsOf 101 [some (.ref 0), some (.int v1), some (.int v2), some (.int v3), some (.int v4), some (.int v5), some (.int v6), some (.int v7)] [] μ Q := by
  unfold M_stampsOf_j101 at h
  refine wp_iinc (x := v7) (k0 := (nI 1)) (L2 := [some (.ref 0), some (.int v1), some (.int v2), some (.int v3), some (.int v4), some (.int v5), some (.int v6), some (.int (v7 + (nI 1)))]) dX11_stampsOf_101 rfl rfl (by decide) rfl rfl ?_
  refine wp_goto 35 dX11_stampsOf_104 (by decide) ?_
  obtain rfl := some1 h
  exact hb (v6, (v7 + (nI 1))) hz
theorem ok_M_stampsOf_j97 {l : Launch} {d : Nat} (hd : 2 ≤ d) (v1 : Int32)  (v2 : Int32)  (v3 : Int32)  (v4 : Int32)  (v5 : Int32)  (v7 : Int32)  (μ : Mm) (z6 : Option Value) {Q : Option Value → Sh → Mm → Prop} (K : (Int32 × Int32) ⊕ Int32 → Prop) (hb : ∀ (s : (Int32 × Int32)), K (Sum.inl s) → Wp l SM d (0, 0) mX11_stampsOf 35 [some (.ref 0), some (.int v1), some (.int v2), some (.int v3), some (.int v4), some (.int v5), some (.int s.1), some (.int s.2)] [] μ Q) (he0 : ∀ (x : Int32) (z7 : Option Value), K (Sum.inr x) → Wp l SM d (0, 0) mX11_stampsOf 107 [some (.ref 0), some (.int v1), some (.int v2), some (.int v3), some (.int v4), some (.int v5), some (.int x), z7] [] μ Q) {z : (Int32 × Int32) ⊕ Int32} (h : M_stampsOf_j97 v1 v2 v3 v4 v5 v7 μ = some z) (hz : K z) : Wp l SM d (0, 0) mX11_stampsOf 97 [some (.ref 0), some (.int v1), some (.int v2), some (.int v3), some (.int v4), some (.int v5), z6, some (.int v7)] [] μ Q := by
  unfold M_stampsOf_j97 at h
  refine wp_iload (x := v7) dX11_stampsOf_97 rfl ?_
  refine wp_istore (L2 := [some (.ref 0), some (.int v1), some (.int v2), some (.int v3), some (.int v4), some (.int v5), some (.int v7), some (.int v7)]) dX11_stampsOf_99 (by decide) rfl rfl ?_
  exact ok_M_stampsOf_j101 hd v1 v2 v3 v4 v5 v7 v7 μ K hb he0 h hz
theorem ok_M_stampsOf_l35 {l : Launch} {d : Nat} (hd : 2 ≤ d) (v1 : Int32)  (v2 : Int32)  (v3 : Int32)  (v4 : Int32)  (v5 : Int32)  (v6 : Int32)  (v7 : Int32)  (μ : Mm) {Q : Option Value → Sh → Mm → Prop} (K : (Int32 × Int32) ⊕ Int32 → Prop) (hb : ∀ (s : (Int32 × Int32)), K (Sum.inl s) → Wp l SM d (0, 0) mX11_stampsOf 35 [some (.ref 0), some (.int v1), some (.int v2), some (.int v3), some (.int v4), some (.int v5), some (.int s.1), some (.int s.2)] [] μ Q) (he0 : ∀ (x : Int32) (z7 : Option Value), K (Sum.inr x) → Wp l SM d (0, 0) mX11_stampsOf 107 [some (.ref 0), some (.int v1), some (.int v2), some (.int v3), some (.int v4), some (.int v5), some (.int x), z7] [] μ Q) {z : (Int32 × Int32) ⊕ Int32} (h : M_stampsOf_l35 v1 v2 v3 v4 v5 v6 v7 μ = some z) (hz : K z) : Wp l SM d (0, 0) mX11_stampsOf 35 [some (.ref 0), some (.int v1), some (.int v2), some (.int v3), some (.int v4), some (.int v5), some (.int v6), some (.int v7)] [] μ Q := by
  unfold M_stampsOf_l35 at h
  refine wp_iload (x := v7) dX11_stampsOf_35 rfl ?_
  refine wp_aload_n (x := 0) dX11_stampsOf_37 rfl ?_
  refine wp_getI fl_X11_107 (by decide) rfl (kltM kRootM) kRootM dX11_stampsOf_38 ?_
  refine wp_icmp_ge 107 dX11_stampsOf_41 (by decide) (fun c1 => ?_) (fun c1 => ?_)
  · rw [if_pos c1] at h
    obtain rfl := some1 h
    exact he0 v6 _ hz
  · rw [if_neg c1] at h
    refine wp_iload_n (x := v3) dX11_stampsOf_44 rfl ?_
    refine wp_iload (x := v7) dX11_stampsOf_45 rfl ?_
    refine wp_ishr dX11_stampsOf_47 ?_
    refine wp_iconst (nI 1) dX11_stampsOf_48 rfl ?_
    refine wp_iand dX11_stampsOf_49 ?_
    refine wp_iconst (nI 1) dX11_stampsOf_50 rfl ?_
    refine wp_icmp_ne 101 dX11_stampsOf_51 (by decide) (fun c1 => ?_) (fun c1 => ?_)
    · rw [if_neg c1] at h
      exact ok_M_stampsOf_j101 hd v1 v2 v3 v4 v5 v6 v7 μ K hb he0 h hz
    · rw [if_pos c1] at h
      refine wp_iload (x := v6) dX11_stampsOf_54 rfl ?_
      refine wp_iconst (-1) dX11_stampsOf_56 rfl ?_
      refine wp_icmp_eq 97 dX11_stampsOf_57 (by decide) (fun c1 => ?_) (fun c1 => ?_)
      · rw [if_pos c1] at h
        exact ok_M_stampsOf_j97 hd v1 v2 v3 v4 v5 v7 μ _ K hb he0 h hz
      · rw [if_neg c1] at h
        refine wp_aload_n (x := 0) dX11_stampsOf_60 rfl ?_
        refine wp_aload_n (x := 0) dX11_stampsOf_61 rfl ?_
        refine wp_getR 4 fl_X11_19 (by decide) rfl (kltM kRootM) kRootM (ly11_7 kRootM).1 dX11_stampsOf_62 ?_
        refine wp_iload_n (x := v1) dX11_stampsOf_65 rfl ?_
        obtain ⟨c1, h⟩ := chv_some h
        refine wp_ialde (kltM (ly11_7 kRootM).2.1) (ly11_7 kRootM).2.1 (ly11_7 kRootM).2.2 c1 dX11_stampsOf_66 ?_
        refine wp_aload_n (x := 0) dX11_stampsOf_67 rfl ?_
        refine wp_getR 4 fl_X11_19 (by decide) rfl (kltM kRootM) kRootM (ly11_7 kRootM).1 dX11_stampsOf_68 ?_
        refine wp_iload (x := v7) dX11_stampsOf_71 rfl ?_
        obtain ⟨c1, h⟩ := chv_some h
        refine wp_ialde (kltM (ly11_7 kRootM).2.1) (ly11_7 kRootM).2.1 (ly11_7 kRootM).2.2 c1 dX11_stampsOf_73 ?_
        obtain ⟨r3, g1, h⟩ := bnd_some h
        refine wp_cVi (d := d - 1) (o := 0) cv_X11_318 (kltM kRootM) kRootM (as := [.int (μ.1 4 (ix v1)), .int (μ.1 4 (ix v7))]) (rest := []) dX11_stampsOf_74 (by omega) cloM rfl rfl (Nat.le_of_ble_eq_true rfl) (Nat.le_of_ble_eq_true rfl) (ok_M_postOf (by omega) (μ.1 4 (ix v1)) (μ.1 4 (ix v7)) μ g1) ?_ rfl
        refine wp_aload_n (x := 0) dX11_stampsOf_77 rfl ?_
        refine wp_aload_n (x := 0) dX11_stampsOf_78 rfl ?_
        refine wp_getR 4 fl_X11_19 (by decide) rfl (kltM kRootM) kRootM (ly11_7 kRootM).1 dX11_stampsOf_79 ?_
        refine wp_iload_n (x := v1) dX11_stampsOf_82 rfl ?_
        obtain ⟨c1, h⟩ := chv_some h
        refine wp_ialde (kltM (ly11_7 kRootM).2.1) (ly11_7 kRootM).2.1 (ly11_7 kRootM).2.2 c1 dX11_stampsOf_83 ?_
        refine wp_aload_n (x := 0) dX11_stampsOf_84 rfl ?_
        refine wp_getR 4 fl_X11_19 (by decide) rfl (kltM kRootM) kRootM (ly11_7 kRootM).1 dX11_stampsOf_85 ?_
        refine wp_iload (x := v6) dX11_stampsOf_88 rfl ?_
        obtain ⟨c1, h⟩ := chv_some h
        refine wp_ialde (kltM (ly11_7 kRootM).2.1) (ly11_7 kRootM).2.1 (ly11_7 kRootM).2.2 c1 dX11_stampsOf_90 ?_
        obtain ⟨r4, g1, h⟩ := bnd_some h
        refine wp_cVi (d := d - 1) (o := 0) cv_X11_318 (kltM kRootM) kRootM (as := [.int (μ.1 4 (ix v1)), .int (μ.1 4 (ix v6))]) (rest := [.int r3]) dX11_stampsOf_91 (by omega) cloM rfl rfl (Nat.le_of_ble_eq_true rfl) (Nat.le_of_ble_eq_true rfl) (ok_M_postOf (by omega) (μ.1 4 (ix v1)) (μ.1 4 (ix v6)) μ g1) ?_ rfl
        refine wp_icmp_ge 101 dX11_stampsOf_94 (by decide) (fun c1 => ?_) (fun c1 => ?_)
        · rw [if_pos c1] at h
          exact ok_M_stampsOf_j101 hd v1 v2 v3 v4 v5 v6 v7 μ K hb he0 h hz
        · rw [if_neg c1] at h
          exact ok_M_stampsOf_j97 hd v1 v2 v3 v4 v5 v7 μ _ K hb he0 h hz
theorem okl_M_stampsOf_l35 {l : Launch} {d : Nat} (hd : 2 ≤ d) (v1 : Int32)  (v2 : Int32)  (v3 : Int32)  (v4 : Int32)  (v5 : Int32)  (μ : Mm) {Q : Option Value → Sh → Mm → Prop} (K : Int32 → Prop) (he0 : ∀ (x : Int32) (z7 : Option Value), K x → Wp l SM d (0, 0) mX11_stampsOf 107 [some (.ref 0), some (.int v1), some (.int v2), some (.int v3), some (.int v4), some (.int v5), some (.int x), z7] [] μ Q) : ∀ (n : Nat) (s : (Int32 × Int32)) (y : Int32) , iter n (fun s => M_stampsOf_l35 v1 v2 v3 v4 v5 s.1 s.2 μ) s = some y → K y → Wp l SM d (0, 0) mX11_stampsOf 35 [some (.ref 0), some (.int v1), some (.int v2), some (.int v3), some (.int v4), some (.int v5), some (.int s.1), some (.int s.2)] [] μ Q := by
  intro n
  induction n with
  | zero => intro s y  h; cases h
  | succ n ih =>
    intro s y  h hK
    obtain ⟨z, hz, hn⟩ := iter_some h
    refine ok_M_stampsOf_l35 hd v1 v2 v3 v4 v5 s.1 s.2 μ (fun z => nxt n (fun s => M_stampsOf_l35 v1 v2 v3 v4 v5 s.1 s.2 μ) z y) ?_ ?_ hz hn
    · intro s2  h2
      exact ih s2 y h2 hK
    · intro x z7 h2
      have h3 : x = y := h2
      subst h3
      exact he0 x _ hK
theorem ok_M_stampsOf_l23 {l : Launch} {d : Nat} (hd : 2 ≤ d) (v1 : Int32)  (v2 : Int32)  (v3 : Int32)  (v4 : Int32)  (v5 : Int32)  (μ : Mm) (z6 : Option Value) (z7 : Option Value) {Q : Option Value → Sh → Mm → Prop} (K : (Int32 × Int32 × Int32) ⊕ Int32 → Prop) (hb : ∀ (s : (Int32 × Int32 × Int32)) (z6 : Option Value) (z7 : Option Value), K (Sum.inl s) → Wp l SM d (0, 0) mX11_stampsOf 23 [some (.ref 0), some (.int v1), some (.int v2), some (.int s.1), some (.int s.2.1), some (.int s.2.2), z6, z7] [] μ Q) (he0 : ∀ (x : Int32) (z1 : Option Value) (z2 : Option Value) (z3 : Option Value) (z5 : Option Value) (z6 : Option Value) (z7 : Option Value), K (Sum.inr x) → Wp l SM d (0, 0) mX11_stampsOf 144 [some (.ref 0), z1, z2, z3, some (.int x), z5, z6, z7] [] μ Q) {z : (Int32 × Int32 × Int32) ⊕ Int32} (h : M_stampsOf_l23 v1 v2 v3 v4 v5 μ = some z) (hz : K z) : Wp l SM d (0, 0) mX11_stampsOf 23 [some (.ref 0), some (.int v1), some (.int v2), some (.int v3), some (.int v4), some (.int v5), z6, z7] [] μ Q := by
  unfold M_stampsOf_l23 at h
  refine wp_iload (x := v5) dX11_stampsOf_23 rfl ?_
  refine wp_iload_n (x := v2) dX11_stampsOf_25 rfl ?_
  refine wp_icmp_ge 144 dX11_stampsOf_26 (by decide) (fun c1 => ?_) (fun c1 => ?_)
  · rw [if_pos c1] at h
    obtain rfl := some1 h
    exact he0 v4 _ _ _ _ _ _ hz
  · rw [if_neg c1] at h
    refine wp_iconst (-1) dX11_stampsOf_29 rfl ?_
    refine wp_istore (L2 := [some (.ref 0), some (.int v1), some (.int v2), some (.int v3), some (.int v4), some (.int v5), some (.int (-1)), z7]) dX11_stampsOf_30 (by decide) rfl rfl ?_
    refine wp_iconst (nI 0) dX11_stampsOf_32 rfl ?_
    refine wp_istore (L2 := [some (.ref 0), some (.int v1), some (.int v2), some (.int v3), some (.int v4), some (.int v5), some (.int (-1)), some (.int (nI 0))]) dX11_stampsOf_33 (by decide) rfl rfl ?_
    obtain ⟨x35, hi, h⟩ := bni_some h
    refine okl_M_stampsOf_l35 hd v1 v2 v3 v4 v5 μ (fun z => z = x35) ?_ 1000000 ((-1), (nI 0)) x35 hi rfl
    · intro y0 z7 e0
      have e0 : y0 = x35 := e0
      subst e0
      refine wp_iload (x := v4) dX11_stampsOf_107 rfl ?_
      refine wp_aload_n (x := 0) dX11_stampsOf_109 rfl ?_
      refine wp_aload_n (x := 0) dX11_stampsOf_110 rfl ?_
      refine wp_getR 4 fl_X11_19 (by decide) rfl (kltM kRootM) kRootM (ly11_7 kRootM).1 dX11_stampsOf_111 ?_
      refine wp_iload_n (x := v1) dX11_stampsOf_114 rfl ?_
      obtain ⟨c1, h⟩ := chv_some h
      refine wp_ialde (kltM (ly11_7 kRootM).2.1) (ly11_7 kRootM).2.1 (ly11_7 kRootM).2.2 c1 dX11_stampsOf_115 ?_
      refine wp_aload_n (x := 0) dX11_stampsOf_116 rfl ?_
      refine wp_getR 4 fl_X11_19 (by decide) rfl (kltM kRootM) kRootM (ly11_7 kRootM).1 dX11_stampsOf_117 ?_
      refine wp_iload (x := y0) dX11_stampsOf_120 rfl ?_
      obtain ⟨c1, h⟩ := chv_some h
      refine wp_ialde (kltM (ly11_7 kRootM).2.1) (ly11_7 kRootM).2.1 (ly11_7 kRootM).2.2 c1 dX11_stampsOf_122 ?_
      obtain ⟨r5, g1, h⟩ := bnd_some h
      refine wp_cVi (d := d - 1) (o := 0) cv_X11_318 (kltM kRootM) kRootM (as := [.int (μ.1 4 (ix v1)), .int (μ.1 4 (ix y0))]) (rest := [.int v4]) dX11_stampsOf_123 (by omega) cloM rfl rfl (Nat.le_of_ble_eq_true rfl) (Nat.le_of_ble_eq_true rfl) (ok_M_postOf (by omega) (μ.1 4 (ix v1)) (μ.1 4 (ix y0)) μ g1) ?_ rfl
      refine wp_iadd dX11_stampsOf_126 ?_
      refine wp_istore (L2 := [some (.ref 0), some (.int v1), some (.int v2), some (.int v3), some (.int (v4 + r5)), some (.int v5), some (.int y0), z7]) dX11_stampsOf_127 (by decide) rfl rfl ?_
      refine wp_iload_n (x := v3) dX11_stampsOf_129 rfl ?_
      refine wp_iconst (nI 1) dX11_stampsOf_130 rfl ?_
      refine wp_iload (x := y0) dX11_stampsOf_131 rfl ?_
      refine wp_ishl dX11_stampsOf_133 ?_
      refine wp_iconst (-1) dX11_stampsOf_134 rfl ?_
      refine wp_ixor dX11_stampsOf_135 ?_
      refine wp_iand dX11_stampsOf_136 ?_
      obtain ⟨u6, e1, h⟩ := lt_some h
      rw [← e1]
      refine wp_istore_n (L2 := [some (.ref 0), some (.int v1), some (.int v2), some (.int u6), some (.int (v4 + r5)), some (.int v5), some (.int y0), z7]) dX11_stampsOf_137 (by decide) rfl rfl ?_
      refine wp_iinc (x := v5) (k0 := (nI 1)) (L2 := [some (.ref 0), some (.int v1), some (.int v2), some (.int u6), some (.int (v4 + r5)), some (.int (v5 + (nI 1))), some (.int y0), z7]) dX11_stampsOf_138 rfl rfl (by decide) rfl rfl ?_
      refine wp_goto 23 dX11_stampsOf_141 (by decide) ?_
      obtain rfl := some1 h
      exact hb (u6, (v4 + r5), (v5 + (nI 1))) _ _ hz
theorem okl_M_stampsOf_l23 {l : Launch} {d : Nat} (hd : 2 ≤ d) (v1 : Int32)  (v2 : Int32)  (μ : Mm) {Q : Option Value → Sh → Mm → Prop} (K : Int32 → Prop) (he0 : ∀ (x : Int32) (z1 : Option Value) (z2 : Option Value) (z3 : Option Value) (z5 : Option Value) (z6 : Option Value) (z7 : Option Value), K x → Wp l SM d (0, 0) mX11_stampsOf 144 [some (.ref 0), z1, z2, z3, some (.int x), z5, z6, z7] [] μ Q) : ∀ (n : Nat) (s : (Int32 × Int32 × Int32)) (y : Int32) (z6 : Option Value) (z7 : Option Value) , iter n (fun s => M_stampsOf_l23 v1 v2 s.1 s.2.1 s.2.2 μ) s = some y → K y → Wp l SM d (0, 0) mX11_stampsOf 23 [some (.ref 0), some (.int v1), some (.int v2), some (.int s.1), some (.int s.2.1), some (.int s.2.2), z6, z7] [] μ Q := by
  intro n
  induction n with
  | zero => intro s y z6 z7 h; cases h
  | succ n ih =>
    intro s y z6 z7 h hK
    obtain ⟨z, hz, hn⟩ := iter_some h
    refine ok_M_stampsOf_l23 hd v1 v2 s.1 s.2.1 s.2.2 μ _ _ (fun z => nxt n (fun s => M_stampsOf_l23 v1 v2 s.1 s.2.1 s.2.2 μ) z y) ?_ ?_ hz hn
    · intro s2 z6 z7 h2
      exact ih s2 y _ _ h2 hK
    · intro x z1 z2 z3 z5 z6 z7 h2
      have h3 : x = y := h2
      subst h3
      exact he0 x _ _ _ _ _ _ hK
theorem ok_M_stampsOf {l : Launch} {d : Nat} (hd : 2 ≤ d) (v1 : Int32)  (v2 : Int32)  (μ : Mm) {r : Int32} (h : M_stampsOf v1 v2 μ = some r) : Wp l SM d (0, 0) mX11_stampsOf 0 [some (.ref 0), some (.int v1), some (.int v2), none, none, none, none, none] [] μ (Qi SM r μ) := by
  unfold M_stampsOf at h
  refine wp_aload_n (x := 0) dX11_stampsOf_0 rfl ?_
  refine wp_iload_n (x := v1) dX11_stampsOf_1 rfl ?_
  obtain ⟨r1, g1, h⟩ := bnd_some h
  refine wp_cVi (d := d - 1) (o := 0) cv_X11_399 (kltM kRootM) kRootM (as := [.int v1]) (rest := []) dX11_stampsOf_2 (by omega) cloM rfl rfl (Nat.le_of_ble_eq_true rfl) (Nat.le_of_ble_eq_true rfl) (ok_M_addressesOf (by omega) v1 μ g1) ?_ rfl
  refine wp_istore_n (L2 := [some (.ref 0), some (.int v1), some (.int v2), some (.int r1), none, none, none, none]) dX11_stampsOf_5 (by decide) rfl rfl ?_
  refine wp_iconst (nI 0) dX11_stampsOf_6 rfl ?_
  refine wp_istore (L2 := [some (.ref 0), some (.int v1), some (.int v2), some (.int r1), some (.int (nI 0)), none, none, none]) dX11_stampsOf_7 (by decide) rfl rfl ?_
  refine wp_aload_n (x := 0) dX11_stampsOf_9 rfl ?_
  refine wp_iload_n (x := r1) dX11_stampsOf_10 rfl ?_
  obtain ⟨r2, g1, h⟩ := bnd_some h
  refine wp_cVi (d := d - 1) (o := 0) cv_X11_299 (kltM kRootM) kRootM (as := [.int r1]) (rest := []) dX11_stampsOf_11 (by omega) cloM rfl rfl (Nat.le_of_ble_eq_true rfl) (Nat.le_of_ble_eq_true rfl) (ok_M_ones (by omega) r1 μ g1) ?_ rfl
  refine wp_iload_n (x := v2) dX11_stampsOf_14 rfl ?_
  refine wp_icmp_ge 20 dX11_stampsOf_15 (by decide) (fun c1 => ?_) (fun c1 => ?_)
  · rw [if_pos c1] at h
    refine wp_iconst (nI 0) dX11_stampsOf_20 rfl ?_
    refine wp_istore (L2 := [some (.ref 0), some (.int v1), some (.int v2), some (.int r1), some (.int (nI 0)), some (.int (nI 0)), none, none]) dX11_stampsOf_21 (by decide) rfl rfl ?_
    obtain ⟨x23, hi, h⟩ := bni_some h
    refine okl_M_stampsOf_l23 hd v1 v2 μ (fun z => z = x23) ?_ 1000000 (r1, (nI 0), (nI 0)) x23 _ _ hi rfl
    · intro y0 z1 z2 z3 z5 z6 z7 e0
      have e0 : y0 = x23 := e0
      subst e0
      refine wp_iload (x := y0) dX11_stampsOf_144 rfl ?_
      obtain rfl := ret1 h
      exact wp_iret rfl dX11_stampsOf_146 ⟨rfl, rfl, rfl⟩
  · rw [if_neg c1] at h
    refine wp_iconst (-1) dX11_stampsOf_18 rfl ?_
    obtain rfl := ret1 h
    exact wp_iret rfl dX11_stampsOf_19 ⟨rfl, rfl, rfl⟩
theorem ok_M_letter {l : Launch} {d : Nat} (hd : 5 ≤ d) (v1 : Int32)  (v2 : Int32)  (v3 : Int32)  (μ : Mm) {r : Int32} {μ' : Mm} (h : M_letter v1 v2 v3 μ = some (r, μ')) : Wp l SM d (0, 0) mX11_letter 0 [some (.ref 0), some (.int v1), some (.int v2), some (.int v3), none] [] μ (Qi SM r μ') := by
  unfold M_letter at h
  refine wp_aload_n (x := 0) dX11_letter_0 rfl ?_
  refine wp_iconst (nI 0) dX11_letter_1 rfl ?_
  obtain ⟨μ1, e1, h⟩ := lt_some h
  refine wp_putIe e1 fl_X11_86 (by decide) rfl (kltM kRootM) kRootM dX11_letter_2 ?_
  refine wp_aload_n (x := 0) dX11_letter_5 rfl ?_
  refine wp_iload_n (x := v1) dX11_letter_6 rfl ?_
  refine wp_iload_n (x := v2) dX11_letter_7 rfl ?_
  obtain ⟨r2, g1, h⟩ := bnd_some h
  refine wp_cVi (d := d - 1) (o := 0) cv_X11_158 (kltM kRootM) kRootM (as := [.int v1, .int v2]) (rest := []) dX11_letter_8 (by omega) cloM rfl rfl (Nat.le_of_ble_eq_true rfl) (Nat.le_of_ble_eq_true rfl) (ok_M_hasLetter (by omega) v1 v2 μ1 g1) ?_ rfl
  refine wp_if_eq 25 dX11_letter_11 (by decide) (fun c1 => ?_) (fun c1 => ?_)
  · rw [if_pos c1] at h
    refine wp_bipush (-2) dX11_letter_25 rfl ?_
    obtain ⟨rfl, rfl⟩ := ret2 h
    exact wp_iret rfl dX11_letter_27 ⟨rfl, rfl, rfl⟩
  · rw [if_neg c1] at h
    refine wp_aload_n (x := 0) dX11_letter_14 rfl ?_
    refine wp_iload_n (x := v3) dX11_letter_15 rfl ?_
    refine wp_iconst (nI 0) dX11_letter_16 rfl ?_
    refine wp_bipush (nI 6) dX11_letter_17 rfl ?_
    obtain ⟨r3, g1, h⟩ := bnd_some h
    refine wp_cVi (d := d - 1) (o := 0) cv_X11_113 (kltM kRootM) kRootM (as := [.int v3, .int (nI 0), .int (nI 6)]) (rest := []) dX11_letter_19 (by omega) cloM rfl rfl (Nat.le_of_ble_eq_true rfl) (Nat.le_of_ble_eq_true rfl) (ok_M_isIn (by omega) v3 (nI 0) (nI 6) μ1 g1) ?_ rfl
    refine wp_if_ne 28 dX11_letter_22 (by decide) (fun c1 => ?_) (fun c1 => ?_)
    · rw [if_neg c1] at h
      refine wp_aload_n (x := 0) dX11_letter_28 rfl ?_
      refine wp_iload_n (x := v1) dX11_letter_29 rfl ?_
      refine wp_iload_n (x := v2) dX11_letter_30 rfl ?_
      obtain ⟨r4, g1, h⟩ := bnd_some h
      refine wp_cVi (d := d - 1) (o := 0) cv_X11_144 (kltM kRootM) kRootM (as := [.int v1, .int v2]) (rest := []) dX11_letter_31 (by omega) cloM rfl rfl (Nat.le_of_ble_eq_true rfl) (Nat.le_of_ble_eq_true rfl) (ok_M_letterAt (by omega) v1 v2 μ1 g1) ?_ rfl
      refine wp_istore (L2 := [some (.ref 0), some (.int v1), some (.int v2), some (.int v3), some (.int r4)]) dX11_letter_34 (by decide) rfl rfl ?_
      refine wp_iload_n (x := v3) dX11_letter_36 rfl ?_
      refine wp_if_ne 50 dX11_letter_37 (by decide) (fun c1 => ?_) (fun c1 => ?_)
      · rw [if_neg c1] at h
        refine wp_iload_n (x := v3) dX11_letter_50 rfl ?_
        refine wp_iconst (nI 1) dX11_letter_51 rfl ?_
        refine wp_icmp_ne 67 dX11_letter_52 (by decide) (fun c1 => ?_) (fun c1 => ?_)
        · rw [if_neg c1] at h
          refine wp_iload_n (x := v3) dX11_letter_67 rfl ?_
          refine wp_iconst (nI 2) dX11_letter_68 rfl ?_
          refine wp_icmp_ne 82 dX11_letter_69 (by decide) (fun c1 => ?_) (fun c1 => ?_)
          · rw [if_neg c1] at h
            refine wp_iload_n (x := v3) dX11_letter_82 rfl ?_
            refine wp_iconst (nI 3) dX11_letter_83 rfl ?_
            refine wp_icmp_ne 97 dX11_letter_84 (by decide) (fun c1 => ?_) (fun c1 => ?_)
            · rw [if_neg c1] at h
              refine wp_iload_n (x := v3) dX11_letter_97 rfl ?_
              refine wp_iconst (nI 4) dX11_letter_98 rfl ?_
              refine wp_icmp_ne 111 dX11_letter_99 (by decide) (fun c1 => ?_) (fun c1 => ?_)
              · rw [if_neg c1] at h
                refine wp_iload_n (x := v3) dX11_letter_111 rfl ?_
                refine wp_iconst (nI 5) dX11_letter_112 rfl ?_
                refine wp_icmp_ne 125 dX11_letter_113 (by decide) (fun c1 => ?_) (fun c1 => ?_)
                · rw [if_neg c1] at h
                  refine wp_aload_n (x := 0) dX11_letter_125 rfl ?_
                  refine wp_iload_n (x := v1) dX11_letter_126 rfl ?_
                  refine wp_aload_n (x := 0) dX11_letter_127 rfl ?_
                  refine wp_getR 1 fl_X11_7 (by decide) rfl (kltM kRootM) kRootM (ly11_1 kRootM).1 dX11_letter_128 ?_
                  refine wp_iload (x := r4) dX11_letter_131 rfl ?_
                  refine wp_iconst (nI 3) dX11_letter_133 rfl ?_
                  refine wp_iadd dX11_letter_134 ?_
                  obtain ⟨c1, h⟩ := chv_some h
                  refine wp_ialde (kltM (ly11_1 kRootM).2.1) (ly11_1 kRootM).2.1 (ly11_1 kRootM).2.2 c1 dX11_letter_135 ?_
                  obtain ⟨r5, g1, h⟩ := bnd_some h
                  refine wp_cVi (d := d - 1) (o := 0) cv_X11_363 (kltM kRootM) kRootM (as := [.int v1, .int (μ1.1 1 (ix (r4 + (nI 3))))]) (rest := []) dX11_letter_136 (by omega) cloM rfl rfl (Nat.le_of_ble_eq_true rfl) (Nat.le_of_ble_eq_true rfl) (ok_M_stampsOf (by omega) v1 (μ1.1 1 (ix (r4 + (nI 3)))) μ1 g1) ?_ rfl
                  obtain ⟨rfl, rfl⟩ := ret2 h
                  exact wp_iret rfl dX11_letter_139 ⟨rfl, rfl, rfl⟩
                · rw [if_pos c1] at h
                  refine wp_aload_n (x := 0) dX11_letter_116 rfl ?_
                  refine wp_iload_n (x := v1) dX11_letter_117 rfl ?_
                  refine wp_iload_n (x := v2) dX11_letter_118 rfl ?_
                  obtain ⟨r7, μ6, g1, h⟩ := bnd2_some h
                  refine wp_cVi (d := d - 1) (o := 0) cv_X11_342 (kltM kRootM) kRootM (as := [.int v1, .int v2]) (rest := []) dX11_letter_119 (by omega) cloM rfl rfl (Nat.le_of_ble_eq_true rfl) (Nat.le_of_ble_eq_true rfl) (ok_M_illOf (by omega) v1 v2 μ1 g1) ?_ rfl
                  refine wp_goto 139 dX11_letter_122 (by decide) ?_
                  obtain ⟨rfl, rfl⟩ := ret2 h
                  exact wp_iret rfl dX11_letter_139 ⟨rfl, rfl, rfl⟩
              · rw [if_pos c1] at h
                refine wp_aload_n (x := 0) dX11_letter_102 rfl ?_
                refine wp_iload_n (x := v1) dX11_letter_103 rfl ?_
                refine wp_iload_n (x := v2) dX11_letter_104 rfl ?_
                obtain ⟨r9, μ8, g1, h⟩ := bnd2_some h
                refine wp_cVi (d := d - 1) (o := 0) cv_X11_327 (kltM kRootM) kRootM (as := [.int v1, .int v2]) (rest := []) dX11_letter_105 (by omega) cloM rfl rfl (Nat.le_of_ble_eq_true rfl) (Nat.le_of_ble_eq_true rfl) (ok_M_writeOf (by omega) v1 v2 μ1 g1) ?_ rfl
                refine wp_goto 139 dX11_letter_108 (by decide) ?_
                obtain ⟨rfl, rfl⟩ := ret2 h
                exact wp_iret rfl dX11_letter_139 ⟨rfl, rfl, rfl⟩
            · rw [if_pos c1] at h
              refine wp_aload_n (x := 0) dX11_letter_87 rfl ?_
              refine wp_getR 1 fl_X11_7 (by decide) rfl (kltM kRootM) kRootM (ly11_1 kRootM).1 dX11_letter_88 ?_
              refine wp_iload (x := r4) dX11_letter_91 rfl ?_
              refine wp_iconst (nI 3) dX11_letter_93 rfl ?_
              refine wp_iadd dX11_letter_94 ?_
              obtain ⟨c1, h⟩ := chv_some h
              refine wp_ialde (kltM (ly11_1 kRootM).2.1) (ly11_1 kRootM).2.1 (ly11_1 kRootM).2.2 c1 dX11_letter_95 ?_
              obtain ⟨rfl, rfl⟩ := ret2 h
              exact wp_iret rfl dX11_letter_96 ⟨rfl, rfl, rfl⟩
          · rw [if_pos c1] at h
            refine wp_aload_n (x := 0) dX11_letter_72 rfl ?_
            refine wp_getR 1 fl_X11_7 (by decide) rfl (kltM kRootM) kRootM (ly11_1 kRootM).1 dX11_letter_73 ?_
            refine wp_iload (x := r4) dX11_letter_76 rfl ?_
            refine wp_iconst (nI 2) dX11_letter_78 rfl ?_
            refine wp_iadd dX11_letter_79 ?_
            obtain ⟨c1, h⟩ := chv_some h
            refine wp_ialde (kltM (ly11_1 kRootM).2.1) (ly11_1 kRootM).2.1 (ly11_1 kRootM).2.2 c1 dX11_letter_80 ?_
            obtain ⟨rfl, rfl⟩ := ret2 h
            exact wp_iret rfl dX11_letter_81 ⟨rfl, rfl, rfl⟩
        · rw [if_pos c1] at h
          refine wp_aload_n (x := 0) dX11_letter_55 rfl ?_
          refine wp_getR 1 fl_X11_7 (by decide) rfl (kltM kRootM) kRootM (ly11_1 kRootM).1 dX11_letter_56 ?_
          refine wp_iload (x := r4) dX11_letter_59 rfl ?_
          refine wp_iconst (nI 1) dX11_letter_61 rfl ?_
          refine wp_iadd dX11_letter_62 ?_
          obtain ⟨c1, h⟩ := chv_some h
          refine wp_ialde (kltM (ly11_1 kRootM).2.1) (ly11_1 kRootM).2.1 (ly11_1 kRootM).2.2 c1 dX11_letter_63 ?_
          refine wp_iconst (nI 1) dX11_letter_64 rfl ?_
          refine wp_isub dX11_letter_65 ?_
          obtain ⟨rfl, rfl⟩ := ret2 h
          exact wp_iret rfl dX11_letter_66 ⟨rfl, rfl, rfl⟩
      · rw [if_pos c1] at h
        refine wp_aload_n (x := 0) dX11_letter_40 rfl ?_
        refine wp_getR 1 fl_X11_7 (by decide) rfl (kltM kRootM) kRootM (ly11_1 kRootM).1 dX11_letter_41 ?_
        refine wp_iload (x := r4) dX11_letter_44 rfl ?_
        refine wp_iconst (nI 0) dX11_letter_46 rfl ?_
        refine wp_iadd dX11_letter_47 ?_
        obtain ⟨c1, h⟩ := chv_some h
        refine wp_ialde (kltM (ly11_1 kRootM).2.1) (ly11_1 kRootM).2.1 (ly11_1 kRootM).2.2 c1 dX11_letter_48 ?_
        obtain ⟨rfl, rfl⟩ := ret2 h
        exact wp_iret rfl dX11_letter_49 ⟨rfl, rfl, rfl⟩
    · rw [if_pos c1] at h
      refine wp_bipush (-2) dX11_letter_25 rfl ?_
      obtain ⟨rfl, rfl⟩ := ret2 h
      exact wp_iret rfl dX11_letter_27 ⟨rfl, rfl, rfl⟩
theorem ok_M_onWay {l : Launch} {d : Nat} (hd : 2 ≤ d) (v1 : Int32)  (v2 : Int32)  (μ : Mm) {r : Int32} {μ' : Mm} (h : M_onWay v1 v2 μ = some (r, μ')) : Wp l SM d (0, 0) mX11_onWay 0 [some (.ref 0), some (.int v1), some (.int v2)] [] μ (Qi SM r μ') := by
  unfold M_onWay at h
  refine wp_aload_n (x := 0) dX11_onWay_0 rfl ?_
  refine wp_iconst (nI 0) dX11_onWay_1 rfl ?_
  obtain ⟨μ1, e1, h⟩ := lt_some h
  refine wp_putIe e1 fl_X11_86 (by decide) rfl (kltM kRootM) kRootM dX11_onWay_2 ?_
  refine wp_aload_n (x := 0) dX11_onWay_5 rfl ?_
  refine wp_iload_n (x := v1) dX11_onWay_6 rfl ?_
  refine wp_iconst (nI 0) dX11_onWay_7 rfl ?_
  refine wp_aload_n (x := 0) dX11_onWay_8 rfl ?_
  refine wp_getR 1 fl_X11_7 (by decide) rfl (kltM kRootM) kRootM (ly11_1 kRootM).1 dX11_onWay_9 ?_
  refine wp_sipush (nI 471) dX11_onWay_12 rfl ?_
  obtain ⟨c1, h⟩ := chv_some h
  refine wp_ialde (kltM (ly11_1 kRootM).2.1) (ly11_1 kRootM).2.1 (ly11_1 kRootM).2.2 c1 dX11_onWay_15 ?_
  refine wp_iconst (nI 1) dX11_onWay_16 rfl ?_
  refine wp_isub dX11_onWay_17 ?_
  obtain ⟨r2, g1, h⟩ := bnd_some h
  refine wp_cVi (d := d - 1) (o := 0) cv_X11_113 (kltM kRootM) kRootM (as := [.int v1, .int (nI 0), .int ((μ1.1 1 (ix (nI 471))) - (nI 1))]) (rest := []) dX11_onWay_18 (by omega) cloM rfl rfl (Nat.le_of_ble_eq_true rfl) (Nat.le_of_ble_eq_true rfl) (ok_M_isIn (by omega) v1 (nI 0) ((μ1.1 1 (ix (nI 471))) - (nI 1)) μ1 g1) ?_ rfl
  refine wp_if_eq 51 dX11_onWay_21 (by decide) (fun c1 => ?_) (fun c1 => ?_)
  · rw [if_pos c1] at h
    refine wp_iconst (-1) dX11_onWay_51 rfl ?_
    obtain ⟨rfl, rfl⟩ := ret2 h
    exact wp_iret rfl dX11_onWay_52 ⟨rfl, rfl, rfl⟩
  · rw [if_neg c1] at h
    refine wp_aload_n (x := 0) dX11_onWay_24 rfl ?_
    refine wp_iload_n (x := v2) dX11_onWay_25 rfl ?_
    refine wp_iconst (nI 0) dX11_onWay_26 rfl ?_
    refine wp_iconst (nI 3) dX11_onWay_27 rfl ?_
    obtain ⟨r3, g1, h⟩ := bnd_some h
    refine wp_cVi (d := d - 1) (o := 0) cv_X11_113 (kltM kRootM) kRootM (as := [.int v2, .int (nI 0), .int (nI 3)]) (rest := []) dX11_onWay_28 (by omega) cloM rfl rfl (Nat.le_of_ble_eq_true rfl) (Nat.le_of_ble_eq_true rfl) (ok_M_isIn (by omega) v2 (nI 0) (nI 3) μ1 g1) ?_ rfl
    refine wp_if_eq 51 dX11_onWay_31 (by decide) (fun c1 => ?_) (fun c1 => ?_)
    · rw [if_pos c1] at h
      refine wp_iconst (-1) dX11_onWay_51 rfl ?_
      obtain ⟨rfl, rfl⟩ := ret2 h
      exact wp_iret rfl dX11_onWay_52 ⟨rfl, rfl, rfl⟩
    · rw [if_neg c1] at h
      refine wp_aload_n (x := 0) dX11_onWay_34 rfl ?_
      refine wp_getR 1 fl_X11_7 (by decide) rfl (kltM kRootM) kRootM (ly11_1 kRootM).1 dX11_onWay_35 ?_
      refine wp_sipush (nI 472) dX11_onWay_38 rfl ?_
      refine wp_iconst (nI 4) dX11_onWay_41 rfl ?_
      refine wp_iload_n (x := v1) dX11_onWay_42 rfl ?_
      refine wp_imul dX11_onWay_43 ?_
      refine wp_iadd dX11_onWay_44 ?_
      refine wp_iload_n (x := v2) dX11_onWay_45 rfl ?_
      refine wp_iadd dX11_onWay_46 ?_
      obtain ⟨c1, h⟩ := chv_some h
      refine wp_ialde (kltM (ly11_1 kRootM).2.1) (ly11_1 kRootM).2.1 (ly11_1 kRootM).2.2 c1 dX11_onWay_47 ?_
      refine wp_goto 52 dX11_onWay_48 (by decide) ?_
      obtain ⟨rfl, rfl⟩ := ret2 h
      exact wp_iret rfl dX11_onWay_52 ⟨rfl, rfl, rfl⟩
theorem ok_M_lettersOf_j52 {l : Launch} {d : Nat} (hd : 2 ≤ d) (v1 : Int32)  (v2 : Int32)  (v3 : Int32)  (v4 : Int32)  (μ : Mm) {Q : Option Value → Sh → Mm → Prop} (K : (Int32 × Int32) ⊕ Int32 → Prop) (hb : ∀ (s : (Int32 × Int32)), K (Sum.inl s) → Wp l SM d (0, 0) mX11_lettersOf 15 [some (.ref 0), some (.int v1), some (.int s.1), some (.int v3), some (.int s.2)] [] μ Q) (he0 : ∀ (x : Int32) (z4 : Option Value), K (Sum.inr x) → Wp l SM d (0, 0) mX11_lettersOf 58 [some (.ref 0), some (.int v1), some (.int x), some (.int v3), z4] [] μ Q) {z : (Int32 × Int32) ⊕ Int32} (h : M_lettersOf_j52 v1 v2 v3 v4 μ = some z) (hz : K z) : Wp l SM d (0, 0) mX11_lettersOf 52 [some (.ref 0), some (.int v1), some (.int v2), some (.int v3), some (.int v4)] [] μ Q := by
  unfold M_lettersOf_j52 at h
  refine wp_iinc (x := v4) (k0 := (nI 1)) (L2 := [some (.ref 0), some (.int v1), some (.int v2), some (.int v3), some (.int (v4 + (nI 1)))]) dX11_lettersOf_52 rfl rfl (by decide) rfl rfl ?_
  refine wp_goto 15 dX11_lettersOf_55 (by decide) ?_
  obtain rfl := some1 h
  exact hb (v2, (v4 + (nI 1))) hz
theorem ok_M_lettersOf_l15 {l : Launch} {d : Nat} (hd : 2 ≤ d) (v1 : Int32)  (v2 : Int32)  (v3 : Int32)  (v4 : Int32)  (μ : Mm) {Q : Option Value → Sh → Mm → Prop} (K : (Int32 × Int32) ⊕ Int32 → Prop) (hb : ∀ (s : (Int32 × Int32)), K (Sum.inl s) → Wp l SM d (0, 0) mX11_lettersOf 15 [some (.ref 0), some (.int v1), some (.int s.1), some (.int v3), some (.int s.2)] [] μ Q) (he0 : ∀ (x : Int32) (z4 : Option Value), K (Sum.inr x) → Wp l SM d (0, 0) mX11_lettersOf 58 [some (.ref 0), some (.int v1), some (.int x), some (.int v3), z4] [] μ Q) {z : (Int32 × Int32) ⊕ Int32} (h : M_lettersOf_l15 v1 v2 v3 v4 μ = some z) (hz : K z) : Wp l SM d (0, 0) mX11_lettersOf 15 [some (.ref 0), some (.int v1), some (.int v2), some (.int v3), some (.int v4)] [] μ Q := by
  unfold M_lettersOf_l15 at h
  refine wp_iload (x := v4) dX11_lettersOf_15 rfl ?_
  refine wp_aload_n (x := 0) dX11_lettersOf_17 rfl ?_
  refine wp_getR 1 fl_X11_7 (by decide) rfl (kltM kRootM) kRootM (ly11_1 kRootM).1 dX11_lettersOf_18 ?_
  refine wp_sipush (nI 263) dX11_lettersOf_21 rfl ?_
  refine wp_iload_n (x := v3) dX11_lettersOf_24 rfl ?_
  refine wp_iadd dX11_lettersOf_25 ?_
  obtain ⟨c1, h⟩ := chv_some h
  refine wp_ialde (kltM (ly11_1 kRootM).2.1) (ly11_1 kRootM).2.1 (ly11_1 kRootM).2.2 c1 dX11_lettersOf_26 ?_
  refine wp_icmp_ge 58 dX11_lettersOf_27 (by decide) (fun c1 => ?_) (fun c1 => ?_)
  · rw [if_pos c1] at h
    obtain rfl := some1 h
    exact he0 v2 _ hz
  · rw [if_neg c1] at h
    refine wp_aload_n (x := 0) dX11_lettersOf_30 rfl ?_
    refine wp_getR 1 fl_X11_7 (by decide) rfl (kltM kRootM) kRootM (ly11_1 kRootM).1 dX11_lettersOf_31 ?_
    refine wp_aload_n (x := 0) dX11_lettersOf_34 rfl ?_
    refine wp_iload_n (x := v3) dX11_lettersOf_35 rfl ?_
    refine wp_iload (x := v4) dX11_lettersOf_36 rfl ?_
    obtain ⟨r1, g1, h⟩ := bnd_some h
    refine wp_cVi (d := d - 1) (o := 0) cv_X11_144 (kltM kRootM) kRootM (as := [.int v3, .int v4]) (rest := [.ref 1]) dX11_lettersOf_38 (by omega) cloM rfl rfl (Nat.le_of_ble_eq_true rfl) (Nat.le_of_ble_eq_true rfl) (ok_M_letterAt (by omega) v3 v4 μ g1) ?_ rfl
    refine wp_iconst (nI 0) dX11_lettersOf_41 rfl ?_
    refine wp_iadd dX11_lettersOf_42 ?_
    obtain ⟨c1, h⟩ := chv_some h
    refine wp_ialde (kltM (ly11_1 kRootM).2.1) (ly11_1 kRootM).2.1 (ly11_1 kRootM).2.2 c1 dX11_lettersOf_43 ?_
    refine wp_iload_n (x := v1) dX11_lettersOf_44 rfl ?_
    refine wp_icmp_ne 52 dX11_lettersOf_45 (by decide) (fun c1 => ?_) (fun c1 => ?_)
    · rw [if_neg c1] at h
      exact ok_M_lettersOf_j52 hd v1 v2 v3 v4 μ K hb he0 h hz
    · rw [if_pos c1] at h
      refine wp_iload_n (x := v2) dX11_lettersOf_48 rfl ?_
      refine wp_iconst (nI 1) dX11_lettersOf_49 rfl ?_
      refine wp_iadd dX11_lettersOf_50 ?_
      refine wp_istore_n (L2 := [some (.ref 0), some (.int v1), some (.int (v2 + (nI 1))), some (.int v3), some (.int v4)]) dX11_lettersOf_51 (by decide) rfl rfl ?_
      exact ok_M_lettersOf_j52 hd v1 (v2 + (nI 1)) v3 v4 μ K hb he0 h hz
theorem okl_M_lettersOf_l15 {l : Launch} {d : Nat} (hd : 2 ≤ d) (v1 : Int32)  (v3 : Int32)  (μ : Mm) {Q : Option Value → Sh → Mm → Prop} (K : Int32 → Prop) (he0 : ∀ (x : Int32) (z4 : Option Value), K x → Wp l SM d (0, 0) mX11_lettersOf 58 [some (.ref 0), some (.int v1), some (.int x), some (.int v3), z4] [] μ Q) : ∀ (n : Nat) (s : (Int32 × Int32)) (y : Int32) , iter n (fun s => M_lettersOf_l15 v1 s.1 v3 s.2 μ) s = some y → K y → Wp l SM d (0, 0) mX11_lettersOf 15 [some (.ref 0), some (.int v1), some (.int s.1), some (.int v3), some (.int s.2)] [] μ Q := by
  intro n
  induction n with
  | zero => intro s y  h; cases h
  | succ n ih =>
    intro s y  h hK
    obtain ⟨z, hz, hn⟩ := iter_some h
    refine ok_M_lettersOf_l15 hd v1 s.1 v3 s.2 μ (fun z => nxt n (fun s => M_lettersOf_l15 v1 s.1 v3 s.2 μ) z y) ?_ ?_ hz hn
    · intro s2  h2
      exact ih s2 y h2 hK
    · intro x z4 h2
      have h3 : x = y := h2
      subst h3
      exact he0 x _ hK
theorem ok_M_lettersOf_l4 {l : Launch} {d : Nat} (hd : 2 ≤ d) (v1 : Int32)  (v2 : Int32)  (v3 : Int32)  (μ : Mm) (z4 : Option Value) {Q : Option Value → Sh → Mm → Prop} (K : (Int32 × Int32) ⊕ Int32 → Prop) (hb : ∀ (s : (Int32 × Int32)) (z4 : Option Value), K (Sum.inl s) → Wp l SM d (0, 0) mX11_lettersOf 4 [some (.ref 0), some (.int v1), some (.int s.1), some (.int s.2), z4] [] μ Q) (he0 : ∀ (x : Int32) (z3 : Option Value) (z4 : Option Value), K (Sum.inr x) → Wp l SM d (0, 0) mX11_lettersOf 64 [some (.ref 0), some (.int v1), some (.int x), z3, z4] [] μ Q) {z : (Int32 × Int32) ⊕ Int32} (h : M_lettersOf_l4 v1 v2 v3 μ = some z) (hz : K z) : Wp l SM d (0, 0) mX11_lettersOf 4 [some (.ref 0), some (.int v1), some (.int v2), some (.int v3), z4] [] μ Q := by
  unfold M_lettersOf_l4 at h
  refine wp_iload_n (x := v3) dX11_lettersOf_4 rfl ?_
  refine wp_aload_n (x := 0) dX11_lettersOf_5 rfl ?_
  refine wp_getI fl_X11_107 (by decide) rfl (kltM kRootM) kRootM dX11_lettersOf_6 ?_
  refine wp_icmp_ge 64 dX11_lettersOf_9 (by decide) (fun c1 => ?_) (fun c1 => ?_)
  · rw [if_pos c1] at h
    obtain rfl := some1 h
    exact he0 v2 _ _ hz
  · rw [if_neg c1] at h
    refine wp_iconst (nI 0) dX11_lettersOf_12 rfl ?_
    refine wp_istore (L2 := [some (.ref 0), some (.int v1), some (.int v2), some (.int v3), some (.int (nI 0))]) dX11_lettersOf_13 (by decide) rfl rfl ?_
    obtain ⟨x15, hi, h⟩ := bni_some h
    refine okl_M_lettersOf_l15 hd v1 v3 μ (fun z => z = x15) ?_ 1000000 (v2, (nI 0)) x15 hi rfl
    · intro y0 z4 e0
      have e0 : y0 = x15 := e0
      subst e0
      refine wp_iinc (x := v3) (k0 := (nI 1)) (L2 := [some (.ref 0), some (.int v1), some (.int y0), some (.int (v3 + (nI 1))), z4]) dX11_lettersOf_58 rfl rfl (by decide) rfl rfl ?_
      refine wp_goto 4 dX11_lettersOf_61 (by decide) ?_
      obtain rfl := some1 h
      exact hb (y0, (v3 + (nI 1))) _ hz
theorem okl_M_lettersOf_l4 {l : Launch} {d : Nat} (hd : 2 ≤ d) (v1 : Int32)  (μ : Mm) {Q : Option Value → Sh → Mm → Prop} (K : Int32 → Prop) (he0 : ∀ (x : Int32) (z3 : Option Value) (z4 : Option Value), K x → Wp l SM d (0, 0) mX11_lettersOf 64 [some (.ref 0), some (.int v1), some (.int x), z3, z4] [] μ Q) : ∀ (n : Nat) (s : (Int32 × Int32)) (y : Int32) (z4 : Option Value) , iter n (fun s => M_lettersOf_l4 v1 s.1 s.2 μ) s = some y → K y → Wp l SM d (0, 0) mX11_lettersOf 4 [some (.ref 0), some (.int v1), some (.int s.1), some (.int s.2), z4] [] μ Q := by
  intro n
  induction n with
  | zero => intro s y z4 h; cases h
  | succ n ih =>
    intro s y z4 h hK
    obtain ⟨z, hz, hn⟩ := iter_some h
    refine ok_M_lettersOf_l4 hd v1 s.1 s.2 μ _ (fun z => nxt n (fun s => M_lettersOf_l4 v1 s.1 s.2 μ) z y) ?_ ?_ hz hn
    · intro s2 z4 h2
      exact ih s2 y _ h2 hK
    · intro x z3 z4 h2
      have h3 : x = y := h2
      subst h3
      exact he0 x _ _ hK
theorem ok_M_lettersOf_j100 {l : Launch} {d : Nat} (hd : 2 ≤ d) (v1 : Int32)  (v2 : Int32)  (v3 : Int32)  (μ : Mm) (z4 : Option Value) {Q : Option Value → Sh → Mm → Prop} (K : (Int32 × Int32) ⊕ Int32 → Prop) (hb : ∀ (s : (Int32 × Int32)) (z4 : Option Value), K (Sum.inl s) → Wp l SM d (0, 0) mX11_lettersOf 66 [some (.ref 0), some (.int v1), some (.int s.1), some (.int s.2), z4] [] μ Q) (he0 : ∀ (x : Int32) (z1 : Option Value) (z3 : Option Value) (z4 : Option Value), K (Sum.inr x) → Wp l SM d (0, 0) mX11_lettersOf 106 [some (.ref 0), z1, some (.int x), z3, z4] [] μ Q) {z : (Int32 × Int32) ⊕ Int32} (h : M_lettersOf_j100 v1 v2 v3 μ = some z) (hz : K z) : Wp l SM d (0, 0) mX11_lettersOf 100 [some (.ref 0), some (.int v1), some (.int v2), some (.int v3), z4] [] μ Q := by
  unfold M_lettersOf_j100 at h
  refine wp_iinc (x := v3) (k0 := (nI 1)) (L2 := [some (.ref 0), some (.int v1), some (.int v2), some (.int (v3 + (nI 1))), z4]) dX11_lettersOf_100 rfl rfl (by decide) rfl rfl ?_
  refine wp_goto 66 dX11_lettersOf_103 (by decide) ?_
  obtain rfl := some1 h
  exact hb (v2, (v3 + (nI 1))) _ hz
theorem ok_M_lettersOf_l66 {l : Launch} {d : Nat} (hd : 2 ≤ d) (v1 : Int32)  (v2 : Int32)  (v3 : Int32)  (μ : Mm) (z4 : Option Value) {Q : Option Value → Sh → Mm → Prop} (K : (Int32 × Int32) ⊕ Int32 → Prop) (hb : ∀ (s : (Int32 × Int32)) (z4 : Option Value), K (Sum.inl s) → Wp l SM d (0, 0) mX11_lettersOf 66 [some (.ref 0), some (.int v1), some (.int s.1), some (.int s.2), z4] [] μ Q) (he0 : ∀ (x : Int32) (z1 : Option Value) (z3 : Option Value) (z4 : Option Value), K (Sum.inr x) → Wp l SM d (0, 0) mX11_lettersOf 106 [some (.ref 0), z1, some (.int x), z3, z4] [] μ Q) {z : (Int32 × Int32) ⊕ Int32} (h : M_lettersOf_l66 v1 v2 v3 μ = some z) (hz : K z) : Wp l SM d (0, 0) mX11_lettersOf 66 [some (.ref 0), some (.int v1), some (.int v2), some (.int v3), z4] [] μ Q := by
  unfold M_lettersOf_l66 at h
  refine wp_iload_n (x := v3) dX11_lettersOf_66 rfl ?_
  refine wp_aload_n (x := 0) dX11_lettersOf_67 rfl ?_
  refine wp_getR 1 fl_X11_7 (by decide) rfl (kltM kRootM) kRootM (ly11_1 kRootM).1 dX11_lettersOf_68 ?_
  refine wp_sipush (nI 471) dX11_lettersOf_71 rfl ?_
  obtain ⟨c1, h⟩ := chv_some h
  refine wp_ialde (kltM (ly11_1 kRootM).2.1) (ly11_1 kRootM).2.1 (ly11_1 kRootM).2.2 c1 dX11_lettersOf_74 ?_
  refine wp_icmp_ge 106 dX11_lettersOf_75 (by decide) (fun c1 => ?_) (fun c1 => ?_)
  · rw [if_pos c1] at h
    obtain rfl := some1 h
    exact he0 v2 _ _ _ hz
  · rw [if_neg c1] at h
    refine wp_aload_n (x := 0) dX11_lettersOf_78 rfl ?_
    refine wp_getR 1 fl_X11_7 (by decide) rfl (kltM kRootM) kRootM (ly11_1 kRootM).1 dX11_lettersOf_79 ?_
    refine wp_sipush (nI 472) dX11_lettersOf_82 rfl ?_
    refine wp_iconst (nI 4) dX11_lettersOf_85 rfl ?_
    refine wp_iload_n (x := v3) dX11_lettersOf_86 rfl ?_
    refine wp_imul dX11_lettersOf_87 ?_
    refine wp_iadd dX11_lettersOf_88 ?_
    refine wp_iconst (nI 0) dX11_lettersOf_89 rfl ?_
    refine wp_iadd dX11_lettersOf_90 ?_
    obtain ⟨c1, h⟩ := chv_some h
    refine wp_ialde (kltM (ly11_1 kRootM).2.1) (ly11_1 kRootM).2.1 (ly11_1 kRootM).2.2 c1 dX11_lettersOf_91 ?_
    refine wp_iload_n (x := v1) dX11_lettersOf_92 rfl ?_
    refine wp_icmp_ne 100 dX11_lettersOf_93 (by decide) (fun c1 => ?_) (fun c1 => ?_)
    · rw [if_neg c1] at h
      exact ok_M_lettersOf_j100 hd v1 v2 v3 μ _ K hb he0 h hz
    · rw [if_pos c1] at h
      refine wp_iload_n (x := v2) dX11_lettersOf_96 rfl ?_
      refine wp_iconst (nI 1) dX11_lettersOf_97 rfl ?_
      refine wp_iadd dX11_lettersOf_98 ?_
      refine wp_istore_n (L2 := [some (.ref 0), some (.int v1), some (.int (v2 + (nI 1))), some (.int v3), z4]) dX11_lettersOf_99 (by decide) rfl rfl ?_
      exact ok_M_lettersOf_j100 hd v1 (v2 + (nI 1)) v3 μ _ K hb he0 h hz
theorem okl_M_lettersOf_l66 {l : Launch} {d : Nat} (hd : 2 ≤ d) (v1 : Int32)  (μ : Mm) {Q : Option Value → Sh → Mm → Prop} (K : Int32 → Prop) (he0 : ∀ (x : Int32) (z1 : Option Value) (z3 : Option Value) (z4 : Option Value), K x → Wp l SM d (0, 0) mX11_lettersOf 106 [some (.ref 0), z1, some (.int x), z3, z4] [] μ Q) : ∀ (n : Nat) (s : (Int32 × Int32)) (y : Int32) (z4 : Option Value) , iter n (fun s => M_lettersOf_l66 v1 s.1 s.2 μ) s = some y → K y → Wp l SM d (0, 0) mX11_lettersOf 66 [some (.ref 0), some (.int v1), some (.int s.1), some (.int s.2), z4] [] μ Q := by
  intro n
  induction n with
  | zero => intro s y z4 h; cases h
  | succ n ih =>
    intro s y z4 h hK
    obtain ⟨z, hz, hn⟩ := iter_some h
    refine ok_M_lettersOf_l66 hd v1 s.1 s.2 μ _ (fun z => nxt n (fun s => M_lettersOf_l66 v1 s.1 s.2 μ) z y) ?_ ?_ hz hn
    · intro s2 z4 h2
      exact ih s2 y _ h2 hK
    · intro x z1 z3 z4 h2
      have h3 : x = y := h2
      subst h3
      exact he0 x _ _ _ hK
theorem ok_M_lettersOf {l : Launch} {d : Nat} (hd : 2 ≤ d) (v1 : Int32)  (μ : Mm) {r : Int32} (h : M_lettersOf v1 μ = some r) : Wp l SM d (0, 0) mX11_lettersOf 0 [some (.ref 0), some (.int v1), none, none, none] [] μ (Qi SM r μ) := by
  unfold M_lettersOf at h
  refine wp_iconst (nI 0) dX11_lettersOf_0 rfl ?_
  refine wp_istore_n (L2 := [some (.ref 0), some (.int v1), some (.int (nI 0)), none, none]) dX11_lettersOf_1 (by decide) rfl rfl ?_
  refine wp_iconst (nI 0) dX11_lettersOf_2 rfl ?_
  refine wp_istore_n (L2 := [some (.ref 0), some (.int v1), some (.int (nI 0)), some (.int (nI 0)), none]) dX11_lettersOf_3 (by decide) rfl rfl ?_
  obtain ⟨x4, hi, h⟩ := bni_some h
  refine okl_M_lettersOf_l4 hd v1 μ (fun z => z = x4) ?_ 1000000 ((nI 0), (nI 0)) x4 _ hi rfl
  · intro y0 z3 z4 e0
    have e0 : y0 = x4 := e0
    subst e0
    refine wp_iconst (nI 0) dX11_lettersOf_64 rfl ?_
    refine wp_istore_n (L2 := [some (.ref 0), some (.int v1), some (.int y0), some (.int (nI 0)), z4]) dX11_lettersOf_65 (by decide) rfl rfl ?_
    obtain ⟨x66, hi, h⟩ := bni_some h
    refine okl_M_lettersOf_l66 hd v1 μ (fun z => z = x66) ?_ 1000000 (y0, (nI 0)) x66 _ hi rfl
    · intro y0 z1 z3 z4 e0
      have e0 : y0 = x66 := e0
      subst e0
      refine wp_iload_n (x := y0) dX11_lettersOf_106 rfl ?_
      obtain rfl := ret1 h
      exact wp_iret rfl dX11_lettersOf_107 ⟨rfl, rfl, rfl⟩
theorem ok_M_didHave {l : Launch} {d : Nat} (hd : 1 ≤ d) (v1 : Int32)  (v2 : Int32)  (μ : Mm) {r : Int32} (h : M_didHave v1 v2 μ = some r) : Wp l SM d (0, 0) mX11_didHave 0 [some (.ref 0), some (.int v1), some (.int v2)] [] μ (Qi SM r μ) := by
  unfold M_didHave at h
  refine wp_iload_n (x := v2) dX11_didHave_0 rfl ?_
  refine wp_bipush (nI 20) dX11_didHave_1 rfl ?_
  refine wp_icmp_ge 32 dX11_didHave_3 (by decide) (fun c1 => ?_) (fun c1 => ?_)
  · rw [if_pos c1] at h
    refine wp_aload_n (x := 0) dX11_didHave_32 rfl ?_
    refine wp_getR 1 fl_X11_7 (by decide) rfl (kltM kRootM) kRootM (ly11_1 kRootM).1 dX11_didHave_33 ?_
    refine wp_sipush (nI 231) dX11_didHave_36 rfl ?_
    refine wp_iload_n (x := v1) dX11_didHave_39 rfl ?_
    refine wp_iadd dX11_didHave_40 ?_
    obtain ⟨c1, h⟩ := chv_some h
    refine wp_ialde (kltM (ly11_1 kRootM).2.1) (ly11_1 kRootM).2.1 (ly11_1 kRootM).2.2 c1 dX11_didHave_41 ?_
    refine wp_iload_n (x := v2) dX11_didHave_42 rfl ?_
    refine wp_bipush (nI 20) dX11_didHave_43 rfl ?_
    refine wp_isub dX11_didHave_45 ?_
    refine wp_ishr dX11_didHave_46 ?_
    refine wp_iconst (nI 1) dX11_didHave_47 rfl ?_
    refine wp_iand dX11_didHave_48 ?_
    refine wp_iconst (nI 1) dX11_didHave_49 rfl ?_
    refine wp_icmp_ne 57 dX11_didHave_50 (by decide) (fun c1 => ?_) (fun c1 => ?_)
    · rw [if_neg c1] at h
      refine wp_iconst (nI 0) dX11_didHave_57 rfl ?_
      obtain rfl := ret1 h
      exact wp_zret rfl (Or.inl rfl) dX11_didHave_58 ⟨rfl, rfl, rfl⟩
    · rw [if_pos c1] at h
      refine wp_iconst (nI 1) dX11_didHave_53 rfl ?_
      refine wp_goto 58 dX11_didHave_54 (by decide) ?_
      obtain rfl := ret1 h
      exact wp_zret rfl (Or.inr rfl) dX11_didHave_58 ⟨rfl, rfl, rfl⟩
  · rw [if_neg c1] at h
    refine wp_aload_n (x := 0) dX11_didHave_6 rfl ?_
    refine wp_getR 1 fl_X11_7 (by decide) rfl (kltM kRootM) kRootM (ly11_1 kRootM).1 dX11_didHave_7 ?_
    refine wp_sipush (nI 215) dX11_didHave_10 rfl ?_
    refine wp_iload_n (x := v1) dX11_didHave_13 rfl ?_
    refine wp_iadd dX11_didHave_14 ?_
    obtain ⟨c1, h⟩ := chv_some h
    refine wp_ialde (kltM (ly11_1 kRootM).2.1) (ly11_1 kRootM).2.1 (ly11_1 kRootM).2.2 c1 dX11_didHave_15 ?_
    refine wp_iload_n (x := v2) dX11_didHave_16 rfl ?_
    refine wp_ishr dX11_didHave_17 ?_
    refine wp_iconst (nI 1) dX11_didHave_18 rfl ?_
    refine wp_iand dX11_didHave_19 ?_
    refine wp_iconst (nI 1) dX11_didHave_20 rfl ?_
    refine wp_icmp_ne 28 dX11_didHave_21 (by decide) (fun c1 => ?_) (fun c1 => ?_)
    · rw [if_neg c1] at h
      refine wp_iconst (nI 0) dX11_didHave_28 rfl ?_
      refine wp_goto 58 dX11_didHave_29 (by decide) ?_
      obtain rfl := ret1 h
      exact wp_zret rfl (Or.inl rfl) dX11_didHave_58 ⟨rfl, rfl, rfl⟩
    · rw [if_pos c1] at h
      refine wp_iconst (nI 1) dX11_didHave_24 rfl ?_
      refine wp_goto 58 dX11_didHave_25 (by decide) ?_
      obtain rfl := ret1 h
      exact wp_zret rfl (Or.inr rfl) dX11_didHave_58 ⟨rfl, rfl, rfl⟩
theorem ok_M_didAnyHave_l2 {l : Launch} {d : Nat} (hd : 2 ≤ d) (v1 : Int32)  (v2 : Int32)  (μ : Mm) {Q : Option Value → Sh → Mm → Prop} (K : Int32 ⊕ (Unit ⊕ Unit) → Prop) (hb : ∀ (s : Int32), K (Sum.inl s) → Wp l SM d (0, 0) mX11_didAnyHave 2 [some (.ref 0), some (.int v1), some (.int s)] [] μ Q) (he0 : ∀ (x : Unit) (z1 : Option Value) (z2 : Option Value), K (Sum.inr (Sum.inl x)) → Wp l SM d (0, 0) mX11_didAnyHave 19 [some (.ref 0), z1, z2] [] μ Q) (he1 : ∀ (x : Unit) (z1 : Option Value) (z2 : Option Value), K (Sum.inr (Sum.inr x)) → Wp l SM d (0, 0) mX11_didAnyHave 27 [some (.ref 0), z1, z2] [] μ Q) {z : Int32 ⊕ (Unit ⊕ Unit)} (h : M_didAnyHave_l2 v1 v2 μ = some z) (hz : K z) : Wp l SM d (0, 0) mX11_didAnyHave 2 [some (.ref 0), some (.int v1), some (.int v2)] [] μ Q := by
  unfold M_didAnyHave_l2 at h
  refine wp_iload_n (x := v2) dX11_didAnyHave_2 rfl ?_
  refine wp_aload_n (x := 0) dX11_didAnyHave_3 rfl ?_
  refine wp_getI fl_X11_107 (by decide) rfl (kltM kRootM) kRootM dX11_didAnyHave_4 ?_
  refine wp_icmp_ge 27 dX11_didAnyHave_7 (by decide) (fun c1 => ?_) (fun c1 => ?_)
  · rw [if_pos c1] at h
    obtain rfl := some1 h
    exact he1 () _ _ hz
  · rw [if_neg c1] at h
    refine wp_aload_n (x := 0) dX11_didAnyHave_10 rfl ?_
    refine wp_iload_n (x := v2) dX11_didAnyHave_11 rfl ?_
    refine wp_iload_n (x := v1) dX11_didAnyHave_12 rfl ?_
    obtain ⟨r1, g1, h⟩ := bnd_some h
    refine wp_cVi (d := d - 1) (o := 0) cv_X11_366 (kltM kRootM) kRootM (as := [.int v2, .int v1]) (rest := []) dX11_didAnyHave_13 (by omega) cloM rfl rfl (Nat.le_of_ble_eq_true rfl) (Nat.le_of_ble_eq_true rfl) (ok_M_didHave (by omega) v2 v1 μ g1) ?_ rfl
    refine wp_if_eq 21 dX11_didAnyHave_16 (by decide) (fun c1 => ?_) (fun c1 => ?_)
    · rw [if_pos c1] at h
      refine wp_iinc (x := v2) (k0 := (nI 1)) (L2 := [some (.ref 0), some (.int v1), some (.int (v2 + (nI 1)))]) dX11_didAnyHave_21 rfl rfl (by decide) rfl rfl ?_
      refine wp_goto 2 dX11_didAnyHave_24 (by decide) ?_
      obtain rfl := some1 h
      exact hb (v2 + (nI 1)) hz
    · rw [if_neg c1] at h
      obtain rfl := some1 h
      exact he0 () _ _ hz
theorem okl_M_didAnyHave_l2 {l : Launch} {d : Nat} (hd : 2 ≤ d) (v1 : Int32)  (μ : Mm) {Q : Option Value → Sh → Mm → Prop} (K : (Unit ⊕ Unit) → Prop) (he0 : ∀ (x : Unit) (z1 : Option Value) (z2 : Option Value), K (Sum.inl x) → Wp l SM d (0, 0) mX11_didAnyHave 19 [some (.ref 0), z1, z2] [] μ Q) (he1 : ∀ (x : Unit) (z1 : Option Value) (z2 : Option Value), K (Sum.inr x) → Wp l SM d (0, 0) mX11_didAnyHave 27 [some (.ref 0), z1, z2] [] μ Q) : ∀ (n : Nat) (s : Int32) (y : (Unit ⊕ Unit)) , iter n (fun s => M_didAnyHave_l2 v1 s μ) s = some y → K y → Wp l SM d (0, 0) mX11_didAnyHave 2 [some (.ref 0), some (.int v1), some (.int s)] [] μ Q := by
  intro n
  induction n with
  | zero => intro s y  h; cases h
  | succ n ih =>
    intro s y  h hK
    obtain ⟨z, hz, hn⟩ := iter_some h
    refine ok_M_didAnyHave_l2 hd v1 s μ (fun z => nxt n (fun s => M_didAnyHave_l2 v1 s μ) z y) ?_ ?_ ?_ hz hn
    · intro s2  h2
      exact ih s2 y h2 hK
    · intro x z1 z2 h2
      have h3 : (Sum.inl x) = y := h2
      subst h3
      exact he0 x _ _ hK
    · intro x z1 z2 h2
      have h3 : (Sum.inr x) = y := h2
      subst h3
      exact he1 x _ _ hK
theorem ok_M_didAnyHave {l : Launch} {d : Nat} (hd : 2 ≤ d) (v1 : Int32)  (μ : Mm) {r : Int32} (h : M_didAnyHave v1 μ = some r) : Wp l SM d (0, 0) mX11_didAnyHave 0 [some (.ref 0), some (.int v1), none] [] μ (Qi SM r μ) := by
  unfold M_didAnyHave at h
  refine wp_iconst (nI 0) dX11_didAnyHave_0 rfl ?_
  refine wp_istore_n (L2 := [some (.ref 0), some (.int v1), some (.int (nI 0))]) dX11_didAnyHave_1 (by decide) rfl rfl ?_
  obtain ⟨x2, hi, h⟩ := bni_some h
  refine okl_M_didAnyHave_l2 hd v1 μ (fun z => z = x2) ?_ ?_ 1000000 (nI 0) x2 hi rfl
  · intro x2a z1 z2 e0
    have e0 : (Sum.inl x2a) = x2 := e0
    subst e0
    replace h := eL h
    refine wp_iconst (nI 1) dX11_didAnyHave_19 rfl ?_
    obtain rfl := ret1 h
    exact wp_zret rfl (Or.inr rfl) dX11_didAnyHave_20 ⟨rfl, rfl, rfl⟩
  · intro x2b z1 z2 e0
    have e0 : (Sum.inr x2b) = x2 := e0
    subst e0
    replace h := eR h
    refine wp_iconst (nI 0) dX11_didAnyHave_27 rfl ?_
    obtain rfl := ret1 h
    exact wp_zret rfl (Or.inl rfl) dX11_didAnyHave_28 ⟨rfl, rfl, rfl⟩
theorem ok_M_cameOf_l2 {l : Launch} {d : Nat} (hd : 1 ≤ d) (v2 : Int32)  (v3 : Int32)  (μ : Mm) (z1 : Option Value) {Q : Option Value → Sh → Mm → Prop} (K : Int32 ⊕ Int32 → Prop) (hb : ∀ (s : Int32) (z1 : Option Value), K (Sum.inl s) → Wp l SM d (0, 0) mX11_cameOf 2 [some (.ref 0), z1, some (.int v2), some (.int s)] [] μ Q) (he0 : ∀ (x : Int32) (z1 : Option Value), K (Sum.inr x) → Wp l SM d (0, 0) mX11_cameOf 27 [some (.ref 0), z1, some (.int v2), some (.int x)] [] μ Q) {z : Int32 ⊕ Int32} (h : M_cameOf_l2 v2 v3 μ = some z) (hz : K z) : Wp l SM d (0, 0) mX11_cameOf 2 [some (.ref 0), z1, some (.int v2), some (.int v3)] [] μ Q := by
  unfold M_cameOf_l2 at h
  refine wp_iload_n (x := v3) dX11_cameOf_2 rfl ?_
  refine wp_iconst (-1) dX11_cameOf_3 rfl ?_
  refine wp_icmp_eq 27 dX11_cameOf_4 (by decide) (fun c1 => ?_) (fun c1 => ?_)
  · rw [if_pos c1] at h
    obtain rfl := some1 h
    exact he0 v3 _ hz
  · rw [if_neg c1] at h
    refine wp_iload_n (x := v3) dX11_cameOf_7 rfl ?_
    refine wp_iload_n (x := v2) dX11_cameOf_8 rfl ?_
    refine wp_icmp_eq 27 dX11_cameOf_9 (by decide) (fun c1 => ?_) (fun c1 => ?_)
    · rw [if_pos c1] at h
      obtain rfl := some1 h
      exact he0 v3 _ hz
    · rw [if_neg c1] at h
      refine wp_aload_n (x := 0) dX11_cameOf_12 rfl ?_
      refine wp_getR 1 fl_X11_7 (by decide) rfl (kltM kRootM) kRootM (ly11_1 kRootM).1 dX11_cameOf_13 ?_
      refine wp_bipush (nI 87) dX11_cameOf_16 rfl ?_
      refine wp_iload_n (x := v3) dX11_cameOf_18 rfl ?_
      refine wp_iadd dX11_cameOf_19 ?_
      obtain ⟨c1, h⟩ := chv_some h
      refine wp_ialde (kltM (ly11_1 kRootM).2.1) (ly11_1 kRootM).2.1 (ly11_1 kRootM).2.2 c1 dX11_cameOf_20 ?_
      refine wp_iconst (nI 1) dX11_cameOf_21 rfl ?_
      refine wp_isub dX11_cameOf_22 ?_
      refine wp_istore_n (L2 := [some (.ref 0), z1, some (.int v2), some (.int ((μ.1 1 (ix ((nI 87) + v3))) - (nI 1)))]) dX11_cameOf_23 (by decide) rfl rfl ?_
      refine wp_goto 2 dX11_cameOf_24 (by decide) ?_
      obtain rfl := some1 h
      exact hb ((μ.1 1 (ix ((nI 87) + v3))) - (nI 1)) _ hz
theorem okl_M_cameOf_l2 {l : Launch} {d : Nat} (hd : 1 ≤ d) (v2 : Int32)  (μ : Mm) {Q : Option Value → Sh → Mm → Prop} (K : Int32 → Prop) (he0 : ∀ (x : Int32) (z1 : Option Value), K x → Wp l SM d (0, 0) mX11_cameOf 27 [some (.ref 0), z1, some (.int v2), some (.int x)] [] μ Q) : ∀ (n : Nat) (s : Int32) (y : Int32) (z1 : Option Value) , iter n (fun s => M_cameOf_l2 v2 s μ) s = some y → K y → Wp l SM d (0, 0) mX11_cameOf 2 [some (.ref 0), z1, some (.int v2), some (.int s)] [] μ Q := by
  intro n
  induction n with
  | zero => intro s y z1 h; cases h
  | succ n ih =>
    intro s y z1 h hK
    obtain ⟨z, hz, hn⟩ := iter_some h
    refine ok_M_cameOf_l2 hd v2 s μ _ (fun z => nxt n (fun s => M_cameOf_l2 v2 s μ) z y) ?_ ?_ hz hn
    · intro s2 z1 h2
      exact ih s2 y _ h2 hK
    · intro x z1 h2
      have h3 : x = y := h2
      subst h3
      exact he0 x _ hK
theorem ok_M_cameOf_j27 {l : Launch} {d : Nat} (hd : 1 ≤ d) (v2 : Int32)  (v3 : Int32)  (μ : Mm) (z1 : Option Value) {r : Int32} (h : M_cameOf_j27 v2 v3 μ = some r) : Wp l SM d (0, 0) mX11_cameOf 27 [some (.ref 0), z1, some (.int v2), some (.int v3)] [] μ (Qi SM r μ) := by
  unfold M_cameOf_j27 at h
  refine wp_iload_n (x := v3) dX11_cameOf_27 rfl ?_
  refine wp_iload_n (x := v2) dX11_cameOf_28 rfl ?_
  refine wp_icmp_ne 36 dX11_cameOf_29 (by decide) (fun c1 => ?_) (fun c1 => ?_)
  · rw [if_neg c1] at h
    refine wp_iconst (nI 0) dX11_cameOf_36 rfl ?_
    obtain rfl := ret1 h
    exact wp_zret rfl (Or.inl rfl) dX11_cameOf_37 ⟨rfl, rfl, rfl⟩
  · rw [if_pos c1] at h
    refine wp_iconst (nI 1) dX11_cameOf_32 rfl ?_
    refine wp_goto 37 dX11_cameOf_33 (by decide) ?_
    obtain rfl := ret1 h
    exact wp_zret rfl (Or.inr rfl) dX11_cameOf_37 ⟨rfl, rfl, rfl⟩
theorem ok_M_cameOf {l : Launch} {d : Nat} (hd : 1 ≤ d) (v1 : Int32)  (v2 : Int32)  (μ : Mm) {r : Int32} (h : M_cameOf v1 v2 μ = some r) : Wp l SM d (0, 0) mX11_cameOf 0 [some (.ref 0), some (.int v1), some (.int v2), none] [] μ (Qi SM r μ) := by
  unfold M_cameOf at h
  refine wp_iload_n (x := v1) dX11_cameOf_0 rfl ?_
  refine wp_istore_n (L2 := [some (.ref 0), some (.int v1), some (.int v2), some (.int v1)]) dX11_cameOf_1 (by decide) rfl rfl ?_
  obtain ⟨x2, hi, h⟩ := bni_some h
  refine okl_M_cameOf_l2 hd v2 μ (fun z => z = x2) ?_ 1000000 v1 x2 _ hi rfl
  · intro y0 z1 e0
    have e0 : y0 = x2 := e0
    subst e0
    exact ok_M_cameOf_j27 hd v2 y0 μ _ h
theorem ok_M_childrenOf_j33 {l : Launch} {d : Nat} (hd : 2 ≤ d) (v1 : Int32)  (v2 : Int32)  (v3 : Int32)  (μ : Mm) {Q : Option Value → Sh → Mm → Prop} (K : (Int32 × Int32) ⊕ Int32 → Prop) (hb : ∀ (s : (Int32 × Int32)), K (Sum.inl s) → Wp l SM d (0, 0) mX11_childrenOf 4 [some (.ref 0), some (.int v1), some (.int s.1), some (.int s.2)] [] μ Q) (he0 : ∀ (x : Int32) (z1 : Option Value) (z3 : Option Value), K (Sum.inr x) → Wp l SM d (0, 0) mX11_childrenOf 39 [some (.ref 0), z1, some (.int x), z3] [] μ Q) {z : (Int32 × Int32) ⊕ Int32} (h : M_childrenOf_j33 v1 v2 v3 μ = some z) (hz : K z) : Wp l SM d (0, 0) mX11_childrenOf 33 [some (.ref 0), some (.int v1), some (.int v2), some (.int v3)] [] μ Q := by
  unfold M_childrenOf_j33 at h
  refine wp_iinc (x := v3) (k0 := (nI 1)) (L2 := [some (.ref 0), some (.int v1), some (.int v2), some (.int (v3 + (nI 1)))]) dX11_childrenOf_33 rfl rfl (by decide) rfl rfl ?_
  refine wp_goto 4 dX11_childrenOf_36 (by decide) ?_
  obtain rfl := some1 h
  exact hb (v2, (v3 + (nI 1))) hz
theorem ok_M_childrenOf_l4 {l : Launch} {d : Nat} (hd : 2 ≤ d) (v1 : Int32)  (v2 : Int32)  (v3 : Int32)  (μ : Mm) {Q : Option Value → Sh → Mm → Prop} (K : (Int32 × Int32) ⊕ Int32 → Prop) (hb : ∀ (s : (Int32 × Int32)), K (Sum.inl s) → Wp l SM d (0, 0) mX11_childrenOf 4 [some (.ref 0), some (.int v1), some (.int s.1), some (.int s.2)] [] μ Q) (he0 : ∀ (x : Int32) (z1 : Option Value) (z3 : Option Value), K (Sum.inr x) → Wp l SM d (0, 0) mX11_childrenOf 39 [some (.ref 0), z1, some (.int x), z3] [] μ Q) {z : (Int32 × Int32) ⊕ Int32} (h : M_childrenOf_l4 v1 v2 v3 μ = some z) (hz : K z) : Wp l SM d (0, 0) mX11_childrenOf 4 [some (.ref 0), some (.int v1), some (.int v2), some (.int v3)] [] μ Q := by
  unfold M_childrenOf_l4 at h
  refine wp_iload_n (x := v3) dX11_childrenOf_4 rfl ?_
  refine wp_aload_n (x := 0) dX11_childrenOf_5 rfl ?_
  refine wp_getR 1 fl_X11_7 (by decide) rfl (kltM kRootM) kRootM (ly11_1 kRootM).1 dX11_childrenOf_6 ?_
  refine wp_bipush (nI 6) dX11_childrenOf_9 rfl ?_
  obtain ⟨c1, h⟩ := chv_some h
  refine wp_ialde (kltM (ly11_1 kRootM).2.1) (ly11_1 kRootM).2.1 (ly11_1 kRootM).2.2 c1 dX11_childrenOf_11 ?_
  refine wp_icmp_ge 39 dX11_childrenOf_12 (by decide) (fun c1 => ?_) (fun c1 => ?_)
  · rw [if_pos c1] at h
    obtain rfl := some1 h
    exact he0 v2 _ _ hz
  · rw [if_neg c1] at h
    refine wp_iload_n (x := v3) dX11_childrenOf_15 rfl ?_
    refine wp_iload_n (x := v1) dX11_childrenOf_16 rfl ?_
    refine wp_icmp_eq 33 dX11_childrenOf_17 (by decide) (fun c1 => ?_) (fun c1 => ?_)
    · rw [if_pos c1] at h
      exact ok_M_childrenOf_j33 hd v1 v2 v3 μ K hb he0 h hz
    · rw [if_neg c1] at h
      refine wp_aload_n (x := 0) dX11_childrenOf_20 rfl ?_
      refine wp_iload_n (x := v3) dX11_childrenOf_21 rfl ?_
      refine wp_iload_n (x := v1) dX11_childrenOf_22 rfl ?_
      obtain ⟨r1, g1, h⟩ := bnd_some h
      refine wp_cVi (d := d - 1) (o := 0) cv_X11_415 (kltM kRootM) kRootM (as := [.int v3, .int v1]) (rest := []) dX11_childrenOf_23 (by omega) cloM rfl rfl (Nat.le_of_ble_eq_true rfl) (Nat.le_of_ble_eq_true rfl) (ok_M_cameOf (by omega) v3 v1 μ g1) ?_ rfl
      refine wp_if_eq 33 dX11_childrenOf_26 (by decide) (fun c1 => ?_) (fun c1 => ?_)
      · rw [if_pos c1] at h
        exact ok_M_childrenOf_j33 hd v1 v2 v3 μ K hb he0 h hz
      · rw [if_neg c1] at h
        refine wp_iload_n (x := v2) dX11_childrenOf_29 rfl ?_
        refine wp_iconst (nI 1) dX11_childrenOf_30 rfl ?_
        refine wp_iadd dX11_childrenOf_31 ?_
        refine wp_istore_n (L2 := [some (.ref 0), some (.int v1), some (.int (v2 + (nI 1))), some (.int v3)]) dX11_childrenOf_32 (by decide) rfl rfl ?_
        exact ok_M_childrenOf_j33 hd v1 (v2 + (nI 1)) v3 μ K hb he0 h hz
theorem okl_M_childrenOf_l4 {l : Launch} {d : Nat} (hd : 2 ≤ d) (v1 : Int32)  (μ : Mm) {Q : Option Value → Sh → Mm → Prop} (K : Int32 → Prop) (he0 : ∀ (x : Int32) (z1 : Option Value) (z3 : Option Value), K x → Wp l SM d (0, 0) mX11_childrenOf 39 [some (.ref 0), z1, some (.int x), z3] [] μ Q) : ∀ (n : Nat) (s : (Int32 × Int32)) (y : Int32) , iter n (fun s => M_childrenOf_l4 v1 s.1 s.2 μ) s = some y → K y → Wp l SM d (0, 0) mX11_childrenOf 4 [some (.ref 0), some (.int v1), some (.int s.1), some (.int s.2)] [] μ Q := by
  intro n
  induction n with
  | zero => intro s y  h; cases h
  | succ n ih =>
    intro s y  h hK
    obtain ⟨z, hz, hn⟩ := iter_some h
    refine ok_M_childrenOf_l4 hd v1 s.1 s.2 μ (fun z => nxt n (fun s => M_childrenOf_l4 v1 s.1 s.2 μ) z y) ?_ ?_ hz hn
    · intro s2  h2
      exact ih s2 y h2 hK
    · intro x z1 z3 h2
      have h3 : x = y := h2
      subst h3
      exact he0 x _ _ hK
theorem ok_M_childrenOf {l : Launch} {d : Nat} (hd : 2 ≤ d) (v1 : Int32)  (μ : Mm) {r : Int32} (h : M_childrenOf v1 μ = some r) : Wp l SM d (0, 0) mX11_childrenOf 0 [some (.ref 0), some (.int v1), none, none] [] μ (Qi SM r μ) := by
  unfold M_childrenOf at h
  refine wp_iconst (nI 0) dX11_childrenOf_0 rfl ?_
  refine wp_istore_n (L2 := [some (.ref 0), some (.int v1), some (.int (nI 0)), none]) dX11_childrenOf_1 (by decide) rfl rfl ?_
  refine wp_iconst (nI 0) dX11_childrenOf_2 rfl ?_
  refine wp_istore_n (L2 := [some (.ref 0), some (.int v1), some (.int (nI 0)), some (.int (nI 0))]) dX11_childrenOf_3 (by decide) rfl rfl ?_
  obtain ⟨x4, hi, h⟩ := bni_some h
  refine okl_M_childrenOf_l4 hd v1 μ (fun z => z = x4) ?_ 1000000 ((nI 0), (nI 0)) x4 hi rfl
  · intro y0 z1 z3 e0
    have e0 : y0 = x4 := e0
    subst e0
    refine wp_iload_n (x := y0) dX11_childrenOf_39 rfl ?_
    obtain rfl := ret1 h
    exact wp_iret rfl dX11_childrenOf_40 ⟨rfl, rfl, rfl⟩
theorem ok_M_kind {l : Launch} {d : Nat} (hd : 3 ≤ d) (v1 : Int32)  (v2 : Int32)  (μ : Mm) {r : Int32} {μ' : Mm} (h : M_kind v1 v2 μ = some (r, μ')) : Wp l SM d (0, 0) mX11_kind 0 [some (.ref 0), some (.int v1), some (.int v2)] [] μ (Qi SM r μ') := by
  unfold M_kind at h
  refine wp_aload_n (x := 0) dX11_kind_0 rfl ?_
  refine wp_iconst (nI 0) dX11_kind_1 rfl ?_
  obtain ⟨μ1, e1, h⟩ := lt_some h
  refine wp_putIe e1 fl_X11_86 (by decide) rfl (kltM kRootM) kRootM dX11_kind_2 ?_
  refine wp_aload_n (x := 0) dX11_kind_5 rfl ?_
  refine wp_iload_n (x := v1) dX11_kind_6 rfl ?_
  obtain ⟨r2, g1, h⟩ := bnd_some h
  refine wp_cVi (d := d - 1) (o := 0) cv_X11_148 (kltM kRootM) kRootM (as := [.int v1]) (rest := []) dX11_kind_7 (by omega) cloM rfl rfl (Nat.le_of_ble_eq_true rfl) (Nat.le_of_ble_eq_true rfl) (ok_M_isVersion (by omega) v1 μ1 g1) ?_ rfl
  refine wp_if_ne 16 dX11_kind_10 (by decide) (fun c1 => ?_) (fun c1 => ?_)
  · rw [if_neg c1] at h
    refine wp_iload_n (x := v2) dX11_kind_16 rfl ?_
    refine wp_if_ne 30 dX11_kind_17 (by decide) (fun c1 => ?_) (fun c1 => ?_)
    · rw [if_neg c1] at h
      refine wp_iload_n (x := v2) dX11_kind_30 rfl ?_
      refine wp_iconst (nI 1) dX11_kind_31 rfl ?_
      refine wp_icmp_ne 45 dX11_kind_32 (by decide) (fun c1 => ?_) (fun c1 => ?_)
      · rw [if_neg c1] at h
        refine wp_iload_n (x := v2) dX11_kind_45 rfl ?_
        refine wp_iconst (nI 2) dX11_kind_46 rfl ?_
        refine wp_icmp_ne 62 dX11_kind_47 (by decide) (fun c1 => ?_) (fun c1 => ?_)
        · rw [if_neg c1] at h
          refine wp_iload_n (x := v2) dX11_kind_62 rfl ?_
          refine wp_iconst (nI 3) dX11_kind_63 rfl ?_
          refine wp_icmp_ne 79 dX11_kind_64 (by decide) (fun c1 => ?_) (fun c1 => ?_)
          · rw [if_neg c1] at h
            refine wp_iload_n (x := v2) dX11_kind_79 rfl ?_
            refine wp_iconst (nI 4) dX11_kind_80 rfl ?_
            refine wp_icmp_ne 90 dX11_kind_81 (by decide) (fun c1 => ?_) (fun c1 => ?_)
            · rw [if_neg c1] at h
              refine wp_iload_n (x := v2) dX11_kind_90 rfl ?_
              refine wp_iconst (nI 5) dX11_kind_91 rfl ?_
              refine wp_icmp_ne 103 dX11_kind_92 (by decide) (fun c1 => ?_) (fun c1 => ?_)
              · rw [if_neg c1] at h
                refine wp_iload_n (x := v2) dX11_kind_103 rfl ?_
                refine wp_bipush (nI 6) dX11_kind_104 rfl ?_
                refine wp_icmp_ne 125 dX11_kind_106 (by decide) (fun c1 => ?_) (fun c1 => ?_)
                · rw [if_neg c1] at h
                  refine wp_bipush (-2) dX11_kind_125 rfl ?_
                  obtain ⟨rfl, rfl⟩ := ret2 h
                  exact wp_iret rfl dX11_kind_127 ⟨rfl, rfl, rfl⟩
                · rw [if_pos c1] at h
                  refine wp_aload_n (x := 0) dX11_kind_109 rfl ?_
                  refine wp_iload_n (x := v1) dX11_kind_110 rfl ?_
                  obtain ⟨r3, g1, h⟩ := bnd_some h
                  refine wp_cVi (d := d - 1) (o := 0) cv_X11_375 (kltM kRootM) kRootM (as := [.int v1]) (rest := []) dX11_kind_111 (by omega) cloM rfl rfl (Nat.le_of_ble_eq_true rfl) (Nat.le_of_ble_eq_true rfl) (ok_M_didAnyHave (by omega) v1 μ1 g1) ?_ rfl
                  refine wp_if_eq 121 dX11_kind_114 (by decide) (fun c1 => ?_) (fun c1 => ?_)
                  · rw [if_pos c1] at h
                    refine wp_iconst (nI 0) dX11_kind_121 rfl ?_
                    refine wp_goto 127 dX11_kind_122 (by decide) ?_
                    obtain ⟨rfl, rfl⟩ := ret2 h
                    exact wp_iret rfl dX11_kind_127 ⟨rfl, rfl, rfl⟩
                  · rw [if_neg c1] at h
                    refine wp_iconst (nI 1) dX11_kind_117 rfl ?_
                    refine wp_goto 127 dX11_kind_118 (by decide) ?_
                    obtain ⟨rfl, rfl⟩ := ret2 h
                    exact wp_iret rfl dX11_kind_127 ⟨rfl, rfl, rfl⟩
              · rw [if_pos c1] at h
                refine wp_aload_n (x := 0) dX11_kind_95 rfl ?_
                refine wp_iload_n (x := v1) dX11_kind_96 rfl ?_
                obtain ⟨r4, g1, h⟩ := bnd_some h
                refine wp_cVi (d := d - 1) (o := 0) cv_X11_372 (kltM kRootM) kRootM (as := [.int v1]) (rest := []) dX11_kind_97 (by omega) cloM rfl rfl (Nat.le_of_ble_eq_true rfl) (Nat.le_of_ble_eq_true rfl) (ok_M_lettersOf (by omega) v1 μ1 g1) ?_ rfl
                refine wp_goto 127 dX11_kind_100 (by decide) ?_
                obtain ⟨rfl, rfl⟩ := ret2 h
                exact wp_iret rfl dX11_kind_127 ⟨rfl, rfl, rfl⟩
            · rw [if_pos c1] at h
              refine wp_aload_n (x := 0) dX11_kind_84 rfl ?_
              refine wp_iload_n (x := v1) dX11_kind_85 rfl ?_
              obtain ⟨r5, g1, h⟩ := bnd_some h
              refine wp_cVi (d := d - 1) (o := 0) cv_X11_369 (kltM kRootM) kRootM (as := [.int v1]) (rest := []) dX11_kind_86 (by omega) cloM rfl rfl (Nat.le_of_ble_eq_true rfl) (Nat.le_of_ble_eq_true rfl) (ok_M_childrenOf (by omega) v1 μ1 g1) ?_ rfl
              obtain ⟨rfl, rfl⟩ := ret2 h
              exact wp_iret rfl dX11_kind_89 ⟨rfl, rfl, rfl⟩
          · rw [if_pos c1] at h
            refine wp_aload_n (x := 0) dX11_kind_67 rfl ?_
            refine wp_getR 1 fl_X11_7 (by decide) rfl (kltM kRootM) kRootM (ly11_1 kRootM).1 dX11_kind_68 ?_
            refine wp_bipush (nI 127) dX11_kind_71 rfl ?_
            refine wp_iload_n (x := v1) dX11_kind_73 rfl ?_
            refine wp_iadd dX11_kind_74 ?_
            obtain ⟨c1, h⟩ := chv_some h
            refine wp_ialde (kltM (ly11_1 kRootM).2.1) (ly11_1 kRootM).2.1 (ly11_1 kRootM).2.2 c1 dX11_kind_75 ?_
            refine wp_iconst (nI 1) dX11_kind_76 rfl ?_
            refine wp_isub dX11_kind_77 ?_
            obtain ⟨rfl, rfl⟩ := ret2 h
            exact wp_iret rfl dX11_kind_78 ⟨rfl, rfl, rfl⟩
        · rw [if_pos c1] at h
          refine wp_aload_n (x := 0) dX11_kind_50 rfl ?_
          refine wp_getR 1 fl_X11_7 (by decide) rfl (kltM kRootM) kRootM (ly11_1 kRootM).1 dX11_kind_51 ?_
          refine wp_bipush (nI 87) dX11_kind_54 rfl ?_
          refine wp_iload_n (x := v1) dX11_kind_56 rfl ?_
          refine wp_iadd dX11_kind_57 ?_
          obtain ⟨c1, h⟩ := chv_some h
          refine wp_ialde (kltM (ly11_1 kRootM).2.1) (ly11_1 kRootM).2.1 (ly11_1 kRootM).2.2 c1 dX11_kind_58 ?_
          refine wp_iconst (nI 1) dX11_kind_59 rfl ?_
          refine wp_isub dX11_kind_60 ?_
          obtain ⟨rfl, rfl⟩ := ret2 h
          exact wp_iret rfl dX11_kind_61 ⟨rfl, rfl, rfl⟩
      · rw [if_pos c1] at h
        refine wp_aload_n (x := 0) dX11_kind_35 rfl ?_
        refine wp_getR 1 fl_X11_7 (by decide) rfl (kltM kRootM) kRootM (ly11_1 kRootM).1 dX11_kind_36 ?_
        refine wp_bipush (nI 47) dX11_kind_39 rfl ?_
        refine wp_iload_n (x := v1) dX11_kind_41 rfl ?_
        refine wp_iadd dX11_kind_42 ?_
        obtain ⟨c1, h⟩ := chv_some h
        refine wp_ialde (kltM (ly11_1 kRootM).2.1) (ly11_1 kRootM).2.1 (ly11_1 kRootM).2.2 c1 dX11_kind_43 ?_
        obtain ⟨rfl, rfl⟩ := ret2 h
        exact wp_iret rfl dX11_kind_44 ⟨rfl, rfl, rfl⟩
    · rw [if_pos c1] at h
      refine wp_aload_n (x := 0) dX11_kind_20 rfl ?_
      refine wp_getR 1 fl_X11_7 (by decide) rfl (kltM kRootM) kRootM (ly11_1 kRootM).1 dX11_kind_21 ?_
      refine wp_bipush (nI 7) dX11_kind_24 rfl ?_
      refine wp_iload_n (x := v1) dX11_kind_26 rfl ?_
      refine wp_iadd dX11_kind_27 ?_
      obtain ⟨c1, h⟩ := chv_some h
      refine wp_ialde (kltM (ly11_1 kRootM).2.1) (ly11_1 kRootM).2.1 (ly11_1 kRootM).2.2 c1 dX11_kind_28 ?_
      obtain ⟨rfl, rfl⟩ := ret2 h
      exact wp_iret rfl dX11_kind_29 ⟨rfl, rfl, rfl⟩
  · rw [if_pos c1] at h
    refine wp_bipush (-2) dX11_kind_13 rfl ?_
    obtain ⟨rfl, rfl⟩ := ret2 h
    exact wp_iret rfl dX11_kind_15 ⟨rfl, rfl, rfl⟩
theorem ok_M_isTown {l : Launch} {d : Nat} (hd : 1 ≤ d) (v1 : Int32)  (μ : Mm) {r : Int32} (h : M_isTown v1 = some r) : Wp l SM d (0, 0) mX11_isTown 0 [some (.ref 0), some (.int v1)] [] μ (Qi SM r μ) := by
  unfold M_isTown at h
  refine wp_iload_n (x := v1) dX11_isTown_0 rfl ?_
  refine wp_if_lt 14 dX11_isTown_1 (by decide) (fun c1 => ?_) (fun c1 => ?_)
  · rw [if_pos c1] at h
    refine wp_iconst (nI 0) dX11_isTown_14 rfl ?_
    obtain rfl := ret1 h
    exact wp_zret rfl (Or.inl rfl) dX11_isTown_15 ⟨rfl, rfl, rfl⟩
  · rw [if_neg c1] at h
    refine wp_iload_n (x := v1) dX11_isTown_4 rfl ?_
    refine wp_bipush (nI 6) dX11_isTown_5 rfl ?_
    refine wp_icmp_ge 14 dX11_isTown_7 (by decide) (fun c1 => ?_) (fun c1 => ?_)
    · rw [if_pos c1] at h
      refine wp_iconst (nI 0) dX11_isTown_14 rfl ?_
      obtain rfl := ret1 h
      exact wp_zret rfl (Or.inl rfl) dX11_isTown_15 ⟨rfl, rfl, rfl⟩
    · rw [if_neg c1] at h
      refine wp_iconst (nI 1) dX11_isTown_10 rfl ?_
      refine wp_goto 15 dX11_isTown_11 (by decide) ?_
      obtain rfl := ret1 h
      exact wp_zret rfl (Or.inr rfl) dX11_isTown_15 ⟨rfl, rfl, rfl⟩
theorem ok_M_post {l : Launch} {d : Nat} (hd : 2 ≤ d) (v1 : Int32)  (v2 : Int32)  (μ : Mm) {r : Int32} {μ' : Mm} (h : M_post v1 v2 μ = some (r, μ')) : Wp l SM d (0, 0) mX11_post 0 [some (.ref 0), some (.int v1), some (.int v2)] [] μ (Qi SM r μ') := by
  unfold M_post at h
  refine wp_aload_n (x := 0) dX11_post_0 rfl ?_
  refine wp_iconst (nI 0) dX11_post_1 rfl ?_
  obtain ⟨μ1, e1, h⟩ := lt_some h
  refine wp_putIe e1 fl_X11_86 (by decide) rfl (kltM kRootM) kRootM dX11_post_2 ?_
  refine wp_aload_n (x := 0) dX11_post_5 rfl ?_
  refine wp_iload_n (x := v1) dX11_post_6 rfl ?_
  obtain ⟨r2, g1, h⟩ := bnd_some h
  refine wp_cVi (d := d - 1) (o := 0) cv_X11_378 (kltM kRootM) kRootM (as := [.int v1]) (rest := []) dX11_post_7 (by omega) cloM rfl rfl (Nat.le_of_ble_eq_true rfl) (Nat.le_of_ble_eq_true rfl) (ok_M_isTown (by omega) v1 μ1 g1) ?_ rfl
  refine wp_if_eq 30 dX11_post_10 (by decide) (fun c1 => ?_) (fun c1 => ?_)
  · rw [if_pos c1] at h
    refine wp_iconst (-1) dX11_post_30 rfl ?_
    obtain ⟨rfl, rfl⟩ := ret2 h
    exact wp_iret rfl dX11_post_31 ⟨rfl, rfl, rfl⟩
  · rw [if_neg c1] at h
    refine wp_aload_n (x := 0) dX11_post_13 rfl ?_
    refine wp_iload_n (x := v2) dX11_post_14 rfl ?_
    obtain ⟨r3, g1, h⟩ := bnd_some h
    refine wp_cVi (d := d - 1) (o := 0) cv_X11_378 (kltM kRootM) kRootM (as := [.int v2]) (rest := []) dX11_post_15 (by omega) cloM rfl rfl (Nat.le_of_ble_eq_true rfl) (Nat.le_of_ble_eq_true rfl) (ok_M_isTown (by omega) v2 μ1 g1) ?_ rfl
    refine wp_if_eq 30 dX11_post_18 (by decide) (fun c1 => ?_) (fun c1 => ?_)
    · rw [if_pos c1] at h
      refine wp_iconst (-1) dX11_post_30 rfl ?_
      obtain ⟨rfl, rfl⟩ := ret2 h
      exact wp_iret rfl dX11_post_31 ⟨rfl, rfl, rfl⟩
    · rw [if_neg c1] at h
      refine wp_aload_n (x := 0) dX11_post_21 rfl ?_
      refine wp_iload_n (x := v1) dX11_post_22 rfl ?_
      refine wp_iload_n (x := v2) dX11_post_23 rfl ?_
      obtain ⟨r4, g1, h⟩ := bnd_some h
      refine wp_cVi (d := d - 1) (o := 0) cv_X11_318 (kltM kRootM) kRootM (as := [.int v1, .int v2]) (rest := []) dX11_post_24 (by omega) cloM rfl rfl (Nat.le_of_ble_eq_true rfl) (Nat.le_of_ble_eq_true rfl) (ok_M_postOf (by omega) v1 v2 μ1 g1) ?_ rfl
      refine wp_goto 31 dX11_post_27 (by decide) ?_
      obtain ⟨rfl, rfl⟩ := ret2 h
      exact wp_iret rfl dX11_post_31 ⟨rfl, rfl, rfl⟩
theorem ok_M_book {l : Launch} {d : Nat} (hd : 2 ≤ d) (v1 : Int32)  (v2 : Int32)  (μ : Mm) {r : Int32} {μ' : Mm} (h : M_book v1 v2 μ = some (r, μ')) : Wp l SM d (0, 0) mX11_book 0 [some (.ref 0), some (.int v1), some (.int v2)] [] μ (Qi SM r μ') := by
  unfold M_book at h
  refine wp_aload_n (x := 0) dX11_book_0 rfl ?_
  refine wp_iconst (nI 0) dX11_book_1 rfl ?_
  obtain ⟨μ1, e1, h⟩ := lt_some h
  refine wp_putIe e1 fl_X11_86 (by decide) rfl (kltM kRootM) kRootM dX11_book_2 ?_
  refine wp_aload_n (x := 0) dX11_book_5 rfl ?_
  refine wp_iload_n (x := v1) dX11_book_6 rfl ?_
  refine wp_iconst (nI 0) dX11_book_7 rfl ?_
  refine wp_aload_n (x := 0) dX11_book_8 rfl ?_
  refine wp_getR 1 fl_X11_7 (by decide) rfl (kltM kRootM) kRootM (ly11_1 kRootM).1 dX11_book_9 ?_
  refine wp_iconst (nI 2) dX11_book_12 rfl ?_
  obtain ⟨c1, h⟩ := chv_some h
  refine wp_ialde (kltM (ly11_1 kRootM).2.1) (ly11_1 kRootM).2.1 (ly11_1 kRootM).2.2 c1 dX11_book_13 ?_
  refine wp_iconst (nI 1) dX11_book_14 rfl ?_
  refine wp_isub dX11_book_15 ?_
  obtain ⟨r2, g1, h⟩ := bnd_some h
  refine wp_cVi (d := d - 1) (o := 0) cv_X11_113 (kltM kRootM) kRootM (as := [.int v1, .int (nI 0), .int ((μ1.1 1 (ix (nI 2))) - (nI 1))]) (rest := []) dX11_book_16 (by omega) cloM rfl rfl (Nat.le_of_ble_eq_true rfl) (Nat.le_of_ble_eq_true rfl) (ok_M_isIn (by omega) v1 (nI 0) ((μ1.1 1 (ix (nI 2))) - (nI 1)) μ1 g1) ?_ rfl
  refine wp_if_eq 45 dX11_book_19 (by decide) (fun c1 => ?_) (fun c1 => ?_)
  · rw [if_pos c1] at h
    refine wp_bipush (-2) dX11_book_45 rfl ?_
    obtain ⟨rfl, rfl⟩ := ret2 h
    exact wp_iret rfl dX11_book_47 ⟨rfl, rfl, rfl⟩
  · rw [if_neg c1] at h
    refine wp_aload_n (x := 0) dX11_book_22 rfl ?_
    refine wp_iload_n (x := v2) dX11_book_23 rfl ?_
    refine wp_iconst (nI 0) dX11_book_24 rfl ?_
    refine wp_iconst (nI 4) dX11_book_25 rfl ?_
    obtain ⟨r3, g1, h⟩ := bnd_some h
    refine wp_cVi (d := d - 1) (o := 0) cv_X11_113 (kltM kRootM) kRootM (as := [.int v2, .int (nI 0), .int (nI 4)]) (rest := []) dX11_book_26 (by omega) cloM rfl rfl (Nat.le_of_ble_eq_true rfl) (Nat.le_of_ble_eq_true rfl) (ok_M_isIn (by omega) v2 (nI 0) (nI 4) μ1 g1) ?_ rfl
    refine wp_if_eq 45 dX11_book_29 (by decide) (fun c1 => ?_) (fun c1 => ?_)
    · rw [if_pos c1] at h
      refine wp_bipush (-2) dX11_book_45 rfl ?_
      obtain ⟨rfl, rfl⟩ := ret2 h
      exact wp_iret rfl dX11_book_47 ⟨rfl, rfl, rfl⟩
    · rw [if_neg c1] at h
      refine wp_aload_n (x := 0) dX11_book_32 rfl ?_
      refine wp_getR 10 fl_X11_37 (by decide) rfl (kltM kRootM) kRootM (ly11_19 kRootM).1 dX11_book_33 ?_
      refine wp_iconst (nI 5) dX11_book_36 rfl ?_
      refine wp_iload_n (x := v1) dX11_book_37 rfl ?_
      refine wp_imul dX11_book_38 ?_
      refine wp_iload_n (x := v2) dX11_book_39 rfl ?_
      refine wp_iadd dX11_book_40 ?_
      obtain ⟨c1, h⟩ := chv_some h
      refine wp_ialde (kltM (ly11_19 kRootM).2.1) (ly11_19 kRootM).2.1 (ly11_19 kRootM).2.2 c1 dX11_book_41 ?_
      refine wp_goto 47 dX11_book_42 (by decide) ?_
      obtain ⟨rfl, rfl⟩ := ret2 h
      exact wp_iret rfl dX11_book_47 ⟨rfl, rfl, rfl⟩
theorem ok_M_heldIn_j40 {l : Launch} {d : Nat} (hd : 1 ≤ d) (v1 : Int32)  (v2 : Int32)  (v3 : Int32)  (μ : Mm) {Q : Option Value → Sh → Mm → Prop} (K : (Int32 × Int32) ⊕ Int32 → Prop) (hb : ∀ (s : (Int32 × Int32)), K (Sum.inl s) → Wp l SM d (0, 0) mX11_heldIn 4 [some (.ref 0), some (.int v1), some (.int s.1), some (.int s.2)] [] μ Q) (he0 : ∀ (x : Int32) (z1 : Option Value) (z3 : Option Value), K (Sum.inr x) → Wp l SM d (0, 0) mX11_heldIn 46 [some (.ref 0), z1, some (.int x), z3] [] μ Q) {z : (Int32 × Int32) ⊕ Int32} (h : M_heldIn_j40 v1 v2 v3 μ = some z) (hz : K z) : Wp l SM d (0, 0) mX11_heldIn 40 [some (.ref 0), some (.int v1), some (.int v2), some (.int v3)] [] μ Q := by
  unfold M_heldIn_j40 at h
  refine wp_iinc (x := v3) (k0 := (nI 1)) (L2 := [some (.ref 0), some (.int v1), some (.int v2), some (.int (v3 + (nI 1)))]) dX11_heldIn_40 rfl rfl (by decide) rfl rfl ?_
  refine wp_goto 4 dX11_heldIn_43 (by decide) ?_
  obtain rfl := some1 h
  exact hb (v2, (v3 + (nI 1))) hz
theorem ok_M_heldIn_j27 {l : Launch} {d : Nat} (hd : 1 ≤ d) (v1 : Int32)  (v2 : Int32)  (v3 : Int32)  (μ : Mm) {Q : Option Value → Sh → Mm → Prop} (K : (Int32 × Int32) ⊕ Int32 → Prop) (hb : ∀ (s : (Int32 × Int32)), K (Sum.inl s) → Wp l SM d (0, 0) mX11_heldIn 4 [some (.ref 0), some (.int v1), some (.int s.1), some (.int s.2)] [] μ Q) (he0 : ∀ (x : Int32) (z1 : Option Value) (z3 : Option Value), K (Sum.inr x) → Wp l SM d (0, 0) mX11_heldIn 46 [some (.ref 0), z1, some (.int x), z3] [] μ Q) {z : (Int32 × Int32) ⊕ Int32} (h : M_heldIn_j27 v1 v2 v3 μ = some z) (hz : K z) : Wp l SM d (0, 0) mX11_heldIn 27 [some (.ref 0), some (.int v1), some (.int v2), some (.int v3)] [] μ Q := by
  unfold M_heldIn_j27 at h
  refine wp_iload_n (x := v2) dX11_heldIn_27 rfl ?_
  refine wp_aload_n (x := 0) dX11_heldIn_28 rfl ?_
  refine wp_getR 1 fl_X11_7 (by decide) rfl (kltM kRootM) kRootM (ly11_1 kRootM).1 dX11_heldIn_29 ?_
  refine wp_sipush (nI 263) dX11_heldIn_32 rfl ?_
  refine wp_iload_n (x := v3) dX11_heldIn_35 rfl ?_
  refine wp_iadd dX11_heldIn_36 ?_
  obtain ⟨c1, h⟩ := chv_some h
  refine wp_ialde (kltM (ly11_1 kRootM).2.1) (ly11_1 kRootM).2.1 (ly11_1 kRootM).2.2 c1 dX11_heldIn_37 ?_
  refine wp_iadd dX11_heldIn_38 ?_
  refine wp_istore_n (L2 := [some (.ref 0), some (.int v1), some (.int (v2 + (μ.1 1 (ix ((nI 263) + v3))))), some (.int v3)]) dX11_heldIn_39 (by decide) rfl rfl ?_
  exact ok_M_heldIn_j40 hd v1 (v2 + (μ.1 1 (ix ((nI 263) + v3)))) v3 μ K hb he0 h hz
theorem ok_M_heldIn_l4 {l : Launch} {d : Nat} (hd : 1 ≤ d) (v1 : Int32)  (v2 : Int32)  (v3 : Int32)  (μ : Mm) {Q : Option Value → Sh → Mm → Prop} (K : (Int32 × Int32) ⊕ Int32 → Prop) (hb : ∀ (s : (Int32 × Int32)), K (Sum.inl s) → Wp l SM d (0, 0) mX11_heldIn 4 [some (.ref 0), some (.int v1), some (.int s.1), some (.int s.2)] [] μ Q) (he0 : ∀ (x : Int32) (z1 : Option Value) (z3 : Option Value), K (Sum.inr x) → Wp l SM d (0, 0) mX11_heldIn 46 [some (.ref 0), z1, some (.int x), z3] [] μ Q) {z : (Int32 × Int32) ⊕ Int32} (h : M_heldIn_l4 v1 v2 v3 μ = some z) (hz : K z) : Wp l SM d (0, 0) mX11_heldIn 4 [some (.ref 0), some (.int v1), some (.int v2), some (.int v3)] [] μ Q := by
  unfold M_heldIn_l4 at h
  refine wp_iload_n (x := v3) dX11_heldIn_4 rfl ?_
  refine wp_aload_n (x := 0) dX11_heldIn_5 rfl ?_
  refine wp_getI fl_X11_107 (by decide) rfl (kltM kRootM) kRootM dX11_heldIn_6 ?_
  refine wp_icmp_ge 46 dX11_heldIn_9 (by decide) (fun c1 => ?_) (fun c1 => ?_)
  · rw [if_pos c1] at h
    obtain rfl := some1 h
    exact he0 v2 _ _ hz
  · rw [if_neg c1] at h
    refine wp_iload_n (x := v1) dX11_heldIn_12 rfl ?_
    refine wp_iconst (-1) dX11_heldIn_13 rfl ?_
    refine wp_icmp_eq 27 dX11_heldIn_14 (by decide) (fun c1 => ?_) (fun c1 => ?_)
    · rw [if_pos c1] at h
      exact ok_M_heldIn_j27 hd v1 v2 v3 μ K hb he0 h hz
    · rw [if_neg c1] at h
      refine wp_aload_n (x := 0) dX11_heldIn_17 rfl ?_
      refine wp_getR 4 fl_X11_19 (by decide) rfl (kltM kRootM) kRootM (ly11_7 kRootM).1 dX11_heldIn_18 ?_
      refine wp_iload_n (x := v3) dX11_heldIn_21 rfl ?_
      obtain ⟨c1, h⟩ := chv_some h
      refine wp_ialde (kltM (ly11_7 kRootM).2.1) (ly11_7 kRootM).2.1 (ly11_7 kRootM).2.2 c1 dX11_heldIn_22 ?_
      refine wp_iload_n (x := v1) dX11_heldIn_23 rfl ?_
      refine wp_icmp_ne 40 dX11_heldIn_24 (by decide) (fun c1 => ?_) (fun c1 => ?_)
      · rw [if_neg c1] at h
        exact ok_M_heldIn_j40 hd v1 v2 v3 μ K hb he0 h hz
      · rw [if_pos c1] at h
        exact ok_M_heldIn_j27 hd v1 v2 v3 μ K hb he0 h hz
theorem okl_M_heldIn_l4 {l : Launch} {d : Nat} (hd : 1 ≤ d) (v1 : Int32)  (μ : Mm) {Q : Option Value → Sh → Mm → Prop} (K : Int32 → Prop) (he0 : ∀ (x : Int32) (z1 : Option Value) (z3 : Option Value), K x → Wp l SM d (0, 0) mX11_heldIn 46 [some (.ref 0), z1, some (.int x), z3] [] μ Q) : ∀ (n : Nat) (s : (Int32 × Int32)) (y : Int32) , iter n (fun s => M_heldIn_l4 v1 s.1 s.2 μ) s = some y → K y → Wp l SM d (0, 0) mX11_heldIn 4 [some (.ref 0), some (.int v1), some (.int s.1), some (.int s.2)] [] μ Q := by
  intro n
  induction n with
  | zero => intro s y  h; cases h
  | succ n ih =>
    intro s y  h hK
    obtain ⟨z, hz, hn⟩ := iter_some h
    refine ok_M_heldIn_l4 hd v1 s.1 s.2 μ (fun z => nxt n (fun s => M_heldIn_l4 v1 s.1 s.2 μ) z y) ?_ ?_ hz hn
    · intro s2  h2
      exact ih s2 y h2 hK
    · intro x z1 z3 h2
      have h3 : x = y := h2
      subst h3
      exact he0 x _ _ hK
theorem ok_M_heldIn {l : Launch} {d : Nat} (hd : 1 ≤ d) (v1 : Int32)  (μ : Mm) {r : Int32} (h : M_heldIn v1 μ = some r) : Wp l SM d (0, 0) mX11_heldIn 0 [some (.ref 0), some (.int v1), none, none] [] μ (Qi SM r μ) := by
  unfold M_heldIn at h
  refine wp_iconst (nI 0) dX11_heldIn_0 rfl ?_
  refine wp_istore_n (L2 := [some (.ref 0), some (.int v1), some (.int (nI 0)), none]) dX11_heldIn_1 (by decide) rfl rfl ?_
  refine wp_iconst (nI 0) dX11_heldIn_2 rfl ?_
  refine wp_istore_n (L2 := [some (.ref 0), some (.int v1), some (.int (nI 0)), some (.int (nI 0))]) dX11_heldIn_3 (by decide) rfl rfl ?_
  obtain ⟨x4, hi, h⟩ := bni_some h
  refine okl_M_heldIn_l4 hd v1 μ (fun z => z = x4) ?_ 1000000 ((nI 0), (nI 0)) x4 hi rfl
  · intro y0 z1 z3 e0
    have e0 : y0 = x4 := e0
    subst e0
    refine wp_iload_n (x := y0) dX11_heldIn_46 rfl ?_
    obtain rfl := ret1 h
    exact wp_iret rfl dX11_heldIn_47 ⟨rfl, rfl, rfl⟩
theorem ok_M_many_l37 {l : Launch} {d : Nat} (hd : 8 ≤ d) (v1 : Int32)  (v2 : Int32)  (v3 : Int32)  (μ : Mm) {Q : Option Value → Sh → Mm → Prop} (K : (Int32 × Mm) ⊕ Mm → Prop) (hb : ∀ (s : (Int32 × Mm)), K (Sum.inl s) → Wp l SM d (0, 0) mX11_many 37 [some (.ref 0), some (.int v1), some (.int v2), some (.int s.1)] [] s.2 Q) (he0 : ∀ (x : Mm) (z1 : Option Value) (z3 : Option Value), K (Sum.inr x) → Wp l SM d (0, 0) mX11_many 53 [some (.ref 0), z1, some (.int v2), z3] [] x Q) {z : (Int32 × Mm) ⊕ Mm} (h : M_many_l37 v1 v2 v3 μ = some z) (hz : K z) : Wp l SM d (0, 0) mX11_many 37 [some (.ref 0), some (.int v1), some (.int v2), some (.int v3)] [] μ Q := by
  unfold M_many_l37 at h
  refine wp_iload_n (x := v3) dX11_many_37 rfl ?_
  refine wp_iload_n (x := v1) dX11_many_38 rfl ?_
  refine wp_icmp_ge 53 dX11_many_39 (by decide) (fun c1 => ?_) (fun c1 => ?_)
  · rw [if_pos c1] at h
    obtain rfl := some1 h
    exact he0 μ _ _ hz
  · rw [if_neg c1] at h
    refine wp_aload_n (x := 0) dX11_many_42 rfl ?_
    obtain ⟨r5, μ4, g1, h⟩ := bnd2_some h
    refine wp_cVi (d := d - 1) (o := 0) cv_X11_357 (kltM kRootM) kRootM (as := []) (rest := []) dX11_many_43 (by omega) cloM rfl rfl (Nat.le_of_ble_eq_true rfl) (Nat.le_of_ble_eq_true rfl) (ok_M_goesBy (by omega) μ g1) ?_ rfl
    refine wp_pop dX11_many_46 rfl ?_
    refine wp_iinc (x := v3) (k0 := (nI 1)) (L2 := [some (.ref 0), some (.int v1), some (.int v2), some (.int (v3 + (nI 1)))]) dX11_many_47 rfl rfl (by decide) rfl rfl ?_
    refine wp_goto 37 dX11_many_50 (by decide) ?_
    obtain rfl := some1 h
    exact hb ((v3 + (nI 1)), μ4) hz
theorem okl_M_many_l37 {l : Launch} {d : Nat} (hd : 8 ≤ d) (v1 : Int32)  (v2 : Int32)  {Q : Option Value → Sh → Mm → Prop} (K : Mm → Prop) (he0 : ∀ (x : Mm) (z1 : Option Value) (z3 : Option Value), K x → Wp l SM d (0, 0) mX11_many 53 [some (.ref 0), z1, some (.int v2), z3] [] x Q) : ∀ (n : Nat) (s : (Int32 × Mm)) (y : Mm) , iter n (fun s => M_many_l37 v1 v2 s.1 s.2) s = some y → K y → Wp l SM d (0, 0) mX11_many 37 [some (.ref 0), some (.int v1), some (.int v2), some (.int s.1)] [] s.2 Q := by
  intro n
  induction n with
  | zero => intro s y  h; cases h
  | succ n ih =>
    intro s y  h hK
    obtain ⟨z, hz, hn⟩ := iter_some h
    refine ok_M_many_l37 hd v1 v2 s.1 s.2 (fun z => nxt n (fun s => M_many_l37 v1 v2 s.1 s.2) z y) ?_ ?_ hz hn
    · intro s2  h2
      exact ih s2 y h2 hK
    · intro x z1 z3 h2
      have h3 : x = y := h2
      subst h3
      exact he0 x _ _ hK
theorem ok_M_many_j31 {l : Launch} {d : Nat} (hd : 8 ≤ d) (v1 : Int32)  (v2 : Int32)  (μ : Mm) (z3 : Option Value) {r : Int32} {μ' : Mm} (h : M_many_j31 v1 v2 μ = some (r, μ')) : Wp l SM d (0, 0) mX11_many 31 [some (.ref 0), some (.int v1), some (.int v2), z3] [] μ (Qi SM r μ') := by
  unfold M_many_j31 at h
  refine wp_aload_n (x := 0) dX11_many_31 rfl ?_
  obtain ⟨μ3, g1, h⟩ := bnd_some h
  refine wp_cVv (d := d - 1) (o := 0) cv_X11_381 (kltM kRootM) kRootM (as := []) (rest := []) dX11_many_32 (by omega) cloM rfl rfl (Nat.le_of_ble_eq_true rfl) (Nat.le_of_ble_eq_true rfl) (ok_M_thinks (by omega) μ g1) ?_ rfl
  refine wp_iconst (nI 0) dX11_many_35 rfl ?_
  refine wp_istore_n (L2 := [some (.ref 0), some (.int v1), some (.int v2), some (.int (nI 0))]) dX11_many_36 (by decide) rfl rfl ?_
  obtain ⟨x37, hi, h⟩ := bni_some h
  refine okl_M_many_l37 hd v1 v2 (fun z => z = x37) ?_ 1000000 ((nI 0), μ3) x37 hi rfl
  · intro y0 z1 z3 e0
    have e0 : y0 = x37 := e0
    subst e0
    refine wp_aload_n (x := 0) dX11_many_53 rfl ?_
    refine wp_iload_n (x := v2) dX11_many_54 rfl ?_
    obtain ⟨r6, g1, h⟩ := bnd_some h
    refine wp_cVi (d := d - 1) (o := 0) cv_X11_384 (kltM kRootM) kRootM (as := [.int v2]) (rest := []) dX11_many_55 (by omega) cloM rfl rfl (Nat.le_of_ble_eq_true rfl) (Nat.le_of_ble_eq_true rfl) (ok_M_heldIn (by omega) v2 y0 g1) ?_ rfl
    refine wp_istore_n (L2 := [some (.ref 0), z1, some (.int v2), some (.int r6)]) dX11_many_58 (by decide) rfl rfl ?_
    refine wp_aload_n (x := 0) dX11_many_59 rfl ?_
    obtain ⟨μ7, g1, h⟩ := bnd_some h
    refine wp_cVv (d := d - 1) (o := 0) cv_X11_387 (kltM kRootM) kRootM (as := []) (rest := []) dX11_many_60 (by omega) cloM rfl rfl (Nat.le_of_ble_eq_true rfl) (Nat.le_of_ble_eq_true rfl) (ok_M_endsThought (by omega) y0 g1) ?_ rfl
    refine wp_iload_n (x := r6) dX11_many_63 rfl ?_
    obtain ⟨rfl, rfl⟩ := ret2 h
    exact wp_iret rfl dX11_many_64 ⟨rfl, rfl, rfl⟩
theorem ok_M_many {l : Launch} {d : Nat} (hd : 8 ≤ d) (v1 : Int32)  (v2 : Int32)  (μ : Mm) {r : Int32} {μ' : Mm} (h : M_many v1 v2 μ = some (r, μ')) : Wp l SM d (0, 0) mX11_many 0 [some (.ref 0), some (.int v1), some (.int v2), none] [] μ (Qi SM r μ') := by
  unfold M_many at h
  refine wp_aload_n (x := 0) dX11_many_0 rfl ?_
  refine wp_iconst (nI 0) dX11_many_1 rfl ?_
  obtain ⟨μ1, e1, h⟩ := lt_some h
  refine wp_putIe e1 fl_X11_86 (by decide) rfl (kltM kRootM) kRootM dX11_many_2 ?_
  refine wp_aload_n (x := 0) dX11_many_5 rfl ?_
  refine wp_iload_n (x := v1) dX11_many_6 rfl ?_
  refine wp_iconst (nI 0) dX11_many_7 rfl ?_
  refine wp_bipush (nI 99) dX11_many_8 rfl ?_
  obtain ⟨r2, g1, h⟩ := bnd_some h
  refine wp_cVi (d := d - 1) (o := 0) cv_X11_113 (kltM kRootM) kRootM (as := [.int v1, .int (nI 0), .int (nI 99)]) (rest := []) dX11_many_10 (by omega) cloM rfl rfl (Nat.le_of_ble_eq_true rfl) (Nat.le_of_ble_eq_true rfl) (ok_M_isIn (by omega) v1 (nI 0) (nI 99) μ1 g1) ?_ rfl
  refine wp_if_eq 29 dX11_many_13 (by decide) (fun c1 => ?_) (fun c1 => ?_)
  · rw [if_pos c1] at h
    refine wp_iconst (-1) dX11_many_29 rfl ?_
    obtain ⟨rfl, rfl⟩ := ret2 h
    exact wp_iret rfl dX11_many_30 ⟨rfl, rfl, rfl⟩
  · rw [if_neg c1] at h
    refine wp_iload_n (x := v2) dX11_many_16 rfl ?_
    refine wp_iconst (-1) dX11_many_17 rfl ?_
    refine wp_icmp_eq 31 dX11_many_18 (by decide) (fun c1 => ?_) (fun c1 => ?_)
    · rw [if_pos c1] at h
      exact ok_M_many_j31 hd v1 v2 μ1 _ h
    · rw [if_neg c1] at h
      refine wp_aload_n (x := 0) dX11_many_21 rfl ?_
      refine wp_iload_n (x := v2) dX11_many_22 rfl ?_
      obtain ⟨r8, g1, h⟩ := bnd_some h
      refine wp_cVi (d := d - 1) (o := 0) cv_X11_378 (kltM kRootM) kRootM (as := [.int v2]) (rest := []) dX11_many_23 (by omega) cloM rfl rfl (Nat.le_of_ble_eq_true rfl) (Nat.le_of_ble_eq_true rfl) (ok_M_isTown (by omega) v2 μ1 g1) ?_ rfl
      refine wp_if_ne 31 dX11_many_26 (by decide) (fun c1 => ?_) (fun c1 => ?_)
      · rw [if_neg c1] at h
        exact ok_M_many_j31 hd v1 v2 μ1 _ h
      · rw [if_pos c1] at h
        refine wp_iconst (-1) dX11_many_29 rfl ?_
        obtain ⟨rfl, rfl⟩ := ret2 h
        exact wp_iret rfl dX11_many_30 ⟨rfl, rfl, rfl⟩
theorem ok_M_isOver_j48 {l : Launch} {d : Nat} (hd : 1 ≤ d) (v1 : Int32)  (μ : Mm) {Q : Option Value → Sh → Mm → Prop} (K : Int32 ⊕ (Unit ⊕ Unit) → Prop) (hb : ∀ (s : Int32), K (Sum.inl s) → Wp l SM d (0, 0) mX11_isOver 15 [some (.ref 0), some (.int s)] [] μ Q) (he0 : ∀ (x : Unit) (z1 : Option Value), K (Sum.inr (Sum.inl x)) → Wp l SM d (0, 0) mX11_isOver 46 [some (.ref 0), z1] [] μ Q) (he1 : ∀ (x : Unit) (z1 : Option Value), K (Sum.inr (Sum.inr x)) → Wp l SM d (0, 0) mX11_isOver 54 [some (.ref 0), z1] [] μ Q) {z : Int32 ⊕ (Unit ⊕ Unit)} (h : M_isOver_j48 v1 μ = some z) (hz : K z) : Wp l SM d (0, 0) mX11_isOver 48 [some (.ref 0), some (.int v1)] [] μ Q := by
  unfold M_isOver_j48 at h
  refine wp_iinc (x := v1) (k0 := (nI 1)) (L2 := [some (.ref 0), some (.int (v1 + (nI 1)))]) dX11_isOver_48 rfl rfl (by decide) rfl rfl ?_
  refine wp_goto 15 dX11_isOver_51 (by decide) ?_
  obtain rfl := some1 h
  exact hb (v1 + (nI 1)) hz
theorem ok_M_isOver_l15 {l : Launch} {d : Nat} (hd : 1 ≤ d) (v1 : Int32)  (μ : Mm) {Q : Option Value → Sh → Mm → Prop} (K : Int32 ⊕ (Unit ⊕ Unit) → Prop) (hb : ∀ (s : Int32), K (Sum.inl s) → Wp l SM d (0, 0) mX11_isOver 15 [some (.ref 0), some (.int s)] [] μ Q) (he0 : ∀ (x : Unit) (z1 : Option Value), K (Sum.inr (Sum.inl x)) → Wp l SM d (0, 0) mX11_isOver 46 [some (.ref 0), z1] [] μ Q) (he1 : ∀ (x : Unit) (z1 : Option Value), K (Sum.inr (Sum.inr x)) → Wp l SM d (0, 0) mX11_isOver 54 [some (.ref 0), z1] [] μ Q) {z : Int32 ⊕ (Unit ⊕ Unit)} (h : M_isOver_l15 v1 μ = some z) (hz : K z) : Wp l SM d (0, 0) mX11_isOver 15 [some (.ref 0), some (.int v1)] [] μ Q := by
  unfold M_isOver_l15 at h
  refine wp_iload_n (x := v1) dX11_isOver_15 rfl ?_
  refine wp_aload_n (x := 0) dX11_isOver_16 rfl ?_
  refine wp_getI fl_X11_107 (by decide) rfl (kltM kRootM) kRootM dX11_isOver_17 ?_
  refine wp_icmp_ge 54 dX11_isOver_20 (by decide) (fun c1 => ?_) (fun c1 => ?_)
  · rw [if_pos c1] at h
    obtain rfl := some1 h
    exact he1 () _ hz
  · rw [if_neg c1] at h
    refine wp_aload_n (x := 0) dX11_isOver_23 rfl ?_
    refine wp_getR 5 fl_X11_22 (by decide) rfl (kltM kRootM) kRootM (ly11_8 kRootM).1 dX11_isOver_24 ?_
    refine wp_iload_n (x := v1) dX11_isOver_27 rfl ?_
    obtain ⟨c1, h⟩ := chv_some h
    refine wp_ialde (kltM (ly11_8 kRootM).2.1) (ly11_8 kRootM).2.1 (ly11_8 kRootM).2.2 c1 dX11_isOver_28 ?_
    refine wp_iconst (nI 2) dX11_isOver_29 rfl ?_
    refine wp_icmp_eq 48 dX11_isOver_30 (by decide) (fun c1 => ?_) (fun c1 => ?_)
    · rw [if_pos c1] at h
      exact ok_M_isOver_j48 hd v1 μ K hb he0 he1 h hz
    · rw [if_neg c1] at h
      refine wp_aload_n (x := 0) dX11_isOver_33 rfl ?_
      refine wp_getR 1 fl_X11_7 (by decide) rfl (kltM kRootM) kRootM (ly11_1 kRootM).1 dX11_isOver_34 ?_
      refine wp_sipush (nI 263) dX11_isOver_37 rfl ?_
      refine wp_iload_n (x := v1) dX11_isOver_40 rfl ?_
      refine wp_iadd dX11_isOver_41 ?_
      obtain ⟨c1, h⟩ := chv_some h
      refine wp_ialde (kltM (ly11_1 kRootM).2.1) (ly11_1 kRootM).2.1 (ly11_1 kRootM).2.2 c1 dX11_isOver_42 ?_
      refine wp_if_le 48 dX11_isOver_43 (by decide) (fun c1 => ?_) (fun c1 => ?_)
      · rw [if_pos c1] at h
        exact ok_M_isOver_j48 hd v1 μ K hb he0 he1 h hz
      · rw [if_neg c1] at h
        obtain rfl := some1 h
        exact he0 () _ hz
theorem okl_M_isOver_l15 {l : Launch} {d : Nat} (hd : 1 ≤ d) (μ : Mm) {Q : Option Value → Sh → Mm → Prop} (K : (Unit ⊕ Unit) → Prop) (he0 : ∀ (x : Unit) (z1 : Option Value), K (Sum.inl x) → Wp l SM d (0, 0) mX11_isOver 46 [some (.ref 0), z1] [] μ Q) (he1 : ∀ (x : Unit) (z1 : Option Value), K (Sum.inr x) → Wp l SM d (0, 0) mX11_isOver 54 [some (.ref 0), z1] [] μ Q) : ∀ (n : Nat) (s : Int32) (y : (Unit ⊕ Unit)) , iter n (fun s => M_isOver_l15 s μ) s = some y → K y → Wp l SM d (0, 0) mX11_isOver 15 [some (.ref 0), some (.int s)] [] μ Q := by
  intro n
  induction n with
  | zero => intro s y  h; cases h
  | succ n ih =>
    intro s y  h hK
    obtain ⟨z, hz, hn⟩ := iter_some h
    refine ok_M_isOver_l15 hd s μ (fun z => nxt n (fun s => M_isOver_l15 s μ) z y) ?_ ?_ ?_ hz hn
    · intro s2  h2
      exact ih s2 y h2 hK
    · intro x z1 h2
      have h3 : (Sum.inl x) = y := h2
      subst h3
      exact he0 x _ hK
    · intro x z1 h2
      have h3 : (Sum.inr x) = y := h2
      subst h3
      exact he1 x _ hK
theorem ok_M_isOver {l : Launch} {d : Nat} (hd : 1 ≤ d) (μ : Mm) {r : Int32} (h : M_isOver μ = some r) : Wp l SM d (0, 0) mX11_isOver 0 [some (.ref 0), none] [] μ (Qi SM r μ) := by
  unfold M_isOver at h
  refine wp_aload_n (x := 0) dX11_isOver_0 rfl ?_
  refine wp_getR 1 fl_X11_7 (by decide) rfl (kltM kRootM) kRootM (ly11_1 kRootM).1 dX11_isOver_1 ?_
  refine wp_sipush (nI 471) dX11_isOver_4 rfl ?_
  obtain ⟨c1, h⟩ := chv_some h
  refine wp_ialde (kltM (ly11_1 kRootM).2.1) (ly11_1 kRootM).2.1 (ly11_1 kRootM).2.2 c1 dX11_isOver_7 ?_
  refine wp_if_le 13 dX11_isOver_8 (by decide) (fun c1 => ?_) (fun c1 => ?_)
  · rw [if_pos c1] at h
    refine wp_iconst (nI 0) dX11_isOver_13 rfl ?_
    refine wp_istore_n (L2 := [some (.ref 0), some (.int (nI 0))]) dX11_isOver_14 (by decide) rfl rfl ?_
    obtain ⟨x15, hi, h⟩ := bni_some h
    refine okl_M_isOver_l15 hd  μ (fun z => z = x15) ?_ ?_ 1000000 (nI 0) x15 hi rfl
    · intro x15a z1 e0
      have e0 : (Sum.inl x15a) = x15 := e0
      subst e0
      replace h := eL h
      refine wp_iconst (nI 0) dX11_isOver_46 rfl ?_
      obtain rfl := ret1 h
      exact wp_zret rfl (Or.inl rfl) dX11_isOver_47 ⟨rfl, rfl, rfl⟩
    · intro x15b z1 e0
      have e0 : (Sum.inr x15b) = x15 := e0
      subst e0
      replace h := eR h
      refine wp_iconst (nI 1) dX11_isOver_54 rfl ?_
      obtain rfl := ret1 h
      exact wp_zret rfl (Or.inr rfl) dX11_isOver_55 ⟨rfl, rfl, rfl⟩
  · rw [if_neg c1] at h
    refine wp_iconst (nI 0) dX11_isOver_11 rfl ?_
    obtain rfl := ret1 h
    exact wp_zret rfl (Or.inl rfl) dX11_isOver_12 ⟨rfl, rfl, rfl⟩
theorem ok_M_overBy_l2 {l : Launch} {d : Nat} (hd : 8 ≤ d) (v1 : Int32)  (v2 : Int32)  (μ : Mm) {Q : Option Value → Sh → Mm → Prop} (K : (Int32 × Mm) ⊕ (Int32 × Mm) → Prop) (hb : ∀ (s : (Int32 × Mm)), K (Sum.inl s) → Wp l SM d (0, 0) mX11_overBy 2 [some (.ref 0), some (.int v1), some (.int s.1)] [] s.2 Q) (he0 : ∀ (x : (Int32 × Mm)) (z1 : Option Value), K (Sum.inr x) → Wp l SM d (0, 0) mX11_overBy 26 [some (.ref 0), z1, some (.int x.1)] [] x.2 Q) {z : (Int32 × Mm) ⊕ (Int32 × Mm)} (h : M_overBy_l2 v1 v2 μ = some z) (hz : K z) : Wp l SM d (0, 0) mX11_overBy 2 [some (.ref 0), some (.int v1), some (.int v2)] [] μ Q := by
  unfold M_overBy_l2 at h
  refine wp_iload_n (x := v2) dX11_overBy_2 rfl ?_
  refine wp_iload_n (x := v1) dX11_overBy_3 rfl ?_
  refine wp_icmp_ge 26 dX11_overBy_4 (by decide) (fun c1 => ?_) (fun c1 => ?_)
  · rw [if_pos c1] at h
    obtain rfl := some1 h
    exact he0 (v2, μ) _ hz
  · rw [if_neg c1] at h
    refine wp_aload_n (x := 0) dX11_overBy_7 rfl ?_
    obtain ⟨r1, g1, h⟩ := bnd_some h
    refine wp_cVi (d := d - 1) (o := 0) cv_X11_390 (kltM kRootM) kRootM (as := []) (rest := []) dX11_overBy_8 (by omega) cloM rfl rfl (Nat.le_of_ble_eq_true rfl) (Nat.le_of_ble_eq_true rfl) (ok_M_isOver (by omega) μ g1) ?_ rfl
    refine wp_if_ne 26 dX11_overBy_11 (by decide) (fun c1 => ?_) (fun c1 => ?_)
    · rw [if_neg c1] at h
      obtain rfl := some1 h
      exact he0 (v2, μ) _ hz
    · rw [if_pos c1] at h
      refine wp_aload_n (x := 0) dX11_overBy_14 rfl ?_
      obtain ⟨r3, μ2, g1, h⟩ := bnd2_some h
      refine wp_cVi (d := d - 1) (o := 0) cv_X11_357 (kltM kRootM) kRootM (as := []) (rest := []) dX11_overBy_15 (by omega) cloM rfl rfl (Nat.le_of_ble_eq_true rfl) (Nat.le_of_ble_eq_true rfl) (ok_M_goesBy (by omega) μ g1) ?_ rfl
      refine wp_pop dX11_overBy_18 rfl ?_
      refine wp_iload_n (x := v2) dX11_overBy_19 rfl ?_
      refine wp_iconst (nI 1) dX11_overBy_20 rfl ?_
      refine wp_iadd dX11_overBy_21 ?_
      refine wp_istore_n (L2 := [some (.ref 0), some (.int v1), some (.int (v2 + (nI 1)))]) dX11_overBy_22 (by decide) rfl rfl ?_
      refine wp_goto 2 dX11_overBy_23 (by decide) ?_
      obtain rfl := some1 h
      exact hb ((v2 + (nI 1)), μ2) hz
theorem okl_M_overBy_l2 {l : Launch} {d : Nat} (hd : 8 ≤ d) (v1 : Int32)  {Q : Option Value → Sh → Mm → Prop} (K : (Int32 × Mm) → Prop) (he0 : ∀ (x : (Int32 × Mm)) (z1 : Option Value), K x → Wp l SM d (0, 0) mX11_overBy 26 [some (.ref 0), z1, some (.int x.1)] [] x.2 Q) : ∀ (n : Nat) (s : (Int32 × Mm)) (y : (Int32 × Mm)) , iter n (fun s => M_overBy_l2 v1 s.1 s.2) s = some y → K y → Wp l SM d (0, 0) mX11_overBy 2 [some (.ref 0), some (.int v1), some (.int s.1)] [] s.2 Q := by
  intro n
  induction n with
  | zero => intro s y  h; cases h
  | succ n ih =>
    intro s y  h hK
    obtain ⟨z, hz, hn⟩ := iter_some h
    refine ok_M_overBy_l2 hd v1 s.1 s.2 (fun z => nxt n (fun s => M_overBy_l2 v1 s.1 s.2) z y) ?_ ?_ hz hn
    · intro s2  h2
      exact ih s2 y h2 hK
    · intro x z1 h2
      have h3 : x = y := h2
      subst h3
      exact he0 x _ hK
theorem ok_M_overBy_j26 {l : Launch} {d : Nat} (hd : 8 ≤ d) (v2 : Int32)  (μ : Mm) (z1 : Option Value) {r : Int32} {μ' : Mm} (h : M_overBy_j26 v2 μ = some (r, μ')) : Wp l SM d (0, 0) mX11_overBy 26 [some (.ref 0), z1, some (.int v2)] [] μ (Qi SM r μ') := by
  unfold M_overBy_j26 at h
  refine wp_aload_n (x := 0) dX11_overBy_26 rfl ?_
  obtain ⟨r4, g1, h⟩ := bnd_some h
  refine wp_cVi (d := d - 1) (o := 0) cv_X11_390 (kltM kRootM) kRootM (as := []) (rest := []) dX11_overBy_27 (by omega) cloM rfl rfl (Nat.le_of_ble_eq_true rfl) (Nat.le_of_ble_eq_true rfl) (ok_M_isOver (by omega) μ g1) ?_ rfl
  refine wp_if_eq 37 dX11_overBy_30 (by decide) (fun c1 => ?_) (fun c1 => ?_)
  · rw [if_pos c1] at h
    refine wp_iconst (-1) dX11_overBy_37 rfl ?_
    obtain ⟨rfl, rfl⟩ := ret2 h
    exact wp_iret rfl dX11_overBy_38 ⟨rfl, rfl, rfl⟩
  · rw [if_neg c1] at h
    refine wp_iload_n (x := v2) dX11_overBy_33 rfl ?_
    refine wp_goto 38 dX11_overBy_34 (by decide) ?_
    obtain ⟨rfl, rfl⟩ := ret2 h
    exact wp_iret rfl dX11_overBy_38 ⟨rfl, rfl, rfl⟩
theorem ok_M_overBy {l : Launch} {d : Nat} (hd : 8 ≤ d) (v1 : Int32)  (μ : Mm) {r : Int32} {μ' : Mm} (h : M_overBy v1 μ = some (r, μ')) : Wp l SM d (0, 0) mX11_overBy 0 [some (.ref 0), some (.int v1), none] [] μ (Qi SM r μ') := by
  unfold M_overBy at h
  refine wp_iconst (nI 0) dX11_overBy_0 rfl ?_
  refine wp_istore_n (L2 := [some (.ref 0), some (.int v1), some (.int (nI 0))]) dX11_overBy_1 (by decide) rfl rfl ?_
  obtain ⟨x2, hi, h⟩ := bni_some h
  refine okl_M_overBy_l2 hd v1 (fun z => z = x2) ?_ 1000000 ((nI 0), μ) x2 hi rfl
  · intro y0 z1 e0
    have e0 : y0 = x2 := e0
    subst e0
    exact ok_M_overBy_j26 hd y0.1 y0.2 _ h
theorem ok_M_over {l : Launch} {d : Nat} (hd : 9 ≤ d) (μ : Mm) {r : Int32} {μ' : Mm} (h : M_over μ = some (r, μ')) : Wp l SM d (0, 0) mX11_over 0 [some (.ref 0), none] [] μ (Qi SM r μ') := by
  unfold M_over at h
  refine wp_aload_n (x := 0) dX11_over_0 rfl ?_
  refine wp_iconst (nI 0) dX11_over_1 rfl ?_
  obtain ⟨μ1, e1, h⟩ := lt_some h
  refine wp_putIe e1 fl_X11_86 (by decide) rfl (kltM kRootM) kRootM dX11_over_2 ?_
  refine wp_aload_n (x := 0) dX11_over_5 rfl ?_
  obtain ⟨μ2, g1, h⟩ := bnd_some h
  refine wp_cVv (d := d - 1) (o := 0) cv_X11_381 (kltM kRootM) kRootM (as := []) (rest := []) dX11_over_6 (by omega) cloM rfl rfl (Nat.le_of_ble_eq_true rfl) (Nat.le_of_ble_eq_true rfl) (ok_M_thinks (by omega) μ1 g1) ?_ rfl
  refine wp_aload_n (x := 0) dX11_over_9 rfl ?_
  refine wp_sipush (nI 200) dX11_over_10 rfl ?_
  obtain ⟨r4, μ3, g1, h⟩ := bnd2_some h
  refine wp_cVi (d := d - 1) (o := 0) cv_X11_393 (kltM kRootM) kRootM (as := [.int (nI 200)]) (rest := []) dX11_over_13 (by omega) cloM rfl rfl (Nat.le_of_ble_eq_true rfl) (Nat.le_of_ble_eq_true rfl) (ok_M_overBy (by omega) (nI 200) μ2 g1) ?_ rfl
  refine wp_istore_n (L2 := [some (.ref 0), some (.int r4)]) dX11_over_16 (by decide) rfl rfl ?_
  refine wp_aload_n (x := 0) dX11_over_17 rfl ?_
  obtain ⟨μ5, g1, h⟩ := bnd_some h
  refine wp_cVv (d := d - 1) (o := 0) cv_X11_387 (kltM kRootM) kRootM (as := []) (rest := []) dX11_over_18 (by omega) cloM rfl rfl (Nat.le_of_ble_eq_true rfl) (Nat.le_of_ble_eq_true rfl) (ok_M_endsThought (by omega) μ3 g1) ?_ rfl
  refine wp_iload_n (x := r4) dX11_over_21 rfl ?_
  obtain ⟨rfl, rfl⟩ := ret2 h
  exact wp_iret rfl dX11_over_22 ⟨rfl, rfl, rfl⟩
theorem ok_M_isOverWithout_j29 {l : Launch} {d : Nat} (hd : 9 ≤ d) (v3 : Int32)  (s0 : Int32) (μ : Mm) (z1 : Option Value) (z2 : Option Value) (z4 : Option Value) {r : Int32} {μ' : Mm} (h : M_isOverWithout_j29 v3 s0 μ = some (r, μ')) : Wp l SM d (0, 0) mX11_isOverWithout 29 [some (.ref 0), z1, z2, some (.int v3), z4] [.int s0] μ (Qi SM r μ') := by
  unfold M_isOverWithout_j29 at h
  refine wp_istore (L2 := [some (.ref 0), z1, z2, some (.int v3), some (.int s0)]) dX11_isOverWithout_29 (by decide) rfl rfl ?_
  refine wp_aload_n (x := 0) dX11_isOverWithout_31 rfl ?_
  refine wp_iload_n (x := v3) dX11_isOverWithout_32 rfl ?_
  obtain ⟨μ4, e1, h⟩ := lt_some h
  refine wp_putIe e1 fl_X11_110 (by decide) rfl (kltM kRootM) kRootM dX11_isOverWithout_33 ?_
  refine wp_aload_n (x := 0) dX11_isOverWithout_36 rfl ?_
  obtain ⟨μ5, g1, h⟩ := bnd_some h
  refine wp_cVv (d := d - 1) (o := 0) cv_X11_102 (kltM kRootM) kRootM (as := []) (rest := []) dX11_isOverWithout_37 (by omega) cloM rfl rfl (Nat.le_of_ble_eq_true rfl) (Nat.le_of_ble_eq_true rfl) (ok_M_thinksAnew (by omega) μ4 g1) ?_ rfl
  refine wp_iload (x := s0) dX11_isOverWithout_40 rfl ?_
  obtain ⟨c1, h⟩ := chk_some h
  obtain ⟨rfl, rfl⟩ := ret2 h
  exact wp_zret rfl c1 dX11_isOverWithout_42 ⟨rfl, rfl, rfl⟩
theorem ok_M_isOverWithout {l : Launch} {d : Nat} (hd : 9 ≤ d) (v1 : Int32)  (v2 : Int32)  (μ : Mm) {r : Int32} {μ' : Mm} (h : M_isOverWithout v1 v2 μ = some (r, μ')) : Wp l SM d (0, 0) mX11_isOverWithout 0 [some (.ref 0), some (.int v1), some (.int v2), none, none] [] μ (Qi SM r μ') := by
  unfold M_isOverWithout at h
  refine wp_aload_n (x := 0) dX11_isOverWithout_0 rfl ?_
  refine wp_getI fl_X11_110 (by decide) rfl (kltM kRootM) kRootM dX11_isOverWithout_1 ?_
  refine wp_istore_n (L2 := [some (.ref 0), some (.int v1), some (.int v2), some (.int (μ.1 0 10)), none]) dX11_isOverWithout_4 (by decide) rfl rfl ?_
  refine wp_aload_n (x := 0) dX11_isOverWithout_5 rfl ?_
  refine wp_aload_n (x := 0) dX11_isOverWithout_6 rfl ?_
  refine wp_getI fl_X11_110 (by decide) rfl (kltM kRootM) kRootM dX11_isOverWithout_7 ?_
  refine wp_iload_n (x := v1) dX11_isOverWithout_10 rfl ?_
  refine wp_ior dX11_isOverWithout_11 ?_
  obtain ⟨μ1, e1, h⟩ := lt_some h
  refine wp_putIe e1 fl_X11_110 (by decide) rfl (kltM kRootM) kRootM dX11_isOverWithout_12 ?_
  refine wp_aload_n (x := 0) dX11_isOverWithout_15 rfl ?_
  refine wp_iload_n (x := v2) dX11_isOverWithout_16 rfl ?_
  obtain ⟨r3, μ2, g1, h⟩ := bnd2_some h
  refine wp_cVi (d := d - 1) (o := 0) cv_X11_393 (kltM kRootM) kRootM (as := [.int v2]) (rest := []) dX11_isOverWithout_17 (by omega) cloM rfl rfl (Nat.le_of_ble_eq_true rfl) (Nat.le_of_ble_eq_true rfl) (ok_M_overBy (by omega) v2 μ1 g1) ?_ rfl
  refine wp_iconst (-1) dX11_isOverWithout_20 rfl ?_
  refine wp_icmp_eq 28 dX11_isOverWithout_21 (by decide) (fun c1 => ?_) (fun c1 => ?_)
  · rw [if_pos c1] at h
    refine wp_iconst (nI 0) dX11_isOverWithout_28 rfl ?_
    exact ok_M_isOverWithout_j29 hd (μ.1 0 10) (nI 0) μ2 _ _ _ h
  · rw [if_neg c1] at h
    refine wp_iconst (nI 1) dX11_isOverWithout_24 rfl ?_
    refine wp_goto 29 dX11_isOverWithout_25 (by decide) ?_
    exact ok_M_isOverWithout_j29 hd (μ.1 0 10) (nI 1) μ2 _ _ _ h
theorem ok_M_stop_j78 {l : Launch} {d : Nat} (hd : 10 ≤ d) (v1 : Int32)  (v2 : Int32)  (v3 : Int32)  (v4 : Int32)  (μ : Mm) {Q : Option Value → Sh → Mm → Prop} (K : (Int32 × Int32 × Mm) ⊕ (Int32 × Mm) → Prop) (hb : ∀ (s : (Int32 × Int32 × Mm)), K (Sum.inl s) → Wp l SM d (0, 0) mX11_stop 39 [some (.ref 0), some (.int v1), some (.int s.1), some (.int v3), some (.int s.2.1)] [] s.2.2 Q) (he0 : ∀ (x : (Int32 × Mm)) (z4 : Option Value), K (Sum.inr x) → Wp l SM d (0, 0) mX11_stop 84 [some (.ref 0), some (.int v1), some (.int x.1), some (.int v3), z4] [] x.2 Q) {z : (Int32 × Int32 × Mm) ⊕ (Int32 × Mm)} (h : M_stop_j78 v1 v2 v3 v4 μ = some z) (hz : K z) : Wp l SM d (0, 0) mX11_stop 78 [some (.ref 0), some (.int v1), some (.int v2), some (.int v3), some (.int v4)] [] μ Q := by
  unfold M_stop_j78 at h
  refine wp_iinc (x := v4) (k0 := (nI 1)) (L2 := [some (.ref 0), some (.int v1), some (.int v2), some (.int v3), some (.int (v4 + (nI 1)))]) dX11_stop_78 rfl rfl (by decide) rfl rfl ?_
  refine wp_goto 39 dX11_stop_81 (by decide) ?_
  obtain rfl := some1 h
  exact hb (v2, (v4 + (nI 1)), μ) hz
theorem ok_M_stop_l39 {l : Launch} {d : Nat} (hd : 10 ≤ d) (v1 : Int32)  (v2 : Int32)  (v3 : Int32)  (v4 : Int32)  (μ : Mm) {Q : Option Value → Sh → Mm → Prop} (K : (Int32 × Int32 × Mm) ⊕ (Int32 × Mm) → Prop) (hb : ∀ (s : (Int32 × Int32 × Mm)), K (Sum.inl s) → Wp l SM d (0, 0) mX11_stop 39 [some (.ref 0), some (.int v1), some (.int s.1), some (.int v3), some (.int s.2.1)] [] s.2.2 Q) (he0 : ∀ (x : (Int32 × Mm)) (z4 : Option Value), K (Sum.inr x) → Wp l SM d (0, 0) mX11_stop 84 [some (.ref 0), some (.int v1), some (.int x.1), some (.int v3), z4] [] x.2 Q) {z : (Int32 × Int32 × Mm) ⊕ (Int32 × Mm)} (h : M_stop_l39 v1 v2 v3 v4 μ = some z) (hz : K z) : Wp l SM d (0, 0) mX11_stop 39 [some (.ref 0), some (.int v1), some (.int v2), some (.int v3), some (.int v4)] [] μ Q := by
  unfold M_stop_l39 at h
  refine wp_iload (x := v4) dX11_stop_39 rfl ?_
  refine wp_iconst (nI 1) dX11_stop_41 rfl ?_
  refine wp_aload_n (x := 0) dX11_stop_42 rfl ?_
  refine wp_getI fl_X11_107 (by decide) rfl (kltM kRootM) kRootM dX11_stop_43 ?_
  refine wp_ishl dX11_stop_46 ?_
  refine wp_icmp_ge 84 dX11_stop_47 (by decide) (fun c1 => ?_) (fun c1 => ?_)
  · rw [if_pos c1] at h
    obtain rfl := some1 h
    exact he0 (v2, μ) _ hz
  · rw [if_neg c1] at h
    refine wp_iload_n (x := v2) dX11_stop_50 rfl ?_
    refine wp_iconst (-1) dX11_stop_51 rfl ?_
    refine wp_icmp_ne 84 dX11_stop_52 (by decide) (fun c1 => ?_) (fun c1 => ?_)
    · rw [if_neg c1] at h
      obtain rfl := some1 h
      exact he0 (v2, μ) _ hz
    · rw [if_pos c1] at h
      refine wp_aload_n (x := 0) dX11_stop_55 rfl ?_
      refine wp_iload (x := v4) dX11_stop_56 rfl ?_
      obtain ⟨r4, g1, h⟩ := bnd_some h
      refine wp_cVi (d := d - 1) (o := 0) cv_X11_299 (kltM kRootM) kRootM (as := [.int v4]) (rest := []) dX11_stop_58 (by omega) cloM rfl rfl (Nat.le_of_ble_eq_true rfl) (Nat.le_of_ble_eq_true rfl) (ok_M_ones (by omega) v4 μ g1) ?_ rfl
      refine wp_iload_n (x := v3) dX11_stop_61 rfl ?_
      refine wp_icmp_ne 78 dX11_stop_62 (by decide) (fun c1 => ?_) (fun c1 => ?_)
      · rw [if_neg c1] at h
        exact ok_M_stop_j78 hd v1 v2 v3 v4 μ K hb he0 h hz
      · rw [if_pos c1] at h
        refine wp_aload_n (x := 0) dX11_stop_65 rfl ?_
        refine wp_iload (x := v4) dX11_stop_66 rfl ?_
        refine wp_iload_n (x := v1) dX11_stop_68 rfl ?_
        obtain ⟨r6, μ5, g1, h⟩ := bnd2_some h
        refine wp_cVi (d := d - 1) (o := 0) cv_X11_396 (kltM kRootM) kRootM (as := [.int v4, .int v1]) (rest := []) dX11_stop_69 (by omega) cloM rfl rfl (Nat.le_of_ble_eq_true rfl) (Nat.le_of_ble_eq_true rfl) (ok_M_isOverWithout (by omega) v4 v1 μ g1) ?_ rfl
        refine wp_if_eq 78 dX11_stop_72 (by decide) (fun c1 => ?_) (fun c1 => ?_)
        · rw [if_pos c1] at h
          exact ok_M_stop_j78 hd v1 v2 v3 v4 μ5 K hb he0 h hz
        · rw [if_neg c1] at h
          refine wp_iload (x := v4) dX11_stop_75 rfl ?_
          refine wp_istore_n (L2 := [some (.ref 0), some (.int v1), some (.int v4), some (.int v3), some (.int v4)]) dX11_stop_77 (by decide) rfl rfl ?_
          exact ok_M_stop_j78 hd v1 v4 v3 v4 μ5 K hb he0 h hz
theorem okl_M_stop_l39 {l : Launch} {d : Nat} (hd : 10 ≤ d) (v1 : Int32)  (v3 : Int32)  {Q : Option Value → Sh → Mm → Prop} (K : (Int32 × Mm) → Prop) (he0 : ∀ (x : (Int32 × Mm)) (z4 : Option Value), K x → Wp l SM d (0, 0) mX11_stop 84 [some (.ref 0), some (.int v1), some (.int x.1), some (.int v3), z4] [] x.2 Q) : ∀ (n : Nat) (s : (Int32 × Int32 × Mm)) (y : (Int32 × Mm)) , iter n (fun s => M_stop_l39 v1 s.1 v3 s.2.1 s.2.2) s = some y → K y → Wp l SM d (0, 0) mX11_stop 39 [some (.ref 0), some (.int v1), some (.int s.1), some (.int v3), some (.int s.2.1)] [] s.2.2 Q := by
  intro n
  induction n with
  | zero => intro s y  h; cases h
  | succ n ih =>
    intro s y  h hK
    obtain ⟨z, hz, hn⟩ := iter_some h
    refine ok_M_stop_l39 hd v1 s.1 v3 s.2.1 s.2.2 (fun z => nxt n (fun s => M_stop_l39 v1 s.1 v3 s.2.1 s.2.2) z y) ?_ ?_ hz hn
    · intro s2  h2
      exact ih s2 y h2 hK
    · intro x z4 h2
      have h3 : x = y := h2
      subst h3
      exact he0 x _ hK
theorem ok_M_stop_j84 {l : Launch} {d : Nat} (hd : 10 ≤ d) (v1 : Int32)  (v2 : Int32)  (v3 : Int32)  (μ : Mm) (z4 : Option Value) {Q : Option Value → Sh → Mm → Prop} (K : (Int32 × Int32 × Mm) ⊕ (Int32 × Mm) → Prop) (hb : ∀ (s : (Int32 × Int32 × Mm)) (z4 : Option Value), K (Sum.inl s) → Wp l SM d (0, 0) mX11_stop 26 [some (.ref 0), some (.int v1), some (.int s.1), some (.int s.2.1), z4] [] s.2.2 Q) (he0 : ∀ (x : (Int32 × Mm)) (z1 : Option Value) (z3 : Option Value) (z4 : Option Value), K (Sum.inr x) → Wp l SM d (0, 0) mX11_stop 90 [some (.ref 0), z1, some (.int x.1), z3, z4] [] x.2 Q) {z : (Int32 × Int32 × Mm) ⊕ (Int32 × Mm)} (h : M_stop_j84 v1 v2 v3 μ = some z) (hz : K z) : Wp l SM d (0, 0) mX11_stop 84 [some (.ref 0), some (.int v1), some (.int v2), some (.int v3), z4] [] μ Q := by
  unfold M_stop_j84 at h
  refine wp_iinc (x := v3) (k0 := (nI 1)) (L2 := [some (.ref 0), some (.int v1), some (.int v2), some (.int (v3 + (nI 1))), z4]) dX11_stop_84 rfl rfl (by decide) rfl rfl ?_
  refine wp_goto 26 dX11_stop_87 (by decide) ?_
  obtain rfl := some1 h
  exact hb (v2, (v3 + (nI 1)), μ) _ hz
theorem ok_M_stop_l26 {l : Launch} {d : Nat} (hd : 10 ≤ d) (v1 : Int32)  (v2 : Int32)  (v3 : Int32)  (μ : Mm) (z4 : Option Value) {Q : Option Value → Sh → Mm → Prop} (K : (Int32 × Int32 × Mm) ⊕ (Int32 × Mm) → Prop) (hb : ∀ (s : (Int32 × Int32 × Mm)) (z4 : Option Value), K (Sum.inl s) → Wp l SM d (0, 0) mX11_stop 26 [some (.ref 0), some (.int v1), some (.int s.1), some (.int s.2.1), z4] [] s.2.2 Q) (he0 : ∀ (x : (Int32 × Mm)) (z1 : Option Value) (z3 : Option Value) (z4 : Option Value), K (Sum.inr x) → Wp l SM d (0, 0) mX11_stop 90 [some (.ref 0), z1, some (.int x.1), z3, z4] [] x.2 Q) {z : (Int32 × Int32 × Mm) ⊕ (Int32 × Mm)} (h : M_stop_l26 v1 v2 v3 μ = some z) (hz : K z) : Wp l SM d (0, 0) mX11_stop 26 [some (.ref 0), some (.int v1), some (.int v2), some (.int v3), z4] [] μ Q := by
  unfold M_stop_l26 at h
  refine wp_iload_n (x := v3) dX11_stop_26 rfl ?_
  refine wp_iconst (nI 3) dX11_stop_27 rfl ?_
  refine wp_icmp_gt 90 dX11_stop_28 (by decide) (fun c1 => ?_) (fun c1 => ?_)
  · rw [if_pos c1] at h
    obtain rfl := some1 h
    exact he0 (v2, μ) _ _ _ hz
  · rw [if_neg c1] at h
    refine wp_iload_n (x := v2) dX11_stop_31 rfl ?_
    refine wp_iconst (-1) dX11_stop_32 rfl ?_
    refine wp_icmp_ne 90 dX11_stop_33 (by decide) (fun c1 => ?_) (fun c1 => ?_)
    · rw [if_neg c1] at h
      obtain rfl := some1 h
      exact he0 (v2, μ) _ _ _ hz
    · rw [if_pos c1] at h
      refine wp_iconst (nI 0) dX11_stop_36 rfl ?_
      refine wp_istore (L2 := [some (.ref 0), some (.int v1), some (.int v2), some (.int v3), some (.int (nI 0))]) dX11_stop_37 (by decide) rfl rfl ?_
      obtain ⟨x39, hi, h⟩ := bni_some h
      refine okl_M_stop_l39 hd v1 v3 (fun z => z = x39) ?_ 1000000 (v2, (nI 0), μ) x39 hi rfl
      · intro y0 z4 e0
        have e0 : y0 = x39 := e0
        subst e0
        exact ok_M_stop_j84 hd v1 y0.1 v3 y0.2 _ K hb he0 h hz
theorem okl_M_stop_l26 {l : Launch} {d : Nat} (hd : 10 ≤ d) (v1 : Int32)  {Q : Option Value → Sh → Mm → Prop} (K : (Int32 × Mm) → Prop) (he0 : ∀ (x : (Int32 × Mm)) (z1 : Option Value) (z3 : Option Value) (z4 : Option Value), K x → Wp l SM d (0, 0) mX11_stop 90 [some (.ref 0), z1, some (.int x.1), z3, z4] [] x.2 Q) : ∀ (n : Nat) (s : (Int32 × Int32 × Mm)) (y : (Int32 × Mm)) (z4 : Option Value) , iter n (fun s => M_stop_l26 v1 s.1 s.2.1 s.2.2) s = some y → K y → Wp l SM d (0, 0) mX11_stop 26 [some (.ref 0), some (.int v1), some (.int s.1), some (.int s.2.1), z4] [] s.2.2 Q := by
  intro n
  induction n with
  | zero => intro s y z4 h; cases h
  | succ n ih =>
    intro s y z4 h hK
    obtain ⟨z, hz, hn⟩ := iter_some h
    refine ok_M_stop_l26 hd v1 s.1 s.2.1 s.2.2 _ (fun z => nxt n (fun s => M_stop_l26 v1 s.1 s.2.1 s.2.2) z y) ?_ ?_ hz hn
    · intro s2 z4 h2
      exact ih s2 y _ h2 hK
    · intro x z1 z3 z4 h2
      have h3 : x = y := h2
      subst h3
      exact he0 x _ _ _ hK
theorem ok_M_stop_j90 {l : Launch} {d : Nat} (hd : 10 ≤ d) (v2 : Int32)  (μ : Mm) (z1 : Option Value) (z3 : Option Value) (z4 : Option Value) {r : Int32} {μ' : Mm} (h : M_stop_j90 v2 μ = some (r, μ')) : Wp l SM d (0, 0) mX11_stop 90 [some (.ref 0), z1, some (.int v2), z3, z4] [] μ (Qi SM r μ') := by
  unfold M_stop_j90 at h
  refine wp_aload_n (x := 0) dX11_stop_90 rfl ?_
  obtain ⟨μ7, g1, h⟩ := bnd_some h
  refine wp_cVv (d := d - 1) (o := 0) cv_X11_387 (kltM kRootM) kRootM (as := []) (rest := []) dX11_stop_91 (by omega) cloM rfl rfl (Nat.le_of_ble_eq_true rfl) (Nat.le_of_ble_eq_true rfl) (ok_M_endsThought (by omega) μ g1) ?_ rfl
  refine wp_iload_n (x := v2) dX11_stop_94 rfl ?_
  obtain ⟨rfl, rfl⟩ := ret2 h
  exact wp_iret rfl dX11_stop_95 ⟨rfl, rfl, rfl⟩
theorem ok_M_stop {l : Launch} {d : Nat} (hd : 10 ≤ d) (v1 : Int32)  (μ : Mm) {r : Int32} {μ' : Mm} (h : M_stop v1 μ = some (r, μ')) : Wp l SM d (0, 0) mX11_stop 0 [some (.ref 0), some (.int v1), none, none, none] [] μ (Qi SM r μ') := by
  unfold M_stop at h
  refine wp_aload_n (x := 0) dX11_stop_0 rfl ?_
  refine wp_iconst (nI 0) dX11_stop_1 rfl ?_
  obtain ⟨μ1, e1, h⟩ := lt_some h
  refine wp_putIe e1 fl_X11_86 (by decide) rfl (kltM kRootM) kRootM dX11_stop_2 ?_
  refine wp_aload_n (x := 0) dX11_stop_5 rfl ?_
  refine wp_iload_n (x := v1) dX11_stop_6 rfl ?_
  refine wp_iconst (nI 0) dX11_stop_7 rfl ?_
  refine wp_bipush (nI 99) dX11_stop_8 rfl ?_
  obtain ⟨r2, g1, h⟩ := bnd_some h
  refine wp_cVi (d := d - 1) (o := 0) cv_X11_113 (kltM kRootM) kRootM (as := [.int v1, .int (nI 0), .int (nI 99)]) (rest := []) dX11_stop_10 (by omega) cloM rfl rfl (Nat.le_of_ble_eq_true rfl) (Nat.le_of_ble_eq_true rfl) (ok_M_isIn (by omega) v1 (nI 0) (nI 99) μ1 g1) ?_ rfl
  refine wp_if_ne 18 dX11_stop_13 (by decide) (fun c1 => ?_) (fun c1 => ?_)
  · rw [if_neg c1] at h
    refine wp_aload_n (x := 0) dX11_stop_18 rfl ?_
    obtain ⟨μ3, g1, h⟩ := bnd_some h
    refine wp_cVv (d := d - 1) (o := 0) cv_X11_381 (kltM kRootM) kRootM (as := []) (rest := []) dX11_stop_19 (by omega) cloM rfl rfl (Nat.le_of_ble_eq_true rfl) (Nat.le_of_ble_eq_true rfl) (ok_M_thinks (by omega) μ1 g1) ?_ rfl
    refine wp_iconst (-1) dX11_stop_22 rfl ?_
    refine wp_istore_n (L2 := [some (.ref 0), some (.int v1), some (.int (-1)), none, none]) dX11_stop_23 (by decide) rfl rfl ?_
    refine wp_iconst (nI 0) dX11_stop_24 rfl ?_
    refine wp_istore_n (L2 := [some (.ref 0), some (.int v1), some (.int (-1)), some (.int (nI 0)), none]) dX11_stop_25 (by decide) rfl rfl ?_
    obtain ⟨x26, hi, h⟩ := bni_some h
    refine okl_M_stop_l26 hd v1 (fun z => z = x26) ?_ 1000000 ((-1), (nI 0), μ3) x26 _ hi rfl
    · intro y0 z1 z3 z4 e0
      have e0 : y0 = x26 := e0
      subst e0
      exact ok_M_stop_j90 hd y0.1 y0.2 _ _ _ h
  · rw [if_pos c1] at h
    refine wp_iconst (-1) dX11_stop_16 rfl ?_
    obtain ⟨rfl, rfl⟩ := ret2 h
    exact wp_iret rfl dX11_stop_17 ⟨rfl, rfl, rfl⟩
theorem ok_M_goesOnFrom {l : Launch} {d : Nat} (hd : 2 ≤ d) (v1 : Int32)  (μ : Mm) {r : Int32} (h : M_goesOnFrom v1 μ = some r) : Wp l SM d (0, 0) mX11_goesOnFrom 0 [some (.ref 0), some (.int v1)] [] μ (Qi SM r μ) := by
  unfold M_goesOnFrom at h
  refine wp_aload_n (x := 0) dX11_goesOnFrom_0 rfl ?_
  refine wp_getR 5 fl_X11_22 (by decide) rfl (kltM kRootM) kRootM (ly11_8 kRootM).1 dX11_goesOnFrom_1 ?_
  refine wp_iload_n (x := v1) dX11_goesOnFrom_4 rfl ?_
  obtain ⟨c1, h⟩ := chv_some h
  refine wp_ialde (kltM (ly11_8 kRootM).2.1) (ly11_8 kRootM).2.1 (ly11_8 kRootM).2.2 c1 dX11_goesOnFrom_5 ?_
  refine wp_if_ne 21 dX11_goesOnFrom_6 (by decide) (fun c1 => ?_) (fun c1 => ?_)
  · rw [if_neg c1] at h
    refine wp_iconst (nI 0) dX11_goesOnFrom_21 rfl ?_
    obtain rfl := ret1 h
    exact wp_zret rfl (Or.inl rfl) dX11_goesOnFrom_22 ⟨rfl, rfl, rfl⟩
  · rw [if_pos c1] at h
    refine wp_aload_n (x := 0) dX11_goesOnFrom_9 rfl ?_
    refine wp_iload_n (x := v1) dX11_goesOnFrom_10 rfl ?_
    obtain ⟨r1, g1, h⟩ := bnd_some h
    refine wp_cVi (d := d - 1) (o := 0) cv_X11_336 (kltM kRootM) kRootM (as := [.int v1]) (rest := []) dX11_goesOnFrom_11 (by omega) cloM rfl rfl (Nat.le_of_ble_eq_true rfl) (Nat.le_of_ble_eq_true rfl) (ok_M_isStopped (by omega) v1 μ g1) ?_ rfl
    refine wp_if_ne 21 dX11_goesOnFrom_14 (by decide) (fun c1 => ?_) (fun c1 => ?_)
    · rw [if_neg c1] at h
      refine wp_iconst (nI 0) dX11_goesOnFrom_21 rfl ?_
      obtain rfl := ret1 h
      exact wp_zret rfl (Or.inl rfl) dX11_goesOnFrom_22 ⟨rfl, rfl, rfl⟩
    · rw [if_pos c1] at h
      refine wp_iconst (nI 1) dX11_goesOnFrom_17 rfl ?_
      refine wp_goto 22 dX11_goesOnFrom_18 (by decide) ?_
      obtain rfl := ret1 h
      exact wp_zret rfl (Or.inr rfl) dX11_goesOnFrom_22 ⟨rfl, rfl, rfl⟩
theorem ok_M_reachOf_j60 {l : Launch} {d : Nat} (hd : 3 ≤ d) (v2 : Int32)  (v3 : Int32)  (v4 : Int32)  (v5 : Int32)  (v6 : Int32)  (μ : Mm) (z1 : Option Value) {Q : Option Value → Sh → Mm → Prop} (K : (Int32 × Int32) ⊕ Int32 → Prop) (hb : ∀ (s : (Int32 × Int32)) (z1 : Option Value), K (Sum.inl s) → Wp l SM d (0, 0) mX11_reachOf 21 [some (.ref 0), z1, some (.int v2), some (.int v3), some (.int v4), some (.int s.1), some (.int s.2)] [] μ Q) (he0 : ∀ (x : Int32) (z1 : Option Value) (z3 : Option Value) (z6 : Option Value), K (Sum.inr x) → Wp l SM d (0, 0) mX11_reachOf 66 [some (.ref 0), z1, some (.int v2), z3, some (.int v4), some (.int x), z6] [] μ Q) {z : (Int32 × Int32) ⊕ Int32} (h : M_reachOf_j60 v2 v3 v4 v5 v6 μ = some z) (hz : K z) : Wp l SM d (0, 0) mX11_reachOf 60 [some (.ref 0), z1, some (.int v2), some (.int v3), some (.int v4), some (.int v5), some (.int v6)] [] μ Q := by
  unfold M_reachOf_j60 at h
  refine wp_iinc (x := v6) (k0 := (nI 1)) (L2 := [some (.ref 0), z1, some (.int v2), some (.int v3), some (.int v4), some (.int v5), some (.int (v6 + (nI 1)))]) dX11_reachOf_60 rfl rfl (by decide) rfl rfl ?_
  refine wp_goto 21 dX11_reachOf_63 (by decide) ?_
  obtain rfl := some1 h
  exact hb (v5, (v6 + (nI 1))) _ hz
theorem ok_M_reachOf_l21 {l : Launch} {d : Nat} (hd : 3 ≤ d) (v2 : Int32)  (v3 : Int32)  (v4 : Int32)  (v5 : Int32)  (v6 : Int32)  (μ : Mm) (z1 : Option Value) {Q : Option Value → Sh → Mm → Prop} (K : (Int32 × Int32) ⊕ Int32 → Prop) (hb : ∀ (s : (Int32 × Int32)) (z1 : Option Value), K (Sum.inl s) → Wp l SM d (0, 0) mX11_reachOf 21 [some (.ref 0), z1, some (.int v2), some (.int v3), some (.int v4), some (.int s.1), some (.int s.2)] [] μ Q) (he0 : ∀ (x : Int32) (z1 : Option Value) (z3 : Option Value) (z6 : Option Value), K (Sum.inr x) → Wp l SM d (0, 0) mX11_reachOf 66 [some (.ref 0), z1, some (.int v2), z3, some (.int v4), some (.int x), z6] [] μ Q) {z : (Int32 × Int32) ⊕ Int32} (h : M_reachOf_l21 v2 v3 v4 v5 v6 μ = some z) (hz : K z) : Wp l SM d (0, 0) mX11_reachOf 21 [some (.ref 0), z1, some (.int v2), some (.int v3), some (.int v4), some (.int v5), some (.int v6)] [] μ Q := by
  unfold M_reachOf_l21 at h
  refine wp_iload (x := v6) dX11_reachOf_21 rfl ?_
  refine wp_aload_n (x := 0) dX11_reachOf_23 rfl ?_
  refine wp_getI fl_X11_107 (by decide) rfl (kltM kRootM) kRootM dX11_reachOf_24 ?_
  refine wp_icmp_ge 66 dX11_reachOf_27 (by decide) (fun c1 => ?_) (fun c1 => ?_)
  · rw [if_pos c1] at h
    obtain rfl := some1 h
    exact he0 v5 _ _ _ hz
  · rw [if_neg c1] at h
    refine wp_iload_n (x := v3) dX11_reachOf_30 rfl ?_
    refine wp_iload (x := v6) dX11_reachOf_31 rfl ?_
    refine wp_ishr dX11_reachOf_33 ?_
    refine wp_iconst (nI 1) dX11_reachOf_34 rfl ?_
    refine wp_iand dX11_reachOf_35 ?_
    refine wp_iconst (nI 1) dX11_reachOf_36 rfl ?_
    refine wp_icmp_ne 60 dX11_reachOf_37 (by decide) (fun c1 => ?_) (fun c1 => ?_)
    · rw [if_neg c1] at h
      exact ok_M_reachOf_j60 hd v2 v3 v4 v5 v6 μ _ K hb he0 h hz
    · rw [if_pos c1] at h
      refine wp_aload_n (x := 0) dX11_reachOf_40 rfl ?_
      refine wp_iload (x := v6) dX11_reachOf_41 rfl ?_
      obtain ⟨r2, g1, h⟩ := bnd_some h
      refine wp_cVi (d := d - 1) (o := 0) cv_X11_402 (kltM kRootM) kRootM (as := [.int v6]) (rest := []) dX11_reachOf_43 (by omega) cloM rfl rfl (Nat.le_of_ble_eq_true rfl) (Nat.le_of_ble_eq_true rfl) (ok_M_goesOnFrom (by omega) v6 μ g1) ?_ rfl
      refine wp_if_eq 60 dX11_reachOf_46 (by decide) (fun c1 => ?_) (fun c1 => ?_)
      · rw [if_pos c1] at h
        exact ok_M_reachOf_j60 hd v2 v3 v4 v5 v6 μ _ K hb he0 h hz
      · rw [if_neg c1] at h
        refine wp_iload (x := v5) dX11_reachOf_49 rfl ?_
        refine wp_aload_n (x := 0) dX11_reachOf_51 rfl ?_
        refine wp_iload (x := v6) dX11_reachOf_52 rfl ?_
        obtain ⟨r3, g1, h⟩ := bnd_some h
        refine wp_cVi (d := d - 1) (o := 0) cv_X11_399 (kltM kRootM) kRootM (as := [.int v6]) (rest := [.int v5]) dX11_reachOf_54 (by omega) cloM rfl rfl (Nat.le_of_ble_eq_true rfl) (Nat.le_of_ble_eq_true rfl) (ok_M_addressesOf (by omega) v6 μ g1) ?_ rfl
        refine wp_ior dX11_reachOf_57 ?_
        refine wp_istore (L2 := [some (.ref 0), z1, some (.int v2), some (.int v3), some (.int v4), some (.int (v5 ||| r3)), some (.int v6)]) dX11_reachOf_58 (by decide) rfl rfl ?_
        exact ok_M_reachOf_j60 hd v2 v3 v4 (v5 ||| r3) v6 μ _ K hb he0 h hz
theorem okl_M_reachOf_l21 {l : Launch} {d : Nat} (hd : 3 ≤ d) (v2 : Int32)  (v3 : Int32)  (v4 : Int32)  (μ : Mm) {Q : Option Value → Sh → Mm → Prop} (K : Int32 → Prop) (he0 : ∀ (x : Int32) (z1 : Option Value) (z3 : Option Value) (z6 : Option Value), K x → Wp l SM d (0, 0) mX11_reachOf 66 [some (.ref 0), z1, some (.int v2), z3, some (.int v4), some (.int x), z6] [] μ Q) : ∀ (n : Nat) (s : (Int32 × Int32)) (y : Int32) (z1 : Option Value) , iter n (fun s => M_reachOf_l21 v2 v3 v4 s.1 s.2 μ) s = some y → K y → Wp l SM d (0, 0) mX11_reachOf 21 [some (.ref 0), z1, some (.int v2), some (.int v3), some (.int v4), some (.int s.1), some (.int s.2)] [] μ Q := by
  intro n
  induction n with
  | zero => intro s y z1 h; cases h
  | succ n ih =>
    intro s y z1 h hK
    obtain ⟨z, hz, hn⟩ := iter_some h
    refine ok_M_reachOf_l21 hd v2 v3 v4 s.1 s.2 μ _ (fun z => nxt n (fun s => M_reachOf_l21 v2 v3 v4 s.1 s.2 μ) z y) ?_ ?_ hz hn
    · intro s2 z1 h2
      exact ih s2 y _ h2 hK
    · intro x z1 z3 z6 h2
      have h3 : x = y := h2
      subst h3
      exact he0 x _ _ _ hK
theorem ok_M_reachOf_l9 {l : Launch} {d : Nat} (hd : 3 ≤ d) (v2 : Int32)  (v3 : Int32)  (v4 : Int32)  (μ : Mm) (z1 : Option Value) (z5 : Option Value) (z6 : Option Value) {Q : Option Value → Sh → Mm → Prop} (K : (Int32 × Int32) ⊕ Int32 → Prop) (hb : ∀ (s : (Int32 × Int32)) (z1 : Option Value) (z5 : Option Value) (z6 : Option Value), K (Sum.inl s) → Wp l SM d (0, 0) mX11_reachOf 9 [some (.ref 0), z1, some (.int v2), some (.int s.1), some (.int s.2), z5, z6] [] μ Q) (he0 : ∀ (x : Int32) (z1 : Option Value) (z2 : Option Value) (z4 : Option Value) (z5 : Option Value) (z6 : Option Value), K (Sum.inr x) → Wp l SM d (0, 0) mX11_reachOf 75 [some (.ref 0), z1, z2, some (.int x), z4, z5, z6] [] μ Q) {z : (Int32 × Int32) ⊕ Int32} (h : M_reachOf_l9 v2 v3 v4 μ = some z) (hz : K z) : Wp l SM d (0, 0) mX11_reachOf 9 [some (.ref 0), z1, some (.int v2), some (.int v3), some (.int v4), z5, z6] [] μ Q := by
  unfold M_reachOf_l9 at h
  refine wp_iload (x := v4) dX11_reachOf_9 rfl ?_
  refine wp_iload_n (x := v2) dX11_reachOf_11 rfl ?_
  refine wp_icmp_ge 75 dX11_reachOf_12 (by decide) (fun c1 => ?_) (fun c1 => ?_)
  · rw [if_pos c1] at h
    obtain rfl := some1 h
    exact he0 v3 _ _ _ _ _ hz
  · rw [if_neg c1] at h
    refine wp_iload_n (x := v3) dX11_reachOf_15 rfl ?_
    refine wp_istore (L2 := [some (.ref 0), z1, some (.int v2), some (.int v3), some (.int v4), some (.int v3), z6]) dX11_reachOf_16 (by decide) rfl rfl ?_
    refine wp_iconst (nI 0) dX11_reachOf_18 rfl ?_
    refine wp_istore (L2 := [some (.ref 0), z1, some (.int v2), some (.int v3), some (.int v4), some (.int v3), some (.int (nI 0))]) dX11_reachOf_19 (by decide) rfl rfl ?_
    obtain ⟨x21, hi, h⟩ := bni_some h
    refine okl_M_reachOf_l21 hd v2 v3 v4 μ (fun z => z = x21) ?_ 1000000 (v3, (nI 0)) x21 _ hi rfl
    · intro y0 z1 z3 z6 e0
      have e0 : y0 = x21 := e0
      subst e0
      refine wp_iload (x := y0) dX11_reachOf_66 rfl ?_
      refine wp_istore_n (L2 := [some (.ref 0), z1, some (.int v2), some (.int y0), some (.int v4), some (.int y0), z6]) dX11_reachOf_68 (by decide) rfl rfl ?_
      refine wp_iinc (x := v4) (k0 := (nI 1)) (L2 := [some (.ref 0), z1, some (.int v2), some (.int y0), some (.int (v4 + (nI 1))), some (.int y0), z6]) dX11_reachOf_69 rfl rfl (by decide) rfl rfl ?_
      refine wp_goto 9 dX11_reachOf_72 (by decide) ?_
      obtain rfl := some1 h
      exact hb (y0, (v4 + (nI 1))) _ _ _ hz
theorem okl_M_reachOf_l9 {l : Launch} {d : Nat} (hd : 3 ≤ d) (v2 : Int32)  (μ : Mm) {Q : Option Value → Sh → Mm → Prop} (K : Int32 → Prop) (he0 : ∀ (x : Int32) (z1 : Option Value) (z2 : Option Value) (z4 : Option Value) (z5 : Option Value) (z6 : Option Value), K x → Wp l SM d (0, 0) mX11_reachOf 75 [some (.ref 0), z1, z2, some (.int x), z4, z5, z6] [] μ Q) : ∀ (n : Nat) (s : (Int32 × Int32)) (y : Int32) (z1 : Option Value) (z5 : Option Value) (z6 : Option Value) , iter n (fun s => M_reachOf_l9 v2 s.1 s.2 μ) s = some y → K y → Wp l SM d (0, 0) mX11_reachOf 9 [some (.ref 0), z1, some (.int v2), some (.int s.1), some (.int s.2), z5, z6] [] μ Q := by
  intro n
  induction n with
  | zero => intro s y z1 z5 z6 h; cases h
  | succ n ih =>
    intro s y z1 z5 z6 h hK
    obtain ⟨z, hz, hn⟩ := iter_some h
    refine ok_M_reachOf_l9 hd v2 s.1 s.2 μ _ _ _ (fun z => nxt n (fun s => M_reachOf_l9 v2 s.1 s.2 μ) z y) ?_ ?_ hz hn
    · intro s2 z1 z5 z6 h2
      exact ih s2 y _ _ _ h2 hK
    · intro x z1 z2 z4 z5 z6 h2
      have h3 : x = y := h2
      subst h3
      exact he0 x _ _ _ _ _ hK
theorem ok_M_reachOf {l : Launch} {d : Nat} (hd : 3 ≤ d) (v1 : Int32)  (v2 : Int32)  (μ : Mm) {r : Int32} (h : M_reachOf v1 v2 μ = some r) : Wp l SM d (0, 0) mX11_reachOf 0 [some (.ref 0), some (.int v1), some (.int v2), none, none, none, none] [] μ (Qi SM r μ) := by
  unfold M_reachOf at h
  refine wp_aload_n (x := 0) dX11_reachOf_0 rfl ?_
  refine wp_iload_n (x := v1) dX11_reachOf_1 rfl ?_
  obtain ⟨r1, g1, h⟩ := bnd_some h
  refine wp_cVi (d := d - 1) (o := 0) cv_X11_399 (kltM kRootM) kRootM (as := [.int v1]) (rest := []) dX11_reachOf_2 (by omega) cloM rfl rfl (Nat.le_of_ble_eq_true rfl) (Nat.le_of_ble_eq_true rfl) (ok_M_addressesOf (by omega) v1 μ g1) ?_ rfl
  refine wp_istore_n (L2 := [some (.ref 0), some (.int v1), some (.int v2), some (.int r1), none, none, none]) dX11_reachOf_5 (by decide) rfl rfl ?_
  refine wp_iconst (nI 1) dX11_reachOf_6 rfl ?_
  refine wp_istore (L2 := [some (.ref 0), some (.int v1), some (.int v2), some (.int r1), some (.int (nI 1)), none, none]) dX11_reachOf_7 (by decide) rfl rfl ?_
  obtain ⟨x9, hi, h⟩ := bni_some h
  refine okl_M_reachOf_l9 hd v2 μ (fun z => z = x9) ?_ 1000000 (r1, (nI 1)) x9 _ _ _ hi rfl
  · intro y0 z1 z2 z4 z5 z6 e0
    have e0 : y0 = x9 := e0
    subst e0
    refine wp_iload_n (x := y0) dX11_reachOf_75 rfl ?_
    obtain rfl := ret1 h
    exact wp_iret rfl dX11_reachOf_76 ⟨rfl, rfl, rfl⟩
theorem ok_M_reach {l : Launch} {d : Nat} (hd : 4 ≤ d) (v1 : Int32)  (μ : Mm) {r : Int32} {μ' : Mm} (h : M_reach v1 μ = some (r, μ')) : Wp l SM d (0, 0) mX11_reach 0 [some (.ref 0), some (.int v1)] [] μ (Qi SM r μ') := by
  unfold M_reach at h
  refine wp_aload_n (x := 0) dX11_reach_0 rfl ?_
  refine wp_iconst (nI 0) dX11_reach_1 rfl ?_
  obtain ⟨μ1, e1, h⟩ := lt_some h
  refine wp_putIe e1 fl_X11_86 (by decide) rfl (kltM kRootM) kRootM dX11_reach_2 ?_
  refine wp_aload_n (x := 0) dX11_reach_5 rfl ?_
  refine wp_iload_n (x := v1) dX11_reach_6 rfl ?_
  obtain ⟨r2, g1, h⟩ := bnd_some h
  refine wp_cVi (d := d - 1) (o := 0) cv_X11_117 (kltM kRootM) kRootM (as := [.int v1]) (rest := []) dX11_reach_7 (by omega) cloM rfl rfl (Nat.le_of_ble_eq_true rfl) (Nat.le_of_ble_eq_true rfl) (ok_M_isPerson (by omega) v1 μ1 g1) ?_ rfl
  refine wp_if_eq 23 dX11_reach_10 (by decide) (fun c1 => ?_) (fun c1 => ?_)
  · rw [if_pos c1] at h
    refine wp_iconst (-1) dX11_reach_23 rfl ?_
    obtain ⟨rfl, rfl⟩ := ret2 h
    exact wp_iret rfl dX11_reach_24 ⟨rfl, rfl, rfl⟩
  · rw [if_neg c1] at h
    refine wp_aload_n (x := 0) dX11_reach_13 rfl ?_
    refine wp_iload_n (x := v1) dX11_reach_14 rfl ?_
    refine wp_bipush (nI 16) dX11_reach_15 rfl ?_
    obtain ⟨r3, g1, h⟩ := bnd_some h
    refine wp_cVi (d := d - 1) (o := 0) cv_X11_405 (kltM kRootM) kRootM (as := [.int v1, .int (nI 16)]) (rest := []) dX11_reach_17 (by omega) cloM rfl rfl (Nat.le_of_ble_eq_true rfl) (Nat.le_of_ble_eq_true rfl) (ok_M_reachOf (by omega) v1 (nI 16) μ1 g1) ?_ rfl
    refine wp_goto 24 dX11_reach_20 (by decide) ?_
    obtain ⟨rfl, rfl⟩ := ret2 h
    exact wp_iret rfl dX11_reach_24 ⟨rfl, rfl, rfl⟩
theorem ok_M_sources_j75 {l : Launch} {d : Nat} (hd : 4 ≤ d) (v1 : Int32)  (v2 : Int32)  (v3 : Int32)  (v4 : Int32)  (μ : Mm) {Q : Option Value → Sh → Mm → Prop} (K : (Int32 × Int32) ⊕ Int32 → Prop) (hb : ∀ (s : (Int32 × Int32)), K (Sum.inl s) → Wp l SM d (0, 0) mX11_sources 38 [some (.ref 0), some (.int v1), some (.int v2), some (.int s.1), some (.int s.2)] [] μ Q) (he0 : ∀ (x : Int32) (z1 : Option Value) (z2 : Option Value) (z4 : Option Value), K (Sum.inr x) → Wp l SM d (0, 0) mX11_sources 81 [some (.ref 0), z1, z2, some (.int x), z4] [] μ Q) {z : (Int32 × Int32) ⊕ Int32} (h : M_sources_j75 v1 v2 v3 v4 μ = some z) (hz : K z) : Wp l SM d (0, 0) mX11_sources 75 [some (.ref 0), some (.int v1), some (.int v2), some (.int v3), some (.int v4)] [] μ Q := by
  unfold M_sources_j75 at h
  refine wp_iinc (x := v4) (k0 := (nI 1)) (L2 := [some (.ref 0), some (.int v1), some (.int v2), some (.int v3), some (.int (v4 + (nI 1)))]) dX11_sources_75 rfl rfl (by decide) rfl rfl ?_
  refine wp_goto 38 dX11_sources_78 (by decide) ?_
  obtain rfl := some1 h
  exact hb (v3, (v4 + (nI 1))) hz
theorem ok_M_sources_l38 {l : Launch} {d : Nat} (hd : 4 ≤ d) (v1 : Int32)  (v2 : Int32)  (v3 : Int32)  (v4 : Int32)  (μ : Mm) {Q : Option Value → Sh → Mm → Prop} (K : (Int32 × Int32) ⊕ Int32 → Prop) (hb : ∀ (s : (Int32 × Int32)), K (Sum.inl s) → Wp l SM d (0, 0) mX11_sources 38 [some (.ref 0), some (.int v1), some (.int v2), some (.int s.1), some (.int s.2)] [] μ Q) (he0 : ∀ (x : Int32) (z1 : Option Value) (z2 : Option Value) (z4 : Option Value), K (Sum.inr x) → Wp l SM d (0, 0) mX11_sources 81 [some (.ref 0), z1, z2, some (.int x), z4] [] μ Q) {z : (Int32 × Int32) ⊕ Int32} (h : M_sources_l38 v1 v2 v3 v4 μ = some z) (hz : K z) : Wp l SM d (0, 0) mX11_sources 38 [some (.ref 0), some (.int v1), some (.int v2), some (.int v3), some (.int v4)] [] μ Q := by
  unfold M_sources_l38 at h
  refine wp_iload (x := v4) dX11_sources_38 rfl ?_
  refine wp_aload_n (x := 0) dX11_sources_40 rfl ?_
  refine wp_getI fl_X11_107 (by decide) rfl (kltM kRootM) kRootM dX11_sources_41 ?_
  refine wp_icmp_ge 81 dX11_sources_44 (by decide) (fun c1 => ?_) (fun c1 => ?_)
  · rw [if_pos c1] at h
    obtain rfl := some1 h
    exact he0 v3 _ _ _ hz
  · rw [if_neg c1] at h
    refine wp_iload_n (x := v1) dX11_sources_47 rfl ?_
    refine wp_iconst (nI 1) dX11_sources_48 rfl ?_
    refine wp_iload (x := v4) dX11_sources_49 rfl ?_
    refine wp_ishl dX11_sources_51 ?_
    refine wp_iconst (-1) dX11_sources_52 rfl ?_
    refine wp_ixor dX11_sources_53 ?_
    refine wp_iand dX11_sources_54 ?_
    refine wp_aload_n (x := 0) dX11_sources_55 rfl ?_
    refine wp_iload (x := v4) dX11_sources_56 rfl ?_
    refine wp_iload_n (x := v2) dX11_sources_58 rfl ?_
    obtain ⟨r3, g1, h⟩ := bnd_some h
    refine wp_cVi (d := d - 1) (o := 0) cv_X11_405 (kltM kRootM) kRootM (as := [.int v4, .int v2]) (rest := [.int (v1 &&& (((nI 1) <<< (v4 &&& 31)) ^^^ (-1)))]) dX11_sources_59 (by omega) cloM rfl rfl (Nat.le_of_ble_eq_true rfl) (Nat.le_of_ble_eq_true rfl) (ok_M_reachOf (by omega) v4 v2 μ g1) ?_ rfl
    refine wp_iconst (-1) dX11_sources_62 rfl ?_
    refine wp_ixor dX11_sources_63 ?_
    refine wp_iand dX11_sources_64 ?_
    refine wp_if_ne 75 dX11_sources_65 (by decide) (fun c1 => ?_) (fun c1 => ?_)
    · rw [if_neg c1] at h
      exact ok_M_sources_j75 hd v1 v2 v3 v4 μ K hb he0 h hz
    · rw [if_pos c1] at h
      refine wp_iload_n (x := v3) dX11_sources_68 rfl ?_
      refine wp_iconst (nI 1) dX11_sources_69 rfl ?_
      refine wp_iload (x := v4) dX11_sources_70 rfl ?_
      refine wp_ishl dX11_sources_72 ?_
      refine wp_ior dX11_sources_73 ?_
      refine wp_istore_n (L2 := [some (.ref 0), some (.int v1), some (.int v2), some (.int (v3 ||| ((nI 1) <<< (v4 &&& 31)))), some (.int v4)]) dX11_sources_74 (by decide) rfl rfl ?_
      exact ok_M_sources_j75 hd v1 v2 (v3 ||| ((nI 1) <<< (v4 &&& 31))) v4 μ K hb he0 h hz
theorem okl_M_sources_l38 {l : Launch} {d : Nat} (hd : 4 ≤ d) (v1 : Int32)  (v2 : Int32)  (μ : Mm) {Q : Option Value → Sh → Mm → Prop} (K : Int32 → Prop) (he0 : ∀ (x : Int32) (z1 : Option Value) (z2 : Option Value) (z4 : Option Value), K x → Wp l SM d (0, 0) mX11_sources 81 [some (.ref 0), z1, z2, some (.int x), z4] [] μ Q) : ∀ (n : Nat) (s : (Int32 × Int32)) (y : Int32) , iter n (fun s => M_sources_l38 v1 v2 s.1 s.2 μ) s = some y → K y → Wp l SM d (0, 0) mX11_sources 38 [some (.ref 0), some (.int v1), some (.int v2), some (.int s.1), some (.int s.2)] [] μ Q := by
  intro n
  induction n with
  | zero => intro s y  h; cases h
  | succ n ih =>
    intro s y  h hK
    obtain ⟨z, hz, hn⟩ := iter_some h
    refine ok_M_sources_l38 hd v1 v2 s.1 s.2 μ (fun z => nxt n (fun s => M_sources_l38 v1 v2 s.1 s.2 μ) z y) ?_ ?_ hz hn
    · intro s2  h2
      exact ih s2 y h2 hK
    · intro x z1 z2 z4 h2
      have h3 : x = y := h2
      subst h3
      exact he0 x _ _ _ hK
theorem ok_M_sources {l : Launch} {d : Nat} (hd : 4 ≤ d) (v1 : Int32)  (v2 : Int32)  (μ : Mm) {r : Int32} {μ' : Mm} (h : M_sources v1 v2 μ = some (r, μ')) : Wp l SM d (0, 0) mX11_sources 0 [some (.ref 0), some (.int v1), some (.int v2), none, none] [] μ (Qi SM r μ') := by
  unfold M_sources at h
  refine wp_aload_n (x := 0) dX11_sources_0 rfl ?_
  refine wp_iconst (nI 0) dX11_sources_1 rfl ?_
  obtain ⟨μ1, e1, h⟩ := lt_some h
  refine wp_putIe e1 fl_X11_86 (by decide) rfl (kltM kRootM) kRootM dX11_sources_2 ?_
  refine wp_iload_n (x := v1) dX11_sources_5 rfl ?_
  refine wp_iconst (nI 1) dX11_sources_6 rfl ?_
  refine wp_icmp_lt 31 dX11_sources_7 (by decide) (fun c1 => ?_) (fun c1 => ?_)
  · rw [if_pos c1] at h
    refine wp_iconst (-1) dX11_sources_31 rfl ?_
    obtain ⟨rfl, rfl⟩ := ret2 h
    exact wp_iret rfl dX11_sources_32 ⟨rfl, rfl, rfl⟩
  · rw [if_neg c1] at h
    refine wp_iload_n (x := v1) dX11_sources_10 rfl ?_
    refine wp_iconst (nI 1) dX11_sources_11 rfl ?_
    refine wp_aload_n (x := 0) dX11_sources_12 rfl ?_
    refine wp_getI fl_X11_107 (by decide) rfl (kltM kRootM) kRootM dX11_sources_13 ?_
    refine wp_ishl dX11_sources_16 ?_
    refine wp_icmp_ge 31 dX11_sources_17 (by decide) (fun c1 => ?_) (fun c1 => ?_)
    · rw [if_pos c1] at h
      refine wp_iconst (-1) dX11_sources_31 rfl ?_
      obtain ⟨rfl, rfl⟩ := ret2 h
      exact wp_iret rfl dX11_sources_32 ⟨rfl, rfl, rfl⟩
    · rw [if_neg c1] at h
      refine wp_aload_n (x := 0) dX11_sources_20 rfl ?_
      refine wp_iload_n (x := v2) dX11_sources_21 rfl ?_
      refine wp_iconst (nI 1) dX11_sources_22 rfl ?_
      refine wp_bipush (nI 15) dX11_sources_23 rfl ?_
      obtain ⟨r2, g1, h⟩ := bnd_some h
      refine wp_cVi (d := d - 1) (o := 0) cv_X11_113 (kltM kRootM) kRootM (as := [.int v2, .int (nI 1), .int (nI 15)]) (rest := []) dX11_sources_25 (by omega) cloM rfl rfl (Nat.le_of_ble_eq_true rfl) (Nat.le_of_ble_eq_true rfl) (ok_M_isIn (by omega) v2 (nI 1) (nI 15) μ1 g1) ?_ rfl
      refine wp_if_ne 33 dX11_sources_28 (by decide) (fun c1 => ?_) (fun c1 => ?_)
      · rw [if_neg c1] at h
        refine wp_iconst (nI 0) dX11_sources_33 rfl ?_
        refine wp_istore_n (L2 := [some (.ref 0), some (.int v1), some (.int v2), some (.int (nI 0)), none]) dX11_sources_34 (by decide) rfl rfl ?_
        refine wp_iconst (nI 0) dX11_sources_35 rfl ?_
        refine wp_istore (L2 := [some (.ref 0), some (.int v1), some (.int v2), some (.int (nI 0)), some (.int (nI 0))]) dX11_sources_36 (by decide) rfl rfl ?_
        obtain ⟨x38, hi, h⟩ := bni_some h
        refine okl_M_sources_l38 hd v1 v2 μ1 (fun z => z = x38) ?_ 1000000 ((nI 0), (nI 0)) x38 hi rfl
        · intro y0 z1 z2 z4 e0
          have e0 : y0 = x38 := e0
          subst e0
          refine wp_iload_n (x := y0) dX11_sources_81 rfl ?_
          obtain ⟨rfl, rfl⟩ := ret2 h
          exact wp_iret rfl dX11_sources_82 ⟨rfl, rfl, rfl⟩
      · rw [if_pos c1] at h
        refine wp_iconst (-1) dX11_sources_31 rfl ?_
        obtain ⟨rfl, rfl⟩ := ret2 h
        exact wp_iret rfl dX11_sources_32 ⟨rfl, rfl, rfl⟩
theorem ok_M_circle_l17 {l : Launch} {d : Nat} (hd : 4 ≤ d) (v1 : Int32)  (v2 : Int32)  (μ : Mm) {Q : Option Value → Sh → Mm → Prop} (K : Int32 ⊕ (Int32 ⊕ Unit) → Prop) (hb : ∀ (s : Int32), K (Sum.inl s) → Wp l SM d (0, 0) mX11_circle 17 [some (.ref 0), some (.int v1), some (.int s)] [] μ Q) (he0 : ∀ (x : Int32) (z1 : Option Value), K (Sum.inr (Sum.inl x)) → Wp l SM d (0, 0) mX11_circle 37 [some (.ref 0), z1, some (.int x)] [] μ Q) (he1 : ∀ (x : Unit) (z1 : Option Value) (z2 : Option Value), K (Sum.inr (Sum.inr x)) → Wp l SM d (0, 0) mX11_circle 45 [some (.ref 0), z1, z2] [] μ Q) {z : Int32 ⊕ (Int32 ⊕ Unit)} (h : M_circle_l17 v1 v2 μ = some z) (hz : K z) : Wp l SM d (0, 0) mX11_circle 17 [some (.ref 0), some (.int v1), some (.int v2)] [] μ Q := by
  unfold M_circle_l17 at h
  refine wp_iload_n (x := v2) dX11_circle_17 rfl ?_
  refine wp_bipush (nI 16) dX11_circle_18 rfl ?_
  refine wp_icmp_gt 45 dX11_circle_20 (by decide) (fun c1 => ?_) (fun c1 => ?_)
  · rw [if_pos c1] at h
    obtain rfl := some1 h
    exact he1 () _ _ hz
  · rw [if_neg c1] at h
    refine wp_aload_n (x := 0) dX11_circle_23 rfl ?_
    refine wp_iload_n (x := v1) dX11_circle_24 rfl ?_
    refine wp_iload_n (x := v2) dX11_circle_25 rfl ?_
    obtain ⟨r3, g1, h⟩ := bnd_some h
    refine wp_cVi (d := d - 1) (o := 0) cv_X11_405 (kltM kRootM) kRootM (as := [.int v1, .int v2]) (rest := []) dX11_circle_26 (by omega) cloM rfl rfl (Nat.le_of_ble_eq_true rfl) (Nat.le_of_ble_eq_true rfl) (ok_M_reachOf (by omega) v1 v2 μ g1) ?_ rfl
    refine wp_iload_n (x := v1) dX11_circle_29 rfl ?_
    refine wp_ishr dX11_circle_30 ?_
    refine wp_iconst (nI 1) dX11_circle_31 rfl ?_
    refine wp_iand dX11_circle_32 ?_
    refine wp_iconst (nI 1) dX11_circle_33 rfl ?_
    refine wp_icmp_ne 39 dX11_circle_34 (by decide) (fun c1 => ?_) (fun c1 => ?_)
    · rw [if_neg c1] at h
      refine wp_iinc (x := v2) (k0 := (nI 1)) (L2 := [some (.ref 0), some (.int v1), some (.int (v2 + (nI 1)))]) dX11_circle_39 rfl rfl (by decide) rfl rfl ?_
      refine wp_goto 17 dX11_circle_42 (by decide) ?_
      obtain rfl := some1 h
      exact hb (v2 + (nI 1)) hz
    · rw [if_pos c1] at h
      obtain rfl := some1 h
      exact he0 v2 _ hz
theorem okl_M_circle_l17 {l : Launch} {d : Nat} (hd : 4 ≤ d) (v1 : Int32)  (μ : Mm) {Q : Option Value → Sh → Mm → Prop} (K : (Int32 ⊕ Unit) → Prop) (he0 : ∀ (x : Int32) (z1 : Option Value), K (Sum.inl x) → Wp l SM d (0, 0) mX11_circle 37 [some (.ref 0), z1, some (.int x)] [] μ Q) (he1 : ∀ (x : Unit) (z1 : Option Value) (z2 : Option Value), K (Sum.inr x) → Wp l SM d (0, 0) mX11_circle 45 [some (.ref 0), z1, z2] [] μ Q) : ∀ (n : Nat) (s : Int32) (y : (Int32 ⊕ Unit)) , iter n (fun s => M_circle_l17 v1 s μ) s = some y → K y → Wp l SM d (0, 0) mX11_circle 17 [some (.ref 0), some (.int v1), some (.int s)] [] μ Q := by
  intro n
  induction n with
  | zero => intro s y  h; cases h
  | succ n ih =>
    intro s y  h hK
    obtain ⟨z, hz, hn⟩ := iter_some h
    refine ok_M_circle_l17 hd v1 s μ (fun z => nxt n (fun s => M_circle_l17 v1 s μ) z y) ?_ ?_ ?_ hz hn
    · intro s2  h2
      exact ih s2 y h2 hK
    · intro x z1 h2
      have h3 : (Sum.inl x) = y := h2
      subst h3
      exact he0 x _ hK
    · intro x z1 z2 h2
      have h3 : (Sum.inr x) = y := h2
      subst h3
      exact he1 x _ _ hK
theorem ok_M_circle {l : Launch} {d : Nat} (hd : 4 ≤ d) (v1 : Int32)  (μ : Mm) {r : Int32} {μ' : Mm} (h : M_circle v1 μ = some (r, μ')) : Wp l SM d (0, 0) mX11_circle 0 [some (.ref 0), some (.int v1), none] [] μ (Qi SM r μ') := by
  unfold M_circle at h
  refine wp_aload_n (x := 0) dX11_circle_0 rfl ?_
  refine wp_iconst (nI 0) dX11_circle_1 rfl ?_
  obtain ⟨μ1, e1, h⟩ := lt_some h
  refine wp_putIe e1 fl_X11_86 (by decide) rfl (kltM kRootM) kRootM dX11_circle_2 ?_
  refine wp_aload_n (x := 0) dX11_circle_5 rfl ?_
  refine wp_iload_n (x := v1) dX11_circle_6 rfl ?_
  obtain ⟨r2, g1, h⟩ := bnd_some h
  refine wp_cVi (d := d - 1) (o := 0) cv_X11_117 (kltM kRootM) kRootM (as := [.int v1]) (rest := []) dX11_circle_7 (by omega) cloM rfl rfl (Nat.le_of_ble_eq_true rfl) (Nat.le_of_ble_eq_true rfl) (ok_M_isPerson (by omega) v1 μ1 g1) ?_ rfl
  refine wp_if_ne 15 dX11_circle_10 (by decide) (fun c1 => ?_) (fun c1 => ?_)
  · rw [if_neg c1] at h
    refine wp_iconst (nI 1) dX11_circle_15 rfl ?_
    refine wp_istore_n (L2 := [some (.ref 0), some (.int v1), some (.int (nI 1))]) dX11_circle_16 (by decide) rfl rfl ?_
    obtain ⟨x17, hi, h⟩ := bni_some h
    refine okl_M_circle_l17 hd v1 μ1 (fun z => z = x17) ?_ ?_ 1000000 (nI 1) x17 hi rfl
    · intro x17a z1 e0
      have e0 : (Sum.inl x17a) = x17 := e0
      subst e0
      replace h := eL h
      refine wp_iload_n (x := x17a) dX11_circle_37 rfl ?_
      obtain ⟨rfl, rfl⟩ := ret2 h
      exact wp_iret rfl dX11_circle_38 ⟨rfl, rfl, rfl⟩
    · intro x17b z1 z2 e0
      have e0 : (Sum.inr x17b) = x17 := e0
      subst e0
      replace h := eR h
      refine wp_iconst (-1) dX11_circle_45 rfl ?_
      obtain ⟨rfl, rfl⟩ := ret2 h
      exact wp_iret rfl dX11_circle_46 ⟨rfl, rfl, rfl⟩
  · rw [if_pos c1] at h
    refine wp_iconst (-1) dX11_circle_13 rfl ?_
    obtain ⟨rfl, rfl⟩ := ret2 h
    exact wp_iret rfl dX11_circle_14 ⟨rfl, rfl, rfl⟩
theorem ok_M_pick_l38 {l : Launch} {d : Nat} (hd : 2 ≤ d) (v1 : Int32)  (v2 : Int32)  (μ : Mm) {Q : Option Value → Sh → Mm → Prop} (K : Int32 ⊕ (Unit ⊕ Unit) → Prop) (hb : ∀ (s : Int32), K (Sum.inl s) → Wp l SM d (0, 0) mX11_pick 38 [some (.ref 0), some (.int v1), some (.int s)] [] μ Q) (he0 : ∀ (x : Unit) (z1 : Option Value) (z2 : Option Value), K (Sum.inr (Sum.inl x)) → Wp l SM d (0, 0) mX11_pick 56 [some (.ref 0), z1, z2] [] μ Q) (he1 : ∀ (x : Unit) (z2 : Option Value), K (Sum.inr (Sum.inr x)) → Wp l SM d (0, 0) mX11_pick 64 [some (.ref 0), some (.int v1), z2] [] μ Q) {z : Int32 ⊕ (Unit ⊕ Unit)} (h : M_pick_l38 v1 v2 μ = some z) (hz : K z) : Wp l SM d (0, 0) mX11_pick 38 [some (.ref 0), some (.int v1), some (.int v2)] [] μ Q := by
  unfold M_pick_l38 at h
  refine wp_iload_n (x := v2) dX11_pick_38 rfl ?_
  refine wp_aload_n (x := 0) dX11_pick_39 rfl ?_
  refine wp_getI fl_X11_95 (by decide) rfl (kltM kRootM) kRootM dX11_pick_40 ?_
  refine wp_icmp_ge 64 dX11_pick_43 (by decide) (fun c1 => ?_) (fun c1 => ?_)
  · rw [if_pos c1] at h
    obtain rfl := some1 h
    exact he1 () _ hz
  · rw [if_neg c1] at h
    refine wp_aload_n (x := 0) dX11_pick_46 rfl ?_
    refine wp_getR 9 fl_X11_34 (by decide) rfl (kltM kRootM) kRootM (ly11_18 kRootM).1 dX11_pick_47 ?_
    refine wp_iload_n (x := v2) dX11_pick_50 rfl ?_
    obtain ⟨c1, h⟩ := chv_some h
    refine wp_ialde (kltM (ly11_18 kRootM).2.1) (ly11_18 kRootM).2.1 (ly11_18 kRootM).2.2 c1 dX11_pick_51 ?_
    refine wp_iload_n (x := v1) dX11_pick_52 rfl ?_
    refine wp_icmp_ne 58 dX11_pick_53 (by decide) (fun c1 => ?_) (fun c1 => ?_)
    · rw [if_neg c1] at h
      refine wp_iinc (x := v2) (k0 := (nI 1)) (L2 := [some (.ref 0), some (.int v1), some (.int (v2 + (nI 1)))]) dX11_pick_58 rfl rfl (by decide) rfl rfl ?_
      refine wp_goto 38 dX11_pick_61 (by decide) ?_
      obtain rfl := some1 h
      exact hb (v2 + (nI 1)) hz
    · rw [if_pos c1] at h
      obtain rfl := some1 h
      exact he0 () _ _ hz
theorem okl_M_pick_l38 {l : Launch} {d : Nat} (hd : 2 ≤ d) (v1 : Int32)  (μ : Mm) {Q : Option Value → Sh → Mm → Prop} (K : (Unit ⊕ Unit) → Prop) (he0 : ∀ (x : Unit) (z1 : Option Value) (z2 : Option Value), K (Sum.inl x) → Wp l SM d (0, 0) mX11_pick 56 [some (.ref 0), z1, z2] [] μ Q) (he1 : ∀ (x : Unit) (z2 : Option Value), K (Sum.inr x) → Wp l SM d (0, 0) mX11_pick 64 [some (.ref 0), some (.int v1), z2] [] μ Q) : ∀ (n : Nat) (s : Int32) (y : (Unit ⊕ Unit)) , iter n (fun s => M_pick_l38 v1 s μ) s = some y → K y → Wp l SM d (0, 0) mX11_pick 38 [some (.ref 0), some (.int v1), some (.int s)] [] μ Q := by
  intro n
  induction n with
  | zero => intro s y  h; cases h
  | succ n ih =>
    intro s y  h hK
    obtain ⟨z, hz, hn⟩ := iter_some h
    refine ok_M_pick_l38 hd v1 s μ (fun z => nxt n (fun s => M_pick_l38 v1 s μ) z y) ?_ ?_ ?_ hz hn
    · intro s2  h2
      exact ih s2 y h2 hK
    · intro x z1 z2 h2
      have h3 : (Sum.inl x) = y := h2
      subst h3
      exact he0 x _ _ hK
    · intro x z2 h2
      have h3 : (Sum.inr x) = y := h2
      subst h3
      exact he1 x _ hK
theorem ok_M_pick {l : Launch} {d : Nat} (hd : 2 ≤ d) (v1 : Int32)  (μ : Mm) {r : Int32} {μ' : Mm} (h : M_pick v1 μ = some (r, μ')) : Wp l SM d (0, 0) mX11_pick 0 [some (.ref 0), some (.int v1), none] [] μ (Qi SM r μ') := by
  unfold M_pick at h
  refine wp_aload_n (x := 0) dX11_pick_0 rfl ?_
  refine wp_iconst (nI 0) dX11_pick_1 rfl ?_
  obtain ⟨μ1, e1, h⟩ := lt_some h
  refine wp_putIe e1 fl_X11_86 (by decide) rfl (kltM kRootM) kRootM dX11_pick_2 ?_
  refine wp_iload_n (x := v1) dX11_pick_5 rfl ?_
  refine wp_iconst (-1) dX11_pick_6 rfl ?_
  refine wp_icmp_ne 17 dX11_pick_7 (by decide) (fun c1 => ?_) (fun c1 => ?_)
  · rw [if_neg c1] at h
    refine wp_aload_n (x := 0) dX11_pick_17 rfl ?_
    refine wp_iload_n (x := v1) dX11_pick_18 rfl ?_
    obtain ⟨r2, g1, h⟩ := bnd_some h
    refine wp_cVi (d := d - 1) (o := 0) cv_X11_148 (kltM kRootM) kRootM (as := [.int v1]) (rest := []) dX11_pick_19 (by omega) cloM rfl rfl (Nat.le_of_ble_eq_true rfl) (Nat.le_of_ble_eq_true rfl) (ok_M_isVersion (by omega) v1 μ1 g1) ?_ rfl
    refine wp_if_eq 34 dX11_pick_22 (by decide) (fun c1 => ?_) (fun c1 => ?_)
    · rw [if_pos c1] at h
      refine wp_iconst (-1) dX11_pick_34 rfl ?_
      obtain ⟨rfl, rfl⟩ := ret2 h
      exact wp_iret rfl dX11_pick_35 ⟨rfl, rfl, rfl⟩
    · rw [if_neg c1] at h
      refine wp_aload_n (x := 0) dX11_pick_25 rfl ?_
      refine wp_getI fl_X11_95 (by decide) rfl (kltM kRootM) kRootM dX11_pick_26 ?_
      refine wp_bipush (nI 8) dX11_pick_29 rfl ?_
      refine wp_icmp_ne 36 dX11_pick_31 (by decide) (fun c1 => ?_) (fun c1 => ?_)
      · rw [if_neg c1] at h
        refine wp_iconst (nI 0) dX11_pick_36 rfl ?_
        refine wp_istore_n (L2 := [some (.ref 0), some (.int v1), some (.int (nI 0))]) dX11_pick_37 (by decide) rfl rfl ?_
        obtain ⟨x38, hi, h⟩ := bni_some h
        refine okl_M_pick_l38 hd v1 μ1 (fun z => z = x38) ?_ ?_ 1000000 (nI 0) x38 hi rfl
        · intro x38a z1 z2 e0
          have e0 : (Sum.inl x38a) = x38 := e0
          subst e0
          replace h := eL h
          refine wp_iconst (-1) dX11_pick_56 rfl ?_
          obtain ⟨rfl, rfl⟩ := ret2 h
          exact wp_iret rfl dX11_pick_57 ⟨rfl, rfl, rfl⟩
        · intro x38b z2 e0
          have e0 : (Sum.inr x38b) = x38 := e0
          subst e0
          replace h := eR h
          refine wp_aload_n (x := 0) dX11_pick_64 rfl ?_
          refine wp_getR 9 fl_X11_34 (by decide) rfl (kltM kRootM) kRootM (ly11_18 kRootM).1 dX11_pick_65 ?_
          refine wp_aload_n (x := 0) dX11_pick_68 rfl ?_
          refine wp_getI fl_X11_95 (by decide) rfl (kltM kRootM) kRootM dX11_pick_69 ?_
          refine wp_iload_n (x := v1) dX11_pick_72 rfl ?_
          obtain ⟨c1, h⟩ := chv_some h
          obtain ⟨μ3, e1, h⟩ := lt_some h
          refine wp_iaste e1 (kltM (ly11_18 kRootM).2.1) (ly11_18 kRootM).2.1 (ly11_18 kRootM).2.2 c1 dX11_pick_73 ?_
          refine wp_aload_n (x := 0) dX11_pick_74 rfl ?_
          refine wp_aload_n (x := 0) dX11_pick_75 rfl ?_
          refine wp_getI fl_X11_95 (by decide) rfl (kltM kRootM) kRootM dX11_pick_76 ?_
          refine wp_iconst (nI 1) dX11_pick_79 rfl ?_
          refine wp_iadd dX11_pick_80 ?_
          obtain ⟨μ4, e1, h⟩ := lt_some h
          refine wp_putIe e1 fl_X11_95 (by decide) rfl (kltM kRootM) kRootM dX11_pick_81 ?_
          refine wp_aload_n (x := 0) dX11_pick_84 rfl ?_
          refine wp_getI fl_X11_95 (by decide) rfl (kltM kRootM) kRootM dX11_pick_85 ?_
          obtain ⟨rfl, rfl⟩ := ret2 h
          exact wp_iret rfl dX11_pick_88 ⟨rfl, rfl, rfl⟩
      · rw [if_pos c1] at h
        refine wp_iconst (-1) dX11_pick_34 rfl ?_
        obtain ⟨rfl, rfl⟩ := ret2 h
        exact wp_iret rfl dX11_pick_35 ⟨rfl, rfl, rfl⟩
  · rw [if_pos c1] at h
    refine wp_aload_n (x := 0) dX11_pick_10 rfl ?_
    refine wp_iconst (nI 0) dX11_pick_11 rfl ?_
    obtain ⟨μ5, e1, h⟩ := lt_some h
    refine wp_putIe e1 fl_X11_95 (by decide) rfl (kltM kRootM) kRootM dX11_pick_12 ?_
    refine wp_iconst (nI 0) dX11_pick_15 rfl ?_
    obtain ⟨rfl, rfl⟩ := ret2 h
    exact wp_iret rfl dX11_pick_16 ⟨rfl, rfl, rfl⟩
