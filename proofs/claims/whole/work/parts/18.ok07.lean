theorem ok_M_apartOf {l : Launch} {d : Nat} (hd : 2 ≤ d) (v1 : Int32)  (v2 : Int32)  (μ : Mm) {r : Int32} (h : M_apartOf v1 v2 μ = some r) : Wp l SM d (0, 0) mX11_apartOf 0 [some (.ref 0), some (.int v1), some (.int v2)] [] μ (Qi SM r μ) := by
  unfold M_apartOf at h
  refine wp_aload_n (x := 0) dX11_apartOf_0 rfl ?_
  refine wp_aload_n (x := 0) dX11_apartOf_1 rfl ?_
  refine wp_getR 1 fl_X11_7 (by decide) rfl (kltM kRootM) kRootM (ly11_1 kRootM).1 dX11_apartOf_2 ?_
  refine wp_bipush (nI 47) dX11_apartOf_5 rfl ?_
  refine wp_aload_n (x := 0) dX11_apartOf_7 rfl ?_
  refine wp_getR 9 fl_X11_34 (by decide) rfl (kltM kRootM) kRootM (ly11_18 kRootM).1 dX11_apartOf_8 ?_
  refine wp_iload_n (x := v1) dX11_apartOf_11 rfl ?_
  obtain ⟨c1, h⟩ := chv_some h
  refine wp_ialde (kltM (ly11_18 kRootM).2.1) (ly11_18 kRootM).2.1 (ly11_18 kRootM).2.2 c1 dX11_apartOf_12 ?_
  refine wp_iadd dX11_apartOf_13 ?_
  obtain ⟨c1, h⟩ := chv_some h
  refine wp_ialde (kltM (ly11_1 kRootM).2.1) (ly11_1 kRootM).2.1 (ly11_1 kRootM).2.2 c1 dX11_apartOf_14 ?_
  refine wp_aload_n (x := 0) dX11_apartOf_15 rfl ?_
  refine wp_getR 1 fl_X11_7 (by decide) rfl (kltM kRootM) kRootM (ly11_1 kRootM).1 dX11_apartOf_16 ?_
  refine wp_bipush (nI 47) dX11_apartOf_19 rfl ?_
  refine wp_aload_n (x := 0) dX11_apartOf_21 rfl ?_
  refine wp_getR 9 fl_X11_34 (by decide) rfl (kltM kRootM) kRootM (ly11_18 kRootM).1 dX11_apartOf_22 ?_
  refine wp_iload_n (x := v2) dX11_apartOf_25 rfl ?_
  obtain ⟨c1, h⟩ := chv_some h
  refine wp_ialde (kltM (ly11_18 kRootM).2.1) (ly11_18 kRootM).2.1 (ly11_18 kRootM).2.2 c1 dX11_apartOf_26 ?_
  refine wp_iadd dX11_apartOf_27 ?_
  obtain ⟨c1, h⟩ := chv_some h
  refine wp_ialde (kltM (ly11_1 kRootM).2.1) (ly11_1 kRootM).2.1 (ly11_1 kRootM).2.2 c1 dX11_apartOf_28 ?_
  refine wp_ixor dX11_apartOf_29 ?_
  obtain ⟨r1, g1, h⟩ := bnd_some h
  refine wp_cVi (d := d - 1) (o := 0) cv_X11_299 (kltM kRootM) kRootM (as := [.int ((μ.1 1 (ix ((nI 47) + (μ.1 9 (ix v1))))) ^^^ (μ.1 1 (ix ((nI 47) + (μ.1 9 (ix v2))))))]) (rest := []) dX11_apartOf_30 (by omega) cloM rfl rfl (Nat.le_of_ble_eq_true rfl) (Nat.le_of_ble_eq_true rfl) (ok_M_ones (by omega) ((μ.1 1 (ix ((nI 47) + (μ.1 9 (ix v1))))) ^^^ (μ.1 1 (ix ((nI 47) + (μ.1 9 (ix v2)))))) μ g1) ?_ rfl
  obtain rfl := ret1 h
  exact wp_iret rfl dX11_apartOf_33 ⟨rfl, rfl, rfl⟩
theorem ok_M_nearest_j76 {l : Launch} {d : Nat} (hd : 3 ≤ d) (v1 : Int32)  (v2 : Int32)  (v3 : Int32)  (v4 : Int32)  (v5 : Int32)  (μ : Mm) {Q : Option Value → Sh → Mm → Prop} (K : (Int32 × Int32 × Int32) ⊕ (Int32 × Int32) → Prop) (hb : ∀ (s : (Int32 × Int32 × Int32)), K (Sum.inl s) → Wp l SM d (0, 0) mX11_nearest 21 [some (.ref 0), some (.int v1), some (.int s.1), some (.int s.2.1), some (.int v4), some (.int s.2.2)] [] μ Q) (he0 : ∀ (x : (Int32 × Int32)) (z5 : Option Value), K (Sum.inr x) → Wp l SM d (0, 0) mX11_nearest 82 [some (.ref 0), some (.int v1), some (.int x.1), some (.int x.2), some (.int v4), z5] [] μ Q) {z : (Int32 × Int32 × Int32) ⊕ (Int32 × Int32)} (h : M_nearest_j76 v1 v2 v3 v4 v5 μ = some z) (hz : K z) : Wp l SM d (0, 0) mX11_nearest 76 [some (.ref 0), some (.int v1), some (.int v2), some (.int v3), some (.int v4), some (.int v5)] [] μ Q := by
  unfold M_nearest_j76 at h
  refine wp_iinc (x := v5) (k0 := (nI 1)) (L2 := [some (.ref 0), some (.int v1), some (.int v2), some (.int v3), some (.int v4), some (.int (v5 + (nI 1)))]) dX11_nearest_76 rfl rfl (by decide) rfl rfl ?_
  refine wp_goto 21 dX11_nearest_79 (by decide) ?_
  obtain rfl := some1 h
  exact hb (v2, v3, (v5 + (nI 1))) hz
theorem ok_M_nearest_l21 {l : Launch} {d : Nat} (hd : 3 ≤ d) (v1 : Int32)  (v2 : Int32)  (v3 : Int32)  (v4 : Int32)  (v5 : Int32)  (μ : Mm) {Q : Option Value → Sh → Mm → Prop} (K : (Int32 × Int32 × Int32) ⊕ (Int32 × Int32) → Prop) (hb : ∀ (s : (Int32 × Int32 × Int32)), K (Sum.inl s) → Wp l SM d (0, 0) mX11_nearest 21 [some (.ref 0), some (.int v1), some (.int s.1), some (.int s.2.1), some (.int v4), some (.int s.2.2)] [] μ Q) (he0 : ∀ (x : (Int32 × Int32)) (z5 : Option Value), K (Sum.inr x) → Wp l SM d (0, 0) mX11_nearest 82 [some (.ref 0), some (.int v1), some (.int x.1), some (.int x.2), some (.int v4), z5] [] μ Q) {z : (Int32 × Int32 × Int32) ⊕ (Int32 × Int32)} (h : M_nearest_l21 v1 v2 v3 v4 v5 μ = some z) (hz : K z) : Wp l SM d (0, 0) mX11_nearest 21 [some (.ref 0), some (.int v1), some (.int v2), some (.int v3), some (.int v4), some (.int v5)] [] μ Q := by
  unfold M_nearest_l21 at h
  refine wp_iload (x := v5) dX11_nearest_21 rfl ?_
  refine wp_aload_n (x := 0) dX11_nearest_23 rfl ?_
  refine wp_getI fl_X11_95 (by decide) rfl (kltM kRootM) kRootM dX11_nearest_24 ?_
  refine wp_icmp_ge 82 dX11_nearest_27 (by decide) (fun c1 => ?_) (fun c1 => ?_)
  · rw [if_pos c1] at h
    obtain rfl := some1 h
    exact he0 (v2, v3) _ hz
  · rw [if_neg c1] at h
    refine wp_iload_n (x := v1) dX11_nearest_30 rfl ?_
    refine wp_iload (x := v4) dX11_nearest_31 rfl ?_
    refine wp_ishr dX11_nearest_33 ?_
    refine wp_iconst (nI 1) dX11_nearest_34 rfl ?_
    refine wp_iand dX11_nearest_35 ?_
    refine wp_iconst (nI 1) dX11_nearest_36 rfl ?_
    refine wp_icmp_eq 76 dX11_nearest_37 (by decide) (fun c1 => ?_) (fun c1 => ?_)
    · rw [if_pos c1] at h
      exact ok_M_nearest_j76 hd v1 v2 v3 v4 v5 μ K hb he0 h hz
    · rw [if_neg c1] at h
      refine wp_iload_n (x := v1) dX11_nearest_40 rfl ?_
      refine wp_iload (x := v5) dX11_nearest_41 rfl ?_
      refine wp_ishr dX11_nearest_43 ?_
      refine wp_iconst (nI 1) dX11_nearest_44 rfl ?_
      refine wp_iand dX11_nearest_45 ?_
      refine wp_if_eq 76 dX11_nearest_46 (by decide) (fun c1 => ?_) (fun c1 => ?_)
      · rw [if_pos c1] at h
        exact ok_M_nearest_j76 hd v1 v2 v3 v4 v5 μ K hb he0 h hz
      · rw [if_neg c1] at h
        refine wp_aload_n (x := 0) dX11_nearest_49 rfl ?_
        refine wp_iload (x := v4) dX11_nearest_50 rfl ?_
        refine wp_iload (x := v5) dX11_nearest_52 rfl ?_
        obtain ⟨r1, g1, h⟩ := bnd_some h
        refine wp_cVi (d := d - 1) (o := 0) cv_X11_409 (kltM kRootM) kRootM (as := [.int v4, .int v5]) (rest := []) dX11_nearest_54 (by omega) cloM rfl rfl (Nat.le_of_ble_eq_true rfl) (Nat.le_of_ble_eq_true rfl) (ok_M_apartOf (by omega) v4 v5 μ g1) ?_ rfl
        refine wp_iload_n (x := v3) dX11_nearest_57 rfl ?_
        refine wp_icmp_lt 64 dX11_nearest_58 (by decide) (fun c1 => ?_) (fun c1 => ?_)
        · rw [if_pos c1] at h
          refine wp_iload (x := v4) dX11_nearest_64 rfl ?_
          refine wp_istore_n (L2 := [some (.ref 0), some (.int v1), some (.int v4), some (.int v3), some (.int v4), some (.int v5)]) dX11_nearest_66 (by decide) rfl rfl ?_
          refine wp_aload_n (x := 0) dX11_nearest_67 rfl ?_
          refine wp_iload (x := v4) dX11_nearest_68 rfl ?_
          refine wp_iload (x := v5) dX11_nearest_70 rfl ?_
          obtain ⟨r2, g1, h⟩ := bnd_some h
          refine wp_cVi (d := d - 1) (o := 0) cv_X11_409 (kltM kRootM) kRootM (as := [.int v4, .int v5]) (rest := []) dX11_nearest_72 (by omega) cloM rfl rfl (Nat.le_of_ble_eq_true rfl) (Nat.le_of_ble_eq_true rfl) (ok_M_apartOf (by omega) v4 v5 μ g1) ?_ rfl
          refine wp_istore_n (L2 := [some (.ref 0), some (.int v1), some (.int v4), some (.int r2), some (.int v4), some (.int v5)]) dX11_nearest_75 (by decide) rfl rfl ?_
          exact ok_M_nearest_j76 hd v1 v4 r2 v4 v5 μ K hb he0 h hz
        · rw [if_neg c1] at h
          refine wp_goto 76 dX11_nearest_61 (by decide) ?_
          exact ok_M_nearest_j76 hd v1 v2 v3 v4 v5 μ K hb he0 h hz
theorem okl_M_nearest_l21 {l : Launch} {d : Nat} (hd : 3 ≤ d) (v1 : Int32)  (v4 : Int32)  (μ : Mm) {Q : Option Value → Sh → Mm → Prop} (K : (Int32 × Int32) → Prop) (he0 : ∀ (x : (Int32 × Int32)) (z5 : Option Value), K x → Wp l SM d (0, 0) mX11_nearest 82 [some (.ref 0), some (.int v1), some (.int x.1), some (.int x.2), some (.int v4), z5] [] μ Q) : ∀ (n : Nat) (s : (Int32 × Int32 × Int32)) (y : (Int32 × Int32)) , iter n (fun s => M_nearest_l21 v1 s.1 s.2.1 v4 s.2.2 μ) s = some y → K y → Wp l SM d (0, 0) mX11_nearest 21 [some (.ref 0), some (.int v1), some (.int s.1), some (.int s.2.1), some (.int v4), some (.int s.2.2)] [] μ Q := by
  intro n
  induction n with
  | zero => intro s y  h; cases h
  | succ n ih =>
    intro s y  h hK
    obtain ⟨z, hz, hn⟩ := iter_some h
    refine ok_M_nearest_l21 hd v1 s.1 s.2.1 v4 s.2.2 μ (fun z => nxt n (fun s => M_nearest_l21 v1 s.1 s.2.1 v4 s.2.2 μ) z y) ?_ ?_ hz hn
    · intro s2  h2
      exact ih s2 y h2 hK
    · intro x z5 h2
      have h3 : x = y := h2
      subst h3
      exact he0 x _ hK
theorem ok_M_nearest_l9 {l : Launch} {d : Nat} (hd : 3 ≤ d) (v1 : Int32)  (v2 : Int32)  (v3 : Int32)  (v4 : Int32)  (μ : Mm) (z5 : Option Value) {Q : Option Value → Sh → Mm → Prop} (K : (Int32 × Int32 × Int32) ⊕ (Int32 × Int32) → Prop) (hb : ∀ (s : (Int32 × Int32 × Int32)) (z5 : Option Value), K (Sum.inl s) → Wp l SM d (0, 0) mX11_nearest 9 [some (.ref 0), some (.int v1), some (.int s.1), some (.int s.2.1), some (.int s.2.2), z5] [] μ Q) (he0 : ∀ (x : (Int32 × Int32)) (z1 : Option Value) (z4 : Option Value) (z5 : Option Value), K (Sum.inr x) → Wp l SM d (0, 0) mX11_nearest 88 [some (.ref 0), z1, some (.int x.1), some (.int x.2), z4, z5] [] μ Q) {z : (Int32 × Int32 × Int32) ⊕ (Int32 × Int32)} (h : M_nearest_l9 v1 v2 v3 v4 μ = some z) (hz : K z) : Wp l SM d (0, 0) mX11_nearest 9 [some (.ref 0), some (.int v1), some (.int v2), some (.int v3), some (.int v4), z5] [] μ Q := by
  unfold M_nearest_l9 at h
  refine wp_iload (x := v4) dX11_nearest_9 rfl ?_
  refine wp_aload_n (x := 0) dX11_nearest_11 rfl ?_
  refine wp_getI fl_X11_95 (by decide) rfl (kltM kRootM) kRootM dX11_nearest_12 ?_
  refine wp_icmp_ge 88 dX11_nearest_15 (by decide) (fun c1 => ?_) (fun c1 => ?_)
  · rw [if_pos c1] at h
    obtain rfl := some1 h
    exact he0 (v2, v3) _ _ _ hz
  · rw [if_neg c1] at h
    refine wp_iconst (nI 0) dX11_nearest_18 rfl ?_
    refine wp_istore (L2 := [some (.ref 0), some (.int v1), some (.int v2), some (.int v3), some (.int v4), some (.int (nI 0))]) dX11_nearest_19 (by decide) rfl rfl ?_
    obtain ⟨x21, hi, h⟩ := bni_some h
    refine okl_M_nearest_l21 hd v1 v4 μ (fun z => z = x21) ?_ 1000000 (v2, v3, (nI 0)) x21 hi rfl
    · intro y0 z5 e0
      have e0 : y0 = x21 := e0
      subst e0
      refine wp_iinc (x := v4) (k0 := (nI 1)) (L2 := [some (.ref 0), some (.int v1), some (.int y0.1), some (.int y0.2), some (.int (v4 + (nI 1))), z5]) dX11_nearest_82 rfl rfl (by decide) rfl rfl ?_
      refine wp_goto 9 dX11_nearest_85 (by decide) ?_
      obtain rfl := some1 h
      exact hb (y0.1, y0.2, (v4 + (nI 1))) _ hz
theorem okl_M_nearest_l9 {l : Launch} {d : Nat} (hd : 3 ≤ d) (v1 : Int32)  (μ : Mm) {Q : Option Value → Sh → Mm → Prop} (K : (Int32 × Int32) → Prop) (he0 : ∀ (x : (Int32 × Int32)) (z1 : Option Value) (z4 : Option Value) (z5 : Option Value), K x → Wp l SM d (0, 0) mX11_nearest 88 [some (.ref 0), z1, some (.int x.1), some (.int x.2), z4, z5] [] μ Q) : ∀ (n : Nat) (s : (Int32 × Int32 × Int32)) (y : (Int32 × Int32)) (z5 : Option Value) , iter n (fun s => M_nearest_l9 v1 s.1 s.2.1 s.2.2 μ) s = some y → K y → Wp l SM d (0, 0) mX11_nearest 9 [some (.ref 0), some (.int v1), some (.int s.1), some (.int s.2.1), some (.int s.2.2), z5] [] μ Q := by
  intro n
  induction n with
  | zero => intro s y z5 h; cases h
  | succ n ih =>
    intro s y z5 h hK
    obtain ⟨z, hz, hn⟩ := iter_some h
    refine ok_M_nearest_l9 hd v1 s.1 s.2.1 s.2.2 μ _ (fun z => nxt n (fun s => M_nearest_l9 v1 s.1 s.2.1 s.2.2 μ) z y) ?_ ?_ hz hn
    · intro s2 z5 h2
      exact ih s2 y _ h2 hK
    · intro x z1 z4 z5 h2
      have h3 : x = y := h2
      subst h3
      exact he0 x _ _ _ hK
theorem ok_M_nearest {l : Launch} {d : Nat} (hd : 3 ≤ d) (v1 : Int32)  (μ : Mm) {r : Int32} (h : M_nearest v1 μ = some r) : Wp l SM d (0, 0) mX11_nearest 0 [some (.ref 0), some (.int v1), none, none, none, none] [] μ (Qi SM r μ) := by
  unfold M_nearest at h
  refine wp_iconst (-1) dX11_nearest_0 rfl ?_
  refine wp_istore_n (L2 := [some (.ref 0), some (.int v1), some (.int (-1)), none, none, none]) dX11_nearest_1 (by decide) rfl rfl ?_
  refine wp_ldcw (v := (nI 1000000)) dX11_nearest_2 kc_X11_408 ?_
  refine wp_istore_n (L2 := [some (.ref 0), some (.int v1), some (.int (-1)), some (.int (nI 1000000)), none, none]) dX11_nearest_5 (by decide) rfl rfl ?_
  refine wp_iconst (nI 0) dX11_nearest_6 rfl ?_
  refine wp_istore (L2 := [some (.ref 0), some (.int v1), some (.int (-1)), some (.int (nI 1000000)), some (.int (nI 0)), none]) dX11_nearest_7 (by decide) rfl rfl ?_
  obtain ⟨x9, hi, h⟩ := bni_some h
  refine okl_M_nearest_l9 hd v1 μ (fun z => z = x9) ?_ 1000000 ((-1), (nI 1000000), (nI 0)) x9 _ hi rfl
  · intro y0 z1 z4 z5 e0
    have e0 : y0 = x9 := e0
    subst e0
    refine wp_bipush (nI 100) dX11_nearest_88 rfl ?_
    refine wp_iload_n (x := y0.2) dX11_nearest_90 rfl ?_
    refine wp_imul dX11_nearest_91 ?_
    refine wp_iload_n (x := y0.1) dX11_nearest_92 rfl ?_
    refine wp_iadd dX11_nearest_93 ?_
    obtain rfl := ret1 h
    exact wp_iret rfl dX11_nearest_94 ⟨rfl, rfl, rfl⟩
theorem ok_M_join_l11 {l : Launch} {d : Nat} (hd : 4 ≤ d) (v1 : Int32)  (v2 : Int32)  (v3 : Int32)  (μ : Mm) (z4 : Option Value) {Q : Option Value → Sh → Mm → Prop} (K : (Int32 × Int32 × Int32) ⊕ Int32 → Prop) (hb : ∀ (s : (Int32 × Int32 × Int32)) (z4 : Option Value), K (Sum.inl s) → Wp l SM d (0, 0) mX11_join 11 [some (.ref 0), some (.int s.1), some (.int s.2.1), some (.int s.2.2), z4] [] μ Q) (he0 : ∀ (x : Int32) (z2 : Option Value) (z3 : Option Value) (z4 : Option Value), K (Sum.inr x) → Wp l SM d (0, 0) mX11_join 50 [some (.ref 0), some (.int x), z2, z3, z4] [] μ Q) {z : (Int32 × Int32 × Int32) ⊕ Int32} (h : M_join_l11 v1 v2 v3 μ = some z) (hz : K z) : Wp l SM d (0, 0) mX11_join 11 [some (.ref 0), some (.int v1), some (.int v2), some (.int v3), z4] [] μ Q := by
  unfold M_join_l11 at h
  refine wp_iload_n (x := v3) dX11_join_11 rfl ?_
  refine wp_aload_n (x := 0) dX11_join_12 rfl ?_
  refine wp_getI fl_X11_95 (by decide) rfl (kltM kRootM) kRootM dX11_join_13 ?_
  refine wp_icmp_ge 50 dX11_join_16 (by decide) (fun c1 => ?_) (fun c1 => ?_)
  · rw [if_pos c1] at h
    obtain rfl := some1 h
    exact he0 v1 _ _ _ hz
  · rw [if_neg c1] at h
    refine wp_aload_n (x := 0) dX11_join_19 rfl ?_
    refine wp_iload_n (x := v2) dX11_join_20 rfl ?_
    obtain ⟨r2, g1, h⟩ := bnd_some h
    refine wp_cVi (d := d - 1) (o := 0) cv_X11_412 (kltM kRootM) kRootM (as := [.int v2]) (rest := []) dX11_join_21 (by omega) cloM rfl rfl (Nat.le_of_ble_eq_true rfl) (Nat.le_of_ble_eq_true rfl) (ok_M_nearest (by omega) v2 μ g1) ?_ rfl
    refine wp_istore (L2 := [some (.ref 0), some (.int v1), some (.int v2), some (.int v3), some (.int r2)]) dX11_join_24 (by decide) rfl rfl ?_
    refine wp_iload_n (x := v1) dX11_join_26 rfl ?_
    refine wp_iload (x := r2) dX11_join_27 rfl ?_
    refine wp_bipush (nI 100) dX11_join_29 rfl ?_
    obtain ⟨c1, h⟩ := chk_some h
    refine wp_idiv dX11_join_31 c1 ?_
    refine wp_iadd dX11_join_32 ?_
    refine wp_istore_n (L2 := [some (.ref 0), some (.int (v1 + (r2 / (nI 100)))), some (.int v2), some (.int v3), some (.int r2)]) dX11_join_33 (by decide) rfl rfl ?_
    refine wp_iload_n (x := v2) dX11_join_34 rfl ?_
    refine wp_iconst (nI 1) dX11_join_35 rfl ?_
    refine wp_iload (x := r2) dX11_join_36 rfl ?_
    refine wp_bipush (nI 100) dX11_join_38 rfl ?_
    obtain ⟨c1, h⟩ := chk_some h
    refine wp_irem dX11_join_40 c1 ?_
    refine wp_ishl dX11_join_41 ?_
    refine wp_ior dX11_join_42 ?_
    obtain ⟨u3, e1, h⟩ := lt_some h
    rw [← e1]
    refine wp_istore_n (L2 := [some (.ref 0), some (.int (v1 + (r2 / (nI 100)))), some (.int u3), some (.int v3), some (.int r2)]) dX11_join_43 (by decide) rfl rfl ?_
    refine wp_iinc (x := v3) (k0 := (nI 1)) (L2 := [some (.ref 0), some (.int (v1 + (r2 / (nI 100)))), some (.int u3), some (.int (v3 + (nI 1))), some (.int r2)]) dX11_join_44 rfl rfl (by decide) rfl rfl ?_
    refine wp_goto 11 dX11_join_47 (by decide) ?_
    obtain rfl := some1 h
    exact hb ((v1 + (r2 / (nI 100))), u3, (v3 + (nI 1))) _ hz
theorem okl_M_join_l11 {l : Launch} {d : Nat} (hd : 4 ≤ d) (μ : Mm) {Q : Option Value → Sh → Mm → Prop} (K : Int32 → Prop) (he0 : ∀ (x : Int32) (z2 : Option Value) (z3 : Option Value) (z4 : Option Value), K x → Wp l SM d (0, 0) mX11_join 50 [some (.ref 0), some (.int x), z2, z3, z4] [] μ Q) : ∀ (n : Nat) (s : (Int32 × Int32 × Int32)) (y : Int32) (z4 : Option Value) , iter n (fun s => M_join_l11 s.1 s.2.1 s.2.2 μ) s = some y → K y → Wp l SM d (0, 0) mX11_join 11 [some (.ref 0), some (.int s.1), some (.int s.2.1), some (.int s.2.2), z4] [] μ Q := by
  intro n
  induction n with
  | zero => intro s y z4 h; cases h
  | succ n ih =>
    intro s y z4 h hK
    obtain ⟨z, hz, hn⟩ := iter_some h
    refine ok_M_join_l11 hd s.1 s.2.1 s.2.2 μ _ (fun z => nxt n (fun s => M_join_l11 s.1 s.2.1 s.2.2 μ) z y) ?_ ?_ hz hn
    · intro s2 z4 h2
      exact ih s2 y _ h2 hK
    · intro x z2 z3 z4 h2
      have h3 : x = y := h2
      subst h3
      exact he0 x _ _ _ hK
theorem ok_M_join {l : Launch} {d : Nat} (hd : 4 ≤ d) (μ : Mm) {r : Int32} {μ' : Mm} (h : M_join μ = some (r, μ')) : Wp l SM d (0, 0) mX11_join 0 [some (.ref 0), none, none, none, none] [] μ (Qi SM r μ') := by
  unfold M_join at h
  refine wp_aload_n (x := 0) dX11_join_0 rfl ?_
  refine wp_iconst (nI 0) dX11_join_1 rfl ?_
  obtain ⟨μ1, e1, h⟩ := lt_some h
  refine wp_putIe e1 fl_X11_86 (by decide) rfl (kltM kRootM) kRootM dX11_join_2 ?_
  refine wp_iconst (nI 0) dX11_join_5 rfl ?_
  refine wp_istore_n (L2 := [some (.ref 0), some (.int (nI 0)), none, none, none]) dX11_join_6 (by decide) rfl rfl ?_
  refine wp_iconst (nI 1) dX11_join_7 rfl ?_
  refine wp_istore_n (L2 := [some (.ref 0), some (.int (nI 0)), some (.int (nI 1)), none, none]) dX11_join_8 (by decide) rfl rfl ?_
  refine wp_iconst (nI 1) dX11_join_9 rfl ?_
  refine wp_istore_n (L2 := [some (.ref 0), some (.int (nI 0)), some (.int (nI 1)), some (.int (nI 1)), none]) dX11_join_10 (by decide) rfl rfl ?_
  obtain ⟨x11, hi, h⟩ := bni_some h
  refine okl_M_join_l11 hd  μ1 (fun z => z = x11) ?_ 1000000 ((nI 0), (nI 1), (nI 1)) x11 _ hi rfl
  · intro y0 z2 z3 z4 e0
    have e0 : y0 = x11 := e0
    subst e0
    refine wp_iload_n (x := y0) dX11_join_50 rfl ?_
    obtain ⟨rfl, rfl⟩ := ret2 h
    exact wp_iret rfl dX11_join_51 ⟨rfl, rfl, rfl⟩
theorem ok_M_forebear_j57 {l : Launch} {d : Nat} (hd : 2 ≤ d) (v1 : Int32)  (v2 : Int32)  (v3 : Int32)  (μ : Mm) {Q : Option Value → Sh → Mm → Prop} (K : Int32 ⊕ (Int32 ⊕ Unit) → Prop) (hb : ∀ (s : Int32), K (Sum.inl s) → Wp l SM d (0, 0) mX11_forebear 33 [some (.ref 0), some (.int v1), some (.int v2), some (.int s)] [] μ Q) (he0 : ∀ (x : Int32) (z1 : Option Value) (z2 : Option Value), K (Sum.inr (Sum.inl x)) → Wp l SM d (0, 0) mX11_forebear 55 [some (.ref 0), z1, z2, some (.int x)] [] μ Q) (he1 : ∀ (x : Unit) (z1 : Option Value) (z2 : Option Value) (z3 : Option Value), K (Sum.inr (Sum.inr x)) → Wp l SM d (0, 0) mX11_forebear 63 [some (.ref 0), z1, z2, z3] [] μ Q) {z : Int32 ⊕ (Int32 ⊕ Unit)} (h : M_forebear_j57 v1 v2 v3 μ = some z) (hz : K z) : Wp l SM d (0, 0) mX11_forebear 57 [some (.ref 0), some (.int v1), some (.int v2), some (.int v3)] [] μ Q := by
  unfold M_forebear_j57 at h
  refine wp_iinc (x := v3) (k0 := (-1)) (L2 := [some (.ref 0), some (.int v1), some (.int v2), some (.int (v3 + (-1)))]) dX11_forebear_57 rfl rfl (by decide) rfl rfl ?_
  refine wp_goto 33 dX11_forebear_60 (by decide) ?_
  obtain rfl := some1 h
  exact hb (v3 + (-1)) hz
theorem ok_M_forebear_l33 {l : Launch} {d : Nat} (hd : 2 ≤ d) (v1 : Int32)  (v2 : Int32)  (v3 : Int32)  (μ : Mm) {Q : Option Value → Sh → Mm → Prop} (K : Int32 ⊕ (Int32 ⊕ Unit) → Prop) (hb : ∀ (s : Int32), K (Sum.inl s) → Wp l SM d (0, 0) mX11_forebear 33 [some (.ref 0), some (.int v1), some (.int v2), some (.int s)] [] μ Q) (he0 : ∀ (x : Int32) (z1 : Option Value) (z2 : Option Value), K (Sum.inr (Sum.inl x)) → Wp l SM d (0, 0) mX11_forebear 55 [some (.ref 0), z1, z2, some (.int x)] [] μ Q) (he1 : ∀ (x : Unit) (z1 : Option Value) (z2 : Option Value) (z3 : Option Value), K (Sum.inr (Sum.inr x)) → Wp l SM d (0, 0) mX11_forebear 63 [some (.ref 0), z1, z2, z3] [] μ Q) {z : Int32 ⊕ (Int32 ⊕ Unit)} (h : M_forebear_l33 v1 v2 v3 μ = some z) (hz : K z) : Wp l SM d (0, 0) mX11_forebear 33 [some (.ref 0), some (.int v1), some (.int v2), some (.int v3)] [] μ Q := by
  unfold M_forebear_l33 at h
  refine wp_iload_n (x := v3) dX11_forebear_33 rfl ?_
  refine wp_if_lt 63 dX11_forebear_34 (by decide) (fun c1 => ?_) (fun c1 => ?_)
  · rw [if_pos c1] at h
    obtain rfl := some1 h
    exact he1 () _ _ _ hz
  · rw [if_neg c1] at h
    refine wp_aload_n (x := 0) dX11_forebear_37 rfl ?_
    refine wp_iload_n (x := v1) dX11_forebear_38 rfl ?_
    refine wp_iload_n (x := v3) dX11_forebear_39 rfl ?_
    obtain ⟨r4, g1, h⟩ := bnd_some h
    refine wp_cVi (d := d - 1) (o := 0) cv_X11_415 (kltM kRootM) kRootM (as := [.int v1, .int v3]) (rest := []) dX11_forebear_40 (by omega) cloM rfl rfl (Nat.le_of_ble_eq_true rfl) (Nat.le_of_ble_eq_true rfl) (ok_M_cameOf (by omega) v1 v3 μ g1) ?_ rfl
    refine wp_if_eq 57 dX11_forebear_43 (by decide) (fun c1 => ?_) (fun c1 => ?_)
    · rw [if_pos c1] at h
      exact ok_M_forebear_j57 hd v1 v2 v3 μ K hb he0 he1 h hz
    · rw [if_neg c1] at h
      refine wp_aload_n (x := 0) dX11_forebear_46 rfl ?_
      refine wp_iload_n (x := v2) dX11_forebear_47 rfl ?_
      refine wp_iload_n (x := v3) dX11_forebear_48 rfl ?_
      obtain ⟨r5, g1, h⟩ := bnd_some h
      refine wp_cVi (d := d - 1) (o := 0) cv_X11_415 (kltM kRootM) kRootM (as := [.int v2, .int v3]) (rest := []) dX11_forebear_49 (by omega) cloM rfl rfl (Nat.le_of_ble_eq_true rfl) (Nat.le_of_ble_eq_true rfl) (ok_M_cameOf (by omega) v2 v3 μ g1) ?_ rfl
      refine wp_if_eq 57 dX11_forebear_52 (by decide) (fun c1 => ?_) (fun c1 => ?_)
      · rw [if_pos c1] at h
        exact ok_M_forebear_j57 hd v1 v2 v3 μ K hb he0 he1 h hz
      · rw [if_neg c1] at h
        obtain rfl := some1 h
        exact he0 v3 _ _ hz
theorem okl_M_forebear_l33 {l : Launch} {d : Nat} (hd : 2 ≤ d) (v1 : Int32)  (v2 : Int32)  (μ : Mm) {Q : Option Value → Sh → Mm → Prop} (K : (Int32 ⊕ Unit) → Prop) (he0 : ∀ (x : Int32) (z1 : Option Value) (z2 : Option Value), K (Sum.inl x) → Wp l SM d (0, 0) mX11_forebear 55 [some (.ref 0), z1, z2, some (.int x)] [] μ Q) (he1 : ∀ (x : Unit) (z1 : Option Value) (z2 : Option Value) (z3 : Option Value), K (Sum.inr x) → Wp l SM d (0, 0) mX11_forebear 63 [some (.ref 0), z1, z2, z3] [] μ Q) : ∀ (n : Nat) (s : Int32) (y : (Int32 ⊕ Unit)) , iter n (fun s => M_forebear_l33 v1 v2 s μ) s = some y → K y → Wp l SM d (0, 0) mX11_forebear 33 [some (.ref 0), some (.int v1), some (.int v2), some (.int s)] [] μ Q := by
  intro n
  induction n with
  | zero => intro s y  h; cases h
  | succ n ih =>
    intro s y  h hK
    obtain ⟨z, hz, hn⟩ := iter_some h
    refine ok_M_forebear_l33 hd v1 v2 s μ (fun z => nxt n (fun s => M_forebear_l33 v1 v2 s μ) z y) ?_ ?_ ?_ hz hn
    · intro s2  h2
      exact ih s2 y h2 hK
    · intro x z1 z2 h2
      have h3 : (Sum.inl x) = y := h2
      subst h3
      exact he0 x _ _ hK
    · intro x z1 z2 z3 h2
      have h3 : (Sum.inr x) = y := h2
      subst h3
      exact he1 x _ _ _ hK
theorem ok_M_forebear {l : Launch} {d : Nat} (hd : 2 ≤ d) (v1 : Int32)  (v2 : Int32)  (μ : Mm) {r : Int32} {μ' : Mm} (h : M_forebear v1 v2 μ = some (r, μ')) : Wp l SM d (0, 0) mX11_forebear 0 [some (.ref 0), some (.int v1), some (.int v2), none] [] μ (Qi SM r μ') := by
  unfold M_forebear at h
  refine wp_aload_n (x := 0) dX11_forebear_0 rfl ?_
  refine wp_iconst (nI 0) dX11_forebear_1 rfl ?_
  obtain ⟨μ1, e1, h⟩ := lt_some h
  refine wp_putIe e1 fl_X11_86 (by decide) rfl (kltM kRootM) kRootM dX11_forebear_2 ?_
  refine wp_aload_n (x := 0) dX11_forebear_5 rfl ?_
  refine wp_iload_n (x := v1) dX11_forebear_6 rfl ?_
  obtain ⟨r2, g1, h⟩ := bnd_some h
  refine wp_cVi (d := d - 1) (o := 0) cv_X11_148 (kltM kRootM) kRootM (as := [.int v1]) (rest := []) dX11_forebear_7 (by omega) cloM rfl rfl (Nat.le_of_ble_eq_true rfl) (Nat.le_of_ble_eq_true rfl) (ok_M_isVersion (by omega) v1 μ1 g1) ?_ rfl
  refine wp_if_eq 21 dX11_forebear_10 (by decide) (fun c1 => ?_) (fun c1 => ?_)
  · rw [if_pos c1] at h
    refine wp_iconst (-1) dX11_forebear_21 rfl ?_
    obtain ⟨rfl, rfl⟩ := ret2 h
    exact wp_iret rfl dX11_forebear_22 ⟨rfl, rfl, rfl⟩
  · rw [if_neg c1] at h
    refine wp_aload_n (x := 0) dX11_forebear_13 rfl ?_
    refine wp_iload_n (x := v2) dX11_forebear_14 rfl ?_
    obtain ⟨r3, g1, h⟩ := bnd_some h
    refine wp_cVi (d := d - 1) (o := 0) cv_X11_148 (kltM kRootM) kRootM (as := [.int v2]) (rest := []) dX11_forebear_15 (by omega) cloM rfl rfl (Nat.le_of_ble_eq_true rfl) (Nat.le_of_ble_eq_true rfl) (ok_M_isVersion (by omega) v2 μ1 g1) ?_ rfl
    refine wp_if_ne 23 dX11_forebear_18 (by decide) (fun c1 => ?_) (fun c1 => ?_)
    · rw [if_neg c1] at h
      refine wp_aload_n (x := 0) dX11_forebear_23 rfl ?_
      refine wp_getR 1 fl_X11_7 (by decide) rfl (kltM kRootM) kRootM (ly11_1 kRootM).1 dX11_forebear_24 ?_
      refine wp_bipush (nI 6) dX11_forebear_27 rfl ?_
      obtain ⟨c1, h⟩ := chv_some h
      refine wp_ialde (kltM (ly11_1 kRootM).2.1) (ly11_1 kRootM).2.1 (ly11_1 kRootM).2.2 c1 dX11_forebear_29 ?_
      refine wp_iconst (nI 1) dX11_forebear_30 rfl ?_
      refine wp_isub dX11_forebear_31 ?_
      refine wp_istore_n (L2 := [some (.ref 0), some (.int v1), some (.int v2), some (.int ((μ1.1 1 (ix (nI 6))) - (nI 1)))]) dX11_forebear_32 (by decide) rfl rfl ?_
      obtain ⟨x33, hi, h⟩ := bni_some h
      refine okl_M_forebear_l33 hd v1 v2 μ1 (fun z => z = x33) ?_ ?_ 1000000 ((μ1.1 1 (ix (nI 6))) - (nI 1)) x33 hi rfl
      · intro x33a z1 z2 e0
        have e0 : (Sum.inl x33a) = x33 := e0
        subst e0
        replace h := eL h
        refine wp_iload_n (x := x33a) dX11_forebear_55 rfl ?_
        obtain ⟨rfl, rfl⟩ := ret2 h
        exact wp_iret rfl dX11_forebear_56 ⟨rfl, rfl, rfl⟩
      · intro x33b z1 z2 z3 e0
        have e0 : (Sum.inr x33b) = x33 := e0
        subst e0
        replace h := eR h
        refine wp_iconst (-1) dX11_forebear_63 rfl ?_
        obtain ⟨rfl, rfl⟩ := ret2 h
        exact wp_iret rfl dX11_forebear_64 ⟨rfl, rfl, rfl⟩
    · rw [if_pos c1] at h
      refine wp_iconst (-1) dX11_forebear_21 rfl ?_
      obtain ⟨rfl, rfl⟩ := ret2 h
      exact wp_iret rfl dX11_forebear_22 ⟨rfl, rfl, rfl⟩
theorem ok_M_mostHeld_l2 {l : Launch} {d : Nat} (hd : 2 ≤ d) (v1 : Int32)  (μ : Mm) (z2 : Option Value) (z3 : Option Value) {Q : Option Value → Sh → Mm → Prop} (K : (Int32 × Mm) ⊕ Mm → Prop) (hb : ∀ (s : (Int32 × Mm)) (z2 : Option Value) (z3 : Option Value), K (Sum.inl s) → Wp l SM d (0, 0) mX11_mostHeld 2 [some (.ref 0), some (.int s.1), z2, z3] [] s.2 Q) (he0 : ∀ (x : Mm) (z1 : Option Value) (z2 : Option Value) (z3 : Option Value), K (Sum.inr x) → Wp l SM d (0, 0) mX11_mostHeld 21 [some (.ref 0), z1, z2, z3] [] x Q) {z : (Int32 × Mm) ⊕ Mm} (h : M_mostHeld_l2 v1 μ = some z) (hz : K z) : Wp l SM d (0, 0) mX11_mostHeld 2 [some (.ref 0), some (.int v1), z2, z3] [] μ Q := by
  unfold M_mostHeld_l2 at h
  refine wp_iload_n (x := v1) dX11_mostHeld_2 rfl ?_
  refine wp_bipush (nI 10) dX11_mostHeld_3 rfl ?_
  refine wp_icmp_ge 21 dX11_mostHeld_5 (by decide) (fun c1 => ?_) (fun c1 => ?_)
  · rw [if_pos c1] at h
    obtain rfl := some1 h
    exact he0 μ _ _ _ hz
  · rw [if_neg c1] at h
    refine wp_aload_n (x := 0) dX11_mostHeld_8 rfl ?_
    refine wp_getR 23 fl_X11_80 (by decide) rfl (kltM kRootM) kRootM (ly11_46 kRootM).1 dX11_mostHeld_9 ?_
    refine wp_iload_n (x := v1) dX11_mostHeld_12 rfl ?_
    refine wp_iconst (nI 0) dX11_mostHeld_13 rfl ?_
    obtain ⟨c1, h⟩ := chv_some h
    obtain ⟨μ1, e1, h⟩ := lt_some h
    refine wp_iaste e1 (kltM (ly11_46 kRootM).2.1) (ly11_46 kRootM).2.1 (ly11_46 kRootM).2.2 c1 dX11_mostHeld_14 ?_
    refine wp_iinc (x := v1) (k0 := (nI 1)) (L2 := [some (.ref 0), some (.int (v1 + (nI 1))), z2, z3]) dX11_mostHeld_15 rfl rfl (by decide) rfl rfl ?_
    refine wp_goto 2 dX11_mostHeld_18 (by decide) ?_
    obtain rfl := some1 h
    exact hb ((v1 + (nI 1)), μ1) _ _ hz
theorem okl_M_mostHeld_l2 {l : Launch} {d : Nat} (hd : 2 ≤ d) {Q : Option Value → Sh → Mm → Prop} (K : Mm → Prop) (he0 : ∀ (x : Mm) (z1 : Option Value) (z2 : Option Value) (z3 : Option Value), K x → Wp l SM d (0, 0) mX11_mostHeld 21 [some (.ref 0), z1, z2, z3] [] x Q) : ∀ (n : Nat) (s : (Int32 × Mm)) (y : Mm) (z2 : Option Value) (z3 : Option Value) , iter n (fun s => M_mostHeld_l2 s.1 s.2) s = some y → K y → Wp l SM d (0, 0) mX11_mostHeld 2 [some (.ref 0), some (.int s.1), z2, z3] [] s.2 Q := by
  intro n
  induction n with
  | zero => intro s y z2 z3 h; cases h
  | succ n ih =>
    intro s y z2 z3 h hK
    obtain ⟨z, hz, hn⟩ := iter_some h
    refine ok_M_mostHeld_l2 hd s.1 s.2 _ _ (fun z => nxt n (fun s => M_mostHeld_l2 s.1 s.2) z y) ?_ ?_ hz hn
    · intro s2 z2 z3 h2
      exact ih s2 y _ _ h2 hK
    · intro x z1 z2 z3 h2
      have h3 : x = y := h2
      subst h3
      exact he0 x _ _ _ hK
theorem ok_M_mostHeld_l33 {l : Launch} {d : Nat} (hd : 2 ≤ d) (v1 : Int32)  (v2 : Int32)  (μ : Mm) (z3 : Option Value) {Q : Option Value → Sh → Mm → Prop} (K : (Int32 × Mm) ⊕ Mm → Prop) (hb : ∀ (s : (Int32 × Mm)) (z3 : Option Value), K (Sum.inl s) → Wp l SM d (0, 0) mX11_mostHeld 33 [some (.ref 0), some (.int v1), some (.int s.1), z3] [] s.2 Q) (he0 : ∀ (x : Mm) (z2 : Option Value) (z3 : Option Value), K (Sum.inr x) → Wp l SM d (0, 0) mX11_mostHeld 89 [some (.ref 0), some (.int v1), z2, z3] [] x Q) {z : (Int32 × Mm) ⊕ Mm} (h : M_mostHeld_l33 v1 v2 μ = some z) (hz : K z) : Wp l SM d (0, 0) mX11_mostHeld 33 [some (.ref 0), some (.int v1), some (.int v2), z3] [] μ Q := by
  unfold M_mostHeld_l33 at h
  refine wp_iload_n (x := v2) dX11_mostHeld_33 rfl ?_
  refine wp_aload_n (x := 0) dX11_mostHeld_34 rfl ?_
  refine wp_getR 1 fl_X11_7 (by decide) rfl (kltM kRootM) kRootM (ly11_1 kRootM).1 dX11_mostHeld_35 ?_
  refine wp_sipush (nI 263) dX11_mostHeld_38 rfl ?_
  refine wp_iload_n (x := v1) dX11_mostHeld_41 rfl ?_
  refine wp_iadd dX11_mostHeld_42 ?_
  obtain ⟨c1, h⟩ := chv_some h
  refine wp_ialde (kltM (ly11_1 kRootM).2.1) (ly11_1 kRootM).2.1 (ly11_1 kRootM).2.2 c1 dX11_mostHeld_43 ?_
  refine wp_icmp_ge 89 dX11_mostHeld_44 (by decide) (fun c1 => ?_) (fun c1 => ?_)
  · rw [if_pos c1] at h
    obtain rfl := some1 h
    exact he0 μ _ _ hz
  · rw [if_neg c1] at h
    refine wp_aload_n (x := 0) dX11_mostHeld_47 rfl ?_
    refine wp_getR 1 fl_X11_7 (by decide) rfl (kltM kRootM) kRootM (ly11_1 kRootM).1 dX11_mostHeld_48 ?_
    refine wp_bipush (nI 7) dX11_mostHeld_51 rfl ?_
    refine wp_aload_n (x := 0) dX11_mostHeld_53 rfl ?_
    refine wp_getR 1 fl_X11_7 (by decide) rfl (kltM kRootM) kRootM (ly11_1 kRootM).1 dX11_mostHeld_54 ?_
    refine wp_aload_n (x := 0) dX11_mostHeld_57 rfl ?_
    refine wp_iload_n (x := v1) dX11_mostHeld_58 rfl ?_
    refine wp_iload_n (x := v2) dX11_mostHeld_59 rfl ?_
    obtain ⟨r2, g1, h⟩ := bnd_some h
    refine wp_cVi (d := d - 1) (o := 0) cv_X11_144 (kltM kRootM) kRootM (as := [.int v1, .int v2]) (rest := [.ref 1, .int (nI 7), .ref 1]) dX11_mostHeld_60 (by omega) cloM rfl rfl (Nat.le_of_ble_eq_true rfl) (Nat.le_of_ble_eq_true rfl) (ok_M_letterAt (by omega) v1 v2 μ g1) ?_ rfl
    refine wp_iconst (nI 0) dX11_mostHeld_63 rfl ?_
    refine wp_iadd dX11_mostHeld_64 ?_
    obtain ⟨c1, h⟩ := chv_some h
    refine wp_ialde (kltM (ly11_1 kRootM).2.1) (ly11_1 kRootM).2.1 (ly11_1 kRootM).2.2 c1 dX11_mostHeld_65 ?_
    refine wp_iadd dX11_mostHeld_66 ?_
    obtain ⟨c1, h⟩ := chv_some h
    refine wp_ialde (kltM (ly11_1 kRootM).2.1) (ly11_1 kRootM).2.1 (ly11_1 kRootM).2.2 c1 dX11_mostHeld_67 ?_
    obtain ⟨u3, e1, h⟩ := lt_some h
    rw [← e1]
    refine wp_istore_n (L2 := [some (.ref 0), some (.int v1), some (.int v2), some (.int u3)]) dX11_mostHeld_68 (by decide) rfl rfl ?_
    refine wp_aload_n (x := 0) dX11_mostHeld_69 rfl ?_
    refine wp_getR 23 fl_X11_80 (by decide) rfl (kltM kRootM) kRootM (ly11_46 kRootM).1 dX11_mostHeld_70 ?_
    refine wp_iload_n (x := u3) dX11_mostHeld_73 rfl ?_
    refine wp_aload_n (x := 0) dX11_mostHeld_74 rfl ?_
    refine wp_getR 23 fl_X11_80 (by decide) rfl (kltM kRootM) kRootM (ly11_46 kRootM).1 dX11_mostHeld_75 ?_
    refine wp_iload_n (x := u3) dX11_mostHeld_78 rfl ?_
    obtain ⟨c1, h⟩ := chv_some h
    refine wp_ialde (kltM (ly11_46 kRootM).2.1) (ly11_46 kRootM).2.1 (ly11_46 kRootM).2.2 c1 dX11_mostHeld_79 ?_
    refine wp_iconst (nI 1) dX11_mostHeld_80 rfl ?_
    refine wp_iadd dX11_mostHeld_81 ?_
    obtain ⟨c1, h⟩ := chv_some h
    obtain ⟨μ4, e1, h⟩ := lt_some h
    refine wp_iaste e1 (kltM (ly11_46 kRootM).2.1) (ly11_46 kRootM).2.1 (ly11_46 kRootM).2.2 c1 dX11_mostHeld_82 ?_
    refine wp_iinc (x := v2) (k0 := (nI 1)) (L2 := [some (.ref 0), some (.int v1), some (.int (v2 + (nI 1))), some (.int u3)]) dX11_mostHeld_83 rfl rfl (by decide) rfl rfl ?_
    refine wp_goto 33 dX11_mostHeld_86 (by decide) ?_
    obtain rfl := some1 h
    exact hb ((v2 + (nI 1)), μ4) _ hz
theorem okl_M_mostHeld_l33 {l : Launch} {d : Nat} (hd : 2 ≤ d) (v1 : Int32)  {Q : Option Value → Sh → Mm → Prop} (K : Mm → Prop) (he0 : ∀ (x : Mm) (z2 : Option Value) (z3 : Option Value), K x → Wp l SM d (0, 0) mX11_mostHeld 89 [some (.ref 0), some (.int v1), z2, z3] [] x Q) : ∀ (n : Nat) (s : (Int32 × Mm)) (y : Mm) (z3 : Option Value) , iter n (fun s => M_mostHeld_l33 v1 s.1 s.2) s = some y → K y → Wp l SM d (0, 0) mX11_mostHeld 33 [some (.ref 0), some (.int v1), some (.int s.1), z3] [] s.2 Q := by
  intro n
  induction n with
  | zero => intro s y z3 h; cases h
  | succ n ih =>
    intro s y z3 h hK
    obtain ⟨z, hz, hn⟩ := iter_some h
    refine ok_M_mostHeld_l33 hd v1 s.1 s.2 _ (fun z => nxt n (fun s => M_mostHeld_l33 v1 s.1 s.2) z y) ?_ ?_ hz hn
    · intro s2 z3 h2
      exact ih s2 y _ h2 hK
    · intro x z2 z3 h2
      have h3 : x = y := h2
      subst h3
      exact he0 x _ _ hK
theorem ok_M_mostHeld_l23 {l : Launch} {d : Nat} (hd : 2 ≤ d) (v1 : Int32)  (μ : Mm) (z2 : Option Value) (z3 : Option Value) {Q : Option Value → Sh → Mm → Prop} (K : (Int32 × Mm) ⊕ Mm → Prop) (hb : ∀ (s : (Int32 × Mm)) (z2 : Option Value) (z3 : Option Value), K (Sum.inl s) → Wp l SM d (0, 0) mX11_mostHeld 23 [some (.ref 0), some (.int s.1), z2, z3] [] s.2 Q) (he0 : ∀ (x : Mm) (z1 : Option Value) (z2 : Option Value) (z3 : Option Value), K (Sum.inr x) → Wp l SM d (0, 0) mX11_mostHeld 95 [some (.ref 0), z1, z2, z3] [] x Q) {z : (Int32 × Mm) ⊕ Mm} (h : M_mostHeld_l23 v1 μ = some z) (hz : K z) : Wp l SM d (0, 0) mX11_mostHeld 23 [some (.ref 0), some (.int v1), z2, z3] [] μ Q := by
  unfold M_mostHeld_l23 at h
  refine wp_iload_n (x := v1) dX11_mostHeld_23 rfl ?_
  refine wp_aload_n (x := 0) dX11_mostHeld_24 rfl ?_
  refine wp_getI fl_X11_107 (by decide) rfl (kltM kRootM) kRootM dX11_mostHeld_25 ?_
  refine wp_icmp_ge 95 dX11_mostHeld_28 (by decide) (fun c1 => ?_) (fun c1 => ?_)
  · rw [if_pos c1] at h
    obtain rfl := some1 h
    exact he0 μ _ _ _ hz
  · rw [if_neg c1] at h
    refine wp_iconst (nI 0) dX11_mostHeld_31 rfl ?_
    refine wp_istore_n (L2 := [some (.ref 0), some (.int v1), some (.int (nI 0)), z3]) dX11_mostHeld_32 (by decide) rfl rfl ?_
    obtain ⟨x33, hi, h⟩ := bni_some h
    refine okl_M_mostHeld_l33 hd v1 (fun z => z = x33) ?_ 1000000 ((nI 0), μ) x33 _ hi rfl
    · intro y0 z2 z3 e0
      have e0 : y0 = x33 := e0
      subst e0
      refine wp_iinc (x := v1) (k0 := (nI 1)) (L2 := [some (.ref 0), some (.int (v1 + (nI 1))), z2, z3]) dX11_mostHeld_89 rfl rfl (by decide) rfl rfl ?_
      refine wp_goto 23 dX11_mostHeld_92 (by decide) ?_
      obtain rfl := some1 h
      exact hb ((v1 + (nI 1)), y0) _ _ hz
theorem okl_M_mostHeld_l23 {l : Launch} {d : Nat} (hd : 2 ≤ d) {Q : Option Value → Sh → Mm → Prop} (K : Mm → Prop) (he0 : ∀ (x : Mm) (z1 : Option Value) (z2 : Option Value) (z3 : Option Value), K x → Wp l SM d (0, 0) mX11_mostHeld 95 [some (.ref 0), z1, z2, z3] [] x Q) : ∀ (n : Nat) (s : (Int32 × Mm)) (y : Mm) (z2 : Option Value) (z3 : Option Value) , iter n (fun s => M_mostHeld_l23 s.1 s.2) s = some y → K y → Wp l SM d (0, 0) mX11_mostHeld 23 [some (.ref 0), some (.int s.1), z2, z3] [] s.2 Q := by
  intro n
  induction n with
  | zero => intro s y z2 z3 h; cases h
  | succ n ih =>
    intro s y z2 z3 h hK
    obtain ⟨z, hz, hn⟩ := iter_some h
    refine ok_M_mostHeld_l23 hd s.1 s.2 _ _ (fun z => nxt n (fun s => M_mostHeld_l23 s.1 s.2) z y) ?_ ?_ hz hn
    · intro s2 z2 z3 h2
      exact ih s2 y _ _ h2 hK
    · intro x z1 z2 z3 h2
      have h3 : x = y := h2
      subst h3
      exact he0 x _ _ _ hK
theorem ok_M_mostHeld_j122 {l : Launch} {d : Nat} (hd : 2 ≤ d) (v1 : Int32)  (v2 : Int32)  (μ : Mm) (z3 : Option Value) {Q : Option Value → Sh → Mm → Prop} (K : (Int32 × Int32) ⊕ Int32 → Prop) (hb : ∀ (s : (Int32 × Int32)) (z3 : Option Value), K (Sum.inl s) → Wp l SM d (0, 0) mX11_mostHeld 99 [some (.ref 0), some (.int s.1), some (.int s.2), z3] [] μ Q) (he0 : ∀ (x : Int32) (z2 : Option Value) (z3 : Option Value), K (Sum.inr x) → Wp l SM d (0, 0) mX11_mostHeld 128 [some (.ref 0), some (.int x), z2, z3] [] μ Q) {z : (Int32 × Int32) ⊕ Int32} (h : M_mostHeld_j122 v1 v2 μ = some z) (hz : K z) : Wp l SM d (0, 0) mX11_mostHeld 122 [some (.ref 0), some (.int v1), some (.int v2), z3] [] μ Q := by
  unfold M_mostHeld_j122 at h
  refine wp_iinc (x := v2) (k0 := (nI 1)) (L2 := [some (.ref 0), some (.int v1), some (.int (v2 + (nI 1))), z3]) dX11_mostHeld_122 rfl rfl (by decide) rfl rfl ?_
  refine wp_goto 99 dX11_mostHeld_125 (by decide) ?_
  obtain rfl := some1 h
  exact hb (v1, (v2 + (nI 1))) _ hz
theorem ok_M_mostHeld_l99 {l : Launch} {d : Nat} (hd : 2 ≤ d) (v1 : Int32)  (v2 : Int32)  (μ : Mm) (z3 : Option Value) {Q : Option Value → Sh → Mm → Prop} (K : (Int32 × Int32) ⊕ Int32 → Prop) (hb : ∀ (s : (Int32 × Int32)) (z3 : Option Value), K (Sum.inl s) → Wp l SM d (0, 0) mX11_mostHeld 99 [some (.ref 0), some (.int s.1), some (.int s.2), z3] [] μ Q) (he0 : ∀ (x : Int32) (z2 : Option Value) (z3 : Option Value), K (Sum.inr x) → Wp l SM d (0, 0) mX11_mostHeld 128 [some (.ref 0), some (.int x), z2, z3] [] μ Q) {z : (Int32 × Int32) ⊕ Int32} (h : M_mostHeld_l99 v1 v2 μ = some z) (hz : K z) : Wp l SM d (0, 0) mX11_mostHeld 99 [some (.ref 0), some (.int v1), some (.int v2), z3] [] μ Q := by
  unfold M_mostHeld_l99 at h
  refine wp_iload_n (x := v2) dX11_mostHeld_99 rfl ?_
  refine wp_bipush (nI 10) dX11_mostHeld_100 rfl ?_
  refine wp_icmp_ge 128 dX11_mostHeld_102 (by decide) (fun c1 => ?_) (fun c1 => ?_)
  · rw [if_pos c1] at h
    obtain rfl := some1 h
    exact he0 v1 _ _ hz
  · rw [if_neg c1] at h
    refine wp_aload_n (x := 0) dX11_mostHeld_105 rfl ?_
    refine wp_getR 23 fl_X11_80 (by decide) rfl (kltM kRootM) kRootM (ly11_46 kRootM).1 dX11_mostHeld_106 ?_
    refine wp_iload_n (x := v2) dX11_mostHeld_109 rfl ?_
    obtain ⟨c1, h⟩ := chv_some h
    refine wp_ialde (kltM (ly11_46 kRootM).2.1) (ly11_46 kRootM).2.1 (ly11_46 kRootM).2.2 c1 dX11_mostHeld_110 ?_
    refine wp_aload_n (x := 0) dX11_mostHeld_111 rfl ?_
    refine wp_getR 23 fl_X11_80 (by decide) rfl (kltM kRootM) kRootM (ly11_46 kRootM).1 dX11_mostHeld_112 ?_
    refine wp_iload_n (x := v1) dX11_mostHeld_115 rfl ?_
    obtain ⟨c1, h⟩ := chv_some h
    refine wp_ialde (kltM (ly11_46 kRootM).2.1) (ly11_46 kRootM).2.1 (ly11_46 kRootM).2.2 c1 dX11_mostHeld_116 ?_
    refine wp_icmp_le 122 dX11_mostHeld_117 (by decide) (fun c1 => ?_) (fun c1 => ?_)
    · rw [if_pos c1] at h
      exact ok_M_mostHeld_j122 hd v1 v2 μ _ K hb he0 h hz
    · rw [if_neg c1] at h
      refine wp_iload_n (x := v2) dX11_mostHeld_120 rfl ?_
      refine wp_istore_n (L2 := [some (.ref 0), some (.int v2), some (.int v2), z3]) dX11_mostHeld_121 (by decide) rfl rfl ?_
      exact ok_M_mostHeld_j122 hd v2 v2 μ _ K hb he0 h hz
theorem okl_M_mostHeld_l99 {l : Launch} {d : Nat} (hd : 2 ≤ d) (μ : Mm) {Q : Option Value → Sh → Mm → Prop} (K : Int32 → Prop) (he0 : ∀ (x : Int32) (z2 : Option Value) (z3 : Option Value), K x → Wp l SM d (0, 0) mX11_mostHeld 128 [some (.ref 0), some (.int x), z2, z3] [] μ Q) : ∀ (n : Nat) (s : (Int32 × Int32)) (y : Int32) (z3 : Option Value) , iter n (fun s => M_mostHeld_l99 s.1 s.2 μ) s = some y → K y → Wp l SM d (0, 0) mX11_mostHeld 99 [some (.ref 0), some (.int s.1), some (.int s.2), z3] [] μ Q := by
  intro n
  induction n with
  | zero => intro s y z3 h; cases h
  | succ n ih =>
    intro s y z3 h hK
    obtain ⟨z, hz, hn⟩ := iter_some h
    refine ok_M_mostHeld_l99 hd s.1 s.2 μ _ (fun z => nxt n (fun s => M_mostHeld_l99 s.1 s.2 μ) z y) ?_ ?_ hz hn
    · intro s2 z3 h2
      exact ih s2 y _ h2 hK
    · intro x z2 z3 h2
      have h3 : x = y := h2
      subst h3
      exact he0 x _ _ hK
theorem ok_M_mostHeld {l : Launch} {d : Nat} (hd : 2 ≤ d) (μ : Mm) {r : Int32} {μ' : Mm} (h : M_mostHeld μ = some (r, μ')) : Wp l SM d (0, 0) mX11_mostHeld 0 [some (.ref 0), none, none, none] [] μ (Qi SM r μ') := by
  unfold M_mostHeld at h
  refine wp_iconst (nI 0) dX11_mostHeld_0 rfl ?_
  refine wp_istore_n (L2 := [some (.ref 0), some (.int (nI 0)), none, none]) dX11_mostHeld_1 (by decide) rfl rfl ?_
  obtain ⟨x2, hi, h⟩ := bni_some h
  refine okl_M_mostHeld_l2 hd  (fun z => z = x2) ?_ 1000000 ((nI 0), μ) x2 _ _ hi rfl
  · intro y0 z1 z2 z3 e0
    have e0 : y0 = x2 := e0
    subst e0
    refine wp_iconst (nI 0) dX11_mostHeld_21 rfl ?_
    refine wp_istore_n (L2 := [some (.ref 0), some (.int (nI 0)), z2, z3]) dX11_mostHeld_22 (by decide) rfl rfl ?_
    obtain ⟨x23, hi, h⟩ := bni_some h
    refine okl_M_mostHeld_l23 hd  (fun z => z = x23) ?_ 1000000 ((nI 0), y0) x23 _ _ hi rfl
    · intro y0 z1 z2 z3 e0
      have e0 : y0 = x23 := e0
      subst e0
      refine wp_iconst (nI 0) dX11_mostHeld_95 rfl ?_
      refine wp_istore_n (L2 := [some (.ref 0), some (.int (nI 0)), z2, z3]) dX11_mostHeld_96 (by decide) rfl rfl ?_
      refine wp_iconst (nI 1) dX11_mostHeld_97 rfl ?_
      refine wp_istore_n (L2 := [some (.ref 0), some (.int (nI 0)), some (.int (nI 1)), z3]) dX11_mostHeld_98 (by decide) rfl rfl ?_
      obtain ⟨x99, hi, h⟩ := bni_some h
      refine okl_M_mostHeld_l99 hd  y0 (fun z => z = x99) ?_ 1000000 ((nI 0), (nI 1)) x99 _ hi rfl
      · intro y0 z2 z3 e0
        have e0 : y0 = x99 := e0
        subst e0
        refine wp_aload_n (x := 0) dX11_mostHeld_128 rfl ?_
        refine wp_getR 23 fl_X11_80 (by decide) rfl (kltM kRootM) kRootM (ly11_46 kRootM).1 dX11_mostHeld_129 ?_
        refine wp_iload_n (x := y0) dX11_mostHeld_132 rfl ?_
        obtain ⟨c1, h⟩ := chv_some h
        refine wp_ialde (kltM (ly11_46 kRootM).2.1) (ly11_46 kRootM).2.1 (ly11_46 kRootM).2.2 c1 dX11_mostHeld_133 ?_
        refine wp_if_ne 141 dX11_mostHeld_134 (by decide) (fun c1 => ?_) (fun c1 => ?_)
        · rw [if_neg c1] at h
          refine wp_iload_n (x := y0) dX11_mostHeld_141 rfl ?_
          obtain ⟨rfl, rfl⟩ := ret2 h
          exact wp_iret rfl dX11_mostHeld_142 ⟨rfl, rfl, rfl⟩
        · rw [if_pos c1] at h
          refine wp_iconst (-1) dX11_mostHeld_137 rfl ?_
          refine wp_goto 142 dX11_mostHeld_138 (by decide) ?_
          obtain ⟨rfl, rfl⟩ := ret2 h
          exact wp_iret rfl dX11_mostHeld_142 ⟨rfl, rfl, rfl⟩
theorem ok_M_lasts_l24 {l : Launch} {d : Nat} (hd : 8 ≤ d) (v1 : Int32)  (v2 : Int32)  (μ : Mm) {Q : Option Value → Sh → Mm → Prop} (K : (Int32 × Mm) ⊕ Mm → Prop) (hb : ∀ (s : (Int32 × Mm)), K (Sum.inl s) → Wp l SM d (0, 0) mX11_lasts 24 [some (.ref 0), some (.int v1), some (.int s.1)] [] s.2 Q) (he0 : ∀ (x : Mm) (z1 : Option Value) (z2 : Option Value), K (Sum.inr x) → Wp l SM d (0, 0) mX11_lasts 40 [some (.ref 0), z1, z2] [] x Q) {z : (Int32 × Mm) ⊕ Mm} (h : M_lasts_l24 v1 v2 μ = some z) (hz : K z) : Wp l SM d (0, 0) mX11_lasts 24 [some (.ref 0), some (.int v1), some (.int v2)] [] μ Q := by
  unfold M_lasts_l24 at h
  refine wp_iload_n (x := v2) dX11_lasts_24 rfl ?_
  refine wp_iload_n (x := v1) dX11_lasts_25 rfl ?_
  refine wp_icmp_ge 40 dX11_lasts_26 (by decide) (fun c1 => ?_) (fun c1 => ?_)
  · rw [if_pos c1] at h
    obtain rfl := some1 h
    exact he0 μ _ _ hz
  · rw [if_neg c1] at h
    refine wp_aload_n (x := 0) dX11_lasts_29 rfl ?_
    obtain ⟨r5, μ4, g1, h⟩ := bnd2_some h
    refine wp_cVi (d := d - 1) (o := 0) cv_X11_357 (kltM kRootM) kRootM (as := []) (rest := []) dX11_lasts_30 (by omega) cloM rfl rfl (Nat.le_of_ble_eq_true rfl) (Nat.le_of_ble_eq_true rfl) (ok_M_goesBy (by omega) μ g1) ?_ rfl
    refine wp_pop dX11_lasts_33 rfl ?_
    refine wp_iinc (x := v2) (k0 := (nI 1)) (L2 := [some (.ref 0), some (.int v1), some (.int (v2 + (nI 1)))]) dX11_lasts_34 rfl rfl (by decide) rfl rfl ?_
    refine wp_goto 24 dX11_lasts_37 (by decide) ?_
    obtain rfl := some1 h
    exact hb ((v2 + (nI 1)), μ4) hz
theorem okl_M_lasts_l24 {l : Launch} {d : Nat} (hd : 8 ≤ d) (v1 : Int32)  {Q : Option Value → Sh → Mm → Prop} (K : Mm → Prop) (he0 : ∀ (x : Mm) (z1 : Option Value) (z2 : Option Value), K x → Wp l SM d (0, 0) mX11_lasts 40 [some (.ref 0), z1, z2] [] x Q) : ∀ (n : Nat) (s : (Int32 × Mm)) (y : Mm) , iter n (fun s => M_lasts_l24 v1 s.1 s.2) s = some y → K y → Wp l SM d (0, 0) mX11_lasts 24 [some (.ref 0), some (.int v1), some (.int s.1)] [] s.2 Q := by
  intro n
  induction n with
  | zero => intro s y  h; cases h
  | succ n ih =>
    intro s y  h hK
    obtain ⟨z, hz, hn⟩ := iter_some h
    refine ok_M_lasts_l24 hd v1 s.1 s.2 (fun z => nxt n (fun s => M_lasts_l24 v1 s.1 s.2) z y) ?_ ?_ hz hn
    · intro s2  h2
      exact ih s2 y h2 hK
    · intro x z1 z2 h2
      have h3 : x = y := h2
      subst h3
      exact he0 x _ _ hK
theorem ok_M_lasts {l : Launch} {d : Nat} (hd : 8 ≤ d) (v1 : Int32)  (μ : Mm) {r : Int32} {μ' : Mm} (h : M_lasts v1 μ = some (r, μ')) : Wp l SM d (0, 0) mX11_lasts 0 [some (.ref 0), some (.int v1), none] [] μ (Qi SM r μ') := by
  unfold M_lasts at h
  refine wp_aload_n (x := 0) dX11_lasts_0 rfl ?_
  refine wp_iconst (nI 0) dX11_lasts_1 rfl ?_
  obtain ⟨μ1, e1, h⟩ := lt_some h
  refine wp_putIe e1 fl_X11_86 (by decide) rfl (kltM kRootM) kRootM dX11_lasts_2 ?_
  refine wp_aload_n (x := 0) dX11_lasts_5 rfl ?_
  refine wp_iload_n (x := v1) dX11_lasts_6 rfl ?_
  refine wp_iconst (nI 0) dX11_lasts_7 rfl ?_
  refine wp_bipush (nI 99) dX11_lasts_8 rfl ?_
  obtain ⟨r2, g1, h⟩ := bnd_some h
  refine wp_cVi (d := d - 1) (o := 0) cv_X11_113 (kltM kRootM) kRootM (as := [.int v1, .int (nI 0), .int (nI 99)]) (rest := []) dX11_lasts_10 (by omega) cloM rfl rfl (Nat.le_of_ble_eq_true rfl) (Nat.le_of_ble_eq_true rfl) (ok_M_isIn (by omega) v1 (nI 0) (nI 99) μ1 g1) ?_ rfl
  refine wp_if_ne 18 dX11_lasts_13 (by decide) (fun c1 => ?_) (fun c1 => ?_)
  · rw [if_neg c1] at h
    refine wp_aload_n (x := 0) dX11_lasts_18 rfl ?_
    obtain ⟨μ3, g1, h⟩ := bnd_some h
    refine wp_cVv (d := d - 1) (o := 0) cv_X11_381 (kltM kRootM) kRootM (as := []) (rest := []) dX11_lasts_19 (by omega) cloM rfl rfl (Nat.le_of_ble_eq_true rfl) (Nat.le_of_ble_eq_true rfl) (ok_M_thinks (by omega) μ1 g1) ?_ rfl
    refine wp_iconst (nI 0) dX11_lasts_22 rfl ?_
    refine wp_istore_n (L2 := [some (.ref 0), some (.int v1), some (.int (nI 0))]) dX11_lasts_23 (by decide) rfl rfl ?_
    obtain ⟨x24, hi, h⟩ := bni_some h
    refine okl_M_lasts_l24 hd v1 (fun z => z = x24) ?_ 1000000 ((nI 0), μ3) x24 hi rfl
    · intro y0 z1 z2 e0
      have e0 : y0 = x24 := e0
      subst e0
      refine wp_aload_n (x := 0) dX11_lasts_40 rfl ?_
      obtain ⟨r7, μ6, g1, h⟩ := bnd2_some h
      refine wp_cVi (d := d - 1) (o := 0) cv_X11_418 (kltM kRootM) kRootM (as := []) (rest := []) dX11_lasts_41 (by omega) cloM rfl rfl (Nat.le_of_ble_eq_true rfl) (Nat.le_of_ble_eq_true rfl) (ok_M_mostHeld (by omega) y0 g1) ?_ rfl
      refine wp_istore_nF (L2 := [some (.ref 0), none, some (.int r7)]) dX11_lasts_44 (by decide) rfl ?_
      refine wp_aload_n (x := 0) dX11_lasts_45 rfl ?_
      obtain ⟨μ8, g1, h⟩ := bnd_some h
      refine wp_cVv (d := d - 1) (o := 0) cv_X11_387 (kltM kRootM) kRootM (as := []) (rest := []) dX11_lasts_46 (by omega) cloM rfl rfl (Nat.le_of_ble_eq_true rfl) (Nat.le_of_ble_eq_true rfl) (ok_M_endsThought (by omega) μ6 g1) ?_ rfl
      refine wp_iload_n (x := r7) dX11_lasts_49 rfl ?_
      obtain ⟨rfl, rfl⟩ := ret2 h
      exact wp_iret rfl dX11_lasts_50 ⟨rfl, rfl, rfl⟩
  · rw [if_pos c1] at h
    refine wp_iconst (-1) dX11_lasts_16 rfl ?_
    obtain ⟨rfl, rfl⟩ := ret2 h
    exact wp_iret rfl dX11_lasts_17 ⟨rfl, rfl, rfl⟩
theorem ok_M_knows_j45 {l : Launch} {d : Nat} (hd : 3 ≤ d) (v1 : Int32)  (v2 : Int32)  (v3 : Int32)  (μ : Mm) {Q : Option Value → Sh → Mm → Prop} (K : (Int32 × Int32) ⊕ Int32 → Prop) (hb : ∀ (s : (Int32 × Int32)), K (Sum.inl s) → Wp l SM d (0, 0) mX11_knows 22 [some (.ref 0), some (.int v1), some (.int s.1), some (.int s.2)] [] μ Q) (he0 : ∀ (x : Int32) (z1 : Option Value) (z3 : Option Value), K (Sum.inr x) → Wp l SM d (0, 0) mX11_knows 51 [some (.ref 0), z1, some (.int x), z3] [] μ Q) {z : (Int32 × Int32) ⊕ Int32} (h : M_knows_j45 v1 v2 v3 μ = some z) (hz : K z) : Wp l SM d (0, 0) mX11_knows 45 [some (.ref 0), some (.int v1), some (.int v2), some (.int v3)] [] μ Q := by
  unfold M_knows_j45 at h
  refine wp_iinc (x := v3) (k0 := (nI 1)) (L2 := [some (.ref 0), some (.int v1), some (.int v2), some (.int (v3 + (nI 1)))]) dX11_knows_45 rfl rfl (by decide) rfl rfl ?_
  refine wp_goto 22 dX11_knows_48 (by decide) ?_
  obtain rfl := some1 h
  exact hb (v2, (v3 + (nI 1))) hz
theorem ok_M_knows_l22 {l : Launch} {d : Nat} (hd : 3 ≤ d) (v1 : Int32)  (v2 : Int32)  (v3 : Int32)  (μ : Mm) {Q : Option Value → Sh → Mm → Prop} (K : (Int32 × Int32) ⊕ Int32 → Prop) (hb : ∀ (s : (Int32 × Int32)), K (Sum.inl s) → Wp l SM d (0, 0) mX11_knows 22 [some (.ref 0), some (.int v1), some (.int s.1), some (.int s.2)] [] μ Q) (he0 : ∀ (x : Int32) (z1 : Option Value) (z3 : Option Value), K (Sum.inr x) → Wp l SM d (0, 0) mX11_knows 51 [some (.ref 0), z1, some (.int x), z3] [] μ Q) {z : (Int32 × Int32) ⊕ Int32} (h : M_knows_l22 v1 v2 v3 μ = some z) (hz : K z) : Wp l SM d (0, 0) mX11_knows 22 [some (.ref 0), some (.int v1), some (.int v2), some (.int v3)] [] μ Q := by
  unfold M_knows_l22 at h
  refine wp_iload_n (x := v3) dX11_knows_22 rfl ?_
  refine wp_aload_n (x := 0) dX11_knows_23 rfl ?_
  refine wp_getI fl_X11_107 (by decide) rfl (kltM kRootM) kRootM dX11_knows_24 ?_
  refine wp_icmp_ge 51 dX11_knows_27 (by decide) (fun c1 => ?_) (fun c1 => ?_)
  · rw [if_pos c1] at h
    obtain rfl := some1 h
    exact he0 v2 _ _ hz
  · rw [if_neg c1] at h
    refine wp_aload_n (x := 0) dX11_knows_30 rfl ?_
    refine wp_iload_n (x := v3) dX11_knows_31 rfl ?_
    obtain ⟨r3, g1, h⟩ := bnd_some h
    refine wp_cVi (d := d - 1) (o := 0) cv_X11_360 (kltM kRootM) kRootM (as := [.int v3]) (rest := []) dX11_knows_32 (by omega) cloM rfl rfl (Nat.le_of_ble_eq_true rfl) (Nat.le_of_ble_eq_true rfl) (ok_M_hadBy (by omega) v3 μ g1) ?_ rfl
    refine wp_iload_n (x := v1) dX11_knows_35 rfl ?_
    refine wp_icmp_lt 45 dX11_knows_36 (by decide) (fun c1 => ?_) (fun c1 => ?_)
    · rw [if_pos c1] at h
      exact ok_M_knows_j45 hd v1 v2 v3 μ K hb he0 h hz
    · rw [if_neg c1] at h
      refine wp_iload_n (x := v2) dX11_knows_39 rfl ?_
      refine wp_iconst (nI 1) dX11_knows_40 rfl ?_
      refine wp_iload_n (x := v3) dX11_knows_41 rfl ?_
      refine wp_ishl dX11_knows_42 ?_
      refine wp_ior dX11_knows_43 ?_
      refine wp_istore_n (L2 := [some (.ref 0), some (.int v1), some (.int (v2 ||| ((nI 1) <<< (v3 &&& 31)))), some (.int v3)]) dX11_knows_44 (by decide) rfl rfl ?_
      exact ok_M_knows_j45 hd v1 (v2 ||| ((nI 1) <<< (v3 &&& 31))) v3 μ K hb he0 h hz
theorem okl_M_knows_l22 {l : Launch} {d : Nat} (hd : 3 ≤ d) (v1 : Int32)  (μ : Mm) {Q : Option Value → Sh → Mm → Prop} (K : Int32 → Prop) (he0 : ∀ (x : Int32) (z1 : Option Value) (z3 : Option Value), K x → Wp l SM d (0, 0) mX11_knows 51 [some (.ref 0), z1, some (.int x), z3] [] μ Q) : ∀ (n : Nat) (s : (Int32 × Int32)) (y : Int32) , iter n (fun s => M_knows_l22 v1 s.1 s.2 μ) s = some y → K y → Wp l SM d (0, 0) mX11_knows 22 [some (.ref 0), some (.int v1), some (.int s.1), some (.int s.2)] [] μ Q := by
  intro n
  induction n with
  | zero => intro s y  h; cases h
  | succ n ih =>
    intro s y  h hK
    obtain ⟨z, hz, hn⟩ := iter_some h
    refine ok_M_knows_l22 hd v1 s.1 s.2 μ (fun z => nxt n (fun s => M_knows_l22 v1 s.1 s.2 μ) z y) ?_ ?_ hz hn
    · intro s2  h2
      exact ih s2 y h2 hK
    · intro x z1 z3 h2
      have h3 : x = y := h2
      subst h3
      exact he0 x _ _ hK
theorem ok_M_knows {l : Launch} {d : Nat} (hd : 3 ≤ d) (v1 : Int32)  (μ : Mm) {r : Int32} {μ' : Mm} (h : M_knows v1 μ = some (r, μ')) : Wp l SM d (0, 0) mX11_knows 0 [some (.ref 0), some (.int v1), none, none] [] μ (Qi SM r μ') := by
  unfold M_knows at h
  refine wp_aload_n (x := 0) dX11_knows_0 rfl ?_
  refine wp_iconst (nI 0) dX11_knows_1 rfl ?_
  obtain ⟨μ1, e1, h⟩ := lt_some h
  refine wp_putIe e1 fl_X11_86 (by decide) rfl (kltM kRootM) kRootM dX11_knows_2 ?_
  refine wp_aload_n (x := 0) dX11_knows_5 rfl ?_
  refine wp_iload_n (x := v1) dX11_knows_6 rfl ?_
  refine wp_iconst (nI 0) dX11_knows_7 rfl ?_
  refine wp_bipush (nI 40) dX11_knows_8 rfl ?_
  obtain ⟨r2, g1, h⟩ := bnd_some h
  refine wp_cVi (d := d - 1) (o := 0) cv_X11_113 (kltM kRootM) kRootM (as := [.int v1, .int (nI 0), .int (nI 40)]) (rest := []) dX11_knows_10 (by omega) cloM rfl rfl (Nat.le_of_ble_eq_true rfl) (Nat.le_of_ble_eq_true rfl) (ok_M_isIn (by omega) v1 (nI 0) (nI 40) μ1 g1) ?_ rfl
  refine wp_if_ne 18 dX11_knows_13 (by decide) (fun c1 => ?_) (fun c1 => ?_)
  · rw [if_neg c1] at h
    refine wp_iconst (nI 0) dX11_knows_18 rfl ?_
    refine wp_istore_n (L2 := [some (.ref 0), some (.int v1), some (.int (nI 0)), none]) dX11_knows_19 (by decide) rfl rfl ?_
    refine wp_iconst (nI 0) dX11_knows_20 rfl ?_
    refine wp_istore_n (L2 := [some (.ref 0), some (.int v1), some (.int (nI 0)), some (.int (nI 0))]) dX11_knows_21 (by decide) rfl rfl ?_
    obtain ⟨x22, hi, h⟩ := bni_some h
    refine okl_M_knows_l22 hd v1 μ1 (fun z => z = x22) ?_ 1000000 ((nI 0), (nI 0)) x22 hi rfl
    · intro y0 z1 z3 e0
      have e0 : y0 = x22 := e0
      subst e0
      refine wp_iload_n (x := y0) dX11_knows_51 rfl ?_
      obtain ⟨rfl, rfl⟩ := ret2 h
      exact wp_iret rfl dX11_knows_52 ⟨rfl, rfl, rfl⟩
  · rw [if_pos c1] at h
    refine wp_iconst (-1) dX11_knows_16 rfl ?_
    obtain ⟨rfl, rfl⟩ := ret2 h
    exact wp_iret rfl dX11_knows_17 ⟨rfl, rfl, rfl⟩
theorem ok_M_kept {l : Launch} {d : Nat} (hd : 1 ≤ d) (v1 : Int32)  (μ : Mm) {r : Int32} {μ' : Mm} (h : M_kept v1 μ = some (r, μ')) : Wp l SM d (0, 0) mX11_kept 0 [some (.ref 0), some (.int v1)] [] μ (Qi SM r μ') := by
  unfold M_kept at h
  refine wp_aload_n (x := 0) dX11_kept_0 rfl ?_
  refine wp_aload_n (x := 0) dX11_kept_1 rfl ?_
  refine wp_getI fl_X11_421 (by decide) rfl (kltM kRootM) kRootM dX11_kept_2 ?_
  refine wp_iconst (nI 1) dX11_kept_5 rfl ?_
  refine wp_iadd dX11_kept_6 ?_
  obtain ⟨μ1, e1, h⟩ := lt_some h
  refine wp_putIe e1 fl_X11_421 (by decide) rfl (kltM kRootM) kRootM dX11_kept_7 ?_
  refine wp_aload_n (x := 0) dX11_kept_10 rfl ?_
  refine wp_getI fl_X11_424 (by decide) rfl (kltM kRootM) kRootM dX11_kept_11 ?_
  refine wp_if_ne 29 dX11_kept_14 (by decide) (fun c1 => ?_) (fun c1 => ?_)
  · rw [if_neg c1] at h
    refine wp_aload_n (x := 0) dX11_kept_29 rfl ?_
    refine wp_getR 24 fl_X11_83 (by decide) rfl (kltM kRootM) kRootM (ly11_50 kRootM).1 dX11_kept_30 ?_
    refine wp_aload_n (x := 0) dX11_kept_33 rfl ?_
    refine wp_getI fl_X11_421 (by decide) rfl (kltM kRootM) kRootM dX11_kept_34 ?_
    refine wp_iconst (nI 1) dX11_kept_37 rfl ?_
    refine wp_isub dX11_kept_38 ?_
    refine wp_iload_n (x := v1) dX11_kept_39 rfl ?_
    obtain ⟨c1, h⟩ := chv_some h
    obtain ⟨μ2, e1, h⟩ := lt_some h
    refine wp_iaste e1 (kltM (ly11_50 kRootM).2.1) (ly11_50 kRootM).2.1 (ly11_50 kRootM).2.2 c1 dX11_kept_40 ?_
    refine wp_iload_n (x := v1) dX11_kept_41 rfl ?_
    obtain ⟨rfl, rfl⟩ := ret2 h
    exact wp_iret rfl dX11_kept_42 ⟨rfl, rfl, rfl⟩
  · rw [if_pos c1] at h
    refine wp_aload_n (x := 0) dX11_kept_17 rfl ?_
    refine wp_getR 24 fl_X11_83 (by decide) rfl (kltM kRootM) kRootM (ly11_50 kRootM).1 dX11_kept_18 ?_
    refine wp_aload_n (x := 0) dX11_kept_21 rfl ?_
    refine wp_getI fl_X11_421 (by decide) rfl (kltM kRootM) kRootM dX11_kept_22 ?_
    refine wp_iconst (nI 1) dX11_kept_25 rfl ?_
    refine wp_isub dX11_kept_26 ?_
    obtain ⟨c1, h⟩ := chv_some h
    refine wp_ialde (kltM (ly11_50 kRootM).2.1) (ly11_50 kRootM).2.1 (ly11_50 kRootM).2.2 c1 dX11_kept_27 ?_
    obtain ⟨rfl, rfl⟩ := ret2 h
    exact wp_iret rfl dX11_kept_28 ⟨rfl, rfl, rfl⟩
theorem ok_M_keepsLaw_l21 {l : Launch} {d : Nat} (hd : 2 ≤ d) (v1 : Int32)  (v2 : Int32)  (μ : Mm) {Q : Option Value → Sh → Mm → Prop} (K : (Int32 × Mm) ⊕ Mm → Prop) (hb : ∀ (s : (Int32 × Mm)), K (Sum.inl s) → Wp l SM d (0, 0) mX11_keepsLaw 21 [some (.ref 0), some (.int v1), some (.int s.1)] [] s.2 Q) (he0 : ∀ (x : Mm) (z2 : Option Value), K (Sum.inr x) → Wp l SM d (0, 0) mX11_keepsLaw 86 [some (.ref 0), some (.int v1), z2] [] x Q) {z : (Int32 × Mm) ⊕ Mm} (h : M_keepsLaw_l21 v1 v2 μ = some z) (hz : K z) : Wp l SM d (0, 0) mX11_keepsLaw 21 [some (.ref 0), some (.int v1), some (.int v2)] [] μ Q := by
  unfold M_keepsLaw_l21 at h
  refine wp_iload_n (x := v2) dX11_keepsLaw_21 rfl ?_
  refine wp_bipush (nI 16) dX11_keepsLaw_22 rfl ?_
  refine wp_iload_n (x := v1) dX11_keepsLaw_24 rfl ?_
  refine wp_imul dX11_keepsLaw_25 ?_
  refine wp_bipush (nI 16) dX11_keepsLaw_26 rfl ?_
  refine wp_iadd dX11_keepsLaw_28 ?_
  refine wp_icmp_ge 86 dX11_keepsLaw_29 (by decide) (fun c1 => ?_) (fun c1 => ?_)
  · rw [if_pos c1] at h
    obtain rfl := some1 h
    exact he0 μ _ hz
  · rw [if_neg c1] at h
    refine wp_aload_n (x := 0) dX11_keepsLaw_32 rfl ?_
    refine wp_getR 14 fl_X11_49 (by decide) rfl (kltM kRootM) kRootM (ly11_28 kRootM).1 dX11_keepsLaw_33 ?_
    refine wp_iload_n (x := v2) dX11_keepsLaw_36 rfl ?_
    refine wp_aload_n (x := 0) dX11_keepsLaw_37 rfl ?_
    refine wp_aload_n (x := 0) dX11_keepsLaw_38 rfl ?_
    refine wp_getR 14 fl_X11_49 (by decide) rfl (kltM kRootM) kRootM (ly11_28 kRootM).1 dX11_keepsLaw_39 ?_
    refine wp_iload_n (x := v2) dX11_keepsLaw_42 rfl ?_
    obtain ⟨c1, h⟩ := chv_some h
    refine wp_ialde (kltM (ly11_28 kRootM).2.1) (ly11_28 kRootM).2.1 (ly11_28 kRootM).2.2 c1 dX11_keepsLaw_43 ?_
    obtain ⟨r5, μ4, g1, h⟩ := bnd2_some h
    refine wp_cVi (d := d - 1) (o := 0) cv_X11_427 (kltM kRootM) kRootM (as := [.int (μ.1 14 (ix v2))]) (rest := [.int v2, .ref 14]) dX11_keepsLaw_44 (by omega) cloM rfl rfl (Nat.le_of_ble_eq_true rfl) (Nat.le_of_ble_eq_true rfl) (ok_M_kept (by omega) (μ.1 14 (ix v2)) μ g1) ?_ rfl
    obtain ⟨c1, h⟩ := chv_some h
    obtain ⟨μ6, e1, h⟩ := lt_some h
    refine wp_iaste e1 (kltM (ly11_28 kRootM).2.1) (ly11_28 kRootM).2.1 (ly11_28 kRootM).2.2 c1 dX11_keepsLaw_47 ?_
    refine wp_aload_n (x := 0) dX11_keepsLaw_48 rfl ?_
    refine wp_getR 15 fl_X11_52 (by decide) rfl (kltM kRootM) kRootM (ly11_29 kRootM).1 dX11_keepsLaw_49 ?_
    refine wp_iload_n (x := v2) dX11_keepsLaw_52 rfl ?_
    refine wp_aload_n (x := 0) dX11_keepsLaw_53 rfl ?_
    refine wp_aload_n (x := 0) dX11_keepsLaw_54 rfl ?_
    refine wp_getR 15 fl_X11_52 (by decide) rfl (kltM kRootM) kRootM (ly11_29 kRootM).1 dX11_keepsLaw_55 ?_
    refine wp_iload_n (x := v2) dX11_keepsLaw_58 rfl ?_
    obtain ⟨c1, h⟩ := chv_some h
    refine wp_ialde (kltM (ly11_29 kRootM).2.1) (ly11_29 kRootM).2.1 (ly11_29 kRootM).2.2 c1 dX11_keepsLaw_59 ?_
    obtain ⟨r8, μ7, g1, h⟩ := bnd2_some h
    refine wp_cVi (d := d - 1) (o := 0) cv_X11_427 (kltM kRootM) kRootM (as := [.int (μ6.1 15 (ix v2))]) (rest := [.int v2, .ref 15]) dX11_keepsLaw_60 (by omega) cloM rfl rfl (Nat.le_of_ble_eq_true rfl) (Nat.le_of_ble_eq_true rfl) (ok_M_kept (by omega) (μ6.1 15 (ix v2)) μ6 g1) ?_ rfl
    obtain ⟨c1, h⟩ := chv_some h
    obtain ⟨μ9, e1, h⟩ := lt_some h
    refine wp_iaste e1 (kltM (ly11_29 kRootM).2.1) (ly11_29 kRootM).2.1 (ly11_29 kRootM).2.2 c1 dX11_keepsLaw_63 ?_
    refine wp_aload_n (x := 0) dX11_keepsLaw_64 rfl ?_
    refine wp_getR 16 fl_X11_55 (by decide) rfl (kltM kRootM) kRootM (ly11_30 kRootM).1 dX11_keepsLaw_65 ?_
    refine wp_iload_n (x := v2) dX11_keepsLaw_68 rfl ?_
    refine wp_aload_n (x := 0) dX11_keepsLaw_69 rfl ?_
    refine wp_aload_n (x := 0) dX11_keepsLaw_70 rfl ?_
    refine wp_getR 16 fl_X11_55 (by decide) rfl (kltM kRootM) kRootM (ly11_30 kRootM).1 dX11_keepsLaw_71 ?_
    refine wp_iload_n (x := v2) dX11_keepsLaw_74 rfl ?_
    obtain ⟨c1, h⟩ := chv_some h
    refine wp_ialde (kltM (ly11_30 kRootM).2.1) (ly11_30 kRootM).2.1 (ly11_30 kRootM).2.2 c1 dX11_keepsLaw_75 ?_
    obtain ⟨r11, μ10, g1, h⟩ := bnd2_some h
    refine wp_cVi (d := d - 1) (o := 0) cv_X11_427 (kltM kRootM) kRootM (as := [.int (μ9.1 16 (ix v2))]) (rest := [.int v2, .ref 16]) dX11_keepsLaw_76 (by omega) cloM rfl rfl (Nat.le_of_ble_eq_true rfl) (Nat.le_of_ble_eq_true rfl) (ok_M_kept (by omega) (μ9.1 16 (ix v2)) μ9 g1) ?_ rfl
    obtain ⟨c1, h⟩ := chv_some h
    obtain ⟨μ12, e1, h⟩ := lt_some h
    refine wp_iaste e1 (kltM (ly11_30 kRootM).2.1) (ly11_30 kRootM).2.1 (ly11_30 kRootM).2.2 c1 dX11_keepsLaw_79 ?_
    refine wp_iinc (x := v2) (k0 := (nI 1)) (L2 := [some (.ref 0), some (.int v1), some (.int (v2 + (nI 1)))]) dX11_keepsLaw_80 rfl rfl (by decide) rfl rfl ?_
    refine wp_goto 21 dX11_keepsLaw_83 (by decide) ?_
    obtain rfl := some1 h
    exact hb ((v2 + (nI 1)), μ12) hz
theorem okl_M_keepsLaw_l21 {l : Launch} {d : Nat} (hd : 2 ≤ d) (v1 : Int32)  {Q : Option Value → Sh → Mm → Prop} (K : Mm → Prop) (he0 : ∀ (x : Mm) (z2 : Option Value), K x → Wp l SM d (0, 0) mX11_keepsLaw 86 [some (.ref 0), some (.int v1), z2] [] x Q) : ∀ (n : Nat) (s : (Int32 × Mm)) (y : Mm) , iter n (fun s => M_keepsLaw_l21 v1 s.1 s.2) s = some y → K y → Wp l SM d (0, 0) mX11_keepsLaw 21 [some (.ref 0), some (.int v1), some (.int s.1)] [] s.2 Q := by
  intro n
  induction n with
  | zero => intro s y  h; cases h
  | succ n ih =>
    intro s y  h hK
    obtain ⟨z, hz, hn⟩ := iter_some h
    refine ok_M_keepsLaw_l21 hd v1 s.1 s.2 (fun z => nxt n (fun s => M_keepsLaw_l21 v1 s.1 s.2) z y) ?_ ?_ hz hn
    · intro s2  h2
      exact ih s2 y h2 hK
    · intro x z2 h2
      have h3 : x = y := h2
      subst h3
      exact he0 x _ hK
theorem ok_M_keepsLaw_l92 {l : Launch} {d : Nat} (hd : 2 ≤ d) (v1 : Int32)  (v2 : Int32)  (μ : Mm) {Q : Option Value → Sh → Mm → Prop} (K : (Int32 × Mm) ⊕ Mm → Prop) (hb : ∀ (s : (Int32 × Mm)), K (Sum.inl s) → Wp l SM d (0, 0) mX11_keepsLaw 92 [some (.ref 0), some (.int v1), some (.int s.1)] [] s.2 Q) (he0 : ∀ (x : Mm) (z1 : Option Value) (z2 : Option Value), K (Sum.inr x) → Wp l SM d (0, 0) mX11_keepsLaw 143 [some (.ref 0), z1, z2] [] x Q) {z : (Int32 × Mm) ⊕ Mm} (h : M_keepsLaw_l92 v1 v2 μ = some z) (hz : K z) : Wp l SM d (0, 0) mX11_keepsLaw 92 [some (.ref 0), some (.int v1), some (.int v2)] [] μ Q := by
  unfold M_keepsLaw_l92 at h
  refine wp_iload_n (x := v2) dX11_keepsLaw_92 rfl ?_
  refine wp_sipush (nI 400) dX11_keepsLaw_93 rfl ?_
  refine wp_iload_n (x := v1) dX11_keepsLaw_96 rfl ?_
  refine wp_imul dX11_keepsLaw_97 ?_
  refine wp_sipush (nI 400) dX11_keepsLaw_98 rfl ?_
  refine wp_iadd dX11_keepsLaw_101 ?_
  refine wp_icmp_ge 143 dX11_keepsLaw_102 (by decide) (fun c1 => ?_) (fun c1 => ?_)
  · rw [if_pos c1] at h
    obtain rfl := some1 h
    exact he0 μ _ _ hz
  · rw [if_neg c1] at h
    refine wp_aload_n (x := 0) dX11_keepsLaw_105 rfl ?_
    refine wp_getR 17 fl_X11_58 (by decide) rfl (kltM kRootM) kRootM (ly11_31 kRootM).1 dX11_keepsLaw_106 ?_
    refine wp_iload_n (x := v2) dX11_keepsLaw_109 rfl ?_
    refine wp_aload_n (x := 0) dX11_keepsLaw_110 rfl ?_
    refine wp_aload_n (x := 0) dX11_keepsLaw_111 rfl ?_
    refine wp_getR 17 fl_X11_58 (by decide) rfl (kltM kRootM) kRootM (ly11_31 kRootM).1 dX11_keepsLaw_112 ?_
    refine wp_iload_n (x := v2) dX11_keepsLaw_115 rfl ?_
    obtain ⟨c1, h⟩ := chv_some h
    refine wp_ialde (kltM (ly11_31 kRootM).2.1) (ly11_31 kRootM).2.1 (ly11_31 kRootM).2.2 c1 dX11_keepsLaw_116 ?_
    obtain ⟨r14, μ13, g1, h⟩ := bnd2_some h
    refine wp_cVi (d := d - 1) (o := 0) cv_X11_427 (kltM kRootM) kRootM (as := [.int (μ.1 17 (ix v2))]) (rest := [.int v2, .ref 17]) dX11_keepsLaw_117 (by omega) cloM rfl rfl (Nat.le_of_ble_eq_true rfl) (Nat.le_of_ble_eq_true rfl) (ok_M_kept (by omega) (μ.1 17 (ix v2)) μ g1) ?_ rfl
    obtain ⟨c1, h⟩ := chv_some h
    obtain ⟨μ15, e1, h⟩ := lt_some h
    refine wp_iaste e1 (kltM (ly11_31 kRootM).2.1) (ly11_31 kRootM).2.1 (ly11_31 kRootM).2.2 c1 dX11_keepsLaw_120 ?_
    refine wp_aload_n (x := 0) dX11_keepsLaw_121 rfl ?_
    refine wp_getR 18 fl_X11_61 (by decide) rfl (kltM kRootM) kRootM (ly11_32 kRootM).1 dX11_keepsLaw_122 ?_
    refine wp_iload_n (x := v2) dX11_keepsLaw_125 rfl ?_
    refine wp_aload_n (x := 0) dX11_keepsLaw_126 rfl ?_
    refine wp_aload_n (x := 0) dX11_keepsLaw_127 rfl ?_
    refine wp_getR 18 fl_X11_61 (by decide) rfl (kltM kRootM) kRootM (ly11_32 kRootM).1 dX11_keepsLaw_128 ?_
    refine wp_iload_n (x := v2) dX11_keepsLaw_131 rfl ?_
    obtain ⟨c1, h⟩ := chv_some h
    refine wp_ialde (kltM (ly11_32 kRootM).2.1) (ly11_32 kRootM).2.1 (ly11_32 kRootM).2.2 c1 dX11_keepsLaw_132 ?_
    obtain ⟨r17, μ16, g1, h⟩ := bnd2_some h
    refine wp_cVi (d := d - 1) (o := 0) cv_X11_427 (kltM kRootM) kRootM (as := [.int (μ15.1 18 (ix v2))]) (rest := [.int v2, .ref 18]) dX11_keepsLaw_133 (by omega) cloM rfl rfl (Nat.le_of_ble_eq_true rfl) (Nat.le_of_ble_eq_true rfl) (ok_M_kept (by omega) (μ15.1 18 (ix v2)) μ15 g1) ?_ rfl
    obtain ⟨c1, h⟩ := chv_some h
    obtain ⟨μ18, e1, h⟩ := lt_some h
    refine wp_iaste e1 (kltM (ly11_32 kRootM).2.1) (ly11_32 kRootM).2.1 (ly11_32 kRootM).2.2 c1 dX11_keepsLaw_136 ?_
    refine wp_iinc (x := v2) (k0 := (nI 1)) (L2 := [some (.ref 0), some (.int v1), some (.int (v2 + (nI 1)))]) dX11_keepsLaw_137 rfl rfl (by decide) rfl rfl ?_
    refine wp_goto 92 dX11_keepsLaw_140 (by decide) ?_
    obtain rfl := some1 h
    exact hb ((v2 + (nI 1)), μ18) hz
theorem okl_M_keepsLaw_l92 {l : Launch} {d : Nat} (hd : 2 ≤ d) (v1 : Int32)  {Q : Option Value → Sh → Mm → Prop} (K : Mm → Prop) (he0 : ∀ (x : Mm) (z1 : Option Value) (z2 : Option Value), K x → Wp l SM d (0, 0) mX11_keepsLaw 143 [some (.ref 0), z1, z2] [] x Q) : ∀ (n : Nat) (s : (Int32 × Mm)) (y : Mm) , iter n (fun s => M_keepsLaw_l92 v1 s.1 s.2) s = some y → K y → Wp l SM d (0, 0) mX11_keepsLaw 92 [some (.ref 0), some (.int v1), some (.int s.1)] [] s.2 Q := by
  intro n
  induction n with
  | zero => intro s y  h; cases h
  | succ n ih =>
    intro s y  h hK
    obtain ⟨z, hz, hn⟩ := iter_some h
    refine ok_M_keepsLaw_l92 hd v1 s.1 s.2 (fun z => nxt n (fun s => M_keepsLaw_l92 v1 s.1 s.2) z y) ?_ ?_ hz hn
    · intro s2  h2
      exact ih s2 y h2 hK
    · intro x z1 z2 h2
      have h3 : x = y := h2
      subst h3
      exact he0 x _ _ hK
theorem ok_M_keepsLaw {l : Launch} {d : Nat} (hd : 2 ≤ d) (v1 : Int32)  (μ : Mm) {μ' : Mm} (h : M_keepsLaw v1 μ = some μ') : Wp l SM d (0, 0) mX11_keepsLaw 0 [some (.ref 0), some (.int v1), none] [] μ (Qv SM μ') := by
  unfold M_keepsLaw at h
  refine wp_aload_n (x := 0) dX11_keepsLaw_0 rfl ?_
  refine wp_getR 13 fl_X11_46 (by decide) rfl (kltM kRootM) kRootM (ly11_27 kRootM).1 dX11_keepsLaw_1 ?_
  refine wp_iload_n (x := v1) dX11_keepsLaw_4 rfl ?_
  refine wp_aload_n (x := 0) dX11_keepsLaw_5 rfl ?_
  refine wp_aload_n (x := 0) dX11_keepsLaw_6 rfl ?_
  refine wp_getR 13 fl_X11_46 (by decide) rfl (kltM kRootM) kRootM (ly11_27 kRootM).1 dX11_keepsLaw_7 ?_
  refine wp_iload_n (x := v1) dX11_keepsLaw_10 rfl ?_
  obtain ⟨c1, h⟩ := chv_some h
  refine wp_ialde (kltM (ly11_27 kRootM).2.1) (ly11_27 kRootM).2.1 (ly11_27 kRootM).2.2 c1 dX11_keepsLaw_11 ?_
  obtain ⟨r2, μ1, g1, h⟩ := bnd2_some h
  refine wp_cVi (d := d - 1) (o := 0) cv_X11_427 (kltM kRootM) kRootM (as := [.int (μ.1 13 (ix v1))]) (rest := [.int v1, .ref 13]) dX11_keepsLaw_12 (by omega) cloM rfl rfl (Nat.le_of_ble_eq_true rfl) (Nat.le_of_ble_eq_true rfl) (ok_M_kept (by omega) (μ.1 13 (ix v1)) μ g1) ?_ rfl
  obtain ⟨c1, h⟩ := chv_some h
  obtain ⟨μ3, e1, h⟩ := lt_some h
  refine wp_iaste e1 (kltM (ly11_27 kRootM).2.1) (ly11_27 kRootM).2.1 (ly11_27 kRootM).2.2 c1 dX11_keepsLaw_15 ?_
  refine wp_bipush (nI 16) dX11_keepsLaw_16 rfl ?_
  refine wp_iload_n (x := v1) dX11_keepsLaw_18 rfl ?_
  refine wp_imul dX11_keepsLaw_19 ?_
  refine wp_istore_n (L2 := [some (.ref 0), some (.int v1), some (.int ((nI 16) * v1))]) dX11_keepsLaw_20 (by decide) rfl rfl ?_
  obtain ⟨x21, hi, h⟩ := bni_some h
  refine okl_M_keepsLaw_l21 hd v1 (fun z => z = x21) ?_ 1000000 (((nI 16) * v1), μ3) x21 hi rfl
  · intro y0 z2 e0
    have e0 : y0 = x21 := e0
    subst e0
    refine wp_sipush (nI 400) dX11_keepsLaw_86 rfl ?_
    refine wp_iload_n (x := v1) dX11_keepsLaw_89 rfl ?_
    refine wp_imul dX11_keepsLaw_90 ?_
    refine wp_istore_n (L2 := [some (.ref 0), some (.int v1), some (.int ((nI 400) * v1))]) dX11_keepsLaw_91 (by decide) rfl rfl ?_
    obtain ⟨x92, hi, h⟩ := bni_some h
    refine okl_M_keepsLaw_l92 hd v1 (fun z => z = x92) ?_ 1000000 (((nI 400) * v1), y0) x92 hi rfl
    · intro y0 z1 z2 e0
      have e0 : y0 = x92 := e0
      subst e0
      obtain rfl := ret1 h
      exact wp_vret rfl dX11_keepsLaw_143 ⟨rfl, rfl, rfl⟩
theorem ok_M_keepsPeople_l26 {l : Launch} {d : Nat} (hd : 2 ≤ d) (v1 : Int32)  (μ : Mm) {Q : Option Value → Sh → Mm → Prop} (K : (Int32 × Mm) ⊕ Mm → Prop) (hb : ∀ (s : (Int32 × Mm)), K (Sum.inl s) → Wp l SM d (0, 0) mX11_keepsPeople 26 [some (.ref 0), some (.int s.1)] [] s.2 Q) (he0 : ∀ (x : Mm) (z1 : Option Value), K (Sum.inr x) → Wp l SM d (0, 0) mX11_keepsPeople 102 [some (.ref 0), z1] [] x Q) {z : (Int32 × Mm) ⊕ Mm} (h : M_keepsPeople_l26 v1 μ = some z) (hz : K z) : Wp l SM d (0, 0) mX11_keepsPeople 26 [some (.ref 0), some (.int v1)] [] μ Q := by
  unfold M_keepsPeople_l26 at h
  refine wp_iload_n (x := v1) dX11_keepsPeople_26 rfl ?_
  refine wp_bipush (nI 16) dX11_keepsPeople_27 rfl ?_
  refine wp_icmp_ge 102 dX11_keepsPeople_29 (by decide) (fun c1 => ?_) (fun c1 => ?_)
  · rw [if_pos c1] at h
    obtain rfl := some1 h
    exact he0 μ _ hz
  · rw [if_neg c1] at h
    refine wp_aload_n (x := 0) dX11_keepsPeople_32 rfl ?_
    refine wp_getR 4 fl_X11_19 (by decide) rfl (kltM kRootM) kRootM (ly11_7 kRootM).1 dX11_keepsPeople_33 ?_
    refine wp_iload_n (x := v1) dX11_keepsPeople_36 rfl ?_
    refine wp_aload_n (x := 0) dX11_keepsPeople_37 rfl ?_
    refine wp_aload_n (x := 0) dX11_keepsPeople_38 rfl ?_
    refine wp_getR 4 fl_X11_19 (by decide) rfl (kltM kRootM) kRootM (ly11_7 kRootM).1 dX11_keepsPeople_39 ?_
    refine wp_iload_n (x := v1) dX11_keepsPeople_42 rfl ?_
    obtain ⟨c1, h⟩ := chv_some h
    refine wp_ialde (kltM (ly11_7 kRootM).2.1) (ly11_7 kRootM).2.1 (ly11_7 kRootM).2.2 c1 dX11_keepsPeople_43 ?_
    obtain ⟨r8, μ7, g1, h⟩ := bnd2_some h
    refine wp_cVi (d := d - 1) (o := 0) cv_X11_427 (kltM kRootM) kRootM (as := [.int (μ.1 4 (ix v1))]) (rest := [.int v1, .ref 4]) dX11_keepsPeople_44 (by omega) cloM rfl rfl (Nat.le_of_ble_eq_true rfl) (Nat.le_of_ble_eq_true rfl) (ok_M_kept (by omega) (μ.1 4 (ix v1)) μ g1) ?_ rfl
    obtain ⟨c1, h⟩ := chv_some h
    obtain ⟨μ9, e1, h⟩ := lt_some h
    refine wp_iaste e1 (kltM (ly11_7 kRootM).2.1) (ly11_7 kRootM).2.1 (ly11_7 kRootM).2.2 c1 dX11_keepsPeople_47 ?_
    refine wp_aload_n (x := 0) dX11_keepsPeople_48 rfl ?_
    refine wp_getR 5 fl_X11_22 (by decide) rfl (kltM kRootM) kRootM (ly11_8 kRootM).1 dX11_keepsPeople_49 ?_
    refine wp_iload_n (x := v1) dX11_keepsPeople_52 rfl ?_
    refine wp_aload_n (x := 0) dX11_keepsPeople_53 rfl ?_
    refine wp_aload_n (x := 0) dX11_keepsPeople_54 rfl ?_
    refine wp_getR 5 fl_X11_22 (by decide) rfl (kltM kRootM) kRootM (ly11_8 kRootM).1 dX11_keepsPeople_55 ?_
    refine wp_iload_n (x := v1) dX11_keepsPeople_58 rfl ?_
    obtain ⟨c1, h⟩ := chv_some h
    refine wp_ialde (kltM (ly11_8 kRootM).2.1) (ly11_8 kRootM).2.1 (ly11_8 kRootM).2.2 c1 dX11_keepsPeople_59 ?_
    obtain ⟨r11, μ10, g1, h⟩ := bnd2_some h
    refine wp_cVi (d := d - 1) (o := 0) cv_X11_427 (kltM kRootM) kRootM (as := [.int (μ9.1 5 (ix v1))]) (rest := [.int v1, .ref 5]) dX11_keepsPeople_60 (by omega) cloM rfl rfl (Nat.le_of_ble_eq_true rfl) (Nat.le_of_ble_eq_true rfl) (ok_M_kept (by omega) (μ9.1 5 (ix v1)) μ9 g1) ?_ rfl
    obtain ⟨c1, h⟩ := chv_some h
    obtain ⟨μ12, e1, h⟩ := lt_some h
    refine wp_iaste e1 (kltM (ly11_8 kRootM).2.1) (ly11_8 kRootM).2.1 (ly11_8 kRootM).2.2 c1 dX11_keepsPeople_63 ?_
    refine wp_aload_n (x := 0) dX11_keepsPeople_64 rfl ?_
    refine wp_getR 6 fl_X11_25 (by decide) rfl (kltM kRootM) kRootM (ly11_9 kRootM).1 dX11_keepsPeople_65 ?_
    refine wp_iload_n (x := v1) dX11_keepsPeople_68 rfl ?_
    refine wp_aload_n (x := 0) dX11_keepsPeople_69 rfl ?_
    refine wp_aload_n (x := 0) dX11_keepsPeople_70 rfl ?_
    refine wp_getR 6 fl_X11_25 (by decide) rfl (kltM kRootM) kRootM (ly11_9 kRootM).1 dX11_keepsPeople_71 ?_
    refine wp_iload_n (x := v1) dX11_keepsPeople_74 rfl ?_
    obtain ⟨c1, h⟩ := chv_some h
    refine wp_ialde (kltM (ly11_9 kRootM).2.1) (ly11_9 kRootM).2.1 (ly11_9 kRootM).2.2 c1 dX11_keepsPeople_75 ?_
    obtain ⟨r14, μ13, g1, h⟩ := bnd2_some h
    refine wp_cVi (d := d - 1) (o := 0) cv_X11_427 (kltM kRootM) kRootM (as := [.int (μ12.1 6 (ix v1))]) (rest := [.int v1, .ref 6]) dX11_keepsPeople_76 (by omega) cloM rfl rfl (Nat.le_of_ble_eq_true rfl) (Nat.le_of_ble_eq_true rfl) (ok_M_kept (by omega) (μ12.1 6 (ix v1)) μ12 g1) ?_ rfl
    obtain ⟨c1, h⟩ := chv_some h
    obtain ⟨μ15, e1, h⟩ := lt_some h
    refine wp_iaste e1 (kltM (ly11_9 kRootM).2.1) (ly11_9 kRootM).2.1 (ly11_9 kRootM).2.2 c1 dX11_keepsPeople_79 ?_
    refine wp_aload_n (x := 0) dX11_keepsPeople_80 rfl ?_
    refine wp_getR 7 fl_X11_28 (by decide) rfl (kltM kRootM) kRootM (ly11_11 kRootM).1 dX11_keepsPeople_81 ?_
    refine wp_iload_n (x := v1) dX11_keepsPeople_84 rfl ?_
    refine wp_aload_n (x := 0) dX11_keepsPeople_85 rfl ?_
    refine wp_aload_n (x := 0) dX11_keepsPeople_86 rfl ?_
    refine wp_getR 7 fl_X11_28 (by decide) rfl (kltM kRootM) kRootM (ly11_11 kRootM).1 dX11_keepsPeople_87 ?_
    refine wp_iload_n (x := v1) dX11_keepsPeople_90 rfl ?_
    obtain ⟨c1, h⟩ := chv_some h
    refine wp_ialde (kltM (ly11_11 kRootM).2.1) (ly11_11 kRootM).2.1 (ly11_11 kRootM).2.2 c1 dX11_keepsPeople_91 ?_
    obtain ⟨r17, μ16, g1, h⟩ := bnd2_some h
    refine wp_cVi (d := d - 1) (o := 0) cv_X11_427 (kltM kRootM) kRootM (as := [.int (μ15.1 7 (ix v1))]) (rest := [.int v1, .ref 7]) dX11_keepsPeople_92 (by omega) cloM rfl rfl (Nat.le_of_ble_eq_true rfl) (Nat.le_of_ble_eq_true rfl) (ok_M_kept (by omega) (μ15.1 7 (ix v1)) μ15 g1) ?_ rfl
    obtain ⟨c1, h⟩ := chv_some h
    obtain ⟨μ18, e1, h⟩ := lt_some h
    refine wp_iaste e1 (kltM (ly11_11 kRootM).2.1) (ly11_11 kRootM).2.1 (ly11_11 kRootM).2.2 c1 dX11_keepsPeople_95 ?_
    refine wp_iinc (x := v1) (k0 := (nI 1)) (L2 := [some (.ref 0), some (.int (v1 + (nI 1)))]) dX11_keepsPeople_96 rfl rfl (by decide) rfl rfl ?_
    refine wp_goto 26 dX11_keepsPeople_99 (by decide) ?_
    obtain rfl := some1 h
    exact hb ((v1 + (nI 1)), μ18) hz
theorem okl_M_keepsPeople_l26 {l : Launch} {d : Nat} (hd : 2 ≤ d) {Q : Option Value → Sh → Mm → Prop} (K : Mm → Prop) (he0 : ∀ (x : Mm) (z1 : Option Value), K x → Wp l SM d (0, 0) mX11_keepsPeople 102 [some (.ref 0), z1] [] x Q) : ∀ (n : Nat) (s : (Int32 × Mm)) (y : Mm) , iter n (fun s => M_keepsPeople_l26 s.1 s.2) s = some y → K y → Wp l SM d (0, 0) mX11_keepsPeople 26 [some (.ref 0), some (.int s.1)] [] s.2 Q := by
  intro n
  induction n with
  | zero => intro s y  h; cases h
  | succ n ih =>
    intro s y  h hK
    obtain ⟨z, hz, hn⟩ := iter_some h
    refine ok_M_keepsPeople_l26 hd s.1 s.2 (fun z => nxt n (fun s => M_keepsPeople_l26 s.1 s.2) z y) ?_ ?_ hz hn
    · intro s2  h2
      exact ih s2 y h2 hK
    · intro x z1 h2
      have h3 : x = y := h2
      subst h3
      exact he0 x _ hK
theorem ok_M_keepsPeople_l104 {l : Launch} {d : Nat} (hd : 2 ≤ d) (v1 : Int32)  (μ : Mm) {Q : Option Value → Sh → Mm → Prop} (K : (Int32 × Mm) ⊕ Mm → Prop) (hb : ∀ (s : (Int32 × Mm)), K (Sum.inl s) → Wp l SM d (0, 0) mX11_keepsPeople 104 [some (.ref 0), some (.int s.1)] [] s.2 Q) (he0 : ∀ (x : Mm) (z1 : Option Value), K (Sum.inr x) → Wp l SM d (0, 0) mX11_keepsPeople 133 [some (.ref 0), z1] [] x Q) {z : (Int32 × Mm) ⊕ Mm} (h : M_keepsPeople_l104 v1 μ = some z) (hz : K z) : Wp l SM d (0, 0) mX11_keepsPeople 104 [some (.ref 0), some (.int v1)] [] μ Q := by
  unfold M_keepsPeople_l104 at h
  refine wp_iload_n (x := v1) dX11_keepsPeople_104 rfl ?_
  refine wp_sipush (nI 144) dX11_keepsPeople_105 rfl ?_
  refine wp_icmp_ge 133 dX11_keepsPeople_108 (by decide) (fun c1 => ?_) (fun c1 => ?_)
  · rw [if_pos c1] at h
    obtain rfl := some1 h
    exact he0 μ _ hz
  · rw [if_neg c1] at h
    refine wp_aload_n (x := 0) dX11_keepsPeople_111 rfl ?_
    refine wp_getR 8 fl_X11_31 (by decide) rfl (kltM kRootM) kRootM (ly11_12 kRootM).1 dX11_keepsPeople_112 ?_
    refine wp_iload_n (x := v1) dX11_keepsPeople_115 rfl ?_
    refine wp_aload_n (x := 0) dX11_keepsPeople_116 rfl ?_
    refine wp_aload_n (x := 0) dX11_keepsPeople_117 rfl ?_
    refine wp_getR 8 fl_X11_31 (by decide) rfl (kltM kRootM) kRootM (ly11_12 kRootM).1 dX11_keepsPeople_118 ?_
    refine wp_iload_n (x := v1) dX11_keepsPeople_121 rfl ?_
    obtain ⟨c1, h⟩ := chv_some h
    refine wp_ialde (kltM (ly11_12 kRootM).2.1) (ly11_12 kRootM).2.1 (ly11_12 kRootM).2.2 c1 dX11_keepsPeople_122 ?_
    obtain ⟨r20, μ19, g1, h⟩ := bnd2_some h
    refine wp_cVi (d := d - 1) (o := 0) cv_X11_427 (kltM kRootM) kRootM (as := [.int (μ.1 8 (ix v1))]) (rest := [.int v1, .ref 8]) dX11_keepsPeople_123 (by omega) cloM rfl rfl (Nat.le_of_ble_eq_true rfl) (Nat.le_of_ble_eq_true rfl) (ok_M_kept (by omega) (μ.1 8 (ix v1)) μ g1) ?_ rfl
    obtain ⟨c1, h⟩ := chv_some h
    obtain ⟨μ21, e1, h⟩ := lt_some h
    refine wp_iaste e1 (kltM (ly11_12 kRootM).2.1) (ly11_12 kRootM).2.1 (ly11_12 kRootM).2.2 c1 dX11_keepsPeople_126 ?_
    refine wp_iinc (x := v1) (k0 := (nI 1)) (L2 := [some (.ref 0), some (.int (v1 + (nI 1)))]) dX11_keepsPeople_127 rfl rfl (by decide) rfl rfl ?_
    refine wp_goto 104 dX11_keepsPeople_130 (by decide) ?_
    obtain rfl := some1 h
    exact hb ((v1 + (nI 1)), μ21) hz
theorem okl_M_keepsPeople_l104 {l : Launch} {d : Nat} (hd : 2 ≤ d) {Q : Option Value → Sh → Mm → Prop} (K : Mm → Prop) (he0 : ∀ (x : Mm) (z1 : Option Value), K x → Wp l SM d (0, 0) mX11_keepsPeople 133 [some (.ref 0), z1] [] x Q) : ∀ (n : Nat) (s : (Int32 × Mm)) (y : Mm) , iter n (fun s => M_keepsPeople_l104 s.1 s.2) s = some y → K y → Wp l SM d (0, 0) mX11_keepsPeople 104 [some (.ref 0), some (.int s.1)] [] s.2 Q := by
  intro n
  induction n with
  | zero => intro s y  h; cases h
  | succ n ih =>
    intro s y  h hK
    obtain ⟨z, hz, hn⟩ := iter_some h
    refine ok_M_keepsPeople_l104 hd s.1 s.2 (fun z => nxt n (fun s => M_keepsPeople_l104 s.1 s.2) z y) ?_ ?_ hz hn
    · intro s2  h2
      exact ih s2 y h2 hK
    · intro x z1 h2
      have h3 : x = y := h2
      subst h3
      exact he0 x _ hK
theorem ok_M_keepsPeople {l : Launch} {d : Nat} (hd : 2 ≤ d) (μ : Mm) {μ' : Mm} (h : M_keepsPeople μ = some μ') : Wp l SM d (0, 0) mX11_keepsPeople 0 [some (.ref 0), none] [] μ (Qv SM μ') := by
  unfold M_keepsPeople at h
  refine wp_aload_n (x := 0) dX11_keepsPeople_0 rfl ?_
  refine wp_aload_n (x := 0) dX11_keepsPeople_1 rfl ?_
  refine wp_aload_n (x := 0) dX11_keepsPeople_2 rfl ?_
  refine wp_getI fl_X11_107 (by decide) rfl (kltM kRootM) kRootM dX11_keepsPeople_3 ?_
  obtain ⟨r2, μ1, g1, h⟩ := bnd2_some h
  refine wp_cVi (d := d - 1) (o := 0) cv_X11_427 (kltM kRootM) kRootM (as := [.int (μ.1 0 6)]) (rest := [.ref 0]) dX11_keepsPeople_6 (by omega) cloM rfl rfl (Nat.le_of_ble_eq_true rfl) (Nat.le_of_ble_eq_true rfl) (ok_M_kept (by omega) (μ.1 0 6) μ g1) ?_ rfl
  obtain ⟨μ3, e1, h⟩ := lt_some h
  refine wp_putIe e1 fl_X11_107 (by decide) rfl (kltM kRootM) kRootM dX11_keepsPeople_9 ?_
  refine wp_aload_n (x := 0) dX11_keepsPeople_12 rfl ?_
  refine wp_aload_n (x := 0) dX11_keepsPeople_13 rfl ?_
  refine wp_aload_n (x := 0) dX11_keepsPeople_14 rfl ?_
  refine wp_getI fl_X11_110 (by decide) rfl (kltM kRootM) kRootM dX11_keepsPeople_15 ?_
  obtain ⟨r5, μ4, g1, h⟩ := bnd2_some h
  refine wp_cVi (d := d - 1) (o := 0) cv_X11_427 (kltM kRootM) kRootM (as := [.int (μ3.1 0 10)]) (rest := [.ref 0]) dX11_keepsPeople_18 (by omega) cloM rfl rfl (Nat.le_of_ble_eq_true rfl) (Nat.le_of_ble_eq_true rfl) (ok_M_kept (by omega) (μ3.1 0 10) μ3 g1) ?_ rfl
  obtain ⟨μ6, e1, h⟩ := lt_some h
  refine wp_putIe e1 fl_X11_110 (by decide) rfl (kltM kRootM) kRootM dX11_keepsPeople_21 ?_
  refine wp_iconst (nI 0) dX11_keepsPeople_24 rfl ?_
  refine wp_istore_n (L2 := [some (.ref 0), some (.int (nI 0))]) dX11_keepsPeople_25 (by decide) rfl rfl ?_
  obtain ⟨x26, hi, h⟩ := bni_some h
  refine okl_M_keepsPeople_l26 hd  (fun z => z = x26) ?_ 1000000 ((nI 0), μ6) x26 hi rfl
  · intro y0 z1 e0
    have e0 : y0 = x26 := e0
    subst e0
    refine wp_iconst (nI 0) dX11_keepsPeople_102 rfl ?_
    refine wp_istore_n (L2 := [some (.ref 0), some (.int (nI 0))]) dX11_keepsPeople_103 (by decide) rfl rfl ?_
    obtain ⟨x104, hi, h⟩ := bni_some h
    refine okl_M_keepsPeople_l104 hd  (fun z => z = x104) ?_ 1000000 ((nI 0), y0) x104 hi rfl
    · intro y0 z1 e0
      have e0 : y0 = x104 := e0
      subst e0
      obtain rfl := ret1 h
      exact wp_vret rfl dX11_keepsPeople_133 ⟨rfl, rfl, rfl⟩
theorem ok_M_keepsNumbers_l62 {l : Launch} {d : Nat} (hd : 2 ≤ d) (v1 : Int32)  (μ : Mm) {Q : Option Value → Sh → Mm → Prop} (K : (Int32 × Mm) ⊕ Mm → Prop) (hb : ∀ (s : (Int32 × Mm)), K (Sum.inl s) → Wp l SM d (0, 0) mX11_keepsNumbers 62 [some (.ref 0), some (.int s.1)] [] s.2 Q) (he0 : ∀ (x : Mm) (z1 : Option Value), K (Sum.inr x) → Wp l SM d (0, 0) mX11_keepsNumbers 90 [some (.ref 0), z1] [] x Q) {z : (Int32 × Mm) ⊕ Mm} (h : M_keepsNumbers_l62 v1 μ = some z) (hz : K z) : Wp l SM d (0, 0) mX11_keepsNumbers 62 [some (.ref 0), some (.int v1)] [] μ Q := by
  unfold M_keepsNumbers_l62 at h
  refine wp_iload_n (x := v1) dX11_keepsNumbers_62 rfl ?_
  refine wp_bipush (nI 8) dX11_keepsNumbers_63 rfl ?_
  refine wp_icmp_ge 90 dX11_keepsNumbers_65 (by decide) (fun c1 => ?_) (fun c1 => ?_)
  · rw [if_pos c1] at h
    obtain rfl := some1 h
    exact he0 μ _ hz
  · rw [if_neg c1] at h
    refine wp_aload_n (x := 0) dX11_keepsNumbers_68 rfl ?_
    refine wp_getR 9 fl_X11_34 (by decide) rfl (kltM kRootM) kRootM (ly11_18 kRootM).1 dX11_keepsNumbers_69 ?_
    refine wp_iload_n (x := v1) dX11_keepsNumbers_72 rfl ?_
    refine wp_aload_n (x := 0) dX11_keepsNumbers_73 rfl ?_
    refine wp_aload_n (x := 0) dX11_keepsNumbers_74 rfl ?_
    refine wp_getR 9 fl_X11_34 (by decide) rfl (kltM kRootM) kRootM (ly11_18 kRootM).1 dX11_keepsNumbers_75 ?_
    refine wp_iload_n (x := v1) dX11_keepsNumbers_78 rfl ?_
    obtain ⟨c1, h⟩ := chv_some h
    refine wp_ialde (kltM (ly11_18 kRootM).2.1) (ly11_18 kRootM).2.1 (ly11_18 kRootM).2.2 c1 dX11_keepsNumbers_79 ?_
    obtain ⟨r17, μ16, g1, h⟩ := bnd2_some h
    refine wp_cVi (d := d - 1) (o := 0) cv_X11_427 (kltM kRootM) kRootM (as := [.int (μ.1 9 (ix v1))]) (rest := [.int v1, .ref 9]) dX11_keepsNumbers_80 (by omega) cloM rfl rfl (Nat.le_of_ble_eq_true rfl) (Nat.le_of_ble_eq_true rfl) (ok_M_kept (by omega) (μ.1 9 (ix v1)) μ g1) ?_ rfl
    obtain ⟨c1, h⟩ := chv_some h
    obtain ⟨μ18, e1, h⟩ := lt_some h
    refine wp_iaste e1 (kltM (ly11_18 kRootM).2.1) (ly11_18 kRootM).2.1 (ly11_18 kRootM).2.2 c1 dX11_keepsNumbers_83 ?_
    refine wp_iinc (x := v1) (k0 := (nI 1)) (L2 := [some (.ref 0), some (.int (v1 + (nI 1)))]) dX11_keepsNumbers_84 rfl rfl (by decide) rfl rfl ?_
    refine wp_goto 62 dX11_keepsNumbers_87 (by decide) ?_
    obtain rfl := some1 h
    exact hb ((v1 + (nI 1)), μ18) hz
theorem okl_M_keepsNumbers_l62 {l : Launch} {d : Nat} (hd : 2 ≤ d) {Q : Option Value → Sh → Mm → Prop} (K : Mm → Prop) (he0 : ∀ (x : Mm) (z1 : Option Value), K x → Wp l SM d (0, 0) mX11_keepsNumbers 90 [some (.ref 0), z1] [] x Q) : ∀ (n : Nat) (s : (Int32 × Mm)) (y : Mm) , iter n (fun s => M_keepsNumbers_l62 s.1 s.2) s = some y → K y → Wp l SM d (0, 0) mX11_keepsNumbers 62 [some (.ref 0), some (.int s.1)] [] s.2 Q := by
  intro n
  induction n with
  | zero => intro s y  h; cases h
  | succ n ih =>
    intro s y  h hK
    obtain ⟨z, hz, hn⟩ := iter_some h
    refine ok_M_keepsNumbers_l62 hd s.1 s.2 (fun z => nxt n (fun s => M_keepsNumbers_l62 s.1 s.2) z y) ?_ ?_ hz hn
    · intro s2  h2
      exact ih s2 y h2 hK
    · intro x z1 h2
      have h3 : x = y := h2
      subst h3
      exact he0 x _ hK
theorem ok_M_keepsNumbers_l104 {l : Launch} {d : Nat} (hd : 2 ≤ d) (v1 : Int32)  (μ : Mm) {Q : Option Value → Sh → Mm → Prop} (K : (Int32 × Mm) ⊕ Mm → Prop) (hb : ∀ (s : (Int32 × Mm)), K (Sum.inl s) → Wp l SM d (0, 0) mX11_keepsNumbers 104 [some (.ref 0), some (.int s.1)] [] s.2 Q) (he0 : ∀ (x : Mm) (z1 : Option Value), K (Sum.inr x) → Wp l SM d (0, 0) mX11_keepsNumbers 132 [some (.ref 0), z1] [] x Q) {z : (Int32 × Mm) ⊕ Mm} (h : M_keepsNumbers_l104 v1 μ = some z) (hz : K z) : Wp l SM d (0, 0) mX11_keepsNumbers 104 [some (.ref 0), some (.int v1)] [] μ Q := by
  unfold M_keepsNumbers_l104 at h
  refine wp_iload_n (x := v1) dX11_keepsNumbers_104 rfl ?_
  refine wp_bipush (nI 36) dX11_keepsNumbers_105 rfl ?_
  refine wp_icmp_ge 132 dX11_keepsNumbers_107 (by decide) (fun c1 => ?_) (fun c1 => ?_)
  · rw [if_pos c1] at h
    obtain rfl := some1 h
    exact he0 μ _ hz
  · rw [if_neg c1] at h
    refine wp_aload_n (x := 0) dX11_keepsNumbers_110 rfl ?_
    refine wp_getR 20 fl_X11_71 (by decide) rfl (kltM kRootM) kRootM (ly11_42 kRootM).1 dX11_keepsNumbers_111 ?_
    refine wp_iload_n (x := v1) dX11_keepsNumbers_114 rfl ?_
    refine wp_aload_n (x := 0) dX11_keepsNumbers_115 rfl ?_
    refine wp_aload_n (x := 0) dX11_keepsNumbers_116 rfl ?_
    refine wp_getR 20 fl_X11_71 (by decide) rfl (kltM kRootM) kRootM (ly11_42 kRootM).1 dX11_keepsNumbers_117 ?_
    refine wp_iload_n (x := v1) dX11_keepsNumbers_120 rfl ?_
    obtain ⟨c1, h⟩ := chv_some h
    refine wp_ialde (kltM (ly11_42 kRootM).2.1) (ly11_42 kRootM).2.1 (ly11_42 kRootM).2.2 c1 dX11_keepsNumbers_121 ?_
    obtain ⟨r23, μ22, g1, h⟩ := bnd2_some h
    refine wp_cVi (d := d - 1) (o := 0) cv_X11_427 (kltM kRootM) kRootM (as := [.int (μ.1 20 (ix v1))]) (rest := [.int v1, .ref 20]) dX11_keepsNumbers_122 (by omega) cloM rfl rfl (Nat.le_of_ble_eq_true rfl) (Nat.le_of_ble_eq_true rfl) (ok_M_kept (by omega) (μ.1 20 (ix v1)) μ g1) ?_ rfl
    obtain ⟨c1, h⟩ := chv_some h
    obtain ⟨μ24, e1, h⟩ := lt_some h
    refine wp_iaste e1 (kltM (ly11_42 kRootM).2.1) (ly11_42 kRootM).2.1 (ly11_42 kRootM).2.2 c1 dX11_keepsNumbers_125 ?_
    refine wp_iinc (x := v1) (k0 := (nI 1)) (L2 := [some (.ref 0), some (.int (v1 + (nI 1)))]) dX11_keepsNumbers_126 rfl rfl (by decide) rfl rfl ?_
    refine wp_goto 104 dX11_keepsNumbers_129 (by decide) ?_
    obtain rfl := some1 h
    exact hb ((v1 + (nI 1)), μ24) hz
theorem okl_M_keepsNumbers_l104 {l : Launch} {d : Nat} (hd : 2 ≤ d) {Q : Option Value → Sh → Mm → Prop} (K : Mm → Prop) (he0 : ∀ (x : Mm) (z1 : Option Value), K x → Wp l SM d (0, 0) mX11_keepsNumbers 132 [some (.ref 0), z1] [] x Q) : ∀ (n : Nat) (s : (Int32 × Mm)) (y : Mm) , iter n (fun s => M_keepsNumbers_l104 s.1 s.2) s = some y → K y → Wp l SM d (0, 0) mX11_keepsNumbers 104 [some (.ref 0), some (.int s.1)] [] s.2 Q := by
  intro n
  induction n with
  | zero => intro s y  h; cases h
  | succ n ih =>
    intro s y  h hK
    obtain ⟨z, hz, hn⟩ := iter_some h
    refine ok_M_keepsNumbers_l104 hd s.1 s.2 (fun z => nxt n (fun s => M_keepsNumbers_l104 s.1 s.2) z y) ?_ ?_ hz hn
    · intro s2  h2
      exact ih s2 y h2 hK
    · intro x z1 h2
      have h3 : x = y := h2
      subst h3
      exact he0 x _ hK
theorem ok_M_keepsNumbers {l : Launch} {d : Nat} (hd : 2 ≤ d) (μ : Mm) {μ' : Mm} (h : M_keepsNumbers μ = some μ') : Wp l SM d (0, 0) mX11_keepsNumbers 0 [some (.ref 0), none] [] μ (Qv SM μ') := by
  unfold M_keepsNumbers at h
  refine wp_aload_n (x := 0) dX11_keepsNumbers_0 rfl ?_
  refine wp_aload_n (x := 0) dX11_keepsNumbers_1 rfl ?_
  refine wp_aload_n (x := 0) dX11_keepsNumbers_2 rfl ?_
  refine wp_getI fl_X11_128 (by decide) rfl (kltM kRootM) kRootM dX11_keepsNumbers_3 ?_
  obtain ⟨r2, μ1, g1, h⟩ := bnd2_some h
  refine wp_cVi (d := d - 1) (o := 0) cv_X11_427 (kltM kRootM) kRootM (as := [.int (μ.1 0 13)]) (rest := [.ref 0]) dX11_keepsNumbers_6 (by omega) cloM rfl rfl (Nat.le_of_ble_eq_true rfl) (Nat.le_of_ble_eq_true rfl) (ok_M_kept (by omega) (μ.1 0 13) μ g1) ?_ rfl
  obtain ⟨μ3, e1, h⟩ := lt_some h
  refine wp_putIe e1 fl_X11_128 (by decide) rfl (kltM kRootM) kRootM dX11_keepsNumbers_9 ?_
  refine wp_aload_n (x := 0) dX11_keepsNumbers_12 rfl ?_
  refine wp_aload_n (x := 0) dX11_keepsNumbers_13 rfl ?_
  refine wp_aload_n (x := 0) dX11_keepsNumbers_14 rfl ?_
  refine wp_getI fl_X11_131 (by decide) rfl (kltM kRootM) kRootM dX11_keepsNumbers_15 ?_
  obtain ⟨r5, μ4, g1, h⟩ := bnd2_some h
  refine wp_cVi (d := d - 1) (o := 0) cv_X11_427 (kltM kRootM) kRootM (as := [.int (μ3.1 0 14)]) (rest := [.ref 0]) dX11_keepsNumbers_18 (by omega) cloM rfl rfl (Nat.le_of_ble_eq_true rfl) (Nat.le_of_ble_eq_true rfl) (ok_M_kept (by omega) (μ3.1 0 14) μ3 g1) ?_ rfl
  obtain ⟨μ6, e1, h⟩ := lt_some h
  refine wp_putIe e1 fl_X11_131 (by decide) rfl (kltM kRootM) kRootM dX11_keepsNumbers_21 ?_
  refine wp_aload_n (x := 0) dX11_keepsNumbers_24 rfl ?_
  refine wp_aload_n (x := 0) dX11_keepsNumbers_25 rfl ?_
  refine wp_aload_n (x := 0) dX11_keepsNumbers_26 rfl ?_
  refine wp_getI fl_X11_134 (by decide) rfl (kltM kRootM) kRootM dX11_keepsNumbers_27 ?_
  obtain ⟨r8, μ7, g1, h⟩ := bnd2_some h
  refine wp_cVi (d := d - 1) (o := 0) cv_X11_427 (kltM kRootM) kRootM (as := [.int (μ6.1 0 15)]) (rest := [.ref 0]) dX11_keepsNumbers_30 (by omega) cloM rfl rfl (Nat.le_of_ble_eq_true rfl) (Nat.le_of_ble_eq_true rfl) (ok_M_kept (by omega) (μ6.1 0 15) μ6 g1) ?_ rfl
  obtain ⟨μ9, e1, h⟩ := lt_some h
  refine wp_putIe e1 fl_X11_134 (by decide) rfl (kltM kRootM) kRootM dX11_keepsNumbers_33 ?_
  refine wp_aload_n (x := 0) dX11_keepsNumbers_36 rfl ?_
  refine wp_aload_n (x := 0) dX11_keepsNumbers_37 rfl ?_
  refine wp_aload_n (x := 0) dX11_keepsNumbers_38 rfl ?_
  refine wp_getI fl_X11_137 (by decide) rfl (kltM kRootM) kRootM dX11_keepsNumbers_39 ?_
  obtain ⟨r11, μ10, g1, h⟩ := bnd2_some h
  refine wp_cVi (d := d - 1) (o := 0) cv_X11_427 (kltM kRootM) kRootM (as := [.int (μ9.1 0 16)]) (rest := [.ref 0]) dX11_keepsNumbers_42 (by omega) cloM rfl rfl (Nat.le_of_ble_eq_true rfl) (Nat.le_of_ble_eq_true rfl) (ok_M_kept (by omega) (μ9.1 0 16) μ9 g1) ?_ rfl
  obtain ⟨μ12, e1, h⟩ := lt_some h
  refine wp_putIe e1 fl_X11_137 (by decide) rfl (kltM kRootM) kRootM dX11_keepsNumbers_45 ?_
  refine wp_aload_n (x := 0) dX11_keepsNumbers_48 rfl ?_
  refine wp_aload_n (x := 0) dX11_keepsNumbers_49 rfl ?_
  refine wp_aload_n (x := 0) dX11_keepsNumbers_50 rfl ?_
  refine wp_getI fl_X11_95 (by decide) rfl (kltM kRootM) kRootM dX11_keepsNumbers_51 ?_
  obtain ⟨r14, μ13, g1, h⟩ := bnd2_some h
  refine wp_cVi (d := d - 1) (o := 0) cv_X11_427 (kltM kRootM) kRootM (as := [.int (μ12.1 0 17)]) (rest := [.ref 0]) dX11_keepsNumbers_54 (by omega) cloM rfl rfl (Nat.le_of_ble_eq_true rfl) (Nat.le_of_ble_eq_true rfl) (ok_M_kept (by omega) (μ12.1 0 17) μ12 g1) ?_ rfl
  obtain ⟨μ15, e1, h⟩ := lt_some h
  refine wp_putIe e1 fl_X11_95 (by decide) rfl (kltM kRootM) kRootM dX11_keepsNumbers_57 ?_
  refine wp_iconst (nI 0) dX11_keepsNumbers_60 rfl ?_
  refine wp_istore_n (L2 := [some (.ref 0), some (.int (nI 0))]) dX11_keepsNumbers_61 (by decide) rfl rfl ?_
  obtain ⟨x62, hi, h⟩ := bni_some h
  refine okl_M_keepsNumbers_l62 hd  (fun z => z = x62) ?_ 1000000 ((nI 0), μ15) x62 hi rfl
  · intro y0 z1 e0
    have e0 : y0 = x62 := e0
    subst e0
    refine wp_aload_n (x := 0) dX11_keepsNumbers_90 rfl ?_
    refine wp_aload_n (x := 0) dX11_keepsNumbers_91 rfl ?_
    refine wp_aload_n (x := 0) dX11_keepsNumbers_92 rfl ?_
    refine wp_getI fl_X11_271 (by decide) rfl (kltM kRootM) kRootM dX11_keepsNumbers_93 ?_
    obtain ⟨r20, μ19, g1, h⟩ := bnd2_some h
    refine wp_cVi (d := d - 1) (o := 0) cv_X11_427 (kltM kRootM) kRootM (as := [.int (y0.1 0 43)]) (rest := [.ref 0]) dX11_keepsNumbers_96 (by omega) cloM rfl rfl (Nat.le_of_ble_eq_true rfl) (Nat.le_of_ble_eq_true rfl) (ok_M_kept (by omega) (y0.1 0 43) y0 g1) ?_ rfl
    obtain ⟨μ21, e1, h⟩ := lt_some h
    refine wp_putIe e1 fl_X11_271 (by decide) rfl (kltM kRootM) kRootM dX11_keepsNumbers_99 ?_
    refine wp_iconst (nI 0) dX11_keepsNumbers_102 rfl ?_
    refine wp_istore_n (L2 := [some (.ref 0), some (.int (nI 0))]) dX11_keepsNumbers_103 (by decide) rfl rfl ?_
    obtain ⟨x104, hi, h⟩ := bni_some h
    refine okl_M_keepsNumbers_l104 hd  (fun z => z = x104) ?_ 1000000 ((nI 0), μ21) x104 hi rfl
    · intro y0 z1 e0
      have e0 : y0 = x104 := e0
      subst e0
      obtain rfl := ret1 h
      exact wp_vret rfl dX11_keepsNumbers_132 ⟨rfl, rfl, rfl⟩
theorem ok_M_image_l35 {l : Launch} {d : Nat} (hd : 3 ≤ d) (v1 : Int32)  (v2 : Int32)  (μ : Mm) {Q : Option Value → Sh → Mm → Prop} (K : (Int32 × Mm) ⊕ Mm → Prop) (hb : ∀ (s : (Int32 × Mm)), K (Sum.inl s) → Wp l SM d (0, 0) mX11_image 35 [some (.ref 0), some (.int v1), some (.int s.1)] [] s.2 Q) (he0 : ∀ (x : Mm) (z2 : Option Value), K (Sum.inr x) → Wp l SM d (0, 0) mX11_image 64 [some (.ref 0), some (.int v1), z2] [] x Q) {z : (Int32 × Mm) ⊕ Mm} (h : M_image_l35 v1 v2 μ = some z) (hz : K z) : Wp l SM d (0, 0) mX11_image 35 [some (.ref 0), some (.int v1), some (.int v2)] [] μ Q := by
  unfold M_image_l35 at h
  refine wp_iload_n (x := v2) dX11_image_35 rfl ?_
  refine wp_sipush (nI 712) dX11_image_36 rfl ?_
  refine wp_icmp_ge 64 dX11_image_39 (by decide) (fun c1 => ?_) (fun c1 => ?_)
  · rw [if_pos c1] at h
    obtain rfl := some1 h
    exact he0 μ _ hz
  · rw [if_neg c1] at h
    refine wp_aload_n (x := 0) dX11_image_42 rfl ?_
    refine wp_getR 1 fl_X11_7 (by decide) rfl (kltM kRootM) kRootM (ly11_1 kRootM).1 dX11_image_43 ?_
    refine wp_iload_n (x := v2) dX11_image_46 rfl ?_
    refine wp_aload_n (x := 0) dX11_image_47 rfl ?_
    refine wp_aload_n (x := 0) dX11_image_48 rfl ?_
    refine wp_getR 1 fl_X11_7 (by decide) rfl (kltM kRootM) kRootM (ly11_1 kRootM).1 dX11_image_49 ?_
    refine wp_iload_n (x := v2) dX11_image_52 rfl ?_
    obtain ⟨c1, h⟩ := chv_some h
    refine wp_ialde (kltM (ly11_1 kRootM).2.1) (ly11_1 kRootM).2.1 (ly11_1 kRootM).2.2 c1 dX11_image_53 ?_
    obtain ⟨r6, μ5, g1, h⟩ := bnd2_some h
    refine wp_cVi (d := d - 1) (o := 0) cv_X11_427 (kltM kRootM) kRootM (as := [.int (μ.1 1 (ix v2))]) (rest := [.int v2, .ref 1]) dX11_image_54 (by omega) cloM rfl rfl (Nat.le_of_ble_eq_true rfl) (Nat.le_of_ble_eq_true rfl) (ok_M_kept (by omega) (μ.1 1 (ix v2)) μ g1) ?_ rfl
    obtain ⟨c1, h⟩ := chv_some h
    obtain ⟨μ7, e1, h⟩ := lt_some h
    refine wp_iaste e1 (kltM (ly11_1 kRootM).2.1) (ly11_1 kRootM).2.1 (ly11_1 kRootM).2.2 c1 dX11_image_57 ?_
    refine wp_iinc (x := v2) (k0 := (nI 1)) (L2 := [some (.ref 0), some (.int v1), some (.int (v2 + (nI 1)))]) dX11_image_58 rfl rfl (by decide) rfl rfl ?_
    refine wp_goto 35 dX11_image_61 (by decide) ?_
    obtain rfl := some1 h
    exact hb ((v2 + (nI 1)), μ7) hz
theorem okl_M_image_l35 {l : Launch} {d : Nat} (hd : 3 ≤ d) (v1 : Int32)  {Q : Option Value → Sh → Mm → Prop} (K : Mm → Prop) (he0 : ∀ (x : Mm) (z2 : Option Value), K x → Wp l SM d (0, 0) mX11_image 64 [some (.ref 0), some (.int v1), z2] [] x Q) : ∀ (n : Nat) (s : (Int32 × Mm)) (y : Mm) , iter n (fun s => M_image_l35 v1 s.1 s.2) s = some y → K y → Wp l SM d (0, 0) mX11_image 35 [some (.ref 0), some (.int v1), some (.int s.1)] [] s.2 Q := by
  intro n
  induction n with
  | zero => intro s y  h; cases h
  | succ n ih =>
    intro s y  h hK
    obtain ⟨z, hz, hn⟩ := iter_some h
    refine ok_M_image_l35 hd v1 s.1 s.2 (fun z => nxt n (fun s => M_image_l35 v1 s.1 s.2) z y) ?_ ?_ hz hn
    · intro s2  h2
      exact ih s2 y h2 hK
    · intro x z2 h2
      have h3 : x = y := h2
      subst h3
      exact he0 x _ hK
theorem ok_M_image_l74 {l : Launch} {d : Nat} (hd : 3 ≤ d) (v1 : Int32)  (v2 : Int32)  (μ : Mm) {Q : Option Value → Sh → Mm → Prop} (K : (Int32 × Mm) ⊕ Mm → Prop) (hb : ∀ (s : (Int32 × Mm)), K (Sum.inl s) → Wp l SM d (0, 0) mX11_image 74 [some (.ref 0), some (.int v1), some (.int s.1)] [] s.2 Q) (he0 : ∀ (x : Mm) (z2 : Option Value), K (Sum.inr x) → Wp l SM d (0, 0) mX11_image 103 [some (.ref 0), some (.int v1), z2] [] x Q) {z : (Int32 × Mm) ⊕ Mm} (h : M_image_l74 v1 v2 μ = some z) (hz : K z) : Wp l SM d (0, 0) mX11_image 74 [some (.ref 0), some (.int v1), some (.int v2)] [] μ Q := by
  unfold M_image_l74 at h
  refine wp_iload_n (x := v2) dX11_image_74 rfl ?_
  refine wp_sipush (nI 1000) dX11_image_75 rfl ?_
  refine wp_icmp_ge 103 dX11_image_78 (by decide) (fun c1 => ?_) (fun c1 => ?_)
  · rw [if_pos c1] at h
    obtain rfl := some1 h
    exact he0 μ _ hz
  · rw [if_neg c1] at h
    refine wp_aload_n (x := 0) dX11_image_81 rfl ?_
    refine wp_getR 10 fl_X11_37 (by decide) rfl (kltM kRootM) kRootM (ly11_19 kRootM).1 dX11_image_82 ?_
    refine wp_iload_n (x := v2) dX11_image_85 rfl ?_
    refine wp_aload_n (x := 0) dX11_image_86 rfl ?_
    refine wp_aload_n (x := 0) dX11_image_87 rfl ?_
    refine wp_getR 10 fl_X11_37 (by decide) rfl (kltM kRootM) kRootM (ly11_19 kRootM).1 dX11_image_88 ?_
    refine wp_iload_n (x := v2) dX11_image_91 rfl ?_
    obtain ⟨c1, h⟩ := chv_some h
    refine wp_ialde (kltM (ly11_19 kRootM).2.1) (ly11_19 kRootM).2.1 (ly11_19 kRootM).2.2 c1 dX11_image_92 ?_
    obtain ⟨r11, μ10, g1, h⟩ := bnd2_some h
    refine wp_cVi (d := d - 1) (o := 0) cv_X11_427 (kltM kRootM) kRootM (as := [.int (μ.1 10 (ix v2))]) (rest := [.int v2, .ref 10]) dX11_image_93 (by omega) cloM rfl rfl (Nat.le_of_ble_eq_true rfl) (Nat.le_of_ble_eq_true rfl) (ok_M_kept (by omega) (μ.1 10 (ix v2)) μ g1) ?_ rfl
    obtain ⟨c1, h⟩ := chv_some h
    obtain ⟨μ12, e1, h⟩ := lt_some h
    refine wp_iaste e1 (kltM (ly11_19 kRootM).2.1) (ly11_19 kRootM).2.1 (ly11_19 kRootM).2.2 c1 dX11_image_96 ?_
    refine wp_iinc (x := v2) (k0 := (nI 1)) (L2 := [some (.ref 0), some (.int v1), some (.int (v2 + (nI 1)))]) dX11_image_97 rfl rfl (by decide) rfl rfl ?_
    refine wp_goto 74 dX11_image_100 (by decide) ?_
    obtain rfl := some1 h
    exact hb ((v2 + (nI 1)), μ12) hz
theorem okl_M_image_l74 {l : Launch} {d : Nat} (hd : 3 ≤ d) (v1 : Int32)  {Q : Option Value → Sh → Mm → Prop} (K : Mm → Prop) (he0 : ∀ (x : Mm) (z2 : Option Value), K x → Wp l SM d (0, 0) mX11_image 103 [some (.ref 0), some (.int v1), z2] [] x Q) : ∀ (n : Nat) (s : (Int32 × Mm)) (y : Mm) , iter n (fun s => M_image_l74 v1 s.1 s.2) s = some y → K y → Wp l SM d (0, 0) mX11_image 74 [some (.ref 0), some (.int v1), some (.int s.1)] [] s.2 Q := by
  intro n
  induction n with
  | zero => intro s y  h; cases h
  | succ n ih =>
    intro s y  h hK
    obtain ⟨z, hz, hn⟩ := iter_some h
    refine ok_M_image_l74 hd v1 s.1 s.2 (fun z => nxt n (fun s => M_image_l74 v1 s.1 s.2) z y) ?_ ?_ hz hn
    · intro s2  h2
      exact ih s2 y h2 hK
    · intro x z2 h2
      have h3 : x = y := h2
      subst h3
      exact he0 x _ hK
theorem ok_M_image_j18 {l : Launch} {d : Nat} (hd : 3 ≤ d) (v1 : Int32)  (μ : Mm) (z2 : Option Value) {r : Int32} {μ' : Mm} (h : M_image_j18 v1 μ = some (r, μ')) : Wp l SM d (0, 0) mX11_image 18 [some (.ref 0), some (.int v1), z2] [] μ (Qi SM r μ') := by
  unfold M_image_j18 at h
  refine wp_aload_n (x := 0) dX11_image_18 rfl ?_
  refine wp_iload_n (x := v1) dX11_image_19 rfl ?_
  obtain ⟨c1, h⟩ := chk_some h
  obtain ⟨μ2, e1, h⟩ := lt_some h
  refine wp_putZe e1 fl_X11_424 (by decide) rfl (kltM kRootM) kRootM c1 dX11_image_20 ?_
  refine wp_aload_n (x := 0) dX11_image_23 rfl ?_
  refine wp_iconst (nI 1) dX11_image_24 rfl ?_
  obtain ⟨μ3, e1, h⟩ := lt_some h
  refine wp_putZe e1 fl_X11_430 (by decide) rfl (kltM kRootM) kRootM (Or.inr rfl) dX11_image_25 ?_
  refine wp_aload_n (x := 0) dX11_image_28 rfl ?_
  refine wp_iconst (nI 0) dX11_image_29 rfl ?_
  obtain ⟨μ4, e1, h⟩ := lt_some h
  refine wp_putIe e1 fl_X11_421 (by decide) rfl (kltM kRootM) kRootM dX11_image_30 ?_
  refine wp_iconst (nI 0) dX11_image_33 rfl ?_
  refine wp_istore_n (L2 := [some (.ref 0), some (.int v1), some (.int (nI 0))]) dX11_image_34 (by decide) rfl rfl ?_
  obtain ⟨x35, hi, h⟩ := bni_some h
  refine okl_M_image_l35 hd v1 (fun z => z = x35) ?_ 1000000 ((nI 0), μ4) x35 hi rfl
  · intro y0 z2 e0
    have e0 : y0 = x35 := e0
    subst e0
    refine wp_aload_n (x := 0) dX11_image_64 rfl ?_
    obtain ⟨μ8, g1, h⟩ := bnd_some h
    refine wp_cVv (d := d - 1) (o := 0) cv_X11_433 (kltM kRootM) kRootM (as := []) (rest := []) dX11_image_65 (by omega) cloM rfl rfl (Nat.le_of_ble_eq_true rfl) (Nat.le_of_ble_eq_true rfl) (ok_M_keepsPeople (by omega) y0 g1) ?_ rfl
    refine wp_aload_n (x := 0) dX11_image_68 rfl ?_
    obtain ⟨μ9, g1, h⟩ := bnd_some h
    refine wp_cVv (d := d - 1) (o := 0) cv_X11_436 (kltM kRootM) kRootM (as := []) (rest := []) dX11_image_69 (by omega) cloM rfl rfl (Nat.le_of_ble_eq_true rfl) (Nat.le_of_ble_eq_true rfl) (ok_M_keepsNumbers (by omega) μ8 g1) ?_ rfl
    refine wp_iconst (nI 0) dX11_image_72 rfl ?_
    refine wp_istore_n (L2 := [some (.ref 0), some (.int v1), some (.int (nI 0))]) dX11_image_73 (by decide) rfl rfl ?_
    obtain ⟨x74, hi, h⟩ := bni_some h
    refine okl_M_image_l74 hd v1 (fun z => z = x74) ?_ 1000000 ((nI 0), μ9) x74 hi rfl
    · intro y0 z2 e0
      have e0 : y0 = x74 := e0
      subst e0
      refine wp_aload_n (x := 0) dX11_image_103 rfl ?_
      refine wp_iconst (nI 0) dX11_image_104 rfl ?_
      obtain ⟨μ13, g1, h⟩ := bnd_some h
      refine wp_cVv (d := d - 1) (o := 0) cv_X11_439 (kltM kRootM) kRootM (as := [.int (nI 0)]) (rest := []) dX11_image_105 (by omega) cloM rfl rfl (Nat.le_of_ble_eq_true rfl) (Nat.le_of_ble_eq_true rfl) (ok_M_keepsLaw (by omega) (nI 0) y0 g1) ?_ rfl
      refine wp_aload_n (x := 0) dX11_image_108 rfl ?_
      refine wp_iconst (nI 1) dX11_image_109 rfl ?_
      obtain ⟨μ14, g1, h⟩ := bnd_some h
      refine wp_cVv (d := d - 1) (o := 0) cv_X11_439 (kltM kRootM) kRootM (as := [.int (nI 1)]) (rest := []) dX11_image_110 (by omega) cloM rfl rfl (Nat.le_of_ble_eq_true rfl) (Nat.le_of_ble_eq_true rfl) (ok_M_keepsLaw (by omega) (nI 1) μ13 g1) ?_ rfl
      refine wp_iload_n (x := v1) dX11_image_113 rfl ?_
      refine wp_if_ne 122 dX11_image_114 (by decide) (fun c1 => ?_) (fun c1 => ?_)
      · rw [if_neg c1] at h
        refine wp_iconst (nI 1) dX11_image_122 rfl ?_
        obtain ⟨rfl, rfl⟩ := ret2 h
        exact wp_zret rfl (Or.inr rfl) dX11_image_123 ⟨rfl, rfl, rfl⟩
      · rw [if_pos c1] at h
        refine wp_aload_n (x := 0) dX11_image_117 rfl ?_
        refine wp_iconst (nI 0) dX11_image_118 rfl ?_
        obtain ⟨μ15, e1, h⟩ := lt_some h
        refine wp_putIe e1 fl_X11_89 (by decide) rfl (kltM kRootM) kRootM dX11_image_119 ?_
        refine wp_iconst (nI 1) dX11_image_122 rfl ?_
        obtain ⟨rfl, rfl⟩ := ret2 h
        exact wp_zret rfl (Or.inr rfl) dX11_image_123 ⟨rfl, rfl, rfl⟩
theorem ok_M_image {l : Launch} {d : Nat} (hd : 3 ≤ d) (v1 : Int32)  (μ : Mm) {r : Int32} {μ' : Mm} (h : M_image v1 μ = some (r, μ')) : Wp l SM d (0, 0) mX11_image 0 [some (.ref 0), some (.int v1), none] [] μ (Qi SM r μ') := by
  unfold M_image at h
  refine wp_aload_n (x := 0) dX11_image_0 rfl ?_
  refine wp_iconst (nI 0) dX11_image_1 rfl ?_
  obtain ⟨μ1, e1, h⟩ := lt_some h
  refine wp_putIe e1 fl_X11_86 (by decide) rfl (kltM kRootM) kRootM dX11_image_2 ?_
  refine wp_iload_n (x := v1) dX11_image_5 rfl ?_
  refine wp_if_ne 18 dX11_image_6 (by decide) (fun c1 => ?_) (fun c1 => ?_)
  · rw [if_neg c1] at h
    exact ok_M_image_j18 hd v1 μ1 _ h
  · rw [if_pos c1] at h
    refine wp_aload_n (x := 0) dX11_image_9 rfl ?_
    refine wp_getI fl_X11_430 (by decide) rfl (kltM kRootM) kRootM dX11_image_10 ?_
    refine wp_if_ne 18 dX11_image_13 (by decide) (fun c1 => ?_) (fun c1 => ?_)
    · rw [if_neg c1] at h
      exact ok_M_image_j18 hd v1 μ1 _ h
    · rw [if_pos c1] at h
      refine wp_iconst (nI 0) dX11_image_16 rfl ?_
      obtain ⟨rfl, rfl⟩ := ret2 h
      exact wp_zret rfl (Or.inl rfl) dX11_image_17 ⟨rfl, rfl, rfl⟩
theorem ok_M_look {l : Launch} {d : Nat} (hd : 2 ≤ d) (v1 : Int32)  (μ : Mm) {r : Int32} {μ' : Mm} (h : M_look v1 μ = some (r, μ')) : Wp l SM d (0, 0) mX11_look 0 [some (.ref 0), some (.int v1)] [] μ (Qi SM r μ') := by
  unfold M_look at h
  refine wp_aload_n (x := 0) dX11_look_0 rfl ?_
  refine wp_iconst (nI 0) dX11_look_1 rfl ?_
  obtain ⟨μ1, e1, h⟩ := lt_some h
  refine wp_putIe e1 fl_X11_86 (by decide) rfl (kltM kRootM) kRootM dX11_look_2 ?_
  refine wp_iload_n (x := v1) dX11_look_5 rfl ?_
  refine wp_if_ne 14 dX11_look_6 (by decide) (fun c1 => ?_) (fun c1 => ?_)
  · rw [if_neg c1] at h
    refine wp_iload_n (x := v1) dX11_look_14 rfl ?_
    refine wp_iconst (nI 1) dX11_look_15 rfl ?_
    refine wp_icmp_ne 27 dX11_look_16 (by decide) (fun c1 => ?_) (fun c1 => ?_)
    · rw [if_neg c1] at h
      refine wp_iload_n (x := v1) dX11_look_27 rfl ?_
      refine wp_iconst (nI 2) dX11_look_28 rfl ?_
      refine wp_icmp_ne 39 dX11_look_29 (by decide) (fun c1 => ?_) (fun c1 => ?_)
      · rw [if_neg c1] at h
        refine wp_iload_n (x := v1) dX11_look_39 rfl ?_
        refine wp_iconst (nI 3) dX11_look_40 rfl ?_
        refine wp_icmp_ne 53 dX11_look_41 (by decide) (fun c1 => ?_) (fun c1 => ?_)
        · rw [if_neg c1] at h
          refine wp_iload_n (x := v1) dX11_look_53 rfl ?_
          refine wp_iconst (nI 4) dX11_look_54 rfl ?_
          refine wp_icmp_ne 64 dX11_look_55 (by decide) (fun c1 => ?_) (fun c1 => ?_)
          · rw [if_neg c1] at h
            refine wp_iload_n (x := v1) dX11_look_64 rfl ?_
            refine wp_iconst (nI 5) dX11_look_65 rfl ?_
            refine wp_icmp_ne 76 dX11_look_66 (by decide) (fun c1 => ?_) (fun c1 => ?_)
            · rw [if_neg c1] at h
              refine wp_iload_n (x := v1) dX11_look_76 rfl ?_
              refine wp_bipush (nI 6) dX11_look_77 rfl ?_
              refine wp_icmp_ne 89 dX11_look_79 (by decide) (fun c1 => ?_) (fun c1 => ?_)
              · rw [if_neg c1] at h
                refine wp_iload_n (x := v1) dX11_look_89 rfl ?_
                refine wp_bipush (nI 7) dX11_look_90 rfl ?_
                refine wp_icmp_ne 102 dX11_look_92 (by decide) (fun c1 => ?_) (fun c1 => ?_)
                · rw [if_neg c1] at h
                  refine wp_iload_n (x := v1) dX11_look_102 rfl ?_
                  refine wp_bipush (nI 8) dX11_look_103 rfl ?_
                  refine wp_icmp_ne 115 dX11_look_105 (by decide) (fun c1 => ?_) (fun c1 => ?_)
                  · rw [if_neg c1] at h
                    refine wp_iload_n (x := v1) dX11_look_115 rfl ?_
                    refine wp_bipush (nI 9) dX11_look_116 rfl ?_
                    refine wp_icmp_ne 128 dX11_look_118 (by decide) (fun c1 => ?_) (fun c1 => ?_)
                    · rw [if_neg c1] at h
                      refine wp_iload_n (x := v1) dX11_look_128 rfl ?_
                      refine wp_bipush (nI 10) dX11_look_129 rfl ?_
                      refine wp_icmp_ne 141 dX11_look_131 (by decide) (fun c1 => ?_) (fun c1 => ?_)
                      · rw [if_neg c1] at h
                        refine wp_iload_n (x := v1) dX11_look_141 rfl ?_
                        refine wp_bipush (nI 11) dX11_look_142 rfl ?_
                        refine wp_icmp_ne 154 dX11_look_144 (by decide) (fun c1 => ?_) (fun c1 => ?_)
                        · rw [if_neg c1] at h
                          refine wp_iload_n (x := v1) dX11_look_154 rfl ?_
                          refine wp_bipush (nI 12) dX11_look_155 rfl ?_
                          refine wp_icmp_ne 165 dX11_look_157 (by decide) (fun c1 => ?_) (fun c1 => ?_)
                          · rw [if_neg c1] at h
                            refine wp_iload_n (x := v1) dX11_look_165 rfl ?_
                            refine wp_bipush (nI 13) dX11_look_166 rfl ?_
                            refine wp_icmp_ne 176 dX11_look_168 (by decide) (fun c1 => ?_) (fun c1 => ?_)
                            · rw [if_neg c1] at h
                              refine wp_iload_n (x := v1) dX11_look_176 rfl ?_
                              refine wp_bipush (nI 14) dX11_look_177 rfl ?_
                              refine wp_icmp_ne 187 dX11_look_179 (by decide) (fun c1 => ?_) (fun c1 => ?_)
                              · rw [if_neg c1] at h
                                refine wp_iload_n (x := v1) dX11_look_187 rfl ?_
                                refine wp_bipush (nI 20) dX11_look_188 rfl ?_
                                refine wp_icmp_ne 201 dX11_look_190 (by decide) (fun c1 => ?_) (fun c1 => ?_)
                                · rw [if_neg c1] at h
                                  refine wp_iload_n (x := v1) dX11_look_201 rfl ?_
                                  refine wp_bipush (nI 21) dX11_look_202 rfl ?_
                                  refine wp_icmp_ne 215 dX11_look_204 (by decide) (fun c1 => ?_) (fun c1 => ?_)
                                  · rw [if_neg c1] at h
                                    refine wp_iload_n (x := v1) dX11_look_215 rfl ?_
                                    refine wp_bipush (nI 22) dX11_look_216 rfl ?_
                                    refine wp_icmp_ne 228 dX11_look_218 (by decide) (fun c1 => ?_) (fun c1 => ?_)
                                    · rw [if_neg c1] at h
                                      refine wp_iload_n (x := v1) dX11_look_228 rfl ?_
                                      refine wp_bipush (nI 23) dX11_look_229 rfl ?_
                                      refine wp_icmp_ne 241 dX11_look_231 (by decide) (fun c1 => ?_) (fun c1 => ?_)
                                      · rw [if_neg c1] at h
                                        refine wp_iconst (-1) dX11_look_241 rfl ?_
                                        obtain ⟨rfl, rfl⟩ := ret2 h
                                        exact wp_iret rfl dX11_look_242 ⟨rfl, rfl, rfl⟩
                                      · rw [if_pos c1] at h
                                        refine wp_aload_n (x := 0) dX11_look_234 rfl ?_
                                        refine wp_getI fl_X11_137 (by decide) rfl (kltM kRootM) kRootM dX11_look_235 ?_
                                        refine wp_goto 242 dX11_look_238 (by decide) ?_
                                        obtain ⟨rfl, rfl⟩ := ret2 h
                                        exact wp_iret rfl dX11_look_242 ⟨rfl, rfl, rfl⟩
                                    · rw [if_pos c1] at h
                                      refine wp_aload_n (x := 0) dX11_look_221 rfl ?_
                                      refine wp_getI fl_X11_134 (by decide) rfl (kltM kRootM) kRootM dX11_look_222 ?_
                                      refine wp_goto 242 dX11_look_225 (by decide) ?_
                                      obtain ⟨rfl, rfl⟩ := ret2 h
                                      exact wp_iret rfl dX11_look_242 ⟨rfl, rfl, rfl⟩
                                  · rw [if_pos c1] at h
                                    refine wp_aload_n (x := 0) dX11_look_207 rfl ?_
                                    refine wp_getI fl_X11_131 (by decide) rfl (kltM kRootM) kRootM dX11_look_208 ?_
                                    refine wp_bipush (nI 9) dX11_look_211 rfl ?_
                                    refine wp_iadd dX11_look_213 ?_
                                    obtain ⟨rfl, rfl⟩ := ret2 h
                                    exact wp_iret rfl dX11_look_214 ⟨rfl, rfl, rfl⟩
                                · rw [if_pos c1] at h
                                  refine wp_aload_n (x := 0) dX11_look_193 rfl ?_
                                  refine wp_getI fl_X11_128 (by decide) rfl (kltM kRootM) kRootM dX11_look_194 ?_
                                  refine wp_bipush (nI 9) dX11_look_197 rfl ?_
                                  refine wp_iadd dX11_look_199 ?_
                                  obtain ⟨rfl, rfl⟩ := ret2 h
                                  exact wp_iret rfl dX11_look_200 ⟨rfl, rfl, rfl⟩
                              · rw [if_pos c1] at h
                                refine wp_aload_n (x := 0) dX11_look_182 rfl ?_
                                refine wp_getI fl_X11_95 (by decide) rfl (kltM kRootM) kRootM dX11_look_183 ?_
                                obtain ⟨rfl, rfl⟩ := ret2 h
                                exact wp_iret rfl dX11_look_186 ⟨rfl, rfl, rfl⟩
                            · rw [if_pos c1] at h
                              refine wp_aload_n (x := 0) dX11_look_171 rfl ?_
                              refine wp_getI fl_X11_89 (by decide) rfl (kltM kRootM) kRootM dX11_look_172 ?_
                              obtain ⟨rfl, rfl⟩ := ret2 h
                              exact wp_iret rfl dX11_look_175 ⟨rfl, rfl, rfl⟩
                          · rw [if_pos c1] at h
                            refine wp_aload_n (x := 0) dX11_look_160 rfl ?_
                            refine wp_getI fl_X11_271 (by decide) rfl (kltM kRootM) kRootM dX11_look_161 ?_
                            obtain ⟨rfl, rfl⟩ := ret2 h
                            exact wp_iret rfl dX11_look_164 ⟨rfl, rfl, rfl⟩
                        · rw [if_pos c1] at h
                          refine wp_aload_n (x := 0) dX11_look_147 rfl ?_
                          refine wp_getR 13 fl_X11_46 (by decide) rfl (kltM kRootM) kRootM (ly11_27 kRootM).1 dX11_look_148 ?_
                          refine wp_iconst (nI 1) dX11_look_151 rfl ?_
                          obtain ⟨c1, h⟩ := chv_some h
                          refine wp_ialde (kltM (ly11_27 kRootM).2.1) (ly11_27 kRootM).2.1 (ly11_27 kRootM).2.2 c1 dX11_look_152 ?_
                          obtain ⟨rfl, rfl⟩ := ret2 h
                          exact wp_iret rfl dX11_look_153 ⟨rfl, rfl, rfl⟩
                      · rw [if_pos c1] at h
                        refine wp_aload_n (x := 0) dX11_look_134 rfl ?_
                        refine wp_getR 13 fl_X11_46 (by decide) rfl (kltM kRootM) kRootM (ly11_27 kRootM).1 dX11_look_135 ?_
                        refine wp_iconst (nI 0) dX11_look_138 rfl ?_
                        obtain ⟨c1, h⟩ := chv_some h
                        refine wp_ialde (kltM (ly11_27 kRootM).2.1) (ly11_27 kRootM).2.1 (ly11_27 kRootM).2.2 c1 dX11_look_139 ?_
                        obtain ⟨rfl, rfl⟩ := ret2 h
                        exact wp_iret rfl dX11_look_140 ⟨rfl, rfl, rfl⟩
                    · rw [if_pos c1] at h
                      refine wp_aload_n (x := 0) dX11_look_121 rfl ?_
                      refine wp_getR 1 fl_X11_7 (by decide) rfl (kltM kRootM) kRootM (ly11_1 kRootM).1 dX11_look_122 ?_
                      refine wp_iconst (nI 5) dX11_look_125 rfl ?_
                      obtain ⟨c1, h⟩ := chv_some h
                      refine wp_ialde (kltM (ly11_1 kRootM).2.1) (ly11_1 kRootM).2.1 (ly11_1 kRootM).2.2 c1 dX11_look_126 ?_
                      obtain ⟨rfl, rfl⟩ := ret2 h
                      exact wp_iret rfl dX11_look_127 ⟨rfl, rfl, rfl⟩
                  · rw [if_pos c1] at h
                    refine wp_aload_n (x := 0) dX11_look_108 rfl ?_
                    refine wp_getR 1 fl_X11_7 (by decide) rfl (kltM kRootM) kRootM (ly11_1 kRootM).1 dX11_look_109 ?_
                    refine wp_iconst (nI 4) dX11_look_112 rfl ?_
                    obtain ⟨c1, h⟩ := chv_some h
                    refine wp_ialde (kltM (ly11_1 kRootM).2.1) (ly11_1 kRootM).2.1 (ly11_1 kRootM).2.2 c1 dX11_look_113 ?_
                    obtain ⟨rfl, rfl⟩ := ret2 h
                    exact wp_iret rfl dX11_look_114 ⟨rfl, rfl, rfl⟩
                · rw [if_pos c1] at h
                  refine wp_aload_n (x := 0) dX11_look_95 rfl ?_
                  refine wp_getR 1 fl_X11_7 (by decide) rfl (kltM kRootM) kRootM (ly11_1 kRootM).1 dX11_look_96 ?_
                  refine wp_iconst (nI 3) dX11_look_99 rfl ?_
                  obtain ⟨c1, h⟩ := chv_some h
                  refine wp_ialde (kltM (ly11_1 kRootM).2.1) (ly11_1 kRootM).2.1 (ly11_1 kRootM).2.2 c1 dX11_look_100 ?_
                  obtain ⟨rfl, rfl⟩ := ret2 h
                  exact wp_iret rfl dX11_look_101 ⟨rfl, rfl, rfl⟩
              · rw [if_pos c1] at h
                refine wp_aload_n (x := 0) dX11_look_82 rfl ?_
                refine wp_getR 1 fl_X11_7 (by decide) rfl (kltM kRootM) kRootM (ly11_1 kRootM).1 dX11_look_83 ?_
                refine wp_iconst (nI 1) dX11_look_86 rfl ?_
                obtain ⟨c1, h⟩ := chv_some h
                refine wp_ialde (kltM (ly11_1 kRootM).2.1) (ly11_1 kRootM).2.1 (ly11_1 kRootM).2.2 c1 dX11_look_87 ?_
                obtain ⟨rfl, rfl⟩ := ret2 h
                exact wp_iret rfl dX11_look_88 ⟨rfl, rfl, rfl⟩
            · rw [if_pos c1] at h
              refine wp_aload_n (x := 0) dX11_look_69 rfl ?_
              refine wp_getR 1 fl_X11_7 (by decide) rfl (kltM kRootM) kRootM (ly11_1 kRootM).1 dX11_look_70 ?_
              refine wp_iconst (nI 2) dX11_look_73 rfl ?_
              obtain ⟨c1, h⟩ := chv_some h
              refine wp_ialde (kltM (ly11_1 kRootM).2.1) (ly11_1 kRootM).2.1 (ly11_1 kRootM).2.2 c1 dX11_look_74 ?_
              obtain ⟨rfl, rfl⟩ := ret2 h
              exact wp_iret rfl dX11_look_75 ⟨rfl, rfl, rfl⟩
          · rw [if_pos c1] at h
            refine wp_aload_n (x := 0) dX11_look_58 rfl ?_
            refine wp_iconst (-1) dX11_look_59 rfl ?_
            obtain ⟨r2, g1, h⟩ := bnd_some h
            refine wp_cVi (d := d - 1) (o := 0) cv_X11_384 (kltM kRootM) kRootM (as := [.int (-1)]) (rest := []) dX11_look_60 (by omega) cloM rfl rfl (Nat.le_of_ble_eq_true rfl) (Nat.le_of_ble_eq_true rfl) (ok_M_heldIn (by omega) (-1) μ1 g1) ?_ rfl
            obtain ⟨rfl, rfl⟩ := ret2 h
            exact wp_iret rfl dX11_look_63 ⟨rfl, rfl, rfl⟩
        · rw [if_pos c1] at h
          refine wp_aload_n (x := 0) dX11_look_44 rfl ?_
          refine wp_getR 1 fl_X11_7 (by decide) rfl (kltM kRootM) kRootM (ly11_1 kRootM).1 dX11_look_45 ?_
          refine wp_sipush (nI 471) dX11_look_48 rfl ?_
          obtain ⟨c1, h⟩ := chv_some h
          refine wp_ialde (kltM (ly11_1 kRootM).2.1) (ly11_1 kRootM).2.1 (ly11_1 kRootM).2.2 c1 dX11_look_51 ?_
          obtain ⟨rfl, rfl⟩ := ret2 h
          exact wp_iret rfl dX11_look_52 ⟨rfl, rfl, rfl⟩
      · rw [if_pos c1] at h
        refine wp_aload_n (x := 0) dX11_look_32 rfl ?_
        refine wp_getR 1 fl_X11_7 (by decide) rfl (kltM kRootM) kRootM (ly11_1 kRootM).1 dX11_look_33 ?_
        refine wp_iconst (nI 0) dX11_look_36 rfl ?_
        obtain ⟨c1, h⟩ := chv_some h
        refine wp_ialde (kltM (ly11_1 kRootM).2.1) (ly11_1 kRootM).2.1 (ly11_1 kRootM).2.2 c1 dX11_look_37 ?_
        obtain ⟨rfl, rfl⟩ := ret2 h
        exact wp_iret rfl dX11_look_38 ⟨rfl, rfl, rfl⟩
    · rw [if_pos c1] at h
      refine wp_aload_n (x := 0) dX11_look_19 rfl ?_
      refine wp_getR 1 fl_X11_7 (by decide) rfl (kltM kRootM) kRootM (ly11_1 kRootM).1 dX11_look_20 ?_
      refine wp_bipush (nI 6) dX11_look_23 rfl ?_
      obtain ⟨c1, h⟩ := chv_some h
      refine wp_ialde (kltM (ly11_1 kRootM).2.1) (ly11_1 kRootM).2.1 (ly11_1 kRootM).2.2 c1 dX11_look_25 ?_
      obtain ⟨rfl, rfl⟩ := ret2 h
      exact wp_iret rfl dX11_look_26 ⟨rfl, rfl, rfl⟩
  · rw [if_pos c1] at h
    refine wp_aload_n (x := 0) dX11_look_9 rfl ?_
    refine wp_getI fl_X11_107 (by decide) rfl (kltM kRootM) kRootM dX11_look_10 ?_
    obtain ⟨rfl, rfl⟩ := ret2 h
    exact wp_iret rfl dX11_look_13 ⟨rfl, rfl, rfl⟩
