theorem ok_M_comesVersion {l : Launch} {d : Nat} (hd : 1 ≤ d) (v1 : Int32)  (v2 : Int32)  (v3 : Int32)  (v4 : Int32)  (μ : Mm) {r : Int32} {μ' : Mm} (h : M_comesVersion v1 v2 v3 v4 μ = some (r, μ')) : Wp l SM d (0, 0) mX11_comesVersion 0 [some (.ref 0), some (.int v1), some (.int v2), some (.int v3), some (.int v4), none] [] μ (Qi SM r μ') := by
  unfold M_comesVersion at h
  refine wp_aload_n (x := 0) dX11_comesVersion_0 rfl ?_
  refine wp_getR 1 fl_X11_7 (by decide) rfl (kltM kRootM) kRootM (ly11_1 kRootM).1 dX11_comesVersion_1 ?_
  refine wp_bipush (nI 6) dX11_comesVersion_4 rfl ?_
  obtain ⟨c1, h⟩ := chv_some h
  refine wp_ialde (kltM (ly11_1 kRootM).2.1) (ly11_1 kRootM).2.1 (ly11_1 kRootM).2.2 c1 dX11_comesVersion_6 ?_
  refine wp_istore (L2 := [some (.ref 0), some (.int v1), some (.int v2), some (.int v3), some (.int v4), some (.int (μ.1 1 (ix (nI 6))))]) dX11_comesVersion_7 (by decide) rfl rfl ?_
  refine wp_aload_n (x := 0) dX11_comesVersion_9 rfl ?_
  refine wp_getR 1 fl_X11_7 (by decide) rfl (kltM kRootM) kRootM (ly11_1 kRootM).1 dX11_comesVersion_10 ?_
  refine wp_bipush (nI 7) dX11_comesVersion_13 rfl ?_
  refine wp_iload (x := (μ.1 1 (ix (nI 6)))) dX11_comesVersion_15 rfl ?_
  refine wp_iadd dX11_comesVersion_17 ?_
  refine wp_iload_n (x := v1) dX11_comesVersion_18 rfl ?_
  obtain ⟨c1, h⟩ := chv_some h
  obtain ⟨μ1, e1, h⟩ := lt_some h
  refine wp_iaste e1 (kltM (ly11_1 kRootM).2.1) (ly11_1 kRootM).2.1 (ly11_1 kRootM).2.2 c1 dX11_comesVersion_19 ?_
  refine wp_aload_n (x := 0) dX11_comesVersion_20 rfl ?_
  refine wp_getR 1 fl_X11_7 (by decide) rfl (kltM kRootM) kRootM (ly11_1 kRootM).1 dX11_comesVersion_21 ?_
  refine wp_bipush (nI 47) dX11_comesVersion_24 rfl ?_
  refine wp_iload (x := (μ.1 1 (ix (nI 6)))) dX11_comesVersion_26 rfl ?_
  refine wp_iadd dX11_comesVersion_28 ?_
  refine wp_iload_n (x := v2) dX11_comesVersion_29 rfl ?_
  obtain ⟨c1, h⟩ := chv_some h
  obtain ⟨μ2, e1, h⟩ := lt_some h
  refine wp_iaste e1 (kltM (ly11_1 kRootM).2.1) (ly11_1 kRootM).2.1 (ly11_1 kRootM).2.2 c1 dX11_comesVersion_30 ?_
  refine wp_aload_n (x := 0) dX11_comesVersion_31 rfl ?_
  refine wp_getR 1 fl_X11_7 (by decide) rfl (kltM kRootM) kRootM (ly11_1 kRootM).1 dX11_comesVersion_32 ?_
  refine wp_bipush (nI 87) dX11_comesVersion_35 rfl ?_
  refine wp_iload (x := (μ.1 1 (ix (nI 6)))) dX11_comesVersion_37 rfl ?_
  refine wp_iadd dX11_comesVersion_39 ?_
  refine wp_iload_n (x := v3) dX11_comesVersion_40 rfl ?_
  refine wp_iconst (nI 1) dX11_comesVersion_41 rfl ?_
  refine wp_iadd dX11_comesVersion_42 ?_
  obtain ⟨c1, h⟩ := chv_some h
  obtain ⟨μ3, e1, h⟩ := lt_some h
  refine wp_iaste e1 (kltM (ly11_1 kRootM).2.1) (ly11_1 kRootM).2.1 (ly11_1 kRootM).2.2 c1 dX11_comesVersion_43 ?_
  refine wp_aload_n (x := 0) dX11_comesVersion_44 rfl ?_
  refine wp_getR 1 fl_X11_7 (by decide) rfl (kltM kRootM) kRootM (ly11_1 kRootM).1 dX11_comesVersion_45 ?_
  refine wp_bipush (nI 127) dX11_comesVersion_48 rfl ?_
  refine wp_iload (x := (μ.1 1 (ix (nI 6)))) dX11_comesVersion_50 rfl ?_
  refine wp_iadd dX11_comesVersion_52 ?_
  refine wp_iload (x := v4) dX11_comesVersion_53 rfl ?_
  refine wp_iconst (nI 1) dX11_comesVersion_55 rfl ?_
  refine wp_iadd dX11_comesVersion_56 ?_
  obtain ⟨c1, h⟩ := chv_some h
  obtain ⟨μ4, e1, h⟩ := lt_some h
  refine wp_iaste e1 (kltM (ly11_1 kRootM).2.1) (ly11_1 kRootM).2.1 (ly11_1 kRootM).2.2 c1 dX11_comesVersion_57 ?_
  refine wp_aload_n (x := 0) dX11_comesVersion_58 rfl ?_
  refine wp_getR 1 fl_X11_7 (by decide) rfl (kltM kRootM) kRootM (ly11_1 kRootM).1 dX11_comesVersion_59 ?_
  refine wp_bipush (nI 6) dX11_comesVersion_62 rfl ?_
  refine wp_iload (x := (μ.1 1 (ix (nI 6)))) dX11_comesVersion_64 rfl ?_
  refine wp_iconst (nI 1) dX11_comesVersion_66 rfl ?_
  refine wp_iadd dX11_comesVersion_67 ?_
  obtain ⟨c1, h⟩ := chv_some h
  obtain ⟨μ5, e1, h⟩ := lt_some h
  refine wp_iaste e1 (kltM (ly11_1 kRootM).2.1) (ly11_1 kRootM).2.1 (ly11_1 kRootM).2.2 c1 dX11_comesVersion_68 ?_
  refine wp_iload (x := (μ.1 1 (ix (nI 6)))) dX11_comesVersion_69 rfl ?_
  obtain ⟨rfl, rfl⟩ := ret2 h
  exact wp_iret rfl dX11_comesVersion_71 ⟨rfl, rfl, rfl⟩
theorem ok_M_version {l : Launch} {d : Nat} (hd : 2 ≤ d) (v1 : Int32)  (v2 : Int32)  (μ : Mm) {r : Int32} {μ' : Mm} (h : M_version v1 v2 μ = some (r, μ')) : Wp l SM d (0, 0) mX11_version 0 [some (.ref 0), some (.int v1), some (.int v2)] [] μ (Qi SM r μ') := by
  unfold M_version at h
  refine wp_aload_n (x := 0) dX11_version_0 rfl ?_
  refine wp_iconst (nI 0) dX11_version_1 rfl ?_
  obtain ⟨μ1, e1, h⟩ := lt_some h
  refine wp_putIe e1 fl_X11_86 (by decide) rfl (kltM kRootM) kRootM dX11_version_2 ?_
  refine wp_aload_n (x := 0) dX11_version_5 rfl ?_
  refine wp_iload_n (x := v1) dX11_version_6 rfl ?_
  refine wp_iconst (nI 0) dX11_version_7 rfl ?_
  refine wp_bipush (nI 9) dX11_version_8 rfl ?_
  obtain ⟨r2, g1, h⟩ := bnd_some h
  refine wp_cVi (d := d - 1) (o := 0) cv_X11_113 (kltM kRootM) kRootM (as := [.int v1, .int (nI 0), .int (nI 9)]) (rest := []) dX11_version_10 (by omega) cloM rfl rfl (Nat.le_of_ble_eq_true rfl) (Nat.le_of_ble_eq_true rfl) (ok_M_isIn (by omega) v1 (nI 0) (nI 9) μ1 g1) ?_ rfl
  refine wp_if_eq 40 dX11_version_13 (by decide) (fun c1 => ?_) (fun c1 => ?_)
  · rw [if_pos c1] at h
    refine wp_iconst (-1) dX11_version_40 rfl ?_
    obtain ⟨rfl, rfl⟩ := ret2 h
    exact wp_iret rfl dX11_version_41 ⟨rfl, rfl, rfl⟩
  · rw [if_neg c1] at h
    refine wp_aload_n (x := 0) dX11_version_16 rfl ?_
    refine wp_iload_n (x := v2) dX11_version_17 rfl ?_
    refine wp_iconst (nI 0) dX11_version_18 rfl ?_
    refine wp_sipush (nI 1023) dX11_version_19 rfl ?_
    obtain ⟨r3, g1, h⟩ := bnd_some h
    refine wp_cVi (d := d - 1) (o := 0) cv_X11_113 (kltM kRootM) kRootM (as := [.int v2, .int (nI 0), .int (nI 1023)]) (rest := []) dX11_version_22 (by omega) cloM rfl rfl (Nat.le_of_ble_eq_true rfl) (Nat.le_of_ble_eq_true rfl) (ok_M_isIn (by omega) v2 (nI 0) (nI 1023) μ1 g1) ?_ rfl
    refine wp_if_eq 40 dX11_version_25 (by decide) (fun c1 => ?_) (fun c1 => ?_)
    · rw [if_pos c1] at h
      refine wp_iconst (-1) dX11_version_40 rfl ?_
      obtain ⟨rfl, rfl⟩ := ret2 h
      exact wp_iret rfl dX11_version_41 ⟨rfl, rfl, rfl⟩
    · rw [if_neg c1] at h
      refine wp_aload_n (x := 0) dX11_version_28 rfl ?_
      refine wp_getR 1 fl_X11_7 (by decide) rfl (kltM kRootM) kRootM (ly11_1 kRootM).1 dX11_version_29 ?_
      refine wp_bipush (nI 6) dX11_version_32 rfl ?_
      obtain ⟨c1, h⟩ := chv_some h
      refine wp_ialde (kltM (ly11_1 kRootM).2.1) (ly11_1 kRootM).2.1 (ly11_1 kRootM).2.2 c1 dX11_version_34 ?_
      refine wp_bipush (nI 40) dX11_version_35 rfl ?_
      refine wp_icmp_ne 42 dX11_version_37 (by decide) (fun c1 => ?_) (fun c1 => ?_)
      · rw [if_neg c1] at h
        refine wp_aload_n (x := 0) dX11_version_42 rfl ?_
        refine wp_iconst (nI 0) dX11_version_43 rfl ?_
        obtain ⟨μ4, e1, h⟩ := lt_some h
        refine wp_putIe e1 fl_X11_89 (by decide) rfl (kltM kRootM) kRootM dX11_version_44 ?_
        refine wp_aload_n (x := 0) dX11_version_47 rfl ?_
        refine wp_iload_n (x := v1) dX11_version_48 rfl ?_
        refine wp_iload_n (x := v2) dX11_version_49 rfl ?_
        refine wp_iconst (-1) dX11_version_50 rfl ?_
        refine wp_iconst (-1) dX11_version_51 rfl ?_
        obtain ⟨r6, μ5, g1, h⟩ := bnd2_some h
        refine wp_cVi (d := d - 1) (o := 0) cv_X11_140 (kltM kRootM) kRootM (as := [.int v1, .int v2, .int (-1), .int (-1)]) (rest := []) dX11_version_52 (by omega) cloM rfl rfl (Nat.le_of_ble_eq_true rfl) (Nat.le_of_ble_eq_true rfl) (ok_M_comesVersion (by omega) v1 v2 (-1) (-1) μ4 g1) ?_ rfl
        obtain ⟨rfl, rfl⟩ := ret2 h
        exact wp_iret rfl dX11_version_55 ⟨rfl, rfl, rfl⟩
      · rw [if_pos c1] at h
        refine wp_iconst (-1) dX11_version_40 rfl ?_
        obtain ⟨rfl, rfl⟩ := ret2 h
        exact wp_iret rfl dX11_version_41 ⟨rfl, rfl, rfl⟩
theorem ok_M_letterAt {l : Launch} {d : Nat} (hd : 1 ≤ d) (v1 : Int32)  (v2 : Int32)  (μ : Mm) {r : Int32} (h : M_letterAt v1 v2 = some r) : Wp l SM d (0, 0) mX11_letterAt 0 [some (.ref 0), some (.int v1), some (.int v2)] [] μ (Qi SM r μ) := by
  unfold M_letterAt at h
  refine wp_sipush (nI 279) dX11_letterAt_0 rfl ?_
  refine wp_iconst (nI 4) dX11_letterAt_3 rfl ?_
  refine wp_iconst (nI 3) dX11_letterAt_4 rfl ?_
  refine wp_iload_n (x := v1) dX11_letterAt_5 rfl ?_
  refine wp_imul dX11_letterAt_6 ?_
  refine wp_iload_n (x := v2) dX11_letterAt_7 rfl ?_
  refine wp_iadd dX11_letterAt_8 ?_
  refine wp_imul dX11_letterAt_9 ?_
  refine wp_iadd dX11_letterAt_10 ?_
  obtain rfl := ret1 h
  exact wp_iret rfl dX11_letterAt_11 ⟨rfl, rfl, rfl⟩
theorem ok_M_hasLetter {l : Launch} {d : Nat} (hd : 2 ≤ d) (v1 : Int32)  (v2 : Int32)  (μ : Mm) {r : Int32} (h : M_hasLetter v1 v2 μ = some r) : Wp l SM d (0, 0) mX11_hasLetter 0 [some (.ref 0), some (.int v1), some (.int v2)] [] μ (Qi SM r μ) := by
  unfold M_hasLetter at h
  refine wp_aload_n (x := 0) dX11_hasLetter_0 rfl ?_
  refine wp_iload_n (x := v1) dX11_hasLetter_1 rfl ?_
  obtain ⟨r1, g1, h⟩ := bnd_some h
  refine wp_cVi (d := d - 1) (o := 0) cv_X11_117 (kltM kRootM) kRootM (as := [.int v1]) (rest := []) dX11_hasLetter_2 (by omega) cloM rfl rfl (Nat.le_of_ble_eq_true rfl) (Nat.le_of_ble_eq_true rfl) (ok_M_isPerson (by omega) v1 μ g1) ?_ rfl
  refine wp_if_eq 33 dX11_hasLetter_5 (by decide) (fun c1 => ?_) (fun c1 => ?_)
  · rw [if_pos c1] at h
    refine wp_iconst (nI 0) dX11_hasLetter_33 rfl ?_
    obtain rfl := ret1 h
    exact wp_zret rfl (Or.inl rfl) dX11_hasLetter_34 ⟨rfl, rfl, rfl⟩
  · rw [if_neg c1] at h
    refine wp_aload_n (x := 0) dX11_hasLetter_8 rfl ?_
    refine wp_iload_n (x := v2) dX11_hasLetter_9 rfl ?_
    refine wp_iconst (nI 0) dX11_hasLetter_10 rfl ?_
    refine wp_aload_n (x := 0) dX11_hasLetter_11 rfl ?_
    refine wp_getR 1 fl_X11_7 (by decide) rfl (kltM kRootM) kRootM (ly11_1 kRootM).1 dX11_hasLetter_12 ?_
    refine wp_sipush (nI 263) dX11_hasLetter_15 rfl ?_
    refine wp_iload_n (x := v1) dX11_hasLetter_18 rfl ?_
    refine wp_iadd dX11_hasLetter_19 ?_
    obtain ⟨c1, h⟩ := chv_some h
    refine wp_ialde (kltM (ly11_1 kRootM).2.1) (ly11_1 kRootM).2.1 (ly11_1 kRootM).2.2 c1 dX11_hasLetter_20 ?_
    refine wp_iconst (nI 1) dX11_hasLetter_21 rfl ?_
    refine wp_isub dX11_hasLetter_22 ?_
    obtain ⟨r2, g1, h⟩ := bnd_some h
    refine wp_cVi (d := d - 1) (o := 0) cv_X11_113 (kltM kRootM) kRootM (as := [.int v2, .int (nI 0), .int ((μ.1 1 (ix ((nI 263) + v1))) - (nI 1))]) (rest := []) dX11_hasLetter_23 (by omega) cloM rfl rfl (Nat.le_of_ble_eq_true rfl) (Nat.le_of_ble_eq_true rfl) (ok_M_isIn (by omega) v2 (nI 0) ((μ.1 1 (ix ((nI 263) + v1))) - (nI 1)) μ g1) ?_ rfl
    refine wp_if_eq 33 dX11_hasLetter_26 (by decide) (fun c1 => ?_) (fun c1 => ?_)
    · rw [if_pos c1] at h
      refine wp_iconst (nI 0) dX11_hasLetter_33 rfl ?_
      obtain rfl := ret1 h
      exact wp_zret rfl (Or.inl rfl) dX11_hasLetter_34 ⟨rfl, rfl, rfl⟩
    · rw [if_neg c1] at h
      refine wp_iconst (nI 1) dX11_hasLetter_29 rfl ?_
      refine wp_goto 34 dX11_hasLetter_30 (by decide) ?_
      obtain rfl := ret1 h
      exact wp_zret rfl (Or.inr rfl) dX11_hasLetter_34 ⟨rfl, rfl, rfl⟩
theorem ok_M_holds {l : Launch} {d : Nat} (hd : 2 ≤ d) (v1 : Int32)  (v2 : Int32)  (v3 : Int32)  (μ : Mm) {μ' : Mm} (h : M_holds v1 v2 v3 μ = some μ') : Wp l SM d (0, 0) mX11_holds 0 [some (.ref 0), some (.int v1), some (.int v2), some (.int v3), none] [] μ (Qv SM μ') := by
  unfold M_holds at h
  refine wp_aload_n (x := 0) dX11_holds_0 rfl ?_
  refine wp_iload_n (x := v1) dX11_holds_1 rfl ?_
  refine wp_aload_n (x := 0) dX11_holds_2 rfl ?_
  refine wp_getR 1 fl_X11_7 (by decide) rfl (kltM kRootM) kRootM (ly11_1 kRootM).1 dX11_holds_3 ?_
  refine wp_sipush (nI 263) dX11_holds_6 rfl ?_
  refine wp_iload_n (x := v1) dX11_holds_9 rfl ?_
  refine wp_iadd dX11_holds_10 ?_
  obtain ⟨c1, h⟩ := chv_some h
  refine wp_ialde (kltM (ly11_1 kRootM).2.1) (ly11_1 kRootM).2.1 (ly11_1 kRootM).2.2 c1 dX11_holds_11 ?_
  obtain ⟨r1, g1, h⟩ := bnd_some h
  refine wp_cVi (d := d - 1) (o := 0) cv_X11_144 (kltM kRootM) kRootM (as := [.int v1, .int (μ.1 1 (ix ((nI 263) + v1)))]) (rest := []) dX11_holds_12 (by omega) cloM rfl rfl (Nat.le_of_ble_eq_true rfl) (Nat.le_of_ble_eq_true rfl) (ok_M_letterAt (by omega) v1 (μ.1 1 (ix ((nI 263) + v1))) μ g1) ?_ rfl
  refine wp_istore (L2 := [some (.ref 0), some (.int v1), some (.int v2), some (.int v3), some (.int r1)]) dX11_holds_15 (by decide) rfl rfl ?_
  refine wp_aload_n (x := 0) dX11_holds_17 rfl ?_
  refine wp_getR 1 fl_X11_7 (by decide) rfl (kltM kRootM) kRootM (ly11_1 kRootM).1 dX11_holds_18 ?_
  refine wp_iload (x := r1) dX11_holds_21 rfl ?_
  refine wp_iconst (nI 0) dX11_holds_23 rfl ?_
  refine wp_iadd dX11_holds_24 ?_
  refine wp_iload_n (x := v2) dX11_holds_25 rfl ?_
  obtain ⟨c1, h⟩ := chv_some h
  obtain ⟨μ2, e1, h⟩ := lt_some h
  refine wp_iaste e1 (kltM (ly11_1 kRootM).2.1) (ly11_1 kRootM).2.1 (ly11_1 kRootM).2.2 c1 dX11_holds_26 ?_
  refine wp_aload_n (x := 0) dX11_holds_27 rfl ?_
  refine wp_getR 1 fl_X11_7 (by decide) rfl (kltM kRootM) kRootM (ly11_1 kRootM).1 dX11_holds_28 ?_
  refine wp_iload (x := r1) dX11_holds_31 rfl ?_
  refine wp_iconst (nI 1) dX11_holds_33 rfl ?_
  refine wp_iadd dX11_holds_34 ?_
  refine wp_iload_n (x := v3) dX11_holds_35 rfl ?_
  refine wp_iconst (nI 1) dX11_holds_36 rfl ?_
  refine wp_iadd dX11_holds_37 ?_
  obtain ⟨c1, h⟩ := chv_some h
  obtain ⟨μ3, e1, h⟩ := lt_some h
  refine wp_iaste e1 (kltM (ly11_1 kRootM).2.1) (ly11_1 kRootM).2.1 (ly11_1 kRootM).2.2 c1 dX11_holds_38 ?_
  refine wp_aload_n (x := 0) dX11_holds_39 rfl ?_
  refine wp_getR 1 fl_X11_7 (by decide) rfl (kltM kRootM) kRootM (ly11_1 kRootM).1 dX11_holds_40 ?_
  refine wp_iload (x := r1) dX11_holds_43 rfl ?_
  refine wp_iconst (nI 2) dX11_holds_45 rfl ?_
  refine wp_iadd dX11_holds_46 ?_
  refine wp_aload_n (x := 0) dX11_holds_47 rfl ?_
  refine wp_getR 1 fl_X11_7 (by decide) rfl (kltM kRootM) kRootM (ly11_1 kRootM).1 dX11_holds_48 ?_
  refine wp_iconst (nI 0) dX11_holds_51 rfl ?_
  obtain ⟨c1, h⟩ := chv_some h
  refine wp_ialde (kltM (ly11_1 kRootM).2.1) (ly11_1 kRootM).2.1 (ly11_1 kRootM).2.2 c1 dX11_holds_52 ?_
  refine wp_aload_n (x := 0) dX11_holds_53 rfl ?_
  refine wp_getI fl_X11_131 (by decide) rfl (kltM kRootM) kRootM dX11_holds_54 ?_
  refine wp_iadd dX11_holds_57 ?_
  refine wp_bipush (nI 9) dX11_holds_58 rfl ?_
  refine wp_iadd dX11_holds_60 ?_
  obtain ⟨c1, h⟩ := chv_some h
  obtain ⟨μ4, e1, h⟩ := lt_some h
  refine wp_iaste e1 (kltM (ly11_1 kRootM).2.1) (ly11_1 kRootM).2.1 (ly11_1 kRootM).2.2 c1 dX11_holds_61 ?_
  refine wp_aload_n (x := 0) dX11_holds_62 rfl ?_
  refine wp_getR 1 fl_X11_7 (by decide) rfl (kltM kRootM) kRootM (ly11_1 kRootM).1 dX11_holds_63 ?_
  refine wp_iload (x := r1) dX11_holds_66 rfl ?_
  refine wp_iconst (nI 3) dX11_holds_68 rfl ?_
  refine wp_iadd dX11_holds_69 ?_
  refine wp_aload_n (x := 0) dX11_holds_70 rfl ?_
  refine wp_getI fl_X11_128 (by decide) rfl (kltM kRootM) kRootM dX11_holds_71 ?_
  refine wp_bipush (nI 9) dX11_holds_74 rfl ?_
  refine wp_iadd dX11_holds_76 ?_
  obtain ⟨c1, h⟩ := chv_some h
  obtain ⟨μ5, e1, h⟩ := lt_some h
  refine wp_iaste e1 (kltM (ly11_1 kRootM).2.1) (ly11_1 kRootM).2.1 (ly11_1 kRootM).2.2 c1 dX11_holds_77 ?_
  refine wp_aload_n (x := 0) dX11_holds_78 rfl ?_
  refine wp_getR 1 fl_X11_7 (by decide) rfl (kltM kRootM) kRootM (ly11_1 kRootM).1 dX11_holds_79 ?_
  refine wp_sipush (nI 263) dX11_holds_82 rfl ?_
  refine wp_iload_n (x := v1) dX11_holds_85 rfl ?_
  refine wp_iadd dX11_holds_86 ?_
  refine wp_aload_n (x := 0) dX11_holds_87 rfl ?_
  refine wp_getR 1 fl_X11_7 (by decide) rfl (kltM kRootM) kRootM (ly11_1 kRootM).1 dX11_holds_88 ?_
  refine wp_sipush (nI 263) dX11_holds_91 rfl ?_
  refine wp_iload_n (x := v1) dX11_holds_94 rfl ?_
  refine wp_iadd dX11_holds_95 ?_
  obtain ⟨c1, h⟩ := chv_some h
  refine wp_ialde (kltM (ly11_1 kRootM).2.1) (ly11_1 kRootM).2.1 (ly11_1 kRootM).2.2 c1 dX11_holds_96 ?_
  refine wp_iconst (nI 1) dX11_holds_97 rfl ?_
  refine wp_iadd dX11_holds_98 ?_
  obtain ⟨c1, h⟩ := chv_some h
  obtain ⟨μ6, e1, h⟩ := lt_some h
  refine wp_iaste e1 (kltM (ly11_1 kRootM).2.1) (ly11_1 kRootM).2.1 (ly11_1 kRootM).2.2 c1 dX11_holds_99 ?_
  refine wp_iload_n (x := v2) dX11_holds_100 rfl ?_
  refine wp_bipush (nI 20) dX11_holds_101 rfl ?_
  refine wp_icmp_ge 133 dX11_holds_103 (by decide) (fun c1 => ?_) (fun c1 => ?_)
  · rw [if_pos c1] at h
    refine wp_aload_n (x := 0) dX11_holds_133 rfl ?_
    refine wp_getR 1 fl_X11_7 (by decide) rfl (kltM kRootM) kRootM (ly11_1 kRootM).1 dX11_holds_134 ?_
    refine wp_sipush (nI 231) dX11_holds_137 rfl ?_
    refine wp_iload_n (x := v1) dX11_holds_140 rfl ?_
    refine wp_iadd dX11_holds_141 ?_
    refine wp_aload_n (x := 0) dX11_holds_142 rfl ?_
    refine wp_getR 1 fl_X11_7 (by decide) rfl (kltM kRootM) kRootM (ly11_1 kRootM).1 dX11_holds_143 ?_
    refine wp_sipush (nI 231) dX11_holds_146 rfl ?_
    refine wp_iload_n (x := v1) dX11_holds_149 rfl ?_
    refine wp_iadd dX11_holds_150 ?_
    obtain ⟨c1, h⟩ := chv_some h
    refine wp_ialde (kltM (ly11_1 kRootM).2.1) (ly11_1 kRootM).2.1 (ly11_1 kRootM).2.2 c1 dX11_holds_151 ?_
    refine wp_iconst (nI 1) dX11_holds_152 rfl ?_
    refine wp_iload_n (x := v2) dX11_holds_153 rfl ?_
    refine wp_bipush (nI 20) dX11_holds_154 rfl ?_
    refine wp_isub dX11_holds_156 ?_
    refine wp_ishl dX11_holds_157 ?_
    refine wp_ior dX11_holds_158 ?_
    obtain ⟨c1, h⟩ := chv_some h
    obtain ⟨μ7, e1, h⟩ := lt_some h
    refine wp_iaste e1 (kltM (ly11_1 kRootM).2.1) (ly11_1 kRootM).2.1 (ly11_1 kRootM).2.2 c1 dX11_holds_159 ?_
    obtain rfl := ret1 h
    exact wp_vret rfl dX11_holds_160 ⟨rfl, rfl, rfl⟩
  · rw [if_neg c1] at h
    refine wp_aload_n (x := 0) dX11_holds_106 rfl ?_
    refine wp_getR 1 fl_X11_7 (by decide) rfl (kltM kRootM) kRootM (ly11_1 kRootM).1 dX11_holds_107 ?_
    refine wp_sipush (nI 215) dX11_holds_110 rfl ?_
    refine wp_iload_n (x := v1) dX11_holds_113 rfl ?_
    refine wp_iadd dX11_holds_114 ?_
    refine wp_aload_n (x := 0) dX11_holds_115 rfl ?_
    refine wp_getR 1 fl_X11_7 (by decide) rfl (kltM kRootM) kRootM (ly11_1 kRootM).1 dX11_holds_116 ?_
    refine wp_sipush (nI 215) dX11_holds_119 rfl ?_
    refine wp_iload_n (x := v1) dX11_holds_122 rfl ?_
    refine wp_iadd dX11_holds_123 ?_
    obtain ⟨c1, h⟩ := chv_some h
    refine wp_ialde (kltM (ly11_1 kRootM).2.1) (ly11_1 kRootM).2.1 (ly11_1 kRootM).2.2 c1 dX11_holds_124 ?_
    refine wp_iconst (nI 1) dX11_holds_125 rfl ?_
    refine wp_iload_n (x := v2) dX11_holds_126 rfl ?_
    refine wp_ishl dX11_holds_127 ?_
    refine wp_ior dX11_holds_128 ?_
    obtain ⟨c1, h⟩ := chv_some h
    obtain ⟨μ8, e1, h⟩ := lt_some h
    refine wp_iaste e1 (kltM (ly11_1 kRootM).2.1) (ly11_1 kRootM).2.1 (ly11_1 kRootM).2.2 c1 dX11_holds_129 ?_
    refine wp_goto 160 dX11_holds_130 (by decide) ?_
    obtain rfl := ret1 h
    exact wp_vret rfl dX11_holds_160 ⟨rfl, rfl, rfl⟩
theorem ok_M_loses_l41 {l : Launch} {d : Nat} (hd : 2 ≤ d) (v1 : Int32)  (v3 : Int32)  (v4 : Int32)  (μ : Mm) (z2 : Option Value) {Q : Option Value → Sh → Mm → Prop} (K : (Int32 × Mm) ⊕ Mm → Prop) (hb : ∀ (s : (Int32 × Mm)) (z2 : Option Value), K (Sum.inl s) → Wp l SM d (0, 0) mX11_loses 41 [some (.ref 0), some (.int v1), z2, some (.int v3), some (.int s.1)] [] s.2 Q) (he0 : ∀ (x : Mm) (z2 : Option Value) (z4 : Option Value), K (Sum.inr x) → Wp l SM d (0, 0) mX11_loses 83 [some (.ref 0), some (.int v1), z2, some (.int v3), z4] [] x Q) {z : (Int32 × Mm) ⊕ Mm} (h : M_loses_l41 v1 v3 v4 μ = some z) (hz : K z) : Wp l SM d (0, 0) mX11_loses 41 [some (.ref 0), some (.int v1), z2, some (.int v3), some (.int v4)] [] μ Q := by
  unfold M_loses_l41 at h
  refine wp_iload (x := v4) dX11_loses_41 rfl ?_
  refine wp_iconst (nI 4) dX11_loses_43 rfl ?_
  refine wp_icmp_ge 83 dX11_loses_44 (by decide) (fun c1 => ?_) (fun c1 => ?_)
  · rw [if_pos c1] at h
    obtain rfl := some1 h
    exact he0 μ _ _ hz
  · rw [if_neg c1] at h
    refine wp_aload_n (x := 0) dX11_loses_47 rfl ?_
    refine wp_getR 1 fl_X11_7 (by decide) rfl (kltM kRootM) kRootM (ly11_1 kRootM).1 dX11_loses_48 ?_
    refine wp_aload_n (x := 0) dX11_loses_51 rfl ?_
    refine wp_iload_n (x := v1) dX11_loses_52 rfl ?_
    refine wp_iload_n (x := v3) dX11_loses_53 rfl ?_
    obtain ⟨r2, g1, h⟩ := bnd_some h
    refine wp_cVi (d := d - 1) (o := 0) cv_X11_144 (kltM kRootM) kRootM (as := [.int v1, .int v3]) (rest := [.ref 1]) dX11_loses_54 (by omega) cloM rfl rfl (Nat.le_of_ble_eq_true rfl) (Nat.le_of_ble_eq_true rfl) (ok_M_letterAt (by omega) v1 v3 μ g1) ?_ rfl
    refine wp_iload (x := v4) dX11_loses_57 rfl ?_
    refine wp_iadd dX11_loses_59 ?_
    refine wp_aload_n (x := 0) dX11_loses_60 rfl ?_
    refine wp_getR 1 fl_X11_7 (by decide) rfl (kltM kRootM) kRootM (ly11_1 kRootM).1 dX11_loses_61 ?_
    refine wp_aload_n (x := 0) dX11_loses_64 rfl ?_
    refine wp_iload_n (x := v1) dX11_loses_65 rfl ?_
    refine wp_iload_n (x := v3) dX11_loses_66 rfl ?_
    refine wp_iconst (nI 1) dX11_loses_67 rfl ?_
    refine wp_iadd dX11_loses_68 ?_
    obtain ⟨r3, g1, h⟩ := bnd_some h
    refine wp_cVi (d := d - 1) (o := 0) cv_X11_144 (kltM kRootM) kRootM (as := [.int v1, .int (v3 + (nI 1))]) (rest := [.ref 1, .int (r2 + v4), .ref 1]) dX11_loses_69 (by omega) cloM rfl rfl (Nat.le_of_ble_eq_true rfl) (Nat.le_of_ble_eq_true rfl) (ok_M_letterAt (by omega) v1 (v3 + (nI 1)) μ g1) ?_ rfl
    refine wp_iload (x := v4) dX11_loses_72 rfl ?_
    refine wp_iadd dX11_loses_74 ?_
    obtain ⟨c1, h⟩ := chv_some h
    refine wp_ialde (kltM (ly11_1 kRootM).2.1) (ly11_1 kRootM).2.1 (ly11_1 kRootM).2.2 c1 dX11_loses_75 ?_
    obtain ⟨c1, h⟩ := chv_some h
    obtain ⟨μ4, e1, h⟩ := lt_some h
    refine wp_iaste e1 (kltM (ly11_1 kRootM).2.1) (ly11_1 kRootM).2.1 (ly11_1 kRootM).2.2 c1 dX11_loses_76 ?_
    refine wp_iinc (x := v4) (k0 := (nI 1)) (L2 := [some (.ref 0), some (.int v1), z2, some (.int v3), some (.int (v4 + (nI 1)))]) dX11_loses_77 rfl rfl (by decide) rfl rfl ?_
    refine wp_goto 41 dX11_loses_80 (by decide) ?_
    obtain rfl := some1 h
    exact hb ((v4 + (nI 1)), μ4) _ hz
theorem okl_M_loses_l41 {l : Launch} {d : Nat} (hd : 2 ≤ d) (v1 : Int32)  (v3 : Int32)  {Q : Option Value → Sh → Mm → Prop} (K : Mm → Prop) (he0 : ∀ (x : Mm) (z2 : Option Value) (z4 : Option Value), K x → Wp l SM d (0, 0) mX11_loses 83 [some (.ref 0), some (.int v1), z2, some (.int v3), z4] [] x Q) : ∀ (n : Nat) (s : (Int32 × Mm)) (y : Mm) (z2 : Option Value) , iter n (fun s => M_loses_l41 v1 v3 s.1 s.2) s = some y → K y → Wp l SM d (0, 0) mX11_loses 41 [some (.ref 0), some (.int v1), z2, some (.int v3), some (.int s.1)] [] s.2 Q := by
  intro n
  induction n with
  | zero => intro s y z2 h; cases h
  | succ n ih =>
    intro s y z2 h hK
    obtain ⟨z, hz, hn⟩ := iter_some h
    refine ok_M_loses_l41 hd v1 v3 s.1 s.2 _ (fun z => nxt n (fun s => M_loses_l41 v1 v3 s.1 s.2) z y) ?_ ?_ hz hn
    · intro s2 z2 h2
      exact ih s2 y _ h2 hK
    · intro x z2 z4 h2
      have h3 : x = y := h2
      subst h3
      exact he0 x _ _ hK
theorem ok_M_loses_l24 {l : Launch} {d : Nat} (hd : 2 ≤ d) (v1 : Int32)  (v3 : Int32)  (μ : Mm) (z2 : Option Value) (z4 : Option Value) {Q : Option Value → Sh → Mm → Prop} (K : (Int32 × Mm) ⊕ Mm → Prop) (hb : ∀ (s : (Int32 × Mm)) (z2 : Option Value) (z4 : Option Value), K (Sum.inl s) → Wp l SM d (0, 0) mX11_loses 24 [some (.ref 0), some (.int v1), z2, some (.int s.1), z4] [] s.2 Q) (he0 : ∀ (x : Mm) (z1 : Option Value) (z2 : Option Value) (z3 : Option Value) (z4 : Option Value), K (Sum.inr x) → Wp l SM d (0, 0) mX11_loses 89 [some (.ref 0), z1, z2, z3, z4] [] x Q) {z : (Int32 × Mm) ⊕ Mm} (h : M_loses_l24 v1 v3 μ = some z) (hz : K z) : Wp l SM d (0, 0) mX11_loses 24 [some (.ref 0), some (.int v1), z2, some (.int v3), z4] [] μ Q := by
  unfold M_loses_l24 at h
  refine wp_iload_n (x := v3) dX11_loses_24 rfl ?_
  refine wp_aload_n (x := 0) dX11_loses_25 rfl ?_
  refine wp_getR 1 fl_X11_7 (by decide) rfl (kltM kRootM) kRootM (ly11_1 kRootM).1 dX11_loses_26 ?_
  refine wp_sipush (nI 263) dX11_loses_29 rfl ?_
  refine wp_iload_n (x := v1) dX11_loses_32 rfl ?_
  refine wp_iadd dX11_loses_33 ?_
  obtain ⟨c1, h⟩ := chv_some h
  refine wp_ialde (kltM (ly11_1 kRootM).2.1) (ly11_1 kRootM).2.1 (ly11_1 kRootM).2.2 c1 dX11_loses_34 ?_
  refine wp_icmp_ge 89 dX11_loses_35 (by decide) (fun c1 => ?_) (fun c1 => ?_)
  · rw [if_pos c1] at h
    obtain rfl := some1 h
    exact he0 μ _ _ _ _ hz
  · rw [if_neg c1] at h
    refine wp_iconst (nI 0) dX11_loses_38 rfl ?_
    refine wp_istore (L2 := [some (.ref 0), some (.int v1), z2, some (.int v3), some (.int (nI 0))]) dX11_loses_39 (by decide) rfl rfl ?_
    obtain ⟨x41, hi, h⟩ := bni_some h
    refine okl_M_loses_l41 hd v1 v3 (fun z => z = x41) ?_ 1000000 ((nI 0), μ) x41 _ hi rfl
    · intro y0 z2 z4 e0
      have e0 : y0 = x41 := e0
      subst e0
      refine wp_iincF (x := v3) (k0 := (nI 1)) (L2 := [some (.ref 0), some (.int v1), none, some (.int (v3 + (nI 1))), z4]) dX11_loses_83 rfl rfl (by decide) rfl ?_
      refine wp_goto 24 dX11_loses_86 (by decide) ?_
      obtain rfl := some1 h
      exact hb ((v3 + (nI 1)), y0) _ _ hz
theorem okl_M_loses_l24 {l : Launch} {d : Nat} (hd : 2 ≤ d) (v1 : Int32)  {Q : Option Value → Sh → Mm → Prop} (K : Mm → Prop) (he0 : ∀ (x : Mm) (z1 : Option Value) (z2 : Option Value) (z3 : Option Value) (z4 : Option Value), K x → Wp l SM d (0, 0) mX11_loses 89 [some (.ref 0), z1, z2, z3, z4] [] x Q) : ∀ (n : Nat) (s : (Int32 × Mm)) (y : Mm) (z2 : Option Value) (z4 : Option Value) , iter n (fun s => M_loses_l24 v1 s.1 s.2) s = some y → K y → Wp l SM d (0, 0) mX11_loses 24 [some (.ref 0), some (.int v1), z2, some (.int s.1), z4] [] s.2 Q := by
  intro n
  induction n with
  | zero => intro s y z2 z4 h; cases h
  | succ n ih =>
    intro s y z2 z4 h hK
    obtain ⟨z, hz, hn⟩ := iter_some h
    refine ok_M_loses_l24 hd v1 s.1 s.2 _ _ (fun z => nxt n (fun s => M_loses_l24 v1 s.1 s.2) z y) ?_ ?_ hz hn
    · intro s2 z2 z4 h2
      exact ih s2 y _ _ h2 hK
    · intro x z1 z2 z3 z4 h2
      have h3 : x = y := h2
      subst h3
      exact he0 x _ _ _ _ hK
theorem ok_M_loses {l : Launch} {d : Nat} (hd : 2 ≤ d) (v1 : Int32)  (v2 : Int32)  (μ : Mm) {μ' : Mm} (h : M_loses v1 v2 μ = some μ') : Wp l SM d (0, 0) mX11_loses 0 [some (.ref 0), some (.int v1), some (.int v2), none, none] [] μ (Qv SM μ') := by
  unfold M_loses at h
  refine wp_aload_n (x := 0) dX11_loses_0 rfl ?_
  refine wp_getR 1 fl_X11_7 (by decide) rfl (kltM kRootM) kRootM (ly11_1 kRootM).1 dX11_loses_1 ?_
  refine wp_sipush (nI 263) dX11_loses_4 rfl ?_
  refine wp_iload_n (x := v1) dX11_loses_7 rfl ?_
  refine wp_iadd dX11_loses_8 ?_
  refine wp_aload_n (x := 0) dX11_loses_9 rfl ?_
  refine wp_getR 1 fl_X11_7 (by decide) rfl (kltM kRootM) kRootM (ly11_1 kRootM).1 dX11_loses_10 ?_
  refine wp_sipush (nI 263) dX11_loses_13 rfl ?_
  refine wp_iload_n (x := v1) dX11_loses_16 rfl ?_
  refine wp_iadd dX11_loses_17 ?_
  obtain ⟨c1, h⟩ := chv_some h
  refine wp_ialde (kltM (ly11_1 kRootM).2.1) (ly11_1 kRootM).2.1 (ly11_1 kRootM).2.2 c1 dX11_loses_18 ?_
  refine wp_iconst (nI 1) dX11_loses_19 rfl ?_
  refine wp_isub dX11_loses_20 ?_
  obtain ⟨c1, h⟩ := chv_some h
  obtain ⟨μ1, e1, h⟩ := lt_some h
  refine wp_iaste e1 (kltM (ly11_1 kRootM).2.1) (ly11_1 kRootM).2.1 (ly11_1 kRootM).2.2 c1 dX11_loses_21 ?_
  refine wp_iload_n (x := v2) dX11_loses_22 rfl ?_
  refine wp_istore_n (L2 := [some (.ref 0), some (.int v1), some (.int v2), some (.int v2), none]) dX11_loses_23 (by decide) rfl rfl ?_
  obtain ⟨x24, hi, h⟩ := bni_some h
  refine okl_M_loses_l24 hd v1 (fun z => z = x24) ?_ 1000000 (v2, μ1) x24 _ _ hi rfl
  · intro y0 z1 z2 z3 z4 e0
    have e0 : y0 = x24 := e0
    subst e0
    obtain rfl := ret1 h
    exact wp_vret rfl dX11_loses_89 ⟨rfl, rfl, rfl⟩
theorem ok_M_hand {l : Launch} {d : Nat} (hd : 3 ≤ d) (v1 : Int32)  (v2 : Int32)  (μ : Mm) {r : Int32} {μ' : Mm} (h : M_hand v1 v2 μ = some (r, μ')) : Wp l SM d (0, 0) mX11_hand 0 [some (.ref 0), some (.int v1), some (.int v2)] [] μ (Qi SM r μ') := by
  unfold M_hand at h
  refine wp_aload_n (x := 0) dX11_hand_0 rfl ?_
  refine wp_iconst (nI 0) dX11_hand_1 rfl ?_
  obtain ⟨μ1, e1, h⟩ := lt_some h
  refine wp_putIe e1 fl_X11_86 (by decide) rfl (kltM kRootM) kRootM dX11_hand_2 ?_
  refine wp_aload_n (x := 0) dX11_hand_5 rfl ?_
  refine wp_iload_n (x := v1) dX11_hand_6 rfl ?_
  obtain ⟨r2, g1, h⟩ := bnd_some h
  refine wp_cVi (d := d - 1) (o := 0) cv_X11_117 (kltM kRootM) kRootM (as := [.int v1]) (rest := []) dX11_hand_7 (by omega) cloM rfl rfl (Nat.le_of_ble_eq_true rfl) (Nat.le_of_ble_eq_true rfl) (ok_M_isPerson (by omega) v1 μ1 g1) ?_ rfl
  refine wp_if_eq 45 dX11_hand_10 (by decide) (fun c1 => ?_) (fun c1 => ?_)
  · rw [if_pos c1] at h
    refine wp_iconst (nI 0) dX11_hand_45 rfl ?_
    obtain ⟨rfl, rfl⟩ := ret2 h
    exact wp_zret rfl (Or.inl rfl) dX11_hand_46 ⟨rfl, rfl, rfl⟩
  · rw [if_neg c1] at h
    refine wp_aload_n (x := 0) dX11_hand_13 rfl ?_
    refine wp_iload_n (x := v2) dX11_hand_14 rfl ?_
    obtain ⟨r3, g1, h⟩ := bnd_some h
    refine wp_cVi (d := d - 1) (o := 0) cv_X11_148 (kltM kRootM) kRootM (as := [.int v2]) (rest := []) dX11_hand_15 (by omega) cloM rfl rfl (Nat.le_of_ble_eq_true rfl) (Nat.le_of_ble_eq_true rfl) (ok_M_isVersion (by omega) v2 μ1 g1) ?_ rfl
    refine wp_if_eq 45 dX11_hand_18 (by decide) (fun c1 => ?_) (fun c1 => ?_)
    · rw [if_pos c1] at h
      refine wp_iconst (nI 0) dX11_hand_45 rfl ?_
      obtain ⟨rfl, rfl⟩ := ret2 h
      exact wp_zret rfl (Or.inl rfl) dX11_hand_46 ⟨rfl, rfl, rfl⟩
    · rw [if_neg c1] at h
      refine wp_aload_n (x := 0) dX11_hand_21 rfl ?_
      refine wp_getR 5 fl_X11_22 (by decide) rfl (kltM kRootM) kRootM (ly11_8 kRootM).1 dX11_hand_22 ?_
      refine wp_iload_n (x := v1) dX11_hand_25 rfl ?_
      obtain ⟨c1, h⟩ := chv_some h
      refine wp_ialde (kltM (ly11_8 kRootM).2.1) (ly11_8 kRootM).2.1 (ly11_8 kRootM).2.2 c1 dX11_hand_26 ?_
      refine wp_iconst (nI 1) dX11_hand_27 rfl ?_
      refine wp_icmp_eq 45 dX11_hand_28 (by decide) (fun c1 => ?_) (fun c1 => ?_)
      · rw [if_pos c1] at h
        refine wp_iconst (nI 0) dX11_hand_45 rfl ?_
        obtain ⟨rfl, rfl⟩ := ret2 h
        exact wp_zret rfl (Or.inl rfl) dX11_hand_46 ⟨rfl, rfl, rfl⟩
      · rw [if_neg c1] at h
        refine wp_aload_n (x := 0) dX11_hand_31 rfl ?_
        refine wp_getR 1 fl_X11_7 (by decide) rfl (kltM kRootM) kRootM (ly11_1 kRootM).1 dX11_hand_32 ?_
        refine wp_sipush (nI 263) dX11_hand_35 rfl ?_
        refine wp_iload_n (x := v1) dX11_hand_38 rfl ?_
        refine wp_iadd dX11_hand_39 ?_
        obtain ⟨c1, h⟩ := chv_some h
        refine wp_ialde (kltM (ly11_1 kRootM).2.1) (ly11_1 kRootM).2.1 (ly11_1 kRootM).2.2 c1 dX11_hand_40 ?_
        refine wp_iconst (nI 3) dX11_hand_41 rfl ?_
        refine wp_icmp_ne 47 dX11_hand_42 (by decide) (fun c1 => ?_) (fun c1 => ?_)
        · rw [if_neg c1] at h
          refine wp_aload_n (x := 0) dX11_hand_47 rfl ?_
          obtain ⟨μ4, g1, h⟩ := bnd_some h
          refine wp_cVv (d := d - 1) (o := 0) cv_X11_151 (kltM kRootM) kRootM (as := []) (rest := []) dX11_hand_48 (by omega) cloM rfl rfl (Nat.le_of_ble_eq_true rfl) (Nat.le_of_ble_eq_true rfl) (ok_M_keepsAhead (by omega) μ1 g1) ?_ rfl
          refine wp_aload_n (x := 0) dX11_hand_51 rfl ?_
          refine wp_iload_n (x := v1) dX11_hand_52 rfl ?_
          refine wp_iload_n (x := v2) dX11_hand_53 rfl ?_
          refine wp_iconst (-1) dX11_hand_54 rfl ?_
          obtain ⟨μ5, g1, h⟩ := bnd_some h
          refine wp_cVv (d := d - 1) (o := 0) cv_X11_154 (kltM kRootM) kRootM (as := [.int v1, .int v2, .int (-1)]) (rest := []) dX11_hand_55 (by omega) cloM rfl rfl (Nat.le_of_ble_eq_true rfl) (Nat.le_of_ble_eq_true rfl) (ok_M_holds (by omega) v1 v2 (-1) μ4 g1) ?_ rfl
          refine wp_iconst (nI 1) dX11_hand_58 rfl ?_
          obtain ⟨rfl, rfl⟩ := ret2 h
          exact wp_zret rfl (Or.inr rfl) dX11_hand_59 ⟨rfl, rfl, rfl⟩
        · rw [if_pos c1] at h
          refine wp_iconst (nI 0) dX11_hand_45 rfl ?_
          obtain ⟨rfl, rfl⟩ := ret2 h
          exact wp_zret rfl (Or.inl rfl) dX11_hand_46 ⟨rfl, rfl, rfl⟩
theorem ok_M_burn {l : Launch} {d : Nat} (hd : 3 ≤ d) (v1 : Int32)  (v2 : Int32)  (μ : Mm) {r : Int32} {μ' : Mm} (h : M_burn v1 v2 μ = some (r, μ')) : Wp l SM d (0, 0) mX11_burn 0 [some (.ref 0), some (.int v1), some (.int v2)] [] μ (Qi SM r μ') := by
  unfold M_burn at h
  refine wp_aload_n (x := 0) dX11_burn_0 rfl ?_
  refine wp_iconst (nI 0) dX11_burn_1 rfl ?_
  obtain ⟨μ1, e1, h⟩ := lt_some h
  refine wp_putIe e1 fl_X11_86 (by decide) rfl (kltM kRootM) kRootM dX11_burn_2 ?_
  refine wp_aload_n (x := 0) dX11_burn_5 rfl ?_
  refine wp_iload_n (x := v1) dX11_burn_6 rfl ?_
  refine wp_iload_n (x := v2) dX11_burn_7 rfl ?_
  obtain ⟨r2, g1, h⟩ := bnd_some h
  refine wp_cVi (d := d - 1) (o := 0) cv_X11_158 (kltM kRootM) kRootM (as := [.int v1, .int v2]) (rest := []) dX11_burn_8 (by omega) cloM rfl rfl (Nat.le_of_ble_eq_true rfl) (Nat.le_of_ble_eq_true rfl) (ok_M_hasLetter (by omega) v1 v2 μ1 g1) ?_ rfl
  refine wp_if_ne 16 dX11_burn_11 (by decide) (fun c1 => ?_) (fun c1 => ?_)
  · rw [if_neg c1] at h
    refine wp_aload_n (x := 0) dX11_burn_16 rfl ?_
    obtain ⟨μ3, g1, h⟩ := bnd_some h
    refine wp_cVv (d := d - 1) (o := 0) cv_X11_151 (kltM kRootM) kRootM (as := []) (rest := []) dX11_burn_17 (by omega) cloM rfl rfl (Nat.le_of_ble_eq_true rfl) (Nat.le_of_ble_eq_true rfl) (ok_M_keepsAhead (by omega) μ1 g1) ?_ rfl
    refine wp_aload_n (x := 0) dX11_burn_20 rfl ?_
    refine wp_iload_n (x := v1) dX11_burn_21 rfl ?_
    refine wp_iload_n (x := v2) dX11_burn_22 rfl ?_
    obtain ⟨μ4, g1, h⟩ := bnd_some h
    refine wp_cVv (d := d - 1) (o := 0) cv_X11_162 (kltM kRootM) kRootM (as := [.int v1, .int v2]) (rest := []) dX11_burn_23 (by omega) cloM rfl rfl (Nat.le_of_ble_eq_true rfl) (Nat.le_of_ble_eq_true rfl) (ok_M_loses (by omega) v1 v2 μ3 g1) ?_ rfl
    refine wp_iconst (nI 1) dX11_burn_26 rfl ?_
    obtain ⟨rfl, rfl⟩ := ret2 h
    exact wp_zret rfl (Or.inr rfl) dX11_burn_27 ⟨rfl, rfl, rfl⟩
  · rw [if_pos c1] at h
    refine wp_iconst (nI 0) dX11_burn_14 rfl ?_
    obtain ⟨rfl, rfl⟩ := ret2 h
    exact wp_zret rfl (Or.inl rfl) dX11_burn_15 ⟨rfl, rfl, rfl⟩
theorem ok_M_types_l3 {l : Launch} {d : Nat} (hd : 1 ≤ d) (v1 : Int32)  (v2 : Int32)  (μ : Mm) {Q : Option Value → Sh → Mm → Prop} (K : (Int32 × Mm) ⊕ Mm → Prop) (hb : ∀ (s : (Int32 × Mm)), K (Sum.inl s) → Wp l SM d (0, 0) mX11_types 3 [some (.ref 0), some (.int v1), some (.int s.1)] [] s.2 Q) (he0 : ∀ (x : Mm) (z1 : Option Value) (z2 : Option Value), K (Sum.inr x) → Wp l SM d (0, 0) mX11_types 39 [some (.ref 0), z1, z2] [] x Q) {z : (Int32 × Mm) ⊕ Mm} (h : M_types_l3 v1 v2 μ = some z) (hz : K z) : Wp l SM d (0, 0) mX11_types 3 [some (.ref 0), some (.int v1), some (.int v2)] [] μ Q := by
  unfold M_types_l3 at h
  refine wp_iload_n (x := v2) dX11_types_3 rfl ?_
  refine wp_if_lt 39 dX11_types_4 (by decide) (fun c1 => ?_) (fun c1 => ?_)
  · rw [if_pos c1] at h
    obtain rfl := some1 h
    exact he0 μ _ _ hz
  · rw [if_neg c1] at h
    refine wp_aload_n (x := 0) dX11_types_7 rfl ?_
    refine wp_getR 11 fl_X11_40 (by decide) rfl (kltM kRootM) kRootM (ly11_20 kRootM).1 dX11_types_8 ?_
    refine wp_aload_n (x := 0) dX11_types_11 rfl ?_
    refine wp_getI fl_X11_166 (by decide) rfl (kltM kRootM) kRootM dX11_types_12 ?_
    refine wp_iload_n (x := v1) dX11_types_15 rfl ?_
    refine wp_iload_n (x := v2) dX11_types_16 rfl ?_
    refine wp_ishr dX11_types_17 ?_
    refine wp_sipush (nI 255) dX11_types_18 rfl ?_
    refine wp_iand dX11_types_21 ?_
    obtain ⟨c1, h⟩ := chv_some h
    obtain ⟨μ1, e1, h⟩ := lt_some h
    refine wp_iaste e1 (kltM (ly11_20 kRootM).2.1) (ly11_20 kRootM).2.1 (ly11_20 kRootM).2.2 c1 dX11_types_22 ?_
    refine wp_aload_n (x := 0) dX11_types_23 rfl ?_
    refine wp_aload_n (x := 0) dX11_types_24 rfl ?_
    refine wp_getI fl_X11_166 (by decide) rfl (kltM kRootM) kRootM dX11_types_25 ?_
    refine wp_iconst (nI 1) dX11_types_28 rfl ?_
    refine wp_iadd dX11_types_29 ?_
    obtain ⟨μ2, e1, h⟩ := lt_some h
    refine wp_putIe e1 fl_X11_166 (by decide) rfl (kltM kRootM) kRootM dX11_types_30 ?_
    refine wp_iinc (x := v2) (k0 := (-8)) (L2 := [some (.ref 0), some (.int v1), some (.int (v2 + (-8)))]) dX11_types_33 rfl rfl (by decide) rfl rfl ?_
    refine wp_goto 3 dX11_types_36 (by decide) ?_
    obtain rfl := some1 h
    exact hb ((v2 + (-8)), μ2) hz
theorem okl_M_types_l3 {l : Launch} {d : Nat} (hd : 1 ≤ d) (v1 : Int32)  {Q : Option Value → Sh → Mm → Prop} (K : Mm → Prop) (he0 : ∀ (x : Mm) (z1 : Option Value) (z2 : Option Value), K x → Wp l SM d (0, 0) mX11_types 39 [some (.ref 0), z1, z2] [] x Q) : ∀ (n : Nat) (s : (Int32 × Mm)) (y : Mm) , iter n (fun s => M_types_l3 v1 s.1 s.2) s = some y → K y → Wp l SM d (0, 0) mX11_types 3 [some (.ref 0), some (.int v1), some (.int s.1)] [] s.2 Q := by
  intro n
  induction n with
  | zero => intro s y  h; cases h
  | succ n ih =>
    intro s y  h hK
    obtain ⟨z, hz, hn⟩ := iter_some h
    refine ok_M_types_l3 hd v1 s.1 s.2 (fun z => nxt n (fun s => M_types_l3 v1 s.1 s.2) z y) ?_ ?_ hz hn
    · intro s2  h2
      exact ih s2 y h2 hK
    · intro x z1 z2 h2
      have h3 : x = y := h2
      subst h3
      exact he0 x _ _ hK
theorem ok_M_types {l : Launch} {d : Nat} (hd : 1 ≤ d) (v1 : Int32)  (μ : Mm) {μ' : Mm} (h : M_types v1 μ = some μ') : Wp l SM d (0, 0) mX11_types 0 [some (.ref 0), some (.int v1), none] [] μ (Qv SM μ') := by
  unfold M_types at h
  refine wp_bipush (nI 24) dX11_types_0 rfl ?_
  refine wp_istore_n (L2 := [some (.ref 0), some (.int v1), some (.int (nI 24))]) dX11_types_2 (by decide) rfl rfl ?_
  obtain ⟨x3, hi, h⟩ := bni_some h
  refine okl_M_types_l3 hd v1 (fun z => z = x3) ?_ 1000000 ((nI 24), μ) x3 hi rfl
  · intro y0 z1 z2 e0
    have e0 : y0 = x3 := e0
    subst e0
    obtain rfl := ret1 h
    exact wp_vret rfl dX11_types_39 ⟨rfl, rfl, rfl⟩
theorem ok_M_feed {l : Launch} {d : Nat} (hd : 2 ≤ d) (v1 : Int32)  (v2 : Int32)  (v3 : Int32)  (v4 : Int32)  (v5 : Int32)  (μ : Mm) {r : Int32} {μ' : Mm} (h : M_feed v1 v2 v3 v4 v5 μ = some (r, μ')) : Wp l SM d (0, 0) mX11_feed 0 [some (.ref 0), some (.int v1), some (.int v2), some (.int v3), some (.int v4), some (.int v5)] [] μ (Qi SM r μ') := by
  unfold M_feed at h
  refine wp_aload_n (x := 0) dX11_feed_0 rfl ?_
  refine wp_iconst (nI 0) dX11_feed_1 rfl ?_
  obtain ⟨μ1, e1, h⟩ := lt_some h
  refine wp_putIe e1 fl_X11_86 (by decide) rfl (kltM kRootM) kRootM dX11_feed_2 ?_
  refine wp_aload_n (x := 0) dX11_feed_5 rfl ?_
  refine wp_getI fl_X11_166 (by decide) rfl (kltM kRootM) kRootM dX11_feed_6 ?_
  refine wp_sipush (nI 380) dX11_feed_9 rfl ?_
  refine wp_icmp_le 17 dX11_feed_12 (by decide) (fun c1 => ?_) (fun c1 => ?_)
  · rw [if_pos c1] at h
    refine wp_aload_n (x := 0) dX11_feed_17 rfl ?_
    refine wp_iload_n (x := v1) dX11_feed_18 rfl ?_
    obtain ⟨μ2, g1, h⟩ := bnd_some h
    refine wp_cVv (d := d - 1) (o := 0) cv_X11_169 (kltM kRootM) kRootM (as := [.int v1]) (rest := []) dX11_feed_19 (by omega) cloM rfl rfl (Nat.le_of_ble_eq_true rfl) (Nat.le_of_ble_eq_true rfl) (ok_M_types (by omega) v1 μ1 g1) ?_ rfl
    refine wp_aload_n (x := 0) dX11_feed_22 rfl ?_
    refine wp_iload_n (x := v2) dX11_feed_23 rfl ?_
    obtain ⟨μ3, g1, h⟩ := bnd_some h
    refine wp_cVv (d := d - 1) (o := 0) cv_X11_169 (kltM kRootM) kRootM (as := [.int v2]) (rest := []) dX11_feed_24 (by omega) cloM rfl rfl (Nat.le_of_ble_eq_true rfl) (Nat.le_of_ble_eq_true rfl) (ok_M_types (by omega) v2 μ2 g1) ?_ rfl
    refine wp_aload_n (x := 0) dX11_feed_27 rfl ?_
    refine wp_iload_n (x := v3) dX11_feed_28 rfl ?_
    obtain ⟨μ4, g1, h⟩ := bnd_some h
    refine wp_cVv (d := d - 1) (o := 0) cv_X11_169 (kltM kRootM) kRootM (as := [.int v3]) (rest := []) dX11_feed_29 (by omega) cloM rfl rfl (Nat.le_of_ble_eq_true rfl) (Nat.le_of_ble_eq_true rfl) (ok_M_types (by omega) v3 μ3 g1) ?_ rfl
    refine wp_aload_n (x := 0) dX11_feed_32 rfl ?_
    refine wp_iload (x := v4) dX11_feed_33 rfl ?_
    obtain ⟨μ5, g1, h⟩ := bnd_some h
    refine wp_cVv (d := d - 1) (o := 0) cv_X11_169 (kltM kRootM) kRootM (as := [.int v4]) (rest := []) dX11_feed_35 (by omega) cloM rfl rfl (Nat.le_of_ble_eq_true rfl) (Nat.le_of_ble_eq_true rfl) (ok_M_types (by omega) v4 μ4 g1) ?_ rfl
    refine wp_aload_n (x := 0) dX11_feed_38 rfl ?_
    refine wp_iload (x := v5) dX11_feed_39 rfl ?_
    obtain ⟨μ6, g1, h⟩ := bnd_some h
    refine wp_cVv (d := d - 1) (o := 0) cv_X11_169 (kltM kRootM) kRootM (as := [.int v5]) (rest := []) dX11_feed_41 (by omega) cloM rfl rfl (Nat.le_of_ble_eq_true rfl) (Nat.le_of_ble_eq_true rfl) (ok_M_types (by omega) v5 μ5 g1) ?_ rfl
    refine wp_aload_n (x := 0) dX11_feed_44 rfl ?_
    refine wp_getI fl_X11_166 (by decide) rfl (kltM kRootM) kRootM dX11_feed_45 ?_
    obtain ⟨rfl, rfl⟩ := ret2 h
    exact wp_iret rfl dX11_feed_48 ⟨rfl, rfl, rfl⟩
  · rw [if_neg c1] at h
    refine wp_iconst (-1) dX11_feed_15 rfl ?_
    obtain ⟨rfl, rfl⟩ := ret2 h
    exact wp_iret rfl dX11_feed_16 ⟨rfl, rfl, rfl⟩
theorem ok_M_end {l : Launch} {d : Nat} (hd : 2 ≤ d) (v1 : Int32)  (μ : Mm) {r : Int32} {μ' : Mm} (h : M_end v1 μ = some (r, μ')) : Wp l SM d (0, 0) mX11_end 0 [some (.ref 0), some (.int v1)] [] μ (Qi SM r μ') := by
  unfold M_end at h
  refine wp_aload_n (x := 0) dX11_end_0 rfl ?_
  refine wp_iconst (nI 0) dX11_end_1 rfl ?_
  obtain ⟨μ1, e1, h⟩ := lt_some h
  refine wp_putIe e1 fl_X11_86 (by decide) rfl (kltM kRootM) kRootM dX11_end_2 ?_
  refine wp_aload_n (x := 0) dX11_end_5 rfl ?_
  refine wp_iload_n (x := v1) dX11_end_6 rfl ?_
  refine wp_iconst (nI 0) dX11_end_7 rfl ?_
  refine wp_aload_n (x := 0) dX11_end_8 rfl ?_
  refine wp_getI fl_X11_166 (by decide) rfl (kltM kRootM) kRootM dX11_end_9 ?_
  obtain ⟨r2, g1, h⟩ := bnd_some h
  refine wp_cVi (d := d - 1) (o := 0) cv_X11_113 (kltM kRootM) kRootM (as := [.int v1, .int (nI 0), .int (μ1.1 0 21)]) (rest := []) dX11_end_12 (by omega) cloM rfl rfl (Nat.le_of_ble_eq_true rfl) (Nat.le_of_ble_eq_true rfl) (ok_M_isIn (by omega) v1 (nI 0) (μ1.1 0 21) μ1 g1) ?_ rfl
  refine wp_if_ne 20 dX11_end_15 (by decide) (fun c1 => ?_) (fun c1 => ?_)
  · rw [if_neg c1] at h
    refine wp_aload_n (x := 0) dX11_end_20 rfl ?_
    refine wp_iload_n (x := v1) dX11_end_21 rfl ?_
    obtain ⟨μ3, e1, h⟩ := lt_some h
    refine wp_putIe e1 fl_X11_166 (by decide) rfl (kltM kRootM) kRootM dX11_end_22 ?_
    refine wp_iconst (nI 1) dX11_end_25 rfl ?_
    obtain ⟨rfl, rfl⟩ := ret2 h
    exact wp_zret rfl (Or.inr rfl) dX11_end_26 ⟨rfl, rfl, rfl⟩
  · rw [if_pos c1] at h
    refine wp_iconst (nI 0) dX11_end_18 rfl ?_
    obtain ⟨rfl, rfl⟩ := ret2 h
    exact wp_zret rfl (Or.inl rfl) dX11_end_19 ⟨rfl, rfl, rfl⟩
theorem ok_M_raw {l : Launch} {d : Nat} (hd : 1 ≤ d) (v1 : Int32)  (μ : Mm) {r : Int32} (h : M_raw v1 μ = some r) : Wp l SM d (0, 0) mX11_raw 0 [some (.ref 0), some (.int v1)] [] μ (Qi SM r μ) := by
  unfold M_raw at h
  refine wp_iload_n (x := v1) dX11_raw_0 rfl ?_
  refine wp_aload_n (x := 0) dX11_raw_1 rfl ?_
  refine wp_getI fl_X11_166 (by decide) rfl (kltM kRootM) kRootM dX11_raw_2 ?_
  refine wp_icmp_ge 17 dX11_raw_5 (by decide) (fun c1 => ?_) (fun c1 => ?_)
  · rw [if_pos c1] at h
    refine wp_iconst (-1) dX11_raw_17 rfl ?_
    obtain rfl := ret1 h
    exact wp_iret rfl dX11_raw_18 ⟨rfl, rfl, rfl⟩
  · rw [if_neg c1] at h
    refine wp_aload_n (x := 0) dX11_raw_8 rfl ?_
    refine wp_getR 11 fl_X11_40 (by decide) rfl (kltM kRootM) kRootM (ly11_20 kRootM).1 dX11_raw_9 ?_
    refine wp_iload_n (x := v1) dX11_raw_12 rfl ?_
    obtain ⟨c1, h⟩ := chv_some h
    refine wp_ialde (kltM (ly11_20 kRootM).2.1) (ly11_20 kRootM).2.1 (ly11_20 kRootM).2.2 c1 dX11_raw_13 ?_
    refine wp_goto 18 dX11_raw_14 (by decide) ?_
    obtain rfl := ret1 h
    exact wp_iret rfl dX11_raw_18 ⟨rfl, rfl, rfl⟩
theorem ok_M_isLetter_j24 {l : Launch} {d : Nat} (hd : 2 ≤ d) (μ : Mm) (z1 : Option Value) {r : Int32} (h : M_isLetter_j24 = some r) : Wp l SM d (0, 0) mX11_isLetter 24 [some (.ref 0), z1] [] μ (Qi SM r μ) := by
  unfold M_isLetter_j24 at h
  refine wp_iconst (nI 1) dX11_isLetter_24 rfl ?_
  refine wp_goto 29 dX11_isLetter_25 (by decide) ?_
  obtain rfl := ret1 h
  exact wp_zret rfl (Or.inr rfl) dX11_isLetter_29 ⟨rfl, rfl, rfl⟩
theorem ok_M_isLetter {l : Launch} {d : Nat} (hd : 2 ≤ d) (v1 : Int32)  (μ : Mm) {r : Int32} (h : M_isLetter v1 = some r) : Wp l SM d (0, 0) mX11_isLetter 0 [some (.ref 0), some (.int v1)] [] μ (Qi SM r μ) := by
  unfold M_isLetter at h
  refine wp_aload_n (x := 0) dX11_isLetter_0 rfl ?_
  refine wp_iload_n (x := v1) dX11_isLetter_1 rfl ?_
  refine wp_bipush (nI 97) dX11_isLetter_2 rfl ?_
  refine wp_bipush (nI 122) dX11_isLetter_4 rfl ?_
  obtain ⟨r1, g1, h⟩ := bnd_some h
  refine wp_cVi (d := d - 1) (o := 0) cv_X11_113 (kltM kRootM) kRootM (as := [.int v1, .int (nI 97), .int (nI 122)]) (rest := []) dX11_isLetter_6 (by omega) cloM rfl rfl (Nat.le_of_ble_eq_true rfl) (Nat.le_of_ble_eq_true rfl) (ok_M_isIn (by omega) v1 (nI 97) (nI 122) μ g1) ?_ rfl
  refine wp_if_ne 24 dX11_isLetter_9 (by decide) (fun c1 => ?_) (fun c1 => ?_)
  · rw [if_neg c1] at h
    exact ok_M_isLetter_j24 hd μ _ h
  · rw [if_pos c1] at h
    refine wp_aload_n (x := 0) dX11_isLetter_12 rfl ?_
    refine wp_iload_n (x := v1) dX11_isLetter_13 rfl ?_
    refine wp_bipush (nI 65) dX11_isLetter_14 rfl ?_
    refine wp_bipush (nI 90) dX11_isLetter_16 rfl ?_
    obtain ⟨r2, g1, h⟩ := bnd_some h
    refine wp_cVi (d := d - 1) (o := 0) cv_X11_113 (kltM kRootM) kRootM (as := [.int v1, .int (nI 65), .int (nI 90)]) (rest := []) dX11_isLetter_18 (by omega) cloM rfl rfl (Nat.le_of_ble_eq_true rfl) (Nat.le_of_ble_eq_true rfl) (ok_M_isIn (by omega) v1 (nI 65) (nI 90) μ g1) ?_ rfl
    refine wp_if_eq 28 dX11_isLetter_21 (by decide) (fun c1 => ?_) (fun c1 => ?_)
    · rw [if_pos c1] at h
      refine wp_iconst (nI 0) dX11_isLetter_28 rfl ?_
      obtain rfl := ret1 h
      exact wp_zret rfl (Or.inl rfl) dX11_isLetter_29 ⟨rfl, rfl, rfl⟩
    · rw [if_neg c1] at h
      exact ok_M_isLetter_j24 hd μ _ h
theorem ok_M_isDigit {l : Launch} {d : Nat} (hd : 2 ≤ d) (v1 : Int32)  (μ : Mm) {r : Int32} (h : M_isDigit v1 = some r) : Wp l SM d (0, 0) mX11_isDigit 0 [some (.ref 0), some (.int v1)] [] μ (Qi SM r μ) := by
  unfold M_isDigit at h
  refine wp_aload_n (x := 0) dX11_isDigit_0 rfl ?_
  refine wp_iload_n (x := v1) dX11_isDigit_1 rfl ?_
  refine wp_bipush (nI 48) dX11_isDigit_2 rfl ?_
  refine wp_bipush (nI 57) dX11_isDigit_4 rfl ?_
  obtain ⟨r1, g1, h⟩ := bnd_some h
  refine wp_cVi (d := d - 1) (o := 0) cv_X11_113 (kltM kRootM) kRootM (as := [.int v1, .int (nI 48), .int (nI 57)]) (rest := []) dX11_isDigit_6 (by omega) cloM rfl rfl (Nat.le_of_ble_eq_true rfl) (Nat.le_of_ble_eq_true rfl) (ok_M_isIn (by omega) v1 (nI 48) (nI 57) μ g1) ?_ rfl
  obtain ⟨c1, h⟩ := chk_some h
  obtain rfl := ret1 h
  exact wp_zret rfl c1 dX11_isDigit_9 ⟨rfl, rfl, rfl⟩
theorem ok_M_isMarkSign_j60 {l : Launch} {d : Nat} (hd : 1 ≤ d) (μ : Mm) (z1 : Option Value) {r : Int32} (h : M_isMarkSign_j60 = some r) : Wp l SM d (0, 0) mX11_isMarkSign 60 [some (.ref 0), z1] [] μ (Qi SM r μ) := by
  unfold M_isMarkSign_j60 at h
  refine wp_iconst (nI 1) dX11_isMarkSign_60 rfl ?_
  refine wp_goto 65 dX11_isMarkSign_61 (by decide) ?_
  obtain rfl := ret1 h
  exact wp_zret rfl (Or.inr rfl) dX11_isMarkSign_65 ⟨rfl, rfl, rfl⟩
theorem ok_M_isMarkSign {l : Launch} {d : Nat} (hd : 1 ≤ d) (v1 : Int32)  (μ : Mm) {r : Int32} (h : M_isMarkSign v1 = some r) : Wp l SM d (0, 0) mX11_isMarkSign 0 [some (.ref 0), some (.int v1)] [] μ (Qi SM r μ) := by
  unfold M_isMarkSign at h
  refine wp_iload_n (x := v1) dX11_isMarkSign_0 rfl ?_
  refine wp_bipush (nI 59) dX11_isMarkSign_1 rfl ?_
  refine wp_icmp_eq 60 dX11_isMarkSign_3 (by decide) (fun c1 => ?_) (fun c1 => ?_)
  · rw [if_pos c1] at h
    exact ok_M_isMarkSign_j60 hd μ _ h
  · rw [if_neg c1] at h
    refine wp_iload_n (x := v1) dX11_isMarkSign_6 rfl ?_
    refine wp_bipush (nI 43) dX11_isMarkSign_7 rfl ?_
    refine wp_icmp_eq 60 dX11_isMarkSign_9 (by decide) (fun c1 => ?_) (fun c1 => ?_)
    · rw [if_pos c1] at h
      exact ok_M_isMarkSign_j60 hd μ _ h
    · rw [if_neg c1] at h
      refine wp_iload_n (x := v1) dX11_isMarkSign_12 rfl ?_
      refine wp_bipush (nI 45) dX11_isMarkSign_13 rfl ?_
      refine wp_icmp_eq 60 dX11_isMarkSign_15 (by decide) (fun c1 => ?_) (fun c1 => ?_)
      · rw [if_pos c1] at h
        exact ok_M_isMarkSign_j60 hd μ _ h
      · rw [if_neg c1] at h
        refine wp_iload_n (x := v1) dX11_isMarkSign_18 rfl ?_
        refine wp_bipush (nI 42) dX11_isMarkSign_19 rfl ?_
        refine wp_icmp_eq 60 dX11_isMarkSign_21 (by decide) (fun c1 => ?_) (fun c1 => ?_)
        · rw [if_pos c1] at h
          exact ok_M_isMarkSign_j60 hd μ _ h
        · rw [if_neg c1] at h
          refine wp_iload_n (x := v1) dX11_isMarkSign_24 rfl ?_
          refine wp_bipush (nI 47) dX11_isMarkSign_25 rfl ?_
          refine wp_icmp_eq 60 dX11_isMarkSign_27 (by decide) (fun c1 => ?_) (fun c1 => ?_)
          · rw [if_pos c1] at h
            exact ok_M_isMarkSign_j60 hd μ _ h
          · rw [if_neg c1] at h
            refine wp_iload_n (x := v1) dX11_isMarkSign_30 rfl ?_
            refine wp_bipush (nI 40) dX11_isMarkSign_31 rfl ?_
            refine wp_icmp_eq 60 dX11_isMarkSign_33 (by decide) (fun c1 => ?_) (fun c1 => ?_)
            · rw [if_pos c1] at h
              exact ok_M_isMarkSign_j60 hd μ _ h
            · rw [if_neg c1] at h
              refine wp_iload_n (x := v1) dX11_isMarkSign_36 rfl ?_
              refine wp_bipush (nI 41) dX11_isMarkSign_37 rfl ?_
              refine wp_icmp_eq 60 dX11_isMarkSign_39 (by decide) (fun c1 => ?_) (fun c1 => ?_)
              · rw [if_pos c1] at h
                exact ok_M_isMarkSign_j60 hd μ _ h
              · rw [if_neg c1] at h
                refine wp_iload_n (x := v1) dX11_isMarkSign_42 rfl ?_
                refine wp_bipush (nI 60) dX11_isMarkSign_43 rfl ?_
                refine wp_icmp_eq 60 dX11_isMarkSign_45 (by decide) (fun c1 => ?_) (fun c1 => ?_)
                · rw [if_pos c1] at h
                  exact ok_M_isMarkSign_j60 hd μ _ h
                · rw [if_neg c1] at h
                  refine wp_iload_n (x := v1) dX11_isMarkSign_48 rfl ?_
                  refine wp_bipush (nI 61) dX11_isMarkSign_49 rfl ?_
                  refine wp_icmp_eq 60 dX11_isMarkSign_51 (by decide) (fun c1 => ?_) (fun c1 => ?_)
                  · rw [if_pos c1] at h
                    exact ok_M_isMarkSign_j60 hd μ _ h
                  · rw [if_neg c1] at h
                    refine wp_iload_n (x := v1) dX11_isMarkSign_54 rfl ?_
                    refine wp_bipush (nI 62) dX11_isMarkSign_55 rfl ?_
                    refine wp_icmp_ne 64 dX11_isMarkSign_57 (by decide) (fun c1 => ?_) (fun c1 => ?_)
                    · rw [if_neg c1] at h
                      refine wp_iconst (nI 0) dX11_isMarkSign_64 rfl ?_
                      obtain rfl := ret1 h
                      exact wp_zret rfl (Or.inl rfl) dX11_isMarkSign_65 ⟨rfl, rfl, rfl⟩
                    · rw [if_pos c1] at h
                      exact ok_M_isMarkSign_j60 hd μ _ h
theorem ok_M_wordAt_l19 {l : Launch} {d : Nat} (hd : 1 ≤ d) (v1 : Int32)  (v2 : Int32)  (v3 : Int32)  (v4 : Int32)  (v5 : Int32)  (μ : Mm) {Q : Option Value → Sh → Mm → Prop} (K : Int32 ⊕ Int32 → Prop) (hb : ∀ (s : Int32), K (Sum.inl s) → Wp l SM d (0, 0) mX11_wordAt 19 [some (.ref 0), some (.int v1), some (.int v2), some (.int v3), some (.int v4), some (.int s)] [] μ Q) (he0 : ∀ (x : Int32), K (Sum.inr x) → Wp l SM d (0, 0) mX11_wordAt 60 [some (.ref 0), some (.int v1), some (.int v2), some (.int v3), some (.int v4), some (.int x)] [] μ Q) {z : Int32 ⊕ Int32} (h : M_wordAt_l19 v1 v2 v3 v4 v5 μ = some z) (hz : K z) : Wp l SM d (0, 0) mX11_wordAt 19 [some (.ref 0), some (.int v1), some (.int v2), some (.int v3), some (.int v4), some (.int v5)] [] μ Q := by
  unfold M_wordAt_l19 at h
  refine wp_iload_n (x := v1) dX11_wordAt_19 rfl ?_
  refine wp_iload (x := v5) dX11_wordAt_20 rfl ?_
  refine wp_iadd dX11_wordAt_22 ?_
  refine wp_iload_n (x := v2) dX11_wordAt_23 rfl ?_
  refine wp_icmp_ge 60 dX11_wordAt_24 (by decide) (fun c1 => ?_) (fun c1 => ?_)
  · rw [if_pos c1] at h
    obtain rfl := some1 h
    exact he0 v5 hz
  · rw [if_neg c1] at h
    refine wp_aload_n (x := 0) dX11_wordAt_27 rfl ?_
    refine wp_getR 12 fl_X11_43 (by decide) rfl (kltM kRootM) kRootM (ly11_26 kRootM).1 dX11_wordAt_28 ?_
    refine wp_iload (x := v4) dX11_wordAt_31 rfl ?_
    refine wp_iconst (nI 1) dX11_wordAt_33 rfl ?_
    refine wp_iadd dX11_wordAt_34 ?_
    refine wp_iload (x := v5) dX11_wordAt_35 rfl ?_
    refine wp_iadd dX11_wordAt_37 ?_
    obtain ⟨c1, h⟩ := chv_some h
    refine wp_ialde (kltM (ly11_26 kRootM).2.1) (ly11_26 kRootM).2.1 (ly11_26 kRootM).2.2 c1 dX11_wordAt_38 ?_
    refine wp_aload_n (x := 0) dX11_wordAt_39 rfl ?_
    refine wp_getR 11 fl_X11_40 (by decide) rfl (kltM kRootM) kRootM (ly11_20 kRootM).1 dX11_wordAt_40 ?_
    refine wp_iload_n (x := v1) dX11_wordAt_43 rfl ?_
    refine wp_iload (x := v5) dX11_wordAt_44 rfl ?_
    refine wp_iadd dX11_wordAt_46 ?_
    obtain ⟨c1, h⟩ := chv_some h
    refine wp_ialde (kltM (ly11_20 kRootM).2.1) (ly11_20 kRootM).2.1 (ly11_20 kRootM).2.2 c1 dX11_wordAt_47 ?_
    refine wp_icmp_ne 60 dX11_wordAt_48 (by decide) (fun c1 => ?_) (fun c1 => ?_)
    · rw [if_neg c1] at h
      obtain rfl := some1 h
      exact he0 v5 hz
    · rw [if_pos c1] at h
      refine wp_iload (x := v5) dX11_wordAt_51 rfl ?_
      refine wp_iconst (nI 1) dX11_wordAt_53 rfl ?_
      refine wp_iadd dX11_wordAt_54 ?_
      refine wp_istore (L2 := [some (.ref 0), some (.int v1), some (.int v2), some (.int v3), some (.int v4), some (.int (v5 + (nI 1)))]) dX11_wordAt_55 (by decide) rfl rfl ?_
      refine wp_goto 19 dX11_wordAt_57 (by decide) ?_
      obtain rfl := some1 h
      exact hb (v5 + (nI 1)) hz
theorem okl_M_wordAt_l19 {l : Launch} {d : Nat} (hd : 1 ≤ d) (v1 : Int32)  (v2 : Int32)  (v3 : Int32)  (v4 : Int32)  (μ : Mm) {Q : Option Value → Sh → Mm → Prop} (K : Int32 → Prop) (he0 : ∀ (x : Int32), K x → Wp l SM d (0, 0) mX11_wordAt 60 [some (.ref 0), some (.int v1), some (.int v2), some (.int v3), some (.int v4), some (.int x)] [] μ Q) : ∀ (n : Nat) (s : Int32) (y : Int32) , iter n (fun s => M_wordAt_l19 v1 v2 v3 v4 s μ) s = some y → K y → Wp l SM d (0, 0) mX11_wordAt 19 [some (.ref 0), some (.int v1), some (.int v2), some (.int v3), some (.int v4), some (.int s)] [] μ Q := by
  intro n
  induction n with
  | zero => intro s y  h; cases h
  | succ n ih =>
    intro s y  h hK
    obtain ⟨z, hz, hn⟩ := iter_some h
    refine ok_M_wordAt_l19 hd v1 v2 v3 v4 s μ (fun z => nxt n (fun s => M_wordAt_l19 v1 v2 v3 v4 s μ) z y) ?_ ?_ hz hn
    · intro s2  h2
      exact ih s2 y h2 hK
    · intro x  h2
      have h3 : x = y := h2
      subst h3
      exact he0 x hK
theorem ok_M_wordAt_l93 {l : Launch} {d : Nat} (hd : 1 ≤ d) (v1 : Int32)  (v2 : Int32)  (v3 : Int32)  (v4 : Int32)  (μ : Mm) (z5 : Option Value) {Q : Option Value → Sh → Mm → Prop} (K : Int32 ⊕ Int32 → Prop) (hb : ∀ (s : Int32) (z5 : Option Value), K (Sum.inl s) → Wp l SM d (0, 0) mX11_wordAt 93 [some (.ref 0), some (.int v1), some (.int v2), some (.int v3), some (.int s), z5] [] μ Q) (he0 : ∀ (x : Int32) (z5 : Option Value), K (Sum.inr x) → Wp l SM d (0, 0) mX11_wordAt 114 [some (.ref 0), some (.int v1), some (.int v2), some (.int v3), some (.int x), z5] [] μ Q) {z : Int32 ⊕ Int32} (h : M_wordAt_l93 v1 v2 v3 v4 μ = some z) (hz : K z) : Wp l SM d (0, 0) mX11_wordAt 93 [some (.ref 0), some (.int v1), some (.int v2), some (.int v3), some (.int v4), z5] [] μ Q := by
  unfold M_wordAt_l93 at h
  refine wp_aload_n (x := 0) dX11_wordAt_93 rfl ?_
  refine wp_getR 12 fl_X11_43 (by decide) rfl (kltM kRootM) kRootM (ly11_26 kRootM).1 dX11_wordAt_94 ?_
  refine wp_iload (x := v4) dX11_wordAt_97 rfl ?_
  obtain ⟨c1, h⟩ := chv_some h
  refine wp_ialde (kltM (ly11_26 kRootM).2.1) (ly11_26 kRootM).2.1 (ly11_26 kRootM).2.2 c1 dX11_wordAt_99 ?_
  refine wp_bipush (nI 32) dX11_wordAt_100 rfl ?_
  refine wp_icmp_eq 114 dX11_wordAt_102 (by decide) (fun c1 => ?_) (fun c1 => ?_)
  · rw [if_pos c1] at h
    obtain rfl := some1 h
    exact he0 v4 _ hz
  · rw [if_neg c1] at h
    refine wp_iload (x := v4) dX11_wordAt_105 rfl ?_
    refine wp_iconst (nI 1) dX11_wordAt_107 rfl ?_
    refine wp_iadd dX11_wordAt_108 ?_
    refine wp_istore (L2 := [some (.ref 0), some (.int v1), some (.int v2), some (.int v3), some (.int (v4 + (nI 1))), z5]) dX11_wordAt_109 (by decide) rfl rfl ?_
    refine wp_goto 93 dX11_wordAt_111 (by decide) ?_
    obtain rfl := some1 h
    exact hb (v4 + (nI 1)) _ hz
theorem okl_M_wordAt_l93 {l : Launch} {d : Nat} (hd : 1 ≤ d) (v1 : Int32)  (v2 : Int32)  (v3 : Int32)  (μ : Mm) {Q : Option Value → Sh → Mm → Prop} (K : Int32 → Prop) (he0 : ∀ (x : Int32) (z5 : Option Value), K x → Wp l SM d (0, 0) mX11_wordAt 114 [some (.ref 0), some (.int v1), some (.int v2), some (.int v3), some (.int x), z5] [] μ Q) : ∀ (n : Nat) (s : Int32) (y : Int32) (z5 : Option Value) , iter n (fun s => M_wordAt_l93 v1 v2 v3 s μ) s = some y → K y → Wp l SM d (0, 0) mX11_wordAt 93 [some (.ref 0), some (.int v1), some (.int v2), some (.int v3), some (.int s), z5] [] μ Q := by
  intro n
  induction n with
  | zero => intro s y z5 h; cases h
  | succ n ih =>
    intro s y z5 h hK
    obtain ⟨z, hz, hn⟩ := iter_some h
    refine ok_M_wordAt_l93 hd v1 v2 v3 s μ _ (fun z => nxt n (fun s => M_wordAt_l93 v1 v2 v3 s μ) z y) ?_ ?_ hz hn
    · intro s2 z5 h2
      exact ih s2 y _ h2 hK
    · intro x z5 h2
      have h3 : x = y := h2
      subst h3
      exact he0 x _ hK
theorem ok_M_wordAt_j87 {l : Launch} {d : Nat} (hd : 1 ≤ d) (v1 : Int32)  (v2 : Int32)  (v3 : Int32)  (v4 : Int32)  (μ : Mm) (z5 : Option Value) {Q : Option Value → Sh → Mm → Prop} (K : (Int32 × Int32) ⊕ (Int32 ⊕ Unit) → Prop) (hb : ∀ (s : (Int32 × Int32)) (z5 : Option Value), K (Sum.inl s) → Wp l SM d (0, 0) mX11_wordAt 5 [some (.ref 0), some (.int v1), some (.int v2), some (.int s.1), some (.int s.2), z5] [] μ Q) (he0 : ∀ (x : Int32) (z1 : Option Value) (z2 : Option Value) (z4 : Option Value) (z5 : Option Value), K (Sum.inr (Sum.inl x)) → Wp l SM d (0, 0) mX11_wordAt 85 [some (.ref 0), z1, z2, some (.int x), z4, z5] [] μ Q) (he1 : ∀ (x : Unit) (z1 : Option Value) (z2 : Option Value) (z3 : Option Value) (z4 : Option Value) (z5 : Option Value), K (Sum.inr (Sum.inr x)) → Wp l SM d (0, 0) mX11_wordAt 117 [some (.ref 0), z1, z2, z3, z4, z5] [] μ Q) {z : (Int32 × Int32) ⊕ (Int32 ⊕ Unit)} (h : M_wordAt_j87 v1 v2 v3 v4 μ = some z) (hz : K z) : Wp l SM d (0, 0) mX11_wordAt 87 [some (.ref 0), some (.int v1), some (.int v2), some (.int v3), some (.int v4), z5] [] μ Q := by
  unfold M_wordAt_j87 at h
  refine wp_iload (x := v4) dX11_wordAt_87 rfl ?_
  refine wp_iconst (nI 1) dX11_wordAt_89 rfl ?_
  refine wp_iadd dX11_wordAt_90 ?_
  refine wp_istore (L2 := [some (.ref 0), some (.int v1), some (.int v2), some (.int v3), some (.int (v4 + (nI 1))), z5]) dX11_wordAt_91 (by decide) rfl rfl ?_
  obtain ⟨x93, hi, h⟩ := bni_some h
  refine okl_M_wordAt_l93 hd v1 v2 v3 μ (fun z => z = x93) ?_ 1000000 (v4 + (nI 1)) x93 _ hi rfl
  · intro y0 z5 e0
    have e0 : y0 = x93 := e0
    subst e0
    refine wp_goto 5 dX11_wordAt_114 (by decide) ?_
    obtain rfl := some1 h
    exact hb (v3, y0) _ hz
theorem ok_M_wordAt_j60 {l : Launch} {d : Nat} (hd : 1 ≤ d) (v1 : Int32)  (v2 : Int32)  (v3 : Int32)  (v4 : Int32)  (v5 : Int32)  (μ : Mm) {Q : Option Value → Sh → Mm → Prop} (K : (Int32 × Int32) ⊕ (Int32 ⊕ Unit) → Prop) (hb : ∀ (s : (Int32 × Int32)) (z5 : Option Value), K (Sum.inl s) → Wp l SM d (0, 0) mX11_wordAt 5 [some (.ref 0), some (.int v1), some (.int v2), some (.int s.1), some (.int s.2), z5] [] μ Q) (he0 : ∀ (x : Int32) (z1 : Option Value) (z2 : Option Value) (z4 : Option Value) (z5 : Option Value), K (Sum.inr (Sum.inl x)) → Wp l SM d (0, 0) mX11_wordAt 85 [some (.ref 0), z1, z2, some (.int x), z4, z5] [] μ Q) (he1 : ∀ (x : Unit) (z1 : Option Value) (z2 : Option Value) (z3 : Option Value) (z4 : Option Value) (z5 : Option Value), K (Sum.inr (Sum.inr x)) → Wp l SM d (0, 0) mX11_wordAt 117 [some (.ref 0), z1, z2, z3, z4, z5] [] μ Q) {z : (Int32 × Int32) ⊕ (Int32 ⊕ Unit)} (h : M_wordAt_j60 v1 v2 v3 v4 v5 μ = some z) (hz : K z) : Wp l SM d (0, 0) mX11_wordAt 60 [some (.ref 0), some (.int v1), some (.int v2), some (.int v3), some (.int v4), some (.int v5)] [] μ Q := by
  unfold M_wordAt_j60 at h
  refine wp_iload_n (x := v1) dX11_wordAt_60 rfl ?_
  refine wp_iload (x := v5) dX11_wordAt_61 rfl ?_
  refine wp_iadd dX11_wordAt_63 ?_
  refine wp_iload_n (x := v2) dX11_wordAt_64 rfl ?_
  refine wp_icmp_ne 87 dX11_wordAt_65 (by decide) (fun c1 => ?_) (fun c1 => ?_)
  · rw [if_neg c1] at h
    exact ok_M_wordAt_j87 hd v1 v2 v3 v4 μ _ K hb he0 he1 h hz
  · rw [if_pos c1] at h
    refine wp_aload_n (x := 0) dX11_wordAt_68 rfl ?_
    refine wp_getR 12 fl_X11_43 (by decide) rfl (kltM kRootM) kRootM (ly11_26 kRootM).1 dX11_wordAt_69 ?_
    refine wp_iload (x := v4) dX11_wordAt_72 rfl ?_
    refine wp_iconst (nI 1) dX11_wordAt_74 rfl ?_
    refine wp_iadd dX11_wordAt_75 ?_
    refine wp_iload (x := v5) dX11_wordAt_76 rfl ?_
    refine wp_iadd dX11_wordAt_78 ?_
    obtain ⟨c1, h⟩ := chv_some h
    refine wp_ialde (kltM (ly11_26 kRootM).2.1) (ly11_26 kRootM).2.1 (ly11_26 kRootM).2.2 c1 dX11_wordAt_79 ?_
    refine wp_bipush (nI 32) dX11_wordAt_80 rfl ?_
    refine wp_icmp_ne 87 dX11_wordAt_82 (by decide) (fun c1 => ?_) (fun c1 => ?_)
    · rw [if_neg c1] at h
      exact ok_M_wordAt_j87 hd v1 v2 v3 v4 μ _ K hb he0 he1 h hz
    · rw [if_pos c1] at h
      obtain rfl := some1 h
      exact he0 v3 _ _ _ _ hz
theorem ok_M_wordAt_l5 {l : Launch} {d : Nat} (hd : 1 ≤ d) (v1 : Int32)  (v2 : Int32)  (v3 : Int32)  (v4 : Int32)  (μ : Mm) (z5 : Option Value) {Q : Option Value → Sh → Mm → Prop} (K : (Int32 × Int32) ⊕ (Int32 ⊕ Unit) → Prop) (hb : ∀ (s : (Int32 × Int32)) (z5 : Option Value), K (Sum.inl s) → Wp l SM d (0, 0) mX11_wordAt 5 [some (.ref 0), some (.int v1), some (.int v2), some (.int s.1), some (.int s.2), z5] [] μ Q) (he0 : ∀ (x : Int32) (z1 : Option Value) (z2 : Option Value) (z4 : Option Value) (z5 : Option Value), K (Sum.inr (Sum.inl x)) → Wp l SM d (0, 0) mX11_wordAt 85 [some (.ref 0), z1, z2, some (.int x), z4, z5] [] μ Q) (he1 : ∀ (x : Unit) (z1 : Option Value) (z2 : Option Value) (z3 : Option Value) (z4 : Option Value) (z5 : Option Value), K (Sum.inr (Sum.inr x)) → Wp l SM d (0, 0) mX11_wordAt 117 [some (.ref 0), z1, z2, z3, z4, z5] [] μ Q) {z : (Int32 × Int32) ⊕ (Int32 ⊕ Unit)} (h : M_wordAt_l5 v1 v2 v3 v4 μ = some z) (hz : K z) : Wp l SM d (0, 0) mX11_wordAt 5 [some (.ref 0), some (.int v1), some (.int v2), some (.int v3), some (.int v4), z5] [] μ Q := by
  unfold M_wordAt_l5 at h
  refine wp_iload (x := v4) dX11_wordAt_5 rfl ?_
  refine wp_bipush (nI 96) dX11_wordAt_7 rfl ?_
  refine wp_icmp_ge 117 dX11_wordAt_9 (by decide) (fun c1 => ?_) (fun c1 => ?_)
  · rw [if_pos c1] at h
    obtain rfl := some1 h
    exact he1 () _ _ _ _ _ hz
  · rw [if_neg c1] at h
    refine wp_iconst (nI 0) dX11_wordAt_12 rfl ?_
    refine wp_istore (L2 := [some (.ref 0), some (.int v1), some (.int v2), some (.int v3), some (.int v4), some (.int (nI 0))]) dX11_wordAt_13 (by decide) rfl rfl ?_
    refine wp_iload_n (x := v3) dX11_wordAt_15 rfl ?_
    refine wp_iconst (nI 1) dX11_wordAt_16 rfl ?_
    refine wp_iadd dX11_wordAt_17 ?_
    refine wp_istore_n (L2 := [some (.ref 0), some (.int v1), some (.int v2), some (.int (v3 + (nI 1))), some (.int v4), some (.int (nI 0))]) dX11_wordAt_18 (by decide) rfl rfl ?_
    obtain ⟨x19, hi, h⟩ := bni_some h
    refine okl_M_wordAt_l19 hd v1 v2 (v3 + (nI 1)) v4 μ (fun z => z = x19) ?_ 1000000 (nI 0) x19 hi rfl
    · intro y0  e0
      have e0 : y0 = x19 := e0
      subst e0
      exact ok_M_wordAt_j60 hd v1 v2 (v3 + (nI 1)) v4 y0 μ K hb he0 he1 h hz
theorem okl_M_wordAt_l5 {l : Launch} {d : Nat} (hd : 1 ≤ d) (v1 : Int32)  (v2 : Int32)  (μ : Mm) {Q : Option Value → Sh → Mm → Prop} (K : (Int32 ⊕ Unit) → Prop) (he0 : ∀ (x : Int32) (z1 : Option Value) (z2 : Option Value) (z4 : Option Value) (z5 : Option Value), K (Sum.inl x) → Wp l SM d (0, 0) mX11_wordAt 85 [some (.ref 0), z1, z2, some (.int x), z4, z5] [] μ Q) (he1 : ∀ (x : Unit) (z1 : Option Value) (z2 : Option Value) (z3 : Option Value) (z4 : Option Value) (z5 : Option Value), K (Sum.inr x) → Wp l SM d (0, 0) mX11_wordAt 117 [some (.ref 0), z1, z2, z3, z4, z5] [] μ Q) : ∀ (n : Nat) (s : (Int32 × Int32)) (y : (Int32 ⊕ Unit)) (z5 : Option Value) , iter n (fun s => M_wordAt_l5 v1 v2 s.1 s.2 μ) s = some y → K y → Wp l SM d (0, 0) mX11_wordAt 5 [some (.ref 0), some (.int v1), some (.int v2), some (.int s.1), some (.int s.2), z5] [] μ Q := by
  intro n
  induction n with
  | zero => intro s y z5 h; cases h
  | succ n ih =>
    intro s y z5 h hK
    obtain ⟨z, hz, hn⟩ := iter_some h
    refine ok_M_wordAt_l5 hd v1 v2 s.1 s.2 μ _ (fun z => nxt n (fun s => M_wordAt_l5 v1 v2 s.1 s.2 μ) z y) ?_ ?_ ?_ hz hn
    · intro s2 z5 h2
      exact ih s2 y _ h2 hK
    · intro x z1 z2 z4 z5 h2
      have h3 : (Sum.inl x) = y := h2
      subst h3
      exact he0 x _ _ _ _ hK
    · intro x z1 z2 z3 z4 z5 h2
      have h3 : (Sum.inr x) = y := h2
      subst h3
      exact he1 x _ _ _ _ _ hK
theorem ok_M_wordAt {l : Launch} {d : Nat} (hd : 1 ≤ d) (v1 : Int32)  (v2 : Int32)  (μ : Mm) {r : Int32} (h : M_wordAt v1 v2 μ = some r) : Wp l SM d (0, 0) mX11_wordAt 0 [some (.ref 0), some (.int v1), some (.int v2), none, none, none] [] μ (Qi SM r μ) := by
  unfold M_wordAt at h
  refine wp_iconst (-1) dX11_wordAt_0 rfl ?_
  refine wp_istore_n (L2 := [some (.ref 0), some (.int v1), some (.int v2), some (.int (-1)), none, none]) dX11_wordAt_1 (by decide) rfl rfl ?_
  refine wp_iconst (nI 0) dX11_wordAt_2 rfl ?_
  refine wp_istore (L2 := [some (.ref 0), some (.int v1), some (.int v2), some (.int (-1)), some (.int (nI 0)), none]) dX11_wordAt_3 (by decide) rfl rfl ?_
  obtain ⟨x5, hi, h⟩ := bni_some h
  refine okl_M_wordAt_l5 hd v1 v2 μ (fun z => z = x5) ?_ ?_ 1000000 ((-1), (nI 0)) x5 _ hi rfl
  · intro x5a z1 z2 z4 z5 e0
    have e0 : (Sum.inl x5a) = x5 := e0
    subst e0
    replace h := eL h
    refine wp_iload_n (x := x5a) dX11_wordAt_85 rfl ?_
    obtain rfl := ret1 h
    exact wp_iret rfl dX11_wordAt_86 ⟨rfl, rfl, rfl⟩
  · intro x5b z1 z2 z3 z4 z5 e0
    have e0 : (Sum.inr x5b) = x5 := e0
    subst e0
    replace h := eR h
    refine wp_iconst (-1) dX11_wordAt_117 rfl ?_
    obtain rfl := ret1 h
    exact wp_iret rfl dX11_wordAt_118 ⟨rfl, rfl, rfl⟩
theorem ok_M_reads_j26 {l : Launch} {d : Nat} (hd : 3 ≤ d) (μ : Mm) (z1 : Option Value) {Q : Option Value → Sh → Mm → Prop} (K : Mm ⊕ Mm → Prop) (hb : ∀ (s : Mm) (z1 : Option Value), K (Sum.inl s) → Wp l SM d (0, 0) mX11_reads 0 [some (.ref 0), z1] [] s Q) (he0 : ∀ (x : Mm) (z1 : Option Value), K (Sum.inr x) → Wp l SM d (0, 0) mX11_reads 39 [some (.ref 0), z1] [] x Q) {z : Mm ⊕ Mm} (h : M_reads_j26 μ = some z) (hz : K z) : Wp l SM d (0, 0) mX11_reads 26 [some (.ref 0), z1] [] μ Q := by
  unfold M_reads_j26 at h
  refine wp_aload_n (x := 0) dX11_reads_26 rfl ?_
  refine wp_aload_n (x := 0) dX11_reads_27 rfl ?_
  refine wp_getI fl_X11_173 (by decide) rfl (kltM kRootM) kRootM dX11_reads_28 ?_
  refine wp_iconst (nI 1) dX11_reads_31 rfl ?_
  refine wp_iadd dX11_reads_32 ?_
  obtain ⟨μ2, e1, h⟩ := lt_some h
  refine wp_putIe e1 fl_X11_173 (by decide) rfl (kltM kRootM) kRootM dX11_reads_33 ?_
  refine wp_goto 0 dX11_reads_36 (by decide) ?_
  obtain rfl := some1 h
  exact hb μ2 _ hz
theorem ok_M_reads_l0 {l : Launch} {d : Nat} (hd : 3 ≤ d) (μ : Mm) (z1 : Option Value) {Q : Option Value → Sh → Mm → Prop} (K : Mm ⊕ Mm → Prop) (hb : ∀ (s : Mm) (z1 : Option Value), K (Sum.inl s) → Wp l SM d (0, 0) mX11_reads 0 [some (.ref 0), z1] [] s Q) (he0 : ∀ (x : Mm) (z1 : Option Value), K (Sum.inr x) → Wp l SM d (0, 0) mX11_reads 39 [some (.ref 0), z1] [] x Q) {z : Mm ⊕ Mm} (h : M_reads_l0 μ = some z) (hz : K z) : Wp l SM d (0, 0) mX11_reads 0 [some (.ref 0), z1] [] μ Q := by
  unfold M_reads_l0 at h
  refine wp_aload_n (x := 0) dX11_reads_0 rfl ?_
  refine wp_aload_n (x := 0) dX11_reads_1 rfl ?_
  refine wp_getI fl_X11_173 (by decide) rfl (kltM kRootM) kRootM dX11_reads_2 ?_
  obtain ⟨r1, g1, h⟩ := bnd_some h
  refine wp_cVi (d := d - 1) (o := 0) cv_X11_176 (kltM kRootM) kRootM (as := [.int (μ.1 0 22)]) (rest := []) dX11_reads_5 (by omega) cloM rfl rfl (Nat.le_of_ble_eq_true rfl) (Nat.le_of_ble_eq_true rfl) (ok_M_raw (by omega) (μ.1 0 22) μ g1) ?_ rfl
  refine wp_bipush (nI 32) dX11_reads_8 rfl ?_
  refine wp_icmp_eq 26 dX11_reads_10 (by decide) (fun c1 => ?_) (fun c1 => ?_)
  · rw [if_pos c1] at h
    exact ok_M_reads_j26 hd μ _ K hb he0 h hz
  · rw [if_neg c1] at h
    refine wp_aload_n (x := 0) dX11_reads_13 rfl ?_
    refine wp_aload_n (x := 0) dX11_reads_14 rfl ?_
    refine wp_getI fl_X11_173 (by decide) rfl (kltM kRootM) kRootM dX11_reads_15 ?_
    obtain ⟨r3, g1, h⟩ := bnd_some h
    refine wp_cVi (d := d - 1) (o := 0) cv_X11_176 (kltM kRootM) kRootM (as := [.int (μ.1 0 22)]) (rest := []) dX11_reads_18 (by omega) cloM rfl rfl (Nat.le_of_ble_eq_true rfl) (Nat.le_of_ble_eq_true rfl) (ok_M_raw (by omega) (μ.1 0 22) μ g1) ?_ rfl
    refine wp_bipush (nI 10) dX11_reads_21 rfl ?_
    refine wp_icmp_ne 39 dX11_reads_23 (by decide) (fun c1 => ?_) (fun c1 => ?_)
    · rw [if_neg c1] at h
      obtain rfl := some1 h
      exact he0 μ _ hz
    · rw [if_pos c1] at h
      exact ok_M_reads_j26 hd μ _ K hb he0 h hz
theorem okl_M_reads_l0 {l : Launch} {d : Nat} (hd : 3 ≤ d) {Q : Option Value → Sh → Mm → Prop} (K : Mm → Prop) (he0 : ∀ (x : Mm) (z1 : Option Value), K x → Wp l SM d (0, 0) mX11_reads 39 [some (.ref 0), z1] [] x Q) : ∀ (n : Nat) (s : Mm) (y : Mm) (z1 : Option Value) , iter n (fun s => M_reads_l0 s) s = some y → K y → Wp l SM d (0, 0) mX11_reads 0 [some (.ref 0), z1] [] s Q := by
  intro n
  induction n with
  | zero => intro s y z1 h; cases h
  | succ n ih =>
    intro s y z1 h hK
    obtain ⟨z, hz, hn⟩ := iter_some h
    refine ok_M_reads_l0 hd  s _ (fun z => nxt n (fun s => M_reads_l0 s) z y) ?_ ?_ hz hn
    · intro s2 z1 h2
      exact ih s2 y _ h2 hK
    · intro x z1 h2
      have h3 : x = y := h2
      subst h3
      exact he0 x _ hK
theorem ok_M_reads_j223 {l : Launch} {d : Nat} (hd : 3 ≤ d) (s1 : Int32) (μ : Mm) (z1 : Option Value) {Q : Option Value → Sh → Mm → Prop} (K : Mm ⊕ Mm → Prop) (hb : ∀ (s : Mm) (z1 : Option Value), K (Sum.inl s) → Wp l SM d (0, 0) mX11_reads 171 [some (.ref 0), z1] [] s Q) (he0 : ∀ (x : Mm) (z1 : Option Value), K (Sum.inr x) → Wp l SM d (0, 0) mX11_reads 239 [some (.ref 0), z1] [] x Q) {z : Mm ⊕ Mm} (h : M_reads_j223 s1 μ = some z) (hz : K z) : Wp l SM d (0, 0) mX11_reads 223 [some (.ref 0), z1] [.int s1, .ref 0] μ Q := by
  unfold M_reads_j223 at h
  obtain ⟨μ16, e1, h⟩ := lt_some h
  refine wp_putIe e1 fl_X11_185 (by decide) rfl (kltM kRootM) kRootM dX11_reads_223 ?_
  refine wp_aload_n (x := 0) dX11_reads_226 rfl ?_
  refine wp_aload_n (x := 0) dX11_reads_227 rfl ?_
  refine wp_getI fl_X11_173 (by decide) rfl (kltM kRootM) kRootM dX11_reads_228 ?_
  refine wp_iconst (nI 1) dX11_reads_231 rfl ?_
  refine wp_iadd dX11_reads_232 ?_
  obtain ⟨μ17, e1, h⟩ := lt_some h
  refine wp_putIe e1 fl_X11_173 (by decide) rfl (kltM kRootM) kRootM dX11_reads_233 ?_
  refine wp_goto 171 dX11_reads_236 (by decide) ?_
  obtain rfl := some1 h
  exact hb μ17 _ hz
theorem ok_M_reads_l171 {l : Launch} {d : Nat} (hd : 3 ≤ d) (μ : Mm) (z1 : Option Value) {Q : Option Value → Sh → Mm → Prop} (K : Mm ⊕ Mm → Prop) (hb : ∀ (s : Mm) (z1 : Option Value), K (Sum.inl s) → Wp l SM d (0, 0) mX11_reads 171 [some (.ref 0), z1] [] s Q) (he0 : ∀ (x : Mm) (z1 : Option Value), K (Sum.inr x) → Wp l SM d (0, 0) mX11_reads 239 [some (.ref 0), z1] [] x Q) {z : Mm ⊕ Mm} (h : M_reads_l171 μ = some z) (hz : K z) : Wp l SM d (0, 0) mX11_reads 171 [some (.ref 0), z1] [] μ Q := by
  unfold M_reads_l171 at h
  refine wp_aload_n (x := 0) dX11_reads_171 rfl ?_
  refine wp_aload_n (x := 0) dX11_reads_172 rfl ?_
  refine wp_aload_n (x := 0) dX11_reads_173 rfl ?_
  refine wp_getI fl_X11_173 (by decide) rfl (kltM kRootM) kRootM dX11_reads_174 ?_
  obtain ⟨r14, g1, h⟩ := bnd_some h
  refine wp_cVi (d := d - 1) (o := 0) cv_X11_176 (kltM kRootM) kRootM (as := [.int (μ.1 0 22)]) (rest := [.ref 0]) dX11_reads_177 (by omega) cloM rfl rfl (Nat.le_of_ble_eq_true rfl) (Nat.le_of_ble_eq_true rfl) (ok_M_raw (by omega) (μ.1 0 22) μ g1) ?_ rfl
  obtain ⟨r15, g1, h⟩ := bnd_some h
  refine wp_cVi (d := d - 1) (o := 0) cv_X11_194 (kltM kRootM) kRootM (as := [.int r14]) (rest := []) dX11_reads_180 (by omega) cloM rfl rfl (Nat.le_of_ble_eq_true rfl) (Nat.le_of_ble_eq_true rfl) (ok_M_isDigit (by omega) r14 μ g1) ?_ rfl
  refine wp_if_eq 239 dX11_reads_183 (by decide) (fun c1 => ?_) (fun c1 => ?_)
  · rw [if_pos c1] at h
    obtain rfl := some1 h
    exact he0 μ _ hz
  · rw [if_neg c1] at h
    refine wp_aload_n (x := 0) dX11_reads_186 rfl ?_
    refine wp_aload_n (x := 0) dX11_reads_187 rfl ?_
    refine wp_getI fl_X11_185 (by decide) rfl (kltM kRootM) kRootM dX11_reads_188 ?_
    refine wp_sipush (nI 10000) dX11_reads_191 rfl ?_
    refine wp_icmp_ge 219 dX11_reads_194 (by decide) (fun c1 => ?_) (fun c1 => ?_)
    · rw [if_pos c1] at h
      refine wp_aload_n (x := 0) dX11_reads_219 rfl ?_
      refine wp_getI fl_X11_185 (by decide) rfl (kltM kRootM) kRootM dX11_reads_220 ?_
      exact ok_M_reads_j223 hd (μ.1 0 25) μ _ K hb he0 h hz
    · rw [if_neg c1] at h
      refine wp_bipush (nI 10) dX11_reads_197 rfl ?_
      refine wp_aload_n (x := 0) dX11_reads_199 rfl ?_
      refine wp_getI fl_X11_185 (by decide) rfl (kltM kRootM) kRootM dX11_reads_200 ?_
      refine wp_imul dX11_reads_203 ?_
      refine wp_aload_n (x := 0) dX11_reads_204 rfl ?_
      refine wp_aload_n (x := 0) dX11_reads_205 rfl ?_
      refine wp_getI fl_X11_173 (by decide) rfl (kltM kRootM) kRootM dX11_reads_206 ?_
      obtain ⟨r18, g1, h⟩ := bnd_some h
      refine wp_cVi (d := d - 1) (o := 0) cv_X11_176 (kltM kRootM) kRootM (as := [.int (μ.1 0 22)]) (rest := [.int ((nI 10) * (μ.1 0 25)), .ref 0]) dX11_reads_209 (by omega) cloM rfl rfl (Nat.le_of_ble_eq_true rfl) (Nat.le_of_ble_eq_true rfl) (ok_M_raw (by omega) (μ.1 0 22) μ g1) ?_ rfl
      refine wp_iadd dX11_reads_212 ?_
      refine wp_bipush (nI 48) dX11_reads_213 rfl ?_
      refine wp_isub dX11_reads_215 ?_
      refine wp_goto 223 dX11_reads_216 (by decide) ?_
      exact ok_M_reads_j223 hd ((((nI 10) * (μ.1 0 25)) + r18) - (nI 48)) μ _ K hb he0 h hz
theorem okl_M_reads_l171 {l : Launch} {d : Nat} (hd : 3 ≤ d) {Q : Option Value → Sh → Mm → Prop} (K : Mm → Prop) (he0 : ∀ (x : Mm) (z1 : Option Value), K x → Wp l SM d (0, 0) mX11_reads 239 [some (.ref 0), z1] [] x Q) : ∀ (n : Nat) (s : Mm) (y : Mm) (z1 : Option Value) , iter n (fun s => M_reads_l171 s) s = some y → K y → Wp l SM d (0, 0) mX11_reads 171 [some (.ref 0), z1] [] s Q := by
  intro n
  induction n with
  | zero => intro s y z1 h; cases h
  | succ n ih =>
    intro s y z1 h hK
    obtain ⟨z, hz, hn⟩ := iter_some h
    refine ok_M_reads_l171 hd  s _ (fun z => nxt n (fun s => M_reads_l171 s) z y) ?_ ?_ hz hn
    · intro s2 z1 h2
      exact ih s2 y _ h2 hK
    · intro x z1 h2
      have h3 : x = y := h2
      subst h3
      exact he0 x _ hK
theorem ok_M_reads_l95 {l : Launch} {d : Nat} (hd : 3 ≤ d) (μ : Mm) (z1 : Option Value) {Q : Option Value → Sh → Mm → Prop} (K : Mm ⊕ Mm → Prop) (hb : ∀ (s : Mm) (z1 : Option Value), K (Sum.inl s) → Wp l SM d (0, 0) mX11_reads 95 [some (.ref 0), z1] [] s Q) (he0 : ∀ (x : Mm) (z1 : Option Value), K (Sum.inr x) → Wp l SM d (0, 0) mX11_reads 123 [some (.ref 0), z1] [] x Q) {z : Mm ⊕ Mm} (h : M_reads_l95 μ = some z) (hz : K z) : Wp l SM d (0, 0) mX11_reads 95 [some (.ref 0), z1] [] μ Q := by
  unfold M_reads_l95 at h
  refine wp_aload_n (x := 0) dX11_reads_95 rfl ?_
  refine wp_aload_n (x := 0) dX11_reads_96 rfl ?_
  refine wp_aload_n (x := 0) dX11_reads_97 rfl ?_
  refine wp_getI fl_X11_173 (by decide) rfl (kltM kRootM) kRootM dX11_reads_98 ?_
  obtain ⟨r20, g1, h⟩ := bnd_some h
  refine wp_cVi (d := d - 1) (o := 0) cv_X11_176 (kltM kRootM) kRootM (as := [.int (μ.1 0 22)]) (rest := [.ref 0]) dX11_reads_101 (by omega) cloM rfl rfl (Nat.le_of_ble_eq_true rfl) (Nat.le_of_ble_eq_true rfl) (ok_M_raw (by omega) (μ.1 0 22) μ g1) ?_ rfl
  obtain ⟨r21, g1, h⟩ := bnd_some h
  refine wp_cVi (d := d - 1) (o := 0) cv_X11_188 (kltM kRootM) kRootM (as := [.int r20]) (rest := []) dX11_reads_104 (by omega) cloM rfl rfl (Nat.le_of_ble_eq_true rfl) (Nat.le_of_ble_eq_true rfl) (ok_M_isLetter (by omega) r20 μ g1) ?_ rfl
  refine wp_if_eq 123 dX11_reads_107 (by decide) (fun c1 => ?_) (fun c1 => ?_)
  · rw [if_pos c1] at h
    obtain rfl := some1 h
    exact he0 μ _ hz
  · rw [if_neg c1] at h
    refine wp_aload_n (x := 0) dX11_reads_110 rfl ?_
    refine wp_aload_n (x := 0) dX11_reads_111 rfl ?_
    refine wp_getI fl_X11_173 (by decide) rfl (kltM kRootM) kRootM dX11_reads_112 ?_
    refine wp_iconst (nI 1) dX11_reads_115 rfl ?_
    refine wp_iadd dX11_reads_116 ?_
    obtain ⟨μ22, e1, h⟩ := lt_some h
    refine wp_putIe e1 fl_X11_173 (by decide) rfl (kltM kRootM) kRootM dX11_reads_117 ?_
    refine wp_goto 95 dX11_reads_120 (by decide) ?_
    obtain rfl := some1 h
    exact hb μ22 _ hz
theorem okl_M_reads_l95 {l : Launch} {d : Nat} (hd : 3 ≤ d) {Q : Option Value → Sh → Mm → Prop} (K : Mm → Prop) (he0 : ∀ (x : Mm) (z1 : Option Value), K x → Wp l SM d (0, 0) mX11_reads 123 [some (.ref 0), z1] [] x Q) : ∀ (n : Nat) (s : Mm) (y : Mm) (z1 : Option Value) , iter n (fun s => M_reads_l95 s) s = some y → K y → Wp l SM d (0, 0) mX11_reads 95 [some (.ref 0), z1] [] s Q := by
  intro n
  induction n with
  | zero => intro s y z1 h; cases h
  | succ n ih =>
    intro s y z1 h hK
    obtain ⟨z, hz, hn⟩ := iter_some h
    refine ok_M_reads_l95 hd  s _ (fun z => nxt n (fun s => M_reads_l95 s) z y) ?_ ?_ hz hn
    · intro s2 z1 h2
      exact ih s2 y _ h2 hK
    · intro x z1 h2
      have h3 : x = y := h2
      subst h3
      exact he0 x _ hK
theorem ok_M_reads {l : Launch} {d : Nat} (hd : 3 ≤ d) (μ : Mm) {μ' : Mm} (h : M_reads μ = some μ') : Wp l SM d (0, 0) mX11_reads 0 [some (.ref 0), none] [] μ (Qv SM μ') := by
  unfold M_reads at h
  obtain ⟨x0, hi, h⟩ := bni_some h
  refine okl_M_reads_l0 hd  (fun z => z = x0) ?_ 1000000 μ x0 _ hi rfl
  · intro y0 z1 e0
    have e0 : y0 = x0 := e0
    subst e0
    refine wp_aload_n (x := 0) dX11_reads_39 rfl ?_
    refine wp_aload_n (x := 0) dX11_reads_40 rfl ?_
    refine wp_getI fl_X11_173 (by decide) rfl (kltM kRootM) kRootM dX11_reads_41 ?_
    obtain ⟨μ4, e1, h⟩ := lt_some h
    refine wp_putIe e1 fl_X11_179 (by decide) rfl (kltM kRootM) kRootM dX11_reads_44 ?_
    refine wp_aload_n (x := 0) dX11_reads_47 rfl ?_
    refine wp_iconst (nI 1) dX11_reads_48 rfl ?_
    obtain ⟨μ5, e1, h⟩ := lt_some h
    refine wp_putIe e1 fl_X11_182 (by decide) rfl (kltM kRootM) kRootM dX11_reads_49 ?_
    refine wp_aload_n (x := 0) dX11_reads_52 rfl ?_
    refine wp_aload_n (x := 0) dX11_reads_53 rfl ?_
    refine wp_getI fl_X11_173 (by decide) rfl (kltM kRootM) kRootM dX11_reads_54 ?_
    obtain ⟨r6, g1, h⟩ := bnd_some h
    refine wp_cVi (d := d - 1) (o := 0) cv_X11_176 (kltM kRootM) kRootM (as := [.int (μ5.1 0 22)]) (rest := []) dX11_reads_57 (by omega) cloM rfl rfl (Nat.le_of_ble_eq_true rfl) (Nat.le_of_ble_eq_true rfl) (ok_M_raw (by omega) (μ5.1 0 22) μ5 g1) ?_ rfl
    refine wp_istore_n (L2 := [some (.ref 0), some (.int r6)]) dX11_reads_60 (by decide) rfl rfl ?_
    refine wp_iload_n (x := r6) dX11_reads_61 rfl ?_
    refine wp_iconst (-1) dX11_reads_62 rfl ?_
    refine wp_icmp_ne 72 dX11_reads_63 (by decide) (fun c1 => ?_) (fun c1 => ?_)
    · rw [if_neg c1] at h
      refine wp_aload_n (x := 0) dX11_reads_72 rfl ?_
      refine wp_aload_n (x := 0) dX11_reads_73 rfl ?_
      refine wp_getI fl_X11_173 (by decide) rfl (kltM kRootM) kRootM dX11_reads_74 ?_
      refine wp_iconst (nI 1) dX11_reads_77 rfl ?_
      refine wp_iadd dX11_reads_78 ?_
      obtain ⟨μ7, e1, h⟩ := lt_some h
      refine wp_putIe e1 fl_X11_173 (by decide) rfl (kltM kRootM) kRootM dX11_reads_79 ?_
      refine wp_aload_n (x := 0) dX11_reads_82 rfl ?_
      refine wp_iload_n (x := r6) dX11_reads_83 rfl ?_
      obtain ⟨μ8, e1, h⟩ := lt_some h
      refine wp_putIe e1 fl_X11_185 (by decide) rfl (kltM kRootM) kRootM dX11_reads_84 ?_
      refine wp_aload_n (x := 0) dX11_reads_87 rfl ?_
      refine wp_iload_n (x := r6) dX11_reads_88 rfl ?_
      obtain ⟨r9, g1, h⟩ := bnd_some h
      refine wp_cVi (d := d - 1) (o := 0) cv_X11_188 (kltM kRootM) kRootM (as := [.int r6]) (rest := []) dX11_reads_89 (by omega) cloM rfl rfl (Nat.le_of_ble_eq_true rfl) (Nat.le_of_ble_eq_true rfl) (ok_M_isLetter (by omega) r6 μ8 g1) ?_ rfl
      refine wp_if_eq 155 dX11_reads_92 (by decide) (fun c1 => ?_) (fun c1 => ?_)
      · rw [if_pos c1] at h
        refine wp_aload_n (x := 0) dX11_reads_155 rfl ?_
        refine wp_iload_n (x := r6) dX11_reads_156 rfl ?_
        obtain ⟨r10, g1, h⟩ := bnd_some h
        refine wp_cVi (d := d - 1) (o := 0) cv_X11_194 (kltM kRootM) kRootM (as := [.int r6]) (rest := []) dX11_reads_157 (by omega) cloM rfl rfl (Nat.le_of_ble_eq_true rfl) (Nat.le_of_ble_eq_true rfl) (ok_M_isDigit (by omega) r6 μ8 g1) ?_ rfl
        refine wp_if_eq 260 dX11_reads_160 (by decide) (fun c1 => ?_) (fun c1 => ?_)
        · rw [if_pos c1] at h
          refine wp_aload_n (x := 0) dX11_reads_260 rfl ?_
          refine wp_iload_n (x := r6) dX11_reads_261 rfl ?_
          obtain ⟨r11, g1, h⟩ := bnd_some h
          refine wp_cVi (d := d - 1) (o := 0) cv_X11_197 (kltM kRootM) kRootM (as := [.int r6]) (rest := []) dX11_reads_262 (by omega) cloM rfl rfl (Nat.le_of_ble_eq_true rfl) (Nat.le_of_ble_eq_true rfl) (ok_M_isMarkSign (by omega) r6 μ8 g1) ?_ rfl
          refine wp_if_eq 273 dX11_reads_265 (by decide) (fun c1 => ?_) (fun c1 => ?_)
          · rw [if_pos c1] at h
            obtain rfl := ret1 h
            exact wp_vret rfl dX11_reads_273 ⟨rfl, rfl, rfl⟩
          · rw [if_neg c1] at h
            refine wp_aload_n (x := 0) dX11_reads_268 rfl ?_
            refine wp_iconst (nI 4) dX11_reads_269 rfl ?_
            obtain ⟨μ12, e1, h⟩ := lt_some h
            refine wp_putIe e1 fl_X11_182 (by decide) rfl (kltM kRootM) kRootM dX11_reads_270 ?_
            obtain rfl := ret1 h
            exact wp_vret rfl dX11_reads_273 ⟨rfl, rfl, rfl⟩
        · rw [if_neg c1] at h
          refine wp_aload_n (x := 0) dX11_reads_163 rfl ?_
          refine wp_iload_n (x := r6) dX11_reads_164 rfl ?_
          refine wp_bipush (nI 48) dX11_reads_165 rfl ?_
          refine wp_isub dX11_reads_167 ?_
          obtain ⟨μ13, e1, h⟩ := lt_some h
          refine wp_putIe e1 fl_X11_185 (by decide) rfl (kltM kRootM) kRootM dX11_reads_168 ?_
          obtain ⟨x171, hi, h⟩ := bni_some h
          refine okl_M_reads_l171 hd  (fun z => z = x171) ?_ 1000000 μ13 x171 _ hi rfl
          · intro y0 z1 e0
            have e0 : y0 = x171 := e0
            subst e0
            refine wp_aload_n (x := 0) dX11_reads_239 rfl ?_
            refine wp_getI fl_X11_173 (by decide) rfl (kltM kRootM) kRootM dX11_reads_240 ?_
            refine wp_aload_n (x := 0) dX11_reads_243 rfl ?_
            refine wp_getI fl_X11_179 (by decide) rfl (kltM kRootM) kRootM dX11_reads_244 ?_
            refine wp_isub dX11_reads_247 ?_
            refine wp_iconst (nI 5) dX11_reads_248 rfl ?_
            refine wp_icmp_ge 273 dX11_reads_249 (by decide) (fun c1 => ?_) (fun c1 => ?_)
            · rw [if_pos c1] at h
              obtain rfl := ret1 h
              exact wp_vret rfl dX11_reads_273 ⟨rfl, rfl, rfl⟩
            · rw [if_neg c1] at h
              refine wp_aload_n (x := 0) dX11_reads_252 rfl ?_
              refine wp_iconst (nI 3) dX11_reads_253 rfl ?_
              obtain ⟨μ19, e1, h⟩ := lt_some h
              refine wp_putIe e1 fl_X11_182 (by decide) rfl (kltM kRootM) kRootM dX11_reads_254 ?_
              refine wp_goto 273 dX11_reads_257 (by decide) ?_
              obtain rfl := ret1 h
              exact wp_vret rfl dX11_reads_273 ⟨rfl, rfl, rfl⟩
      · rw [if_neg c1] at h
        obtain ⟨x95, hi, h⟩ := bni_some h
        refine okl_M_reads_l95 hd  (fun z => z = x95) ?_ 1000000 μ8 x95 _ hi rfl
        · intro y0 z1 e0
          have e0 : y0 = x95 := e0
          subst e0
          refine wp_aload_n (x := 0) dX11_reads_123 rfl ?_
          refine wp_aload_n (x := 0) dX11_reads_124 rfl ?_
          refine wp_aload_n (x := 0) dX11_reads_125 rfl ?_
          refine wp_getI fl_X11_179 (by decide) rfl (kltM kRootM) kRootM dX11_reads_126 ?_
          refine wp_aload_n (x := 0) dX11_reads_129 rfl ?_
          refine wp_getI fl_X11_173 (by decide) rfl (kltM kRootM) kRootM dX11_reads_130 ?_
          obtain ⟨r23, g1, h⟩ := bnd_some h
          refine wp_cVi (d := d - 1) (o := 0) cv_X11_191 (kltM kRootM) kRootM (as := [.int (y0.1 0 23), .int (y0.1 0 22)]) (rest := [.ref 0]) dX11_reads_133 (by omega) cloM rfl rfl (Nat.le_of_ble_eq_true rfl) (Nat.le_of_ble_eq_true rfl) (ok_M_wordAt (by omega) (y0.1 0 23) (y0.1 0 22) y0 g1) ?_ rfl
          obtain ⟨μ24, e1, h⟩ := lt_some h
          refine wp_putIe e1 fl_X11_185 (by decide) rfl (kltM kRootM) kRootM dX11_reads_136 ?_
          refine wp_aload_n (x := 0) dX11_reads_139 rfl ?_
          refine wp_getI fl_X11_185 (by decide) rfl (kltM kRootM) kRootM dX11_reads_140 ?_
          refine wp_iconst (-1) dX11_reads_143 rfl ?_
          refine wp_icmp_eq 273 dX11_reads_144 (by decide) (fun c1 => ?_) (fun c1 => ?_)
          · rw [if_pos c1] at h
            obtain rfl := ret1 h
            exact wp_vret rfl dX11_reads_273 ⟨rfl, rfl, rfl⟩
          · rw [if_neg c1] at h
            refine wp_aload_n (x := 0) dX11_reads_147 rfl ?_
            refine wp_iconst (nI 2) dX11_reads_148 rfl ?_
            obtain ⟨μ25, e1, h⟩ := lt_some h
            refine wp_putIe e1 fl_X11_182 (by decide) rfl (kltM kRootM) kRootM dX11_reads_149 ?_
            refine wp_goto 273 dX11_reads_152 (by decide) ?_
            obtain rfl := ret1 h
            exact wp_vret rfl dX11_reads_273 ⟨rfl, rfl, rfl⟩
    · rw [if_pos c1] at h
      refine wp_aload_n (x := 0) dX11_reads_66 rfl ?_
      refine wp_iconst (nI 0) dX11_reads_67 rfl ?_
      obtain ⟨μ26, e1, h⟩ := lt_some h
      refine wp_putIe e1 fl_X11_182 (by decide) rfl (kltM kRootM) kRootM dX11_reads_68 ?_
      obtain rfl := ret1 h
      exact wp_vret rfl dX11_reads_71 ⟨rfl, rfl, rfl⟩
theorem ok_M_errs {l : Launch} {d : Nat} (hd : 1 ≤ d) (v1 : Int32)  (μ : Mm) {r : Int32} {μ' : Mm} (h : M_errs v1 μ = some (r, μ')) : Wp l SM d (0, 0) mX11_errs 0 [some (.ref 0), some (.int v1)] [] μ (Qi SM r μ') := by
  unfold M_errs at h
  refine wp_aload_n (x := 0) dX11_errs_0 rfl ?_
  refine wp_iload_n (x := v1) dX11_errs_1 rfl ?_
  obtain ⟨μ1, e1, h⟩ := lt_some h
  refine wp_putIe e1 fl_X11_200 (by decide) rfl (kltM kRootM) kRootM dX11_errs_2 ?_
  refine wp_aload_n (x := 0) dX11_errs_5 rfl ?_
  refine wp_aload_n (x := 0) dX11_errs_6 rfl ?_
  refine wp_getI fl_X11_179 (by decide) rfl (kltM kRootM) kRootM dX11_errs_7 ?_
  obtain ⟨μ2, e1, h⟩ := lt_some h
  refine wp_putIe e1 fl_X11_203 (by decide) rfl (kltM kRootM) kRootM dX11_errs_10 ?_
  refine wp_iconst (-1) dX11_errs_13 rfl ?_
  obtain ⟨rfl, rfl⟩ := ret2 h
  exact wp_iret rfl dX11_errs_14 ⟨rfl, rfl, rfl⟩
theorem ok_M_isWord {l : Launch} {d : Nat} (hd : 1 ≤ d) (v1 : Int32)  (μ : Mm) {r : Int32} (h : M_isWord v1 μ = some r) : Wp l SM d (0, 0) mX11_isWord 0 [some (.ref 0), some (.int v1)] [] μ (Qi SM r μ) := by
  unfold M_isWord at h
  refine wp_aload_n (x := 0) dX11_isWord_0 rfl ?_
  refine wp_getI fl_X11_182 (by decide) rfl (kltM kRootM) kRootM dX11_isWord_1 ?_
  refine wp_iconst (nI 2) dX11_isWord_4 rfl ?_
  refine wp_icmp_ne 20 dX11_isWord_5 (by decide) (fun c1 => ?_) (fun c1 => ?_)
  · rw [if_neg c1] at h
    refine wp_iconst (nI 0) dX11_isWord_20 rfl ?_
    obtain rfl := ret1 h
    exact wp_zret rfl (Or.inl rfl) dX11_isWord_21 ⟨rfl, rfl, rfl⟩
  · rw [if_pos c1] at h
    refine wp_aload_n (x := 0) dX11_isWord_8 rfl ?_
    refine wp_getI fl_X11_185 (by decide) rfl (kltM kRootM) kRootM dX11_isWord_9 ?_
    refine wp_iload_n (x := v1) dX11_isWord_12 rfl ?_
    refine wp_icmp_ne 20 dX11_isWord_13 (by decide) (fun c1 => ?_) (fun c1 => ?_)
    · rw [if_neg c1] at h
      refine wp_iconst (nI 0) dX11_isWord_20 rfl ?_
      obtain rfl := ret1 h
      exact wp_zret rfl (Or.inl rfl) dX11_isWord_21 ⟨rfl, rfl, rfl⟩
    · rw [if_pos c1] at h
      refine wp_iconst (nI 1) dX11_isWord_16 rfl ?_
      refine wp_goto 21 dX11_isWord_17 (by decide) ?_
      obtain rfl := ret1 h
      exact wp_zret rfl (Or.inr rfl) dX11_isWord_21 ⟨rfl, rfl, rfl⟩
theorem ok_M_isSign {l : Launch} {d : Nat} (hd : 1 ≤ d) (v1 : Int32)  (μ : Mm) {r : Int32} (h : M_isSign v1 μ = some r) : Wp l SM d (0, 0) mX11_isSign 0 [some (.ref 0), some (.int v1)] [] μ (Qi SM r μ) := by
  unfold M_isSign at h
  refine wp_aload_n (x := 0) dX11_isSign_0 rfl ?_
  refine wp_getI fl_X11_182 (by decide) rfl (kltM kRootM) kRootM dX11_isSign_1 ?_
  refine wp_iconst (nI 4) dX11_isSign_4 rfl ?_
  refine wp_icmp_ne 20 dX11_isSign_5 (by decide) (fun c1 => ?_) (fun c1 => ?_)
  · rw [if_neg c1] at h
    refine wp_iconst (nI 0) dX11_isSign_20 rfl ?_
    obtain rfl := ret1 h
    exact wp_zret rfl (Or.inl rfl) dX11_isSign_21 ⟨rfl, rfl, rfl⟩
  · rw [if_pos c1] at h
    refine wp_aload_n (x := 0) dX11_isSign_8 rfl ?_
    refine wp_getI fl_X11_185 (by decide) rfl (kltM kRootM) kRootM dX11_isSign_9 ?_
    refine wp_iload_n (x := v1) dX11_isSign_12 rfl ?_
    refine wp_icmp_ne 20 dX11_isSign_13 (by decide) (fun c1 => ?_) (fun c1 => ?_)
    · rw [if_neg c1] at h
      refine wp_iconst (nI 0) dX11_isSign_20 rfl ?_
      obtain rfl := ret1 h
      exact wp_zret rfl (Or.inl rfl) dX11_isSign_21 ⟨rfl, rfl, rfl⟩
    · rw [if_pos c1] at h
      refine wp_iconst (nI 1) dX11_isSign_16 rfl ?_
      refine wp_goto 21 dX11_isSign_17 (by decide) ?_
      obtain rfl := ret1 h
      exact wp_zret rfl (Or.inr rfl) dX11_isSign_21 ⟨rfl, rfl, rfl⟩
theorem ok_M_emits {l : Launch} {d : Nat} (hd : 1 ≤ d) (v1 : Int32)  (v2 : Int32)  (μ : Mm) {μ' : Mm} (h : M_emits v1 v2 μ = some μ') : Wp l SM d (0, 0) mX11_emits 0 [some (.ref 0), some (.int v1), some (.int v2)] [] μ (Qv SM μ') := by
  unfold M_emits at h
  refine wp_aload_n (x := 0) dX11_emits_0 rfl ?_
  refine wp_getR 17 fl_X11_58 (by decide) rfl (kltM kRootM) kRootM (ly11_31 kRootM).1 dX11_emits_1 ?_
  refine wp_sipush (nI 800) dX11_emits_4 rfl ?_
  refine wp_aload_n (x := 0) dX11_emits_7 rfl ?_
  refine wp_getI fl_X11_206 (by decide) rfl (kltM kRootM) kRootM dX11_emits_8 ?_
  refine wp_iadd dX11_emits_11 ?_
  refine wp_iload_n (x := v1) dX11_emits_12 rfl ?_
  obtain ⟨c1, h⟩ := chv_some h
  obtain ⟨μ1, e1, h⟩ := lt_some h
  refine wp_iaste e1 (kltM (ly11_31 kRootM).2.1) (ly11_31 kRootM).2.1 (ly11_31 kRootM).2.2 c1 dX11_emits_13 ?_
  refine wp_aload_n (x := 0) dX11_emits_14 rfl ?_
  refine wp_getR 18 fl_X11_61 (by decide) rfl (kltM kRootM) kRootM (ly11_32 kRootM).1 dX11_emits_15 ?_
  refine wp_sipush (nI 800) dX11_emits_18 rfl ?_
  refine wp_aload_n (x := 0) dX11_emits_21 rfl ?_
  refine wp_getI fl_X11_206 (by decide) rfl (kltM kRootM) kRootM dX11_emits_22 ?_
  refine wp_iadd dX11_emits_25 ?_
  refine wp_iload_n (x := v2) dX11_emits_26 rfl ?_
  obtain ⟨c1, h⟩ := chv_some h
  obtain ⟨μ2, e1, h⟩ := lt_some h
  refine wp_iaste e1 (kltM (ly11_32 kRootM).2.1) (ly11_32 kRootM).2.1 (ly11_32 kRootM).2.2 c1 dX11_emits_27 ?_
  refine wp_aload_n (x := 0) dX11_emits_28 rfl ?_
  refine wp_aload_n (x := 0) dX11_emits_29 rfl ?_
  refine wp_getI fl_X11_206 (by decide) rfl (kltM kRootM) kRootM dX11_emits_30 ?_
  refine wp_iconst (nI 1) dX11_emits_33 rfl ?_
  refine wp_iadd dX11_emits_34 ?_
  obtain ⟨μ3, e1, h⟩ := lt_some h
  refine wp_putIe e1 fl_X11_206 (by decide) rfl (kltM kRootM) kRootM dX11_emits_35 ?_
  obtain rfl := ret1 h
  exact wp_vret rfl dX11_emits_38 ⟨rfl, rfl, rfl⟩
theorem ok_M_canAsk_j18 {l : Launch} {d : Nat} (hd : 2 ≤ d) (s1 : Int32) (s2 : Int32) (s3 : Int32) (μ : Mm) (z1 : Option Value) {r : Int32} (h : M_canAsk_j18 s1 s2 s3 μ = some r) : Wp l SM d (0, 0) mX11_canAsk 18 [some (.ref 0), z1] [.int s3, .int s2, .int s1, .ref 0] μ (Qi SM r μ) := by
  unfold M_canAsk_j18 at h
  obtain ⟨r1, g1, h⟩ := bnd_some h
  refine wp_cVi (d := d - 1) (o := 0) cv_X11_113 (kltM kRootM) kRootM (as := [.int s1, .int s2, .int s3]) (rest := []) dX11_canAsk_18 (by omega) cloM rfl rfl (Nat.le_of_ble_eq_true rfl) (Nat.le_of_ble_eq_true rfl) (ok_M_isIn (by omega) s1 s2 s3 μ g1) ?_ rfl
  obtain ⟨c1, h⟩ := chk_some h
  obtain rfl := ret1 h
  exact wp_zret rfl c1 dX11_canAsk_21 ⟨rfl, rfl, rfl⟩
theorem ok_M_canAsk {l : Launch} {d : Nat} (hd : 2 ≤ d) (v1 : Int32)  (μ : Mm) {r : Int32} (h : M_canAsk v1 μ = some r) : Wp l SM d (0, 0) mX11_canAsk 0 [some (.ref 0), some (.int v1)] [] μ (Qi SM r μ) := by
  unfold M_canAsk at h
  refine wp_aload_n (x := 0) dX11_canAsk_0 rfl ?_
  refine wp_iload_n (x := v1) dX11_canAsk_1 rfl ?_
  refine wp_bipush (nI 6) dX11_canAsk_2 rfl ?_
  refine wp_aload_n (x := 0) dX11_canAsk_4 rfl ?_
  refine wp_getI fl_X11_209 (by decide) rfl (kltM kRootM) kRootM dX11_canAsk_5 ?_
  refine wp_if_ne 16 dX11_canAsk_8 (by decide) (fun c1 => ?_) (fun c1 => ?_)
  · rw [if_neg c1] at h
    refine wp_bipush (nI 12) dX11_canAsk_16 rfl ?_
    exact ok_M_canAsk_j18 hd v1 (nI 6) (nI 12) μ _ h
  · rw [if_pos c1] at h
    refine wp_bipush (nI 16) dX11_canAsk_11 rfl ?_
    refine wp_goto 18 dX11_canAsk_13 (by decide) ?_
    exact ok_M_canAsk_j18 hd v1 (nI 6) (nI 16) μ _ h
theorem ok_M_readUnit_j71 {l : Launch} {d : Nat} (hd : 4 ≤ d) (s1 : Int32) (s2 : Int32) (μ : Mm) (z1 : Option Value) {r : Int32} {μ' : Mm} (h : M_readUnit_j71 s1 s2 μ = some (r, μ')) : Wp l SM d (0, 0) mX11_readUnit 71 [some (.ref 0), z1] [.int s2, .int s1, .ref 0] μ (Qi SM r μ') := by
  unfold M_readUnit_j71 at h
  obtain ⟨μ1, g1, h⟩ := bnd_some h
  refine wp_cVv (d := d - 1) (o := 0) cv_X11_218 (kltM kRootM) kRootM (as := [.int s1, .int s2]) (rest := []) dX11_readUnit_71 (by omega) cloM rfl rfl (Nat.le_of_ble_eq_true rfl) (Nat.le_of_ble_eq_true rfl) (ok_M_emits (by omega) s1 s2 μ g1) ?_ rfl
  refine wp_aload_n (x := 0) dX11_readUnit_74 rfl ?_
  obtain ⟨μ2, g1, h⟩ := bnd_some h
  refine wp_cVv (d := d - 1) (o := 0) cv_X11_221 (kltM kRootM) kRootM (as := []) (rest := []) dX11_readUnit_75 (by omega) cloM rfl rfl (Nat.le_of_ble_eq_true rfl) (Nat.le_of_ble_eq_true rfl) (ok_M_reads (by omega) μ1 g1) ?_ rfl
  refine wp_iconst (nI 0) dX11_readUnit_78 rfl ?_
  obtain ⟨rfl, rfl⟩ := ret2 h
  exact wp_iret rfl dX11_readUnit_79 ⟨rfl, rfl, rfl⟩
theorem ok_M_readUnit_j53 {l : Launch} {d : Nat} (hd : 4 ≤ d) (v1 : Int32)  (s1 : Int32) (μ : Mm) {r : Int32} {μ' : Mm} (h : M_readUnit_j53 v1 s1 μ = some (r, μ')) : Wp l SM d (0, 0) mX11_readUnit 53 [some (.ref 0), some (.int v1)] [.int s1, .ref 0] μ (Qi SM r μ') := by
  unfold M_readUnit_j53 at h
  refine wp_iload_n (x := v1) dX11_readUnit_53 rfl ?_
  refine wp_if_eq 67 dX11_readUnit_54 (by decide) (fun c1 => ?_) (fun c1 => ?_)
  · rw [if_pos c1] at h
    refine wp_aload_n (x := 0) dX11_readUnit_67 rfl ?_
    refine wp_getI fl_X11_185 (by decide) rfl (kltM kRootM) kRootM dX11_readUnit_68 ?_
    exact ok_M_readUnit_j71 hd s1 (μ.1 0 25) μ _ h
  · rw [if_neg c1] at h
    refine wp_aload_n (x := 0) dX11_readUnit_57 rfl ?_
    refine wp_getI fl_X11_185 (by decide) rfl (kltM kRootM) kRootM dX11_readUnit_58 ?_
    refine wp_bipush (nI 6) dX11_readUnit_61 rfl ?_
    refine wp_isub dX11_readUnit_63 ?_
    refine wp_goto 71 dX11_readUnit_64 (by decide) ?_
    exact ok_M_readUnit_j71 hd s1 ((μ.1 0 25) - (nI 6)) μ _ h
theorem ok_M_readUnit_j43 {l : Launch} {d : Nat} (hd : 4 ≤ d) (v1 : Int32)  (μ : Mm) {r : Int32} {μ' : Mm} (h : M_readUnit_j43 v1 μ = some (r, μ')) : Wp l SM d (0, 0) mX11_readUnit 43 [some (.ref 0), some (.int v1)] [] μ (Qi SM r μ') := by
  unfold M_readUnit_j43 at h
  refine wp_aload_n (x := 0) dX11_readUnit_43 rfl ?_
  refine wp_iload_n (x := v1) dX11_readUnit_44 rfl ?_
  refine wp_if_eq 52 dX11_readUnit_45 (by decide) (fun c1 => ?_) (fun c1 => ?_)
  · rw [if_pos c1] at h
    refine wp_iconst (nI 0) dX11_readUnit_52 rfl ?_
    exact ok_M_readUnit_j53 hd v1 (nI 0) μ h
  · rw [if_neg c1] at h
    refine wp_iconst (nI 1) dX11_readUnit_48 rfl ?_
    refine wp_goto 53 dX11_readUnit_49 (by decide) ?_
    exact ok_M_readUnit_j53 hd v1 (nI 1) μ h
theorem ok_M_readUnit_j24 {l : Launch} {d : Nat} (hd : 4 ≤ d) (s0 : Int32) (μ : Mm) (z1 : Option Value) {r : Int32} {μ' : Mm} (h : M_readUnit_j24 s0 μ = some (r, μ')) : Wp l SM d (0, 0) mX11_readUnit 24 [some (.ref 0), z1] [.int s0] μ (Qi SM r μ') := by
  unfold M_readUnit_j24 at h
  refine wp_istore_n (L2 := [some (.ref 0), some (.int s0)]) dX11_readUnit_24 (by decide) rfl rfl ?_
  refine wp_iload_n (x := s0) dX11_readUnit_25 rfl ?_
  refine wp_if_ne 43 dX11_readUnit_26 (by decide) (fun c1 => ?_) (fun c1 => ?_)
  · rw [if_neg c1] at h
    exact ok_M_readUnit_j43 hd s0 μ h
  · rw [if_pos c1] at h
    refine wp_aload_n (x := 0) dX11_readUnit_29 rfl ?_
    refine wp_getI fl_X11_182 (by decide) rfl (kltM kRootM) kRootM dX11_readUnit_30 ?_
    refine wp_iconst (nI 3) dX11_readUnit_33 rfl ?_
    refine wp_icmp_eq 43 dX11_readUnit_34 (by decide) (fun c1 => ?_) (fun c1 => ?_)
    · rw [if_pos c1] at h
      exact ok_M_readUnit_j43 hd s0 μ h
    · rw [if_neg c1] at h
      refine wp_aload_n (x := 0) dX11_readUnit_37 rfl ?_
      refine wp_iconst (nI 1) dX11_readUnit_38 rfl ?_
      obtain ⟨r4, μ3, g1, h⟩ := bnd2_some h
      refine wp_cVi (d := d - 1) (o := 0) cv_X11_215 (kltM kRootM) kRootM (as := [.int (nI 1)]) (rest := []) dX11_readUnit_39 (by omega) cloM rfl rfl (Nat.le_of_ble_eq_true rfl) (Nat.le_of_ble_eq_true rfl) (ok_M_errs (by omega) (nI 1) μ g1) ?_ rfl
      obtain ⟨rfl, rfl⟩ := ret2 h
      exact wp_iret rfl dX11_readUnit_42 ⟨rfl, rfl, rfl⟩
theorem ok_M_readUnit_j23 {l : Launch} {d : Nat} (hd : 4 ≤ d) (μ : Mm) (z1 : Option Value) {r : Int32} {μ' : Mm} (h : M_readUnit_j23 μ = some (r, μ')) : Wp l SM d (0, 0) mX11_readUnit 23 [some (.ref 0), z1] [] μ (Qi SM r μ') := by
  unfold M_readUnit_j23 at h
  refine wp_iconst (nI 0) dX11_readUnit_23 rfl ?_
  exact ok_M_readUnit_j24 hd (nI 0) μ _ h
theorem ok_M_readUnit {l : Launch} {d : Nat} (hd : 4 ≤ d) (μ : Mm) {r : Int32} {μ' : Mm} (h : M_readUnit μ = some (r, μ')) : Wp l SM d (0, 0) mX11_readUnit 0 [some (.ref 0), none] [] μ (Qi SM r μ') := by
  unfold M_readUnit at h
  refine wp_aload_n (x := 0) dX11_readUnit_0 rfl ?_
  refine wp_getI fl_X11_182 (by decide) rfl (kltM kRootM) kRootM dX11_readUnit_1 ?_
  refine wp_iconst (nI 2) dX11_readUnit_4 rfl ?_
  refine wp_icmp_ne 23 dX11_readUnit_5 (by decide) (fun c1 => ?_) (fun c1 => ?_)
  · rw [if_neg c1] at h
    exact ok_M_readUnit_j23 hd μ _ h
  · rw [if_pos c1] at h
    refine wp_aload_n (x := 0) dX11_readUnit_8 rfl ?_
    refine wp_aload_n (x := 0) dX11_readUnit_9 rfl ?_
    refine wp_getI fl_X11_185 (by decide) rfl (kltM kRootM) kRootM dX11_readUnit_10 ?_
    obtain ⟨r5, g1, h⟩ := bnd_some h
    refine wp_cVi (d := d - 1) (o := 0) cv_X11_212 (kltM kRootM) kRootM (as := [.int (μ.1 0 25)]) (rest := []) dX11_readUnit_13 (by omega) cloM rfl rfl (Nat.le_of_ble_eq_true rfl) (Nat.le_of_ble_eq_true rfl) (ok_M_canAsk (by omega) (μ.1 0 25) μ g1) ?_ rfl
    refine wp_if_eq 23 dX11_readUnit_16 (by decide) (fun c1 => ?_) (fun c1 => ?_)
    · rw [if_pos c1] at h
      exact ok_M_readUnit_j23 hd μ _ h
    · rw [if_neg c1] at h
      refine wp_iconst (nI 1) dX11_readUnit_19 rfl ?_
      refine wp_goto 24 dX11_readUnit_20 (by decide) ?_
      exact ok_M_readUnit_j24 hd (nI 1) μ _ h
theorem ok_M_readProduct_j94 {l : Launch} {d : Nat} (hd : 5 ≤ d) (s1 : Int32) (μ : Mm) (z1 : Option Value) {Q : Option Value → Sh → Mm → Prop} (K : Mm ⊕ (Mm ⊕ (Mm ⊕ (Mm ⊕ Mm))) → Prop) (hb : ∀ (s : Mm) (z1 : Option Value), K (Sum.inl s) → Wp l SM d (0, 0) mX11_readProduct 10 [some (.ref 0), z1] [] s Q) (he0 : ∀ (x : Mm) (z1 : Option Value), K (Sum.inr (Sum.inl x)) → Wp l SM d (0, 0) mX11_readProduct 51 [some (.ref 0), z1] [] x Q) (he1 : ∀ (x : Mm) (z1 : Option Value), K (Sum.inr (Sum.inr (Sum.inl x))) → Wp l SM d (0, 0) mX11_readProduct 68 [some (.ref 0), z1] [] x Q) (he2 : ∀ (x : Mm) (z1 : Option Value), K (Sum.inr (Sum.inr (Sum.inr (Sum.inl x)))) → Wp l SM d (0, 0) mX11_readProduct 82 [some (.ref 0), z1] [] x Q) (he3 : ∀ (x : Mm) (z1 : Option Value), K (Sum.inr (Sum.inr (Sum.inr (Sum.inr x)))) → Wp l SM d (0, 0) mX11_readProduct 101 [some (.ref 0), z1] [] x Q) {z : Mm ⊕ (Mm ⊕ (Mm ⊕ (Mm ⊕ Mm)))} (h : M_readProduct_j94 s1 μ = some z) (hz : K z) : Wp l SM d (0, 0) mX11_readProduct 94 [some (.ref 0), z1] [.int s1, .ref 0] μ Q := by
  unfold M_readProduct_j94 at h
  refine wp_iconst (nI 0) dX11_readProduct_94 rfl ?_
  obtain ⟨μ8, g1, h⟩ := bnd_some h
  refine wp_cVv (d := d - 1) (o := 0) cv_X11_218 (kltM kRootM) kRootM (as := [.int s1, .int (nI 0)]) (rest := []) dX11_readProduct_95 (by omega) cloM rfl rfl (Nat.le_of_ble_eq_true rfl) (Nat.le_of_ble_eq_true rfl) (ok_M_emits (by omega) s1 (nI 0) μ g1) ?_ rfl
  refine wp_goto 10 dX11_readProduct_98 (by decide) ?_
  obtain rfl := some1 h
  exact hb μ8 _ hz
theorem ok_M_readProduct_j74 {l : Launch} {d : Nat} (hd : 5 ≤ d) (v1 : Int32)  (μ : Mm) {Q : Option Value → Sh → Mm → Prop} (K : Mm ⊕ (Mm ⊕ (Mm ⊕ (Mm ⊕ Mm))) → Prop) (hb : ∀ (s : Mm) (z1 : Option Value), K (Sum.inl s) → Wp l SM d (0, 0) mX11_readProduct 10 [some (.ref 0), z1] [] s Q) (he0 : ∀ (x : Mm) (z1 : Option Value), K (Sum.inr (Sum.inl x)) → Wp l SM d (0, 0) mX11_readProduct 51 [some (.ref 0), z1] [] x Q) (he1 : ∀ (x : Mm) (z1 : Option Value), K (Sum.inr (Sum.inr (Sum.inl x))) → Wp l SM d (0, 0) mX11_readProduct 68 [some (.ref 0), z1] [] x Q) (he2 : ∀ (x : Mm) (z1 : Option Value), K (Sum.inr (Sum.inr (Sum.inr (Sum.inl x)))) → Wp l SM d (0, 0) mX11_readProduct 82 [some (.ref 0), z1] [] x Q) (he3 : ∀ (x : Mm) (z1 : Option Value), K (Sum.inr (Sum.inr (Sum.inr (Sum.inr x)))) → Wp l SM d (0, 0) mX11_readProduct 101 [some (.ref 0), z1] [] x Q) {z : Mm ⊕ (Mm ⊕ (Mm ⊕ (Mm ⊕ Mm)))} (h : M_readProduct_j74 v1 μ = some z) (hz : K z) : Wp l SM d (0, 0) mX11_readProduct 74 [some (.ref 0), some (.int v1)] [] μ Q := by
  unfold M_readProduct_j74 at h
  refine wp_aload_n (x := 0) dX11_readProduct_74 rfl ?_
  obtain ⟨r7, μ6, g1, h⟩ := bnd2_some h
  refine wp_cVi (d := d - 1) (o := 0) cv_X11_224 (kltM kRootM) kRootM (as := []) (rest := []) dX11_readProduct_75 (by omega) cloM rfl rfl (Nat.le_of_ble_eq_true rfl) (Nat.le_of_ble_eq_true rfl) (ok_M_readUnit (by omega) μ g1) ?_ rfl
  refine wp_iconst (-1) dX11_readProduct_78 rfl ?_
  refine wp_icmp_ne 84 dX11_readProduct_79 (by decide) (fun c1 => ?_) (fun c1 => ?_)
  · rw [if_neg c1] at h
    refine wp_aload_n (x := 0) dX11_readProduct_84 rfl ?_
    refine wp_iload_n (x := v1) dX11_readProduct_85 rfl ?_
    refine wp_if_eq 93 dX11_readProduct_86 (by decide) (fun c1 => ?_) (fun c1 => ?_)
    · rw [if_pos c1] at h
      refine wp_iconst (nI 5) dX11_readProduct_93 rfl ?_
      exact ok_M_readProduct_j94 hd (nI 5) μ6 _ K hb he0 he1 he2 he3 h hz
    · rw [if_neg c1] at h
      refine wp_iconst (nI 4) dX11_readProduct_89 rfl ?_
      refine wp_goto 94 dX11_readProduct_90 (by decide) ?_
      exact ok_M_readProduct_j94 hd (nI 4) μ6 _ K hb he0 he1 he2 he3 h hz
  · rw [if_pos c1] at h
    obtain rfl := some1 h
    exact he2 μ6 _ hz
theorem ok_M_readProduct_j57 {l : Launch} {d : Nat} (hd : 5 ≤ d) (v1 : Int32)  (μ : Mm) {Q : Option Value → Sh → Mm → Prop} (K : Mm ⊕ (Mm ⊕ (Mm ⊕ (Mm ⊕ Mm))) → Prop) (hb : ∀ (s : Mm) (z1 : Option Value), K (Sum.inl s) → Wp l SM d (0, 0) mX11_readProduct 10 [some (.ref 0), z1] [] s Q) (he0 : ∀ (x : Mm) (z1 : Option Value), K (Sum.inr (Sum.inl x)) → Wp l SM d (0, 0) mX11_readProduct 51 [some (.ref 0), z1] [] x Q) (he1 : ∀ (x : Mm) (z1 : Option Value), K (Sum.inr (Sum.inr (Sum.inl x))) → Wp l SM d (0, 0) mX11_readProduct 68 [some (.ref 0), z1] [] x Q) (he2 : ∀ (x : Mm) (z1 : Option Value), K (Sum.inr (Sum.inr (Sum.inr (Sum.inl x)))) → Wp l SM d (0, 0) mX11_readProduct 82 [some (.ref 0), z1] [] x Q) (he3 : ∀ (x : Mm) (z1 : Option Value), K (Sum.inr (Sum.inr (Sum.inr (Sum.inr x)))) → Wp l SM d (0, 0) mX11_readProduct 101 [some (.ref 0), z1] [] x Q) {z : Mm ⊕ (Mm ⊕ (Mm ⊕ (Mm ⊕ Mm)))} (h : M_readProduct_j57 v1 μ = some z) (hz : K z) : Wp l SM d (0, 0) mX11_readProduct 57 [some (.ref 0), some (.int v1)] [] μ Q := by
  unfold M_readProduct_j57 at h
  refine wp_iload_n (x := v1) dX11_readProduct_57 rfl ?_
  refine wp_if_ne 74 dX11_readProduct_58 (by decide) (fun c1 => ?_) (fun c1 => ?_)
  · rw [if_neg c1] at h
    exact ok_M_readProduct_j74 hd v1 μ K hb he0 he1 he2 he3 h hz
  · rw [if_pos c1] at h
    refine wp_aload_n (x := 0) dX11_readProduct_61 rfl ?_
    refine wp_getI fl_X11_185 (by decide) rfl (kltM kRootM) kRootM dX11_readProduct_62 ?_
    refine wp_if_ne 74 dX11_readProduct_65 (by decide) (fun c1 => ?_) (fun c1 => ?_)
    · rw [if_neg c1] at h
      exact ok_M_readProduct_j74 hd v1 μ K hb he0 he1 he2 he3 h hz
    · rw [if_pos c1] at h
      obtain rfl := some1 h
      exact he1 μ _ hz
theorem ok_M_readProduct_j28 {l : Launch} {d : Nat} (hd : 5 ≤ d) (μ : Mm) (z1 : Option Value) {Q : Option Value → Sh → Mm → Prop} (K : Mm ⊕ (Mm ⊕ (Mm ⊕ (Mm ⊕ Mm))) → Prop) (hb : ∀ (s : Mm) (z1 : Option Value), K (Sum.inl s) → Wp l SM d (0, 0) mX11_readProduct 10 [some (.ref 0), z1] [] s Q) (he0 : ∀ (x : Mm) (z1 : Option Value), K (Sum.inr (Sum.inl x)) → Wp l SM d (0, 0) mX11_readProduct 51 [some (.ref 0), z1] [] x Q) (he1 : ∀ (x : Mm) (z1 : Option Value), K (Sum.inr (Sum.inr (Sum.inl x))) → Wp l SM d (0, 0) mX11_readProduct 68 [some (.ref 0), z1] [] x Q) (he2 : ∀ (x : Mm) (z1 : Option Value), K (Sum.inr (Sum.inr (Sum.inr (Sum.inl x)))) → Wp l SM d (0, 0) mX11_readProduct 82 [some (.ref 0), z1] [] x Q) (he3 : ∀ (x : Mm) (z1 : Option Value), K (Sum.inr (Sum.inr (Sum.inr (Sum.inr x)))) → Wp l SM d (0, 0) mX11_readProduct 101 [some (.ref 0), z1] [] x Q) {z : Mm ⊕ (Mm ⊕ (Mm ⊕ (Mm ⊕ Mm)))} (h : M_readProduct_j28 μ = some z) (hz : K z) : Wp l SM d (0, 0) mX11_readProduct 28 [some (.ref 0), z1] [] μ Q := by
  unfold M_readProduct_j28 at h
  refine wp_aload_n (x := 0) dX11_readProduct_28 rfl ?_
  refine wp_bipush (nI 42) dX11_readProduct_29 rfl ?_
  obtain ⟨r4, g1, h⟩ := bnd_some h
  refine wp_cVi (d := d - 1) (o := 0) cv_X11_228 (kltM kRootM) kRootM (as := [.int (nI 42)]) (rest := []) dX11_readProduct_31 (by omega) cloM rfl rfl (Nat.le_of_ble_eq_true rfl) (Nat.le_of_ble_eq_true rfl) (ok_M_isSign (by omega) (nI 42) μ g1) ?_ rfl
  refine wp_istore_n (L2 := [some (.ref 0), some (.int r4)]) dX11_readProduct_34 (by decide) rfl rfl ?_
  refine wp_aload_n (x := 0) dX11_readProduct_35 rfl ?_
  obtain ⟨μ5, g1, h⟩ := bnd_some h
  refine wp_cVv (d := d - 1) (o := 0) cv_X11_221 (kltM kRootM) kRootM (as := []) (rest := []) dX11_readProduct_36 (by omega) cloM rfl rfl (Nat.le_of_ble_eq_true rfl) (Nat.le_of_ble_eq_true rfl) (ok_M_reads (by omega) μ g1) ?_ rfl
  refine wp_iload_n (x := r4) dX11_readProduct_39 rfl ?_
  refine wp_if_ne 57 dX11_readProduct_40 (by decide) (fun c1 => ?_) (fun c1 => ?_)
  · rw [if_neg c1] at h
    exact ok_M_readProduct_j57 hd r4 μ5 K hb he0 he1 he2 he3 h hz
  · rw [if_pos c1] at h
    refine wp_aload_n (x := 0) dX11_readProduct_43 rfl ?_
    refine wp_getI fl_X11_182 (by decide) rfl (kltM kRootM) kRootM dX11_readProduct_44 ?_
    refine wp_iconst (nI 3) dX11_readProduct_47 rfl ?_
    refine wp_icmp_eq 57 dX11_readProduct_48 (by decide) (fun c1 => ?_) (fun c1 => ?_)
    · rw [if_pos c1] at h
      exact ok_M_readProduct_j57 hd r4 μ5 K hb he0 he1 he2 he3 h hz
    · rw [if_neg c1] at h
      obtain rfl := some1 h
      exact he0 μ5 _ hz
theorem ok_M_readProduct_l10 {l : Launch} {d : Nat} (hd : 5 ≤ d) (μ : Mm) (z1 : Option Value) {Q : Option Value → Sh → Mm → Prop} (K : Mm ⊕ (Mm ⊕ (Mm ⊕ (Mm ⊕ Mm))) → Prop) (hb : ∀ (s : Mm) (z1 : Option Value), K (Sum.inl s) → Wp l SM d (0, 0) mX11_readProduct 10 [some (.ref 0), z1] [] s Q) (he0 : ∀ (x : Mm) (z1 : Option Value), K (Sum.inr (Sum.inl x)) → Wp l SM d (0, 0) mX11_readProduct 51 [some (.ref 0), z1] [] x Q) (he1 : ∀ (x : Mm) (z1 : Option Value), K (Sum.inr (Sum.inr (Sum.inl x))) → Wp l SM d (0, 0) mX11_readProduct 68 [some (.ref 0), z1] [] x Q) (he2 : ∀ (x : Mm) (z1 : Option Value), K (Sum.inr (Sum.inr (Sum.inr (Sum.inl x)))) → Wp l SM d (0, 0) mX11_readProduct 82 [some (.ref 0), z1] [] x Q) (he3 : ∀ (x : Mm) (z1 : Option Value), K (Sum.inr (Sum.inr (Sum.inr (Sum.inr x)))) → Wp l SM d (0, 0) mX11_readProduct 101 [some (.ref 0), z1] [] x Q) {z : Mm ⊕ (Mm ⊕ (Mm ⊕ (Mm ⊕ Mm)))} (h : M_readProduct_l10 μ = some z) (hz : K z) : Wp l SM d (0, 0) mX11_readProduct 10 [some (.ref 0), z1] [] μ Q := by
  unfold M_readProduct_l10 at h
  refine wp_aload_n (x := 0) dX11_readProduct_10 rfl ?_
  refine wp_bipush (nI 42) dX11_readProduct_11 rfl ?_
  obtain ⟨r3, g1, h⟩ := bnd_some h
  refine wp_cVi (d := d - 1) (o := 0) cv_X11_228 (kltM kRootM) kRootM (as := [.int (nI 42)]) (rest := []) dX11_readProduct_13 (by omega) cloM rfl rfl (Nat.le_of_ble_eq_true rfl) (Nat.le_of_ble_eq_true rfl) (ok_M_isSign (by omega) (nI 42) μ g1) ?_ rfl
  refine wp_if_ne 28 dX11_readProduct_16 (by decide) (fun c1 => ?_) (fun c1 => ?_)
  · rw [if_neg c1] at h
    exact ok_M_readProduct_j28 hd μ _ K hb he0 he1 he2 he3 h hz
  · rw [if_pos c1] at h
    refine wp_aload_n (x := 0) dX11_readProduct_19 rfl ?_
    refine wp_bipush (nI 47) dX11_readProduct_20 rfl ?_
    obtain ⟨r9, g1, h⟩ := bnd_some h
    refine wp_cVi (d := d - 1) (o := 0) cv_X11_228 (kltM kRootM) kRootM (as := [.int (nI 47)]) (rest := []) dX11_readProduct_22 (by omega) cloM rfl rfl (Nat.le_of_ble_eq_true rfl) (Nat.le_of_ble_eq_true rfl) (ok_M_isSign (by omega) (nI 47) μ g1) ?_ rfl
    refine wp_if_eq 101 dX11_readProduct_25 (by decide) (fun c1 => ?_) (fun c1 => ?_)
    · rw [if_pos c1] at h
      obtain rfl := some1 h
      exact he3 μ _ hz
    · rw [if_neg c1] at h
      exact ok_M_readProduct_j28 hd μ _ K hb he0 he1 he2 he3 h hz
theorem okl_M_readProduct_l10 {l : Launch} {d : Nat} (hd : 5 ≤ d) {Q : Option Value → Sh → Mm → Prop} (K : (Mm ⊕ (Mm ⊕ (Mm ⊕ Mm))) → Prop) (he0 : ∀ (x : Mm) (z1 : Option Value), K (Sum.inl x) → Wp l SM d (0, 0) mX11_readProduct 51 [some (.ref 0), z1] [] x Q) (he1 : ∀ (x : Mm) (z1 : Option Value), K (Sum.inr (Sum.inl x)) → Wp l SM d (0, 0) mX11_readProduct 68 [some (.ref 0), z1] [] x Q) (he2 : ∀ (x : Mm) (z1 : Option Value), K (Sum.inr (Sum.inr (Sum.inl x))) → Wp l SM d (0, 0) mX11_readProduct 82 [some (.ref 0), z1] [] x Q) (he3 : ∀ (x : Mm) (z1 : Option Value), K (Sum.inr (Sum.inr (Sum.inr x))) → Wp l SM d (0, 0) mX11_readProduct 101 [some (.ref 0), z1] [] x Q) : ∀ (n : Nat) (s : Mm) (y : (Mm ⊕ (Mm ⊕ (Mm ⊕ Mm)))) (z1 : Option Value) , iter n (fun s => M_readProduct_l10 s) s = some y → K y → Wp l SM d (0, 0) mX11_readProduct 10 [some (.ref 0), z1] [] s Q := by
  intro n
  induction n with
  | zero => intro s y z1 h; cases h
  | succ n ih =>
    intro s y z1 h hK
    obtain ⟨z, hz, hn⟩ := iter_some h
    refine ok_M_readProduct_l10 hd  s _ (fun z => nxt n (fun s => M_readProduct_l10 s) z y) ?_ ?_ ?_ ?_ ?_ hz hn
    · intro s2 z1 h2
      exact ih s2 y _ h2 hK
    · intro x z1 h2
      have h3 : (Sum.inl x) = y := h2
      subst h3
      exact he0 x _ hK
    · intro x z1 h2
      have h3 : (Sum.inr (Sum.inl x)) = y := h2
      subst h3
      exact he1 x _ hK
    · intro x z1 h2
      have h3 : (Sum.inr (Sum.inr (Sum.inl x))) = y := h2
      subst h3
      exact he2 x _ hK
    · intro x z1 h2
      have h3 : (Sum.inr (Sum.inr (Sum.inr x))) = y := h2
      subst h3
      exact he3 x _ hK
theorem ok_M_readProduct {l : Launch} {d : Nat} (hd : 5 ≤ d) (μ : Mm) {r : Int32} {μ' : Mm} (h : M_readProduct μ = some (r, μ')) : Wp l SM d (0, 0) mX11_readProduct 0 [some (.ref 0), none] [] μ (Qi SM r μ') := by
  unfold M_readProduct at h
  refine wp_aload_n (x := 0) dX11_readProduct_0 rfl ?_
  obtain ⟨r2, μ1, g1, h⟩ := bnd2_some h
  refine wp_cVi (d := d - 1) (o := 0) cv_X11_224 (kltM kRootM) kRootM (as := []) (rest := []) dX11_readProduct_1 (by omega) cloM rfl rfl (Nat.le_of_ble_eq_true rfl) (Nat.le_of_ble_eq_true rfl) (ok_M_readUnit (by omega) μ g1) ?_ rfl
  refine wp_iconst (-1) dX11_readProduct_4 rfl ?_
  refine wp_icmp_ne 10 dX11_readProduct_5 (by decide) (fun c1 => ?_) (fun c1 => ?_)
  · rw [if_neg c1] at h
    obtain ⟨x10, hi, h⟩ := bni_some h
    refine okl_M_readProduct_l10 hd  (fun z => z = x10) ?_ ?_ ?_ ?_ 1000000 μ1 x10 _ hi rfl
    · intro x10a z1 e0
      have e0 : (Sum.inl x10a) = x10 := e0
      subst e0
      replace h := eL h
      refine wp_aload_n (x := 0) dX11_readProduct_51 rfl ?_
      refine wp_iconst (nI 1) dX11_readProduct_52 rfl ?_
      obtain ⟨r11, μ10, g1, h⟩ := bnd2_some h
      refine wp_cVi (d := d - 1) (o := 0) cv_X11_215 (kltM kRootM) kRootM (as := [.int (nI 1)]) (rest := []) dX11_readProduct_53 (by omega) cloM rfl rfl (Nat.le_of_ble_eq_true rfl) (Nat.le_of_ble_eq_true rfl) (ok_M_errs (by omega) (nI 1) x10a g1) ?_ rfl
      obtain ⟨rfl, rfl⟩ := ret2 h
      exact wp_iret rfl dX11_readProduct_56 ⟨rfl, rfl, rfl⟩
    · intro x10b z1 e0
      have e0 : (Sum.inr (Sum.inl x10b)) = x10 := e0
      subst e0
      replace h := eR h
      replace h := eL h
      refine wp_aload_n (x := 0) dX11_readProduct_68 rfl ?_
      refine wp_iconst (nI 2) dX11_readProduct_69 rfl ?_
      obtain ⟨r13, μ12, g1, h⟩ := bnd2_some h
      refine wp_cVi (d := d - 1) (o := 0) cv_X11_215 (kltM kRootM) kRootM (as := [.int (nI 2)]) (rest := []) dX11_readProduct_70 (by omega) cloM rfl rfl (Nat.le_of_ble_eq_true rfl) (Nat.le_of_ble_eq_true rfl) (ok_M_errs (by omega) (nI 2) x10b g1) ?_ rfl
      obtain ⟨rfl, rfl⟩ := ret2 h
      exact wp_iret rfl dX11_readProduct_73 ⟨rfl, rfl, rfl⟩
    · intro x10c z1 e0
      have e0 : (Sum.inr (Sum.inr (Sum.inl x10c))) = x10 := e0
      subst e0
      replace h := eR h
      replace h := eR h
      replace h := eL h
      refine wp_iconst (-1) dX11_readProduct_82 rfl ?_
      obtain ⟨rfl, rfl⟩ := ret2 h
      exact wp_iret rfl dX11_readProduct_83 ⟨rfl, rfl, rfl⟩
    · intro x10d z1 e0
      have e0 : (Sum.inr (Sum.inr (Sum.inr x10d))) = x10 := e0
      subst e0
      replace h := eR h
      replace h := eR h
      replace h := eR h
      refine wp_iconst (nI 0) dX11_readProduct_101 rfl ?_
      obtain ⟨rfl, rfl⟩ := ret2 h
      exact wp_iret rfl dX11_readProduct_102 ⟨rfl, rfl, rfl⟩
  · rw [if_pos c1] at h
    refine wp_iconst (-1) dX11_readProduct_8 rfl ?_
    obtain ⟨rfl, rfl⟩ := ret2 h
    exact wp_iret rfl dX11_readProduct_9 ⟨rfl, rfl, rfl⟩
theorem ok_M_readSum_j42 {l : Launch} {d : Nat} (hd : 6 ≤ d) (s0 : Int32) (μ : Mm) (z1 : Option Value) {Q : Option Value → Sh → Mm → Prop} (K : Mm ⊕ (Mm ⊕ Mm) → Prop) (hb : ∀ (s : Mm) (z1 : Option Value), K (Sum.inl s) → Wp l SM d (0, 0) mX11_readSum 10 [some (.ref 0), z1] [] s Q) (he0 : ∀ (x : Mm) (z1 : Option Value), K (Sum.inr (Sum.inl x)) → Wp l SM d (0, 0) mX11_readSum 55 [some (.ref 0), z1] [] x Q) (he1 : ∀ (x : Mm) (z1 : Option Value), K (Sum.inr (Sum.inr x)) → Wp l SM d (0, 0) mX11_readSum 66 [some (.ref 0), z1] [] x Q) {z : Mm ⊕ (Mm ⊕ Mm)} (h : M_readSum_j42 s0 μ = some z) (hz : K z) : Wp l SM d (0, 0) mX11_readSum 42 [some (.ref 0), z1] [.int s0] μ Q := by
  unfold M_readSum_j42 at h
  refine wp_istore_n (L2 := [some (.ref 0), some (.int s0)]) dX11_readSum_42 (by decide) rfl rfl ?_
  refine wp_aload_n (x := 0) dX11_readSum_43 rfl ?_
  obtain ⟨μ4, g1, h⟩ := bnd_some h
  refine wp_cVv (d := d - 1) (o := 0) cv_X11_221 (kltM kRootM) kRootM (as := []) (rest := []) dX11_readSum_44 (by omega) cloM rfl rfl (Nat.le_of_ble_eq_true rfl) (Nat.le_of_ble_eq_true rfl) (ok_M_reads (by omega) μ g1) ?_ rfl
  refine wp_aload_n (x := 0) dX11_readSum_47 rfl ?_
  obtain ⟨r6, μ5, g1, h⟩ := bnd2_some h
  refine wp_cVi (d := d - 1) (o := 0) cv_X11_231 (kltM kRootM) kRootM (as := []) (rest := []) dX11_readSum_48 (by omega) cloM rfl rfl (Nat.le_of_ble_eq_true rfl) (Nat.le_of_ble_eq_true rfl) (ok_M_readProduct (by omega) μ4 g1) ?_ rfl
  refine wp_iconst (-1) dX11_readSum_51 rfl ?_
  refine wp_icmp_ne 57 dX11_readSum_52 (by decide) (fun c1 => ?_) (fun c1 => ?_)
  · rw [if_neg c1] at h
    refine wp_aload_n (x := 0) dX11_readSum_57 rfl ?_
    refine wp_iload_n (x := s0) dX11_readSum_58 rfl ?_
    refine wp_iconst (nI 0) dX11_readSum_59 rfl ?_
    obtain ⟨μ7, g1, h⟩ := bnd_some h
    refine wp_cVv (d := d - 1) (o := 0) cv_X11_218 (kltM kRootM) kRootM (as := [.int s0, .int (nI 0)]) (rest := []) dX11_readSum_60 (by omega) cloM rfl rfl (Nat.le_of_ble_eq_true rfl) (Nat.le_of_ble_eq_true rfl) (ok_M_emits (by omega) s0 (nI 0) μ5 g1) ?_ rfl
    refine wp_goto 10 dX11_readSum_63 (by decide) ?_
    obtain rfl := some1 h
    exact hb μ7 _ hz
  · rw [if_pos c1] at h
    obtain rfl := some1 h
    exact he0 μ5 _ hz
theorem ok_M_readSum_j28 {l : Launch} {d : Nat} (hd : 6 ≤ d) (μ : Mm) (z1 : Option Value) {Q : Option Value → Sh → Mm → Prop} (K : Mm ⊕ (Mm ⊕ Mm) → Prop) (hb : ∀ (s : Mm) (z1 : Option Value), K (Sum.inl s) → Wp l SM d (0, 0) mX11_readSum 10 [some (.ref 0), z1] [] s Q) (he0 : ∀ (x : Mm) (z1 : Option Value), K (Sum.inr (Sum.inl x)) → Wp l SM d (0, 0) mX11_readSum 55 [some (.ref 0), z1] [] x Q) (he1 : ∀ (x : Mm) (z1 : Option Value), K (Sum.inr (Sum.inr x)) → Wp l SM d (0, 0) mX11_readSum 66 [some (.ref 0), z1] [] x Q) {z : Mm ⊕ (Mm ⊕ Mm)} (h : M_readSum_j28 μ = some z) (hz : K z) : Wp l SM d (0, 0) mX11_readSum 28 [some (.ref 0), z1] [] μ Q := by
  unfold M_readSum_j28 at h
  refine wp_aload_n (x := 0) dX11_readSum_28 rfl ?_
  refine wp_getI fl_X11_185 (by decide) rfl (kltM kRootM) kRootM dX11_readSum_29 ?_
  refine wp_bipush (nI 43) dX11_readSum_32 rfl ?_
  refine wp_icmp_ne 41 dX11_readSum_34 (by decide) (fun c1 => ?_) (fun c1 => ?_)
  · rw [if_neg c1] at h
    refine wp_iconst (nI 3) dX11_readSum_41 rfl ?_
    exact ok_M_readSum_j42 hd (nI 3) μ _ K hb he0 he1 h hz
  · rw [if_pos c1] at h
    refine wp_iconst (nI 2) dX11_readSum_37 rfl ?_
    refine wp_goto 42 dX11_readSum_38 (by decide) ?_
    exact ok_M_readSum_j42 hd (nI 2) μ _ K hb he0 he1 h hz
theorem ok_M_readSum_l10 {l : Launch} {d : Nat} (hd : 6 ≤ d) (μ : Mm) (z1 : Option Value) {Q : Option Value → Sh → Mm → Prop} (K : Mm ⊕ (Mm ⊕ Mm) → Prop) (hb : ∀ (s : Mm) (z1 : Option Value), K (Sum.inl s) → Wp l SM d (0, 0) mX11_readSum 10 [some (.ref 0), z1] [] s Q) (he0 : ∀ (x : Mm) (z1 : Option Value), K (Sum.inr (Sum.inl x)) → Wp l SM d (0, 0) mX11_readSum 55 [some (.ref 0), z1] [] x Q) (he1 : ∀ (x : Mm) (z1 : Option Value), K (Sum.inr (Sum.inr x)) → Wp l SM d (0, 0) mX11_readSum 66 [some (.ref 0), z1] [] x Q) {z : Mm ⊕ (Mm ⊕ Mm)} (h : M_readSum_l10 μ = some z) (hz : K z) : Wp l SM d (0, 0) mX11_readSum 10 [some (.ref 0), z1] [] μ Q := by
  unfold M_readSum_l10 at h
  refine wp_aload_n (x := 0) dX11_readSum_10 rfl ?_
  refine wp_bipush (nI 43) dX11_readSum_11 rfl ?_
  obtain ⟨r3, g1, h⟩ := bnd_some h
  refine wp_cVi (d := d - 1) (o := 0) cv_X11_228 (kltM kRootM) kRootM (as := [.int (nI 43)]) (rest := []) dX11_readSum_13 (by omega) cloM rfl rfl (Nat.le_of_ble_eq_true rfl) (Nat.le_of_ble_eq_true rfl) (ok_M_isSign (by omega) (nI 43) μ g1) ?_ rfl
  refine wp_if_ne 28 dX11_readSum_16 (by decide) (fun c1 => ?_) (fun c1 => ?_)
  · rw [if_neg c1] at h
    exact ok_M_readSum_j28 hd μ _ K hb he0 he1 h hz
  · rw [if_pos c1] at h
    refine wp_aload_n (x := 0) dX11_readSum_19 rfl ?_
    refine wp_bipush (nI 45) dX11_readSum_20 rfl ?_
    obtain ⟨r8, g1, h⟩ := bnd_some h
    refine wp_cVi (d := d - 1) (o := 0) cv_X11_228 (kltM kRootM) kRootM (as := [.int (nI 45)]) (rest := []) dX11_readSum_22 (by omega) cloM rfl rfl (Nat.le_of_ble_eq_true rfl) (Nat.le_of_ble_eq_true rfl) (ok_M_isSign (by omega) (nI 45) μ g1) ?_ rfl
    refine wp_if_eq 66 dX11_readSum_25 (by decide) (fun c1 => ?_) (fun c1 => ?_)
    · rw [if_pos c1] at h
      obtain rfl := some1 h
      exact he1 μ _ hz
    · rw [if_neg c1] at h
      exact ok_M_readSum_j28 hd μ _ K hb he0 he1 h hz
theorem okl_M_readSum_l10 {l : Launch} {d : Nat} (hd : 6 ≤ d) {Q : Option Value → Sh → Mm → Prop} (K : (Mm ⊕ Mm) → Prop) (he0 : ∀ (x : Mm) (z1 : Option Value), K (Sum.inl x) → Wp l SM d (0, 0) mX11_readSum 55 [some (.ref 0), z1] [] x Q) (he1 : ∀ (x : Mm) (z1 : Option Value), K (Sum.inr x) → Wp l SM d (0, 0) mX11_readSum 66 [some (.ref 0), z1] [] x Q) : ∀ (n : Nat) (s : Mm) (y : (Mm ⊕ Mm)) (z1 : Option Value) , iter n (fun s => M_readSum_l10 s) s = some y → K y → Wp l SM d (0, 0) mX11_readSum 10 [some (.ref 0), z1] [] s Q := by
  intro n
  induction n with
  | zero => intro s y z1 h; cases h
  | succ n ih =>
    intro s y z1 h hK
    obtain ⟨z, hz, hn⟩ := iter_some h
    refine ok_M_readSum_l10 hd  s _ (fun z => nxt n (fun s => M_readSum_l10 s) z y) ?_ ?_ ?_ hz hn
    · intro s2 z1 h2
      exact ih s2 y _ h2 hK
    · intro x z1 h2
      have h3 : (Sum.inl x) = y := h2
      subst h3
      exact he0 x _ hK
    · intro x z1 h2
      have h3 : (Sum.inr x) = y := h2
      subst h3
      exact he1 x _ hK
theorem ok_M_readSum {l : Launch} {d : Nat} (hd : 6 ≤ d) (μ : Mm) {r : Int32} {μ' : Mm} (h : M_readSum μ = some (r, μ')) : Wp l SM d (0, 0) mX11_readSum 0 [some (.ref 0), none] [] μ (Qi SM r μ') := by
  unfold M_readSum at h
  refine wp_aload_n (x := 0) dX11_readSum_0 rfl ?_
  obtain ⟨r2, μ1, g1, h⟩ := bnd2_some h
  refine wp_cVi (d := d - 1) (o := 0) cv_X11_231 (kltM kRootM) kRootM (as := []) (rest := []) dX11_readSum_1 (by omega) cloM rfl rfl (Nat.le_of_ble_eq_true rfl) (Nat.le_of_ble_eq_true rfl) (ok_M_readProduct (by omega) μ g1) ?_ rfl
  refine wp_iconst (-1) dX11_readSum_4 rfl ?_
  refine wp_icmp_ne 10 dX11_readSum_5 (by decide) (fun c1 => ?_) (fun c1 => ?_)
  · rw [if_neg c1] at h
    obtain ⟨x10, hi, h⟩ := bni_some h
    refine okl_M_readSum_l10 hd  (fun z => z = x10) ?_ ?_ 1000000 μ1 x10 _ hi rfl
    · intro x10a z1 e0
      have e0 : (Sum.inl x10a) = x10 := e0
      subst e0
      replace h := eL h
      refine wp_iconst (-1) dX11_readSum_55 rfl ?_
      obtain ⟨rfl, rfl⟩ := ret2 h
      exact wp_iret rfl dX11_readSum_56 ⟨rfl, rfl, rfl⟩
    · intro x10b z1 e0
      have e0 : (Sum.inr x10b) = x10 := e0
      subst e0
      replace h := eR h
      refine wp_iconst (nI 0) dX11_readSum_66 rfl ?_
      obtain ⟨rfl, rfl⟩ := ret2 h
      exact wp_iret rfl dX11_readSum_67 ⟨rfl, rfl, rfl⟩
  · rw [if_pos c1] at h
    refine wp_iconst (-1) dX11_readSum_8 rfl ?_
    obtain ⟨rfl, rfl⟩ := ret2 h
    exact wp_iret rfl dX11_readSum_9 ⟨rfl, rfl, rfl⟩
theorem ok_M_readCompared_j73 {l : Launch} {d : Nat} (hd : 7 ≤ d) (s0 : Int32) (μ : Mm) (z1 : Option Value) {r : Int32} {μ' : Mm} (h : M_readCompared_j73 s0 μ = some (r, μ')) : Wp l SM d (0, 0) mX11_readCompared 73 [some (.ref 0), z1] [.int s0] μ (Qi SM r μ') := by
  unfold M_readCompared_j73 at h
  refine wp_istore_n (L2 := [some (.ref 0), some (.int s0)]) dX11_readCompared_73 (by decide) rfl rfl ?_
  refine wp_aload_n (x := 0) dX11_readCompared_74 rfl ?_
  obtain ⟨μ4, g1, h⟩ := bnd_some h
  refine wp_cVv (d := d - 1) (o := 0) cv_X11_221 (kltM kRootM) kRootM (as := []) (rest := []) dX11_readCompared_75 (by omega) cloM rfl rfl (Nat.le_of_ble_eq_true rfl) (Nat.le_of_ble_eq_true rfl) (ok_M_reads (by omega) μ g1) ?_ rfl
  refine wp_aload_n (x := 0) dX11_readCompared_78 rfl ?_
  obtain ⟨r6, μ5, g1, h⟩ := bnd2_some h
  refine wp_cVi (d := d - 1) (o := 0) cv_X11_234 (kltM kRootM) kRootM (as := []) (rest := []) dX11_readCompared_79 (by omega) cloM rfl rfl (Nat.le_of_ble_eq_true rfl) (Nat.le_of_ble_eq_true rfl) (ok_M_readSum (by omega) μ4 g1) ?_ rfl
  refine wp_iconst (-1) dX11_readCompared_82 rfl ?_
  refine wp_icmp_ne 88 dX11_readCompared_83 (by decide) (fun c1 => ?_) (fun c1 => ?_)
  · rw [if_neg c1] at h
    refine wp_aload_n (x := 0) dX11_readCompared_88 rfl ?_
    refine wp_iload_n (x := s0) dX11_readCompared_89 rfl ?_
    refine wp_iconst (nI 0) dX11_readCompared_90 rfl ?_
    obtain ⟨μ7, g1, h⟩ := bnd_some h
    refine wp_cVv (d := d - 1) (o := 0) cv_X11_218 (kltM kRootM) kRootM (as := [.int s0, .int (nI 0)]) (rest := []) dX11_readCompared_91 (by omega) cloM rfl rfl (Nat.le_of_ble_eq_true rfl) (Nat.le_of_ble_eq_true rfl) (ok_M_emits (by omega) s0 (nI 0) μ5 g1) ?_ rfl
    refine wp_iconst (nI 0) dX11_readCompared_94 rfl ?_
    obtain ⟨rfl, rfl⟩ := ret2 h
    exact wp_iret rfl dX11_readCompared_95 ⟨rfl, rfl, rfl⟩
  · rw [if_pos c1] at h
    refine wp_iconst (-1) dX11_readCompared_86 rfl ?_
    obtain ⟨rfl, rfl⟩ := ret2 h
    exact wp_iret rfl dX11_readCompared_87 ⟨rfl, rfl, rfl⟩
theorem ok_M_readCompared_j43 {l : Launch} {d : Nat} (hd : 7 ≤ d) (μ : Mm) (z1 : Option Value) {r : Int32} {μ' : Mm} (h : M_readCompared_j43 μ = some (r, μ')) : Wp l SM d (0, 0) mX11_readCompared 43 [some (.ref 0), z1] [] μ (Qi SM r μ') := by
  unfold M_readCompared_j43 at h
  refine wp_aload_n (x := 0) dX11_readCompared_43 rfl ?_
  refine wp_getI fl_X11_185 (by decide) rfl (kltM kRootM) kRootM dX11_readCompared_44 ?_
  refine wp_bipush (nI 60) dX11_readCompared_47 rfl ?_
  refine wp_icmp_ne 57 dX11_readCompared_49 (by decide) (fun c1 => ?_) (fun c1 => ?_)
  · rw [if_neg c1] at h
    refine wp_aload_n (x := 0) dX11_readCompared_57 rfl ?_
    refine wp_getI fl_X11_185 (by decide) rfl (kltM kRootM) kRootM dX11_readCompared_58 ?_
    refine wp_bipush (nI 61) dX11_readCompared_61 rfl ?_
    refine wp_icmp_ne 71 dX11_readCompared_63 (by decide) (fun c1 => ?_) (fun c1 => ?_)
    · rw [if_neg c1] at h
      refine wp_bipush (nI 8) dX11_readCompared_71 rfl ?_
      exact ok_M_readCompared_j73 hd (nI 8) μ _ h
    · rw [if_pos c1] at h
      refine wp_bipush (nI 7) dX11_readCompared_66 rfl ?_
      refine wp_goto 73 dX11_readCompared_68 (by decide) ?_
      exact ok_M_readCompared_j73 hd (nI 7) μ _ h
  · rw [if_pos c1] at h
    refine wp_bipush (nI 6) dX11_readCompared_52 rfl ?_
    refine wp_goto 73 dX11_readCompared_54 (by decide) ?_
    exact ok_M_readCompared_j73 hd (nI 6) μ _ h
theorem ok_M_readCompared {l : Launch} {d : Nat} (hd : 7 ≤ d) (μ : Mm) {r : Int32} {μ' : Mm} (h : M_readCompared μ = some (r, μ')) : Wp l SM d (0, 0) mX11_readCompared 0 [some (.ref 0), none] [] μ (Qi SM r μ') := by
  unfold M_readCompared at h
  refine wp_aload_n (x := 0) dX11_readCompared_0 rfl ?_
  obtain ⟨r2, μ1, g1, h⟩ := bnd2_some h
  refine wp_cVi (d := d - 1) (o := 0) cv_X11_234 (kltM kRootM) kRootM (as := []) (rest := []) dX11_readCompared_1 (by omega) cloM rfl rfl (Nat.le_of_ble_eq_true rfl) (Nat.le_of_ble_eq_true rfl) (ok_M_readSum (by omega) μ g1) ?_ rfl
  refine wp_iconst (-1) dX11_readCompared_4 rfl ?_
  refine wp_icmp_ne 10 dX11_readCompared_5 (by decide) (fun c1 => ?_) (fun c1 => ?_)
  · rw [if_neg c1] at h
    refine wp_aload_n (x := 0) dX11_readCompared_10 rfl ?_
    refine wp_bipush (nI 60) dX11_readCompared_11 rfl ?_
    obtain ⟨r3, g1, h⟩ := bnd_some h
    refine wp_cVi (d := d - 1) (o := 0) cv_X11_228 (kltM kRootM) kRootM (as := [.int (nI 60)]) (rest := []) dX11_readCompared_13 (by omega) cloM rfl rfl (Nat.le_of_ble_eq_true rfl) (Nat.le_of_ble_eq_true rfl) (ok_M_isSign (by omega) (nI 60) μ1 g1) ?_ rfl
    refine wp_if_ne 43 dX11_readCompared_16 (by decide) (fun c1 => ?_) (fun c1 => ?_)
    · rw [if_neg c1] at h
      exact ok_M_readCompared_j43 hd μ1 _ h
    · rw [if_pos c1] at h
      refine wp_aload_n (x := 0) dX11_readCompared_19 rfl ?_
      refine wp_bipush (nI 61) dX11_readCompared_20 rfl ?_
      obtain ⟨r8, g1, h⟩ := bnd_some h
      refine wp_cVi (d := d - 1) (o := 0) cv_X11_228 (kltM kRootM) kRootM (as := [.int (nI 61)]) (rest := []) dX11_readCompared_22 (by omega) cloM rfl rfl (Nat.le_of_ble_eq_true rfl) (Nat.le_of_ble_eq_true rfl) (ok_M_isSign (by omega) (nI 61) μ1 g1) ?_ rfl
      refine wp_if_ne 43 dX11_readCompared_25 (by decide) (fun c1 => ?_) (fun c1 => ?_)
      · rw [if_neg c1] at h
        exact ok_M_readCompared_j43 hd μ1 _ h
      · rw [if_pos c1] at h
        refine wp_aload_n (x := 0) dX11_readCompared_28 rfl ?_
        refine wp_bipush (nI 62) dX11_readCompared_29 rfl ?_
        obtain ⟨r9, g1, h⟩ := bnd_some h
        refine wp_cVi (d := d - 1) (o := 0) cv_X11_228 (kltM kRootM) kRootM (as := [.int (nI 62)]) (rest := []) dX11_readCompared_31 (by omega) cloM rfl rfl (Nat.le_of_ble_eq_true rfl) (Nat.le_of_ble_eq_true rfl) (ok_M_isSign (by omega) (nI 62) μ1 g1) ?_ rfl
        refine wp_if_ne 43 dX11_readCompared_34 (by decide) (fun c1 => ?_) (fun c1 => ?_)
        · rw [if_neg c1] at h
          exact ok_M_readCompared_j43 hd μ1 _ h
        · rw [if_pos c1] at h
          refine wp_aload_n (x := 0) dX11_readCompared_37 rfl ?_
          refine wp_iconst (nI 1) dX11_readCompared_38 rfl ?_
          obtain ⟨r11, μ10, g1, h⟩ := bnd2_some h
          refine wp_cVi (d := d - 1) (o := 0) cv_X11_215 (kltM kRootM) kRootM (as := [.int (nI 1)]) (rest := []) dX11_readCompared_39 (by omega) cloM rfl rfl (Nat.le_of_ble_eq_true rfl) (Nat.le_of_ble_eq_true rfl) (ok_M_errs (by omega) (nI 1) μ1 g1) ?_ rfl
          obtain ⟨rfl, rfl⟩ := ret2 h
          exact wp_iret rfl dX11_readCompared_42 ⟨rfl, rfl, rfl⟩
  · rw [if_pos c1] at h
    refine wp_iconst (-1) dX11_readCompared_8 rfl ?_
    obtain ⟨rfl, rfl⟩ := ret2 h
    exact wp_iret rfl dX11_readCompared_9 ⟨rfl, rfl, rfl⟩
theorem ok_M_waits {l : Launch} {d : Nat} (hd : 1 ≤ d) (v1 : Int32)  (μ : Mm) {μ' : Mm} (h : M_waits v1 μ = some μ') : Wp l SM d (0, 0) mX11_waits 0 [some (.ref 0), some (.int v1)] [] μ (Qv SM μ') := by
  unfold M_waits at h
  refine wp_aload_n (x := 0) dX11_waits_0 rfl ?_
  refine wp_getR 19 fl_X11_64 (by decide) rfl (kltM kRootM) kRootM (ly11_36 kRootM).1 dX11_waits_1 ?_
  refine wp_aload_n (x := 0) dX11_waits_4 rfl ?_
  refine wp_getI fl_X11_237 (by decide) rfl (kltM kRootM) kRootM dX11_waits_5 ?_
  refine wp_iload_n (x := v1) dX11_waits_8 rfl ?_
  obtain ⟨c1, h⟩ := chv_some h
  obtain ⟨μ1, e1, h⟩ := lt_some h
  refine wp_iaste e1 (kltM (ly11_36 kRootM).2.1) (ly11_36 kRootM).2.1 (ly11_36 kRootM).2.2 c1 dX11_waits_9 ?_
  refine wp_aload_n (x := 0) dX11_waits_10 rfl ?_
  refine wp_aload_n (x := 0) dX11_waits_11 rfl ?_
  refine wp_getI fl_X11_237 (by decide) rfl (kltM kRootM) kRootM dX11_waits_12 ?_
  refine wp_iconst (nI 1) dX11_waits_15 rfl ?_
  refine wp_iadd dX11_waits_16 ?_
  obtain ⟨μ2, e1, h⟩ := lt_some h
  refine wp_putIe e1 fl_X11_237 (by decide) rfl (kltM kRootM) kRootM dX11_waits_17 ?_
  obtain rfl := ret1 h
  exact wp_vret rfl dX11_waits_20 ⟨rfl, rfl, rfl⟩
theorem ok_M_settles_l0 {l : Launch} {d : Nat} (hd : 2 ≤ d) (v1 : Int32)  (μ : Mm) {Q : Option Value → Sh → Mm → Prop} (K : Mm ⊕ Mm → Prop) (hb : ∀ (s : Mm), K (Sum.inl s) → Wp l SM d (0, 0) mX11_settles 0 [some (.ref 0), some (.int v1)] [] s Q) (he0 : ∀ (x : Mm) (z1 : Option Value), K (Sum.inr x) → Wp l SM d (0, 0) mX11_settles 57 [some (.ref 0), z1] [] x Q) {z : Mm ⊕ Mm} (h : M_settles_l0 v1 μ = some z) (hz : K z) : Wp l SM d (0, 0) mX11_settles 0 [some (.ref 0), some (.int v1)] [] μ Q := by
  unfold M_settles_l0 at h
  refine wp_aload_n (x := 0) dX11_settles_0 rfl ?_
  refine wp_getI fl_X11_237 (by decide) rfl (kltM kRootM) kRootM dX11_settles_1 ?_
  refine wp_if_le 57 dX11_settles_4 (by decide) (fun c1 => ?_) (fun c1 => ?_)
  · rw [if_pos c1] at h
    obtain rfl := some1 h
    exact he0 μ _ hz
  · rw [if_neg c1] at h
    refine wp_aload_n (x := 0) dX11_settles_7 rfl ?_
    refine wp_getR 19 fl_X11_64 (by decide) rfl (kltM kRootM) kRootM (ly11_36 kRootM).1 dX11_settles_8 ?_
    refine wp_aload_n (x := 0) dX11_settles_11 rfl ?_
    refine wp_getI fl_X11_237 (by decide) rfl (kltM kRootM) kRootM dX11_settles_12 ?_
    refine wp_iconst (nI 1) dX11_settles_15 rfl ?_
    refine wp_isub dX11_settles_16 ?_
    obtain ⟨c1, h⟩ := chv_some h
    refine wp_ialde (kltM (ly11_36 kRootM).2.1) (ly11_36 kRootM).2.1 (ly11_36 kRootM).2.2 c1 dX11_settles_17 ?_
    refine wp_iload_n (x := v1) dX11_settles_18 rfl ?_
    refine wp_icmp_ne 57 dX11_settles_19 (by decide) (fun c1 => ?_) (fun c1 => ?_)
    · rw [if_neg c1] at h
      obtain rfl := some1 h
      exact he0 μ _ hz
    · rw [if_pos c1] at h
      refine wp_aload_n (x := 0) dX11_settles_22 rfl ?_
      refine wp_aload_n (x := 0) dX11_settles_23 rfl ?_
      refine wp_getI fl_X11_237 (by decide) rfl (kltM kRootM) kRootM dX11_settles_24 ?_
      refine wp_iconst (nI 1) dX11_settles_27 rfl ?_
      refine wp_isub dX11_settles_28 ?_
      obtain ⟨μ1, e1, h⟩ := lt_some h
      refine wp_putIe e1 fl_X11_237 (by decide) rfl (kltM kRootM) kRootM dX11_settles_29 ?_
      refine wp_aload_n (x := 0) dX11_settles_32 rfl ?_
      refine wp_iload_n (x := v1) dX11_settles_33 rfl ?_
      refine wp_iconst (nI 0) dX11_settles_34 rfl ?_
      obtain ⟨μ2, g1, h⟩ := bnd_some h
      refine wp_cVv (d := d - 1) (o := 0) cv_X11_218 (kltM kRootM) kRootM (as := [.int v1, .int (nI 0)]) (rest := []) dX11_settles_35 (by omega) cloM rfl rfl (Nat.le_of_ble_eq_true rfl) (Nat.le_of_ble_eq_true rfl) (ok_M_emits (by omega) v1 (nI 0) μ1 g1) ?_ rfl
      refine wp_iload_n (x := v1) dX11_settles_38 rfl ?_
      refine wp_bipush (nI 9) dX11_settles_39 rfl ?_
      refine wp_icmp_ne 0 dX11_settles_41 (by decide) (fun c1 => ?_) (fun c1 => ?_)
      · rw [if_neg c1] at h
        obtain rfl := some1 h
        exact hb μ2 hz
      · rw [if_pos c1] at h
        refine wp_aload_n (x := 0) dX11_settles_44 rfl ?_
        refine wp_aload_n (x := 0) dX11_settles_45 rfl ?_
        refine wp_getI fl_X11_240 (by decide) rfl (kltM kRootM) kRootM dX11_settles_46 ?_
        refine wp_iconst (nI 1) dX11_settles_49 rfl ?_
        refine wp_isub dX11_settles_50 ?_
        obtain ⟨μ3, e1, h⟩ := lt_some h
        refine wp_putIe e1 fl_X11_240 (by decide) rfl (kltM kRootM) kRootM dX11_settles_51 ?_
        refine wp_goto 0 dX11_settles_54 (by decide) ?_
        obtain rfl := some1 h
        exact hb μ3 hz
theorem okl_M_settles_l0 {l : Launch} {d : Nat} (hd : 2 ≤ d) (v1 : Int32)  {Q : Option Value → Sh → Mm → Prop} (K : Mm → Prop) (he0 : ∀ (x : Mm) (z1 : Option Value), K x → Wp l SM d (0, 0) mX11_settles 57 [some (.ref 0), z1] [] x Q) : ∀ (n : Nat) (s : Mm) (y : Mm) , iter n (fun s => M_settles_l0 v1 s) s = some y → K y → Wp l SM d (0, 0) mX11_settles 0 [some (.ref 0), some (.int v1)] [] s Q := by
  intro n
  induction n with
  | zero => intro s y  h; cases h
  | succ n ih =>
    intro s y  h hK
    obtain ⟨z, hz, hn⟩ := iter_some h
    refine ok_M_settles_l0 hd v1 s (fun z => nxt n (fun s => M_settles_l0 v1 s) z y) ?_ ?_ hz hn
    · intro s2  h2
      exact ih s2 y h2 hK
    · intro x z1 h2
      have h3 : x = y := h2
      subst h3
      exact he0 x _ hK
theorem ok_M_settles {l : Launch} {d : Nat} (hd : 2 ≤ d) (v1 : Int32)  (μ : Mm) {μ' : Mm} (h : M_settles v1 μ = some μ') : Wp l SM d (0, 0) mX11_settles 0 [some (.ref 0), some (.int v1)] [] μ (Qv SM μ') := by
  unfold M_settles at h
  obtain ⟨x0, hi, h⟩ := bni_some h
  refine okl_M_settles_l0 hd v1 (fun z => z = x0) ?_ 1000000 μ x0 hi rfl
  · intro y0 z1 e0
    have e0 : y0 = x0 := e0
    subst e0
    obtain rfl := ret1 h
    exact wp_vret rfl dX11_settles_57 ⟨rfl, rfl, rfl⟩
theorem ok_M_readAny_j77 {l : Launch} {d : Nat} (hd : 8 ≤ d) (v1 : Int32)  (v2 : Int32)  (s1 : Int32) (μ : Mm) (z3 : Option Value) {Q : Option Value → Sh → Mm → Prop} (K : (Int32 × Int32 × Mm) ⊕ (Mm ⊕ (Mm ⊕ (Mm ⊕ Mm))) → Prop) (hb : ∀ (s : (Int32 × Int32 × Mm)) (z3 : Option Value), K (Sum.inl s) → Wp l SM d (0, 0) mX11_readAny 9 [some (.ref 0), some (.int s.1), some (.int s.2.1), z3] [] s.2.2 Q) (he0 : ∀ (x : Mm) (z1 : Option Value) (z2 : Option Value) (z3 : Option Value), K (Sum.inr (Sum.inl x)) → Wp l SM d (0, 0) mX11_readAny 41 [some (.ref 0), z1, z2, z3] [] x Q) (he1 : ∀ (x : Mm) (z1 : Option Value) (z2 : Option Value) (z3 : Option Value), K (Sum.inr (Sum.inr (Sum.inl x))) → Wp l SM d (0, 0) mX11_readAny 95 [some (.ref 0), z1, z2, z3] [] x Q) (he2 : ∀ (x : Mm) (z1 : Option Value) (z2 : Option Value) (z3 : Option Value), K (Sum.inr (Sum.inr (Sum.inr (Sum.inl x)))) → Wp l SM d (0, 0) mX11_readAny 188 [some (.ref 0), z1, z2, z3] [] x Q) (he3 : ∀ (x : Mm) (z1 : Option Value) (z2 : Option Value) (z3 : Option Value), K (Sum.inr (Sum.inr (Sum.inr (Sum.inr x)))) → Wp l SM d (0, 0) mX11_readAny 199 [some (.ref 0), z1, z2, z3] [] x Q) {z : (Int32 × Int32 × Mm) ⊕ (Mm ⊕ (Mm ⊕ (Mm ⊕ Mm)))} (h : M_readAny_j77 v1 v2 s1 μ = some z) (hz : K z) : Wp l SM d (0, 0) mX11_readAny 77 [some (.ref 0), some (.int v1), some (.int v2), z3] [.int s1, .ref 0] μ Q := by
  unfold M_readAny_j77 at h
  obtain ⟨μ20, g1, h⟩ := bnd_some h
  refine wp_cVv (d := d - 1) (o := 0) cv_X11_246 (kltM kRootM) kRootM (as := [.int s1]) (rest := []) dX11_readAny_77 (by omega) cloM rfl rfl (Nat.le_of_ble_eq_true rfl) (Nat.le_of_ble_eq_true rfl) (ok_M_waits (by omega) s1 μ g1) ?_ rfl
  refine wp_aload_n (x := 0) dX11_readAny_80 rfl ?_
  obtain ⟨μ21, g1, h⟩ := bnd_some h
  refine wp_cVv (d := d - 1) (o := 0) cv_X11_221 (kltM kRootM) kRootM (as := []) (rest := []) dX11_readAny_81 (by omega) cloM rfl rfl (Nat.le_of_ble_eq_true rfl) (Nat.le_of_ble_eq_true rfl) (ok_M_reads (by omega) μ20 g1) ?_ rfl
  refine wp_goto 9 dX11_readAny_84 (by decide) ?_
  obtain rfl := some1 h
  exact hb (v1, v2, μ21) _ hz
theorem ok_M_readAny_j65 {l : Launch} {d : Nat} (hd : 8 ≤ d) (v1 : Int32)  (v2 : Int32)  (v3 : Int32)  (μ : Mm) {Q : Option Value → Sh → Mm → Prop} (K : (Int32 × Int32 × Mm) ⊕ (Mm ⊕ (Mm ⊕ (Mm ⊕ Mm))) → Prop) (hb : ∀ (s : (Int32 × Int32 × Mm)) (z3 : Option Value), K (Sum.inl s) → Wp l SM d (0, 0) mX11_readAny 9 [some (.ref 0), some (.int s.1), some (.int s.2.1), z3] [] s.2.2 Q) (he0 : ∀ (x : Mm) (z1 : Option Value) (z2 : Option Value) (z3 : Option Value), K (Sum.inr (Sum.inl x)) → Wp l SM d (0, 0) mX11_readAny 41 [some (.ref 0), z1, z2, z3] [] x Q) (he1 : ∀ (x : Mm) (z1 : Option Value) (z2 : Option Value) (z3 : Option Value), K (Sum.inr (Sum.inr (Sum.inl x))) → Wp l SM d (0, 0) mX11_readAny 95 [some (.ref 0), z1, z2, z3] [] x Q) (he2 : ∀ (x : Mm) (z1 : Option Value) (z2 : Option Value) (z3 : Option Value), K (Sum.inr (Sum.inr (Sum.inr (Sum.inl x)))) → Wp l SM d (0, 0) mX11_readAny 188 [some (.ref 0), z1, z2, z3] [] x Q) (he3 : ∀ (x : Mm) (z1 : Option Value) (z2 : Option Value) (z3 : Option Value), K (Sum.inr (Sum.inr (Sum.inr (Sum.inr x)))) → Wp l SM d (0, 0) mX11_readAny 199 [some (.ref 0), z1, z2, z3] [] x Q) {z : (Int32 × Int32 × Mm) ⊕ (Mm ⊕ (Mm ⊕ (Mm ⊕ Mm)))} (h : M_readAny_j65 v1 v2 v3 μ = some z) (hz : K z) : Wp l SM d (0, 0) mX11_readAny 65 [some (.ref 0), some (.int v1), some (.int v2), some (.int v3)] [] μ Q := by
  unfold M_readAny_j65 at h
  refine wp_aload_n (x := 0) dX11_readAny_65 rfl ?_
  refine wp_iload_n (x := v3) dX11_readAny_66 rfl ?_
  refine wp_if_eq 75 dX11_readAny_67 (by decide) (fun c1 => ?_) (fun c1 => ?_)
  · rw [if_pos c1] at h
    refine wp_bipush (nI 12) dX11_readAny_75 rfl ?_
    exact ok_M_readAny_j77 hd v1 v2 (nI 12) μ _ K hb he0 he1 he2 he3 h hz
  · rw [if_neg c1] at h
    refine wp_bipush (nI 9) dX11_readAny_70 rfl ?_
    refine wp_goto 77 dX11_readAny_72 (by decide) ?_
    exact ok_M_readAny_j77 hd v1 v2 (nI 9) μ _ K hb he0 he1 he2 he3 h hz
theorem ok_M_readAny_j32 {l : Launch} {d : Nat} (hd : 8 ≤ d) (v1 : Int32)  (v2 : Int32)  (v3 : Int32)  (μ : Mm) {Q : Option Value → Sh → Mm → Prop} (K : (Int32 × Int32 × Mm) ⊕ (Mm ⊕ (Mm ⊕ (Mm ⊕ Mm))) → Prop) (hb : ∀ (s : (Int32 × Int32 × Mm)) (z3 : Option Value), K (Sum.inl s) → Wp l SM d (0, 0) mX11_readAny 9 [some (.ref 0), some (.int s.1), some (.int s.2.1), z3] [] s.2.2 Q) (he0 : ∀ (x : Mm) (z1 : Option Value) (z2 : Option Value) (z3 : Option Value), K (Sum.inr (Sum.inl x)) → Wp l SM d (0, 0) mX11_readAny 41 [some (.ref 0), z1, z2, z3] [] x Q) (he1 : ∀ (x : Mm) (z1 : Option Value) (z2 : Option Value) (z3 : Option Value), K (Sum.inr (Sum.inr (Sum.inl x))) → Wp l SM d (0, 0) mX11_readAny 95 [some (.ref 0), z1, z2, z3] [] x Q) (he2 : ∀ (x : Mm) (z1 : Option Value) (z2 : Option Value) (z3 : Option Value), K (Sum.inr (Sum.inr (Sum.inr (Sum.inl x)))) → Wp l SM d (0, 0) mX11_readAny 188 [some (.ref 0), z1, z2, z3] [] x Q) (he3 : ∀ (x : Mm) (z1 : Option Value) (z2 : Option Value) (z3 : Option Value), K (Sum.inr (Sum.inr (Sum.inr (Sum.inr x)))) → Wp l SM d (0, 0) mX11_readAny 199 [some (.ref 0), z1, z2, z3] [] x Q) {z : (Int32 × Int32 × Mm) ⊕ (Mm ⊕ (Mm ⊕ (Mm ⊕ Mm)))} (h : M_readAny_j32 v1 v2 v3 μ = some z) (hz : K z) : Wp l SM d (0, 0) mX11_readAny 32 [some (.ref 0), some (.int v1), some (.int v2), some (.int v3)] [] μ Q := by
  unfold M_readAny_j32 at h
  refine wp_aload_n (x := 0) dX11_readAny_32 rfl ?_
  refine wp_getI fl_X11_240 (by decide) rfl (kltM kRootM) kRootM dX11_readAny_33 ?_
  refine wp_bipush (nI 8) dX11_readAny_36 rfl ?_
  refine wp_icmp_ne 47 dX11_readAny_38 (by decide) (fun c1 => ?_) (fun c1 => ?_)
  · rw [if_neg c1] at h
    refine wp_aload_n (x := 0) dX11_readAny_47 rfl ?_
    refine wp_aload_n (x := 0) dX11_readAny_48 rfl ?_
    refine wp_getI fl_X11_240 (by decide) rfl (kltM kRootM) kRootM dX11_readAny_49 ?_
    refine wp_iconst (nI 1) dX11_readAny_52 rfl ?_
    refine wp_iadd dX11_readAny_53 ?_
    obtain ⟨μ19, e1, h⟩ := lt_some h
    refine wp_putIe e1 fl_X11_240 (by decide) rfl (kltM kRootM) kRootM dX11_readAny_54 ?_
    refine wp_iload_n (x := v3) dX11_readAny_57 rfl ?_
    refine wp_if_ne 65 dX11_readAny_58 (by decide) (fun c1 => ?_) (fun c1 => ?_)
    · rw [if_neg c1] at h
      exact ok_M_readAny_j65 hd v1 v2 v3 μ19 K hb he0 he1 he2 he3 h hz
    · rw [if_pos c1] at h
      refine wp_iload_n (x := v1) dX11_readAny_61 rfl ?_
      refine wp_iconst (nI 1) dX11_readAny_62 rfl ?_
      refine wp_iadd dX11_readAny_63 ?_
      refine wp_istore_n (L2 := [some (.ref 0), some (.int (v1 + (nI 1))), some (.int v2), some (.int v3)]) dX11_readAny_64 (by decide) rfl rfl ?_
      exact ok_M_readAny_j65 hd (v1 + (nI 1)) v2 v3 μ19 K hb he0 he1 he2 he3 h hz
  · rw [if_pos c1] at h
    obtain rfl := some1 h
    exact he0 μ _ _ _ hz
theorem ok_M_readAny_l9 {l : Launch} {d : Nat} (hd : 8 ≤ d) (v1 : Int32)  (v2 : Int32)  (μ : Mm) (z3 : Option Value) {Q : Option Value → Sh → Mm → Prop} (K : (Int32 × Int32 × Mm) ⊕ (Mm ⊕ (Mm ⊕ (Mm ⊕ Mm))) → Prop) (hb : ∀ (s : (Int32 × Int32 × Mm)) (z3 : Option Value), K (Sum.inl s) → Wp l SM d (0, 0) mX11_readAny 9 [some (.ref 0), some (.int s.1), some (.int s.2.1), z3] [] s.2.2 Q) (he0 : ∀ (x : Mm) (z1 : Option Value) (z2 : Option Value) (z3 : Option Value), K (Sum.inr (Sum.inl x)) → Wp l SM d (0, 0) mX11_readAny 41 [some (.ref 0), z1, z2, z3] [] x Q) (he1 : ∀ (x : Mm) (z1 : Option Value) (z2 : Option Value) (z3 : Option Value), K (Sum.inr (Sum.inr (Sum.inl x))) → Wp l SM d (0, 0) mX11_readAny 95 [some (.ref 0), z1, z2, z3] [] x Q) (he2 : ∀ (x : Mm) (z1 : Option Value) (z2 : Option Value) (z3 : Option Value), K (Sum.inr (Sum.inr (Sum.inr (Sum.inl x)))) → Wp l SM d (0, 0) mX11_readAny 188 [some (.ref 0), z1, z2, z3] [] x Q) (he3 : ∀ (x : Mm) (z1 : Option Value) (z2 : Option Value) (z3 : Option Value), K (Sum.inr (Sum.inr (Sum.inr (Sum.inr x)))) → Wp l SM d (0, 0) mX11_readAny 199 [some (.ref 0), z1, z2, z3] [] x Q) {z : (Int32 × Int32 × Mm) ⊕ (Mm ⊕ (Mm ⊕ (Mm ⊕ Mm)))} (h : M_readAny_l9 v1 v2 μ = some z) (hz : K z) : Wp l SM d (0, 0) mX11_readAny 9 [some (.ref 0), some (.int v1), some (.int v2), z3] [] μ Q := by
  unfold M_readAny_l9 at h
  refine wp_iload_n (x := v2) dX11_readAny_9 rfl ?_
  refine wp_if_eq 108 dX11_readAny_10 (by decide) (fun c1 => ?_) (fun c1 => ?_)
  · rw [if_pos c1] at h
    refine wp_aload_n (x := 0) dX11_readAny_108 rfl ?_
    refine wp_iconst (nI 4) dX11_readAny_109 rfl ?_
    obtain ⟨r2, g1, h⟩ := bnd_some h
    refine wp_cVi (d := d - 1) (o := 0) cv_X11_243 (kltM kRootM) kRootM (as := [.int (nI 4)]) (rest := []) dX11_readAny_110 (by omega) cloM rfl rfl (Nat.le_of_ble_eq_true rfl) (Nat.le_of_ble_eq_true rfl) (ok_M_isWord (by omega) (nI 4) μ g1) ?_ rfl
    refine wp_if_eq 137 dX11_readAny_113 (by decide) (fun c1 => ?_) (fun c1 => ?_)
    · rw [if_pos c1] at h
      refine wp_aload_n (x := 0) dX11_readAny_137 rfl ?_
      refine wp_iconst (nI 3) dX11_readAny_138 rfl ?_
      obtain ⟨r3, g1, h⟩ := bnd_some h
      refine wp_cVi (d := d - 1) (o := 0) cv_X11_243 (kltM kRootM) kRootM (as := [.int (nI 3)]) (rest := []) dX11_readAny_139 (by omega) cloM rfl rfl (Nat.le_of_ble_eq_true rfl) (Nat.le_of_ble_eq_true rfl) (ok_M_isWord (by omega) (nI 3) μ g1) ?_ rfl
      refine wp_if_eq 172 dX11_readAny_142 (by decide) (fun c1 => ?_) (fun c1 => ?_)
      · rw [if_pos c1] at h
        refine wp_aload_n (x := 0) dX11_readAny_172 rfl ?_
        refine wp_bipush (nI 10) dX11_readAny_173 rfl ?_
        obtain ⟨μ4, g1, h⟩ := bnd_some h
        refine wp_cVv (d := d - 1) (o := 0) cv_X11_252 (kltM kRootM) kRootM (as := [.int (nI 10)]) (rest := []) dX11_readAny_175 (by omega) cloM rfl rfl (Nat.le_of_ble_eq_true rfl) (Nat.le_of_ble_eq_true rfl) (ok_M_settles (by omega) (nI 10) μ g1) ?_ rfl
        refine wp_aload_n (x := 0) dX11_readAny_178 rfl ?_
        refine wp_bipush (nI 11) dX11_readAny_179 rfl ?_
        obtain ⟨μ5, g1, h⟩ := bnd_some h
        refine wp_cVv (d := d - 1) (o := 0) cv_X11_252 (kltM kRootM) kRootM (as := [.int (nI 11)]) (rest := []) dX11_readAny_181 (by omega) cloM rfl rfl (Nat.le_of_ble_eq_true rfl) (Nat.le_of_ble_eq_true rfl) (ok_M_settles (by omega) (nI 11) μ4 g1) ?_ rfl
        refine wp_iload_n (x := v1) dX11_readAny_184 rfl ?_
        refine wp_if_ne 190 dX11_readAny_185 (by decide) (fun c1 => ?_) (fun c1 => ?_)
        · rw [if_neg c1] at h
          refine wp_aload_n (x := 0) dX11_readAny_190 rfl ?_
          refine wp_bipush (nI 41) dX11_readAny_191 rfl ?_
          obtain ⟨r6, g1, h⟩ := bnd_some h
          refine wp_cVi (d := d - 1) (o := 0) cv_X11_228 (kltM kRootM) kRootM (as := [.int (nI 41)]) (rest := []) dX11_readAny_193 (by omega) cloM rfl rfl (Nat.le_of_ble_eq_true rfl) (Nat.le_of_ble_eq_true rfl) (ok_M_isSign (by omega) (nI 41) μ5 g1) ?_ rfl
          refine wp_if_ne 205 dX11_readAny_196 (by decide) (fun c1 => ?_) (fun c1 => ?_)
          · rw [if_neg c1] at h
            refine wp_aload_n (x := 0) dX11_readAny_205 rfl ?_
            refine wp_aload_n (x := 0) dX11_readAny_206 rfl ?_
            refine wp_getI fl_X11_237 (by decide) rfl (kltM kRootM) kRootM dX11_readAny_207 ?_
            refine wp_iconst (nI 1) dX11_readAny_210 rfl ?_
            refine wp_isub dX11_readAny_211 ?_
            obtain ⟨μ7, e1, h⟩ := lt_some h
            refine wp_putIe e1 fl_X11_237 (by decide) rfl (kltM kRootM) kRootM dX11_readAny_212 ?_
            refine wp_iload_n (x := v1) dX11_readAny_215 rfl ?_
            refine wp_iconst (nI 1) dX11_readAny_216 rfl ?_
            refine wp_isub dX11_readAny_217 ?_
            refine wp_istore_n (L2 := [some (.ref 0), some (.int (v1 - (nI 1))), some (.int v2), z3]) dX11_readAny_218 (by decide) rfl rfl ?_
            refine wp_aload_n (x := 0) dX11_readAny_219 rfl ?_
            refine wp_aload_n (x := 0) dX11_readAny_220 rfl ?_
            refine wp_getI fl_X11_240 (by decide) rfl (kltM kRootM) kRootM dX11_readAny_221 ?_
            refine wp_iconst (nI 1) dX11_readAny_224 rfl ?_
            refine wp_isub dX11_readAny_225 ?_
            obtain ⟨μ8, e1, h⟩ := lt_some h
            refine wp_putIe e1 fl_X11_240 (by decide) rfl (kltM kRootM) kRootM dX11_readAny_226 ?_
            refine wp_aload_n (x := 0) dX11_readAny_229 rfl ?_
            refine wp_bipush (nI 9) dX11_readAny_230 rfl ?_
            obtain ⟨μ9, g1, h⟩ := bnd_some h
            refine wp_cVv (d := d - 1) (o := 0) cv_X11_252 (kltM kRootM) kRootM (as := [.int (nI 9)]) (rest := []) dX11_readAny_232 (by omega) cloM rfl rfl (Nat.le_of_ble_eq_true rfl) (Nat.le_of_ble_eq_true rfl) (ok_M_settles (by omega) (nI 9) μ8 g1) ?_ rfl
            refine wp_aload_n (x := 0) dX11_readAny_235 rfl ?_
            obtain ⟨μ10, g1, h⟩ := bnd_some h
            refine wp_cVv (d := d - 1) (o := 0) cv_X11_221 (kltM kRootM) kRootM (as := []) (rest := []) dX11_readAny_236 (by omega) cloM rfl rfl (Nat.le_of_ble_eq_true rfl) (Nat.le_of_ble_eq_true rfl) (ok_M_reads (by omega) μ9 g1) ?_ rfl
            refine wp_goto 9 dX11_readAny_239 (by decide) ?_
            obtain rfl := some1 h
            exact hb ((v1 - (nI 1)), v2, μ10) _ hz
          · rw [if_pos c1] at h
            obtain rfl := some1 h
            exact he3 μ5 _ _ _ hz
        · rw [if_pos c1] at h
          obtain rfl := some1 h
          exact he2 μ5 _ _ _ hz
      · rw [if_neg c1] at h
        refine wp_aload_n (x := 0) dX11_readAny_145 rfl ?_
        refine wp_bipush (nI 10) dX11_readAny_146 rfl ?_
        obtain ⟨μ11, g1, h⟩ := bnd_some h
        refine wp_cVv (d := d - 1) (o := 0) cv_X11_252 (kltM kRootM) kRootM (as := [.int (nI 10)]) (rest := []) dX11_readAny_148 (by omega) cloM rfl rfl (Nat.le_of_ble_eq_true rfl) (Nat.le_of_ble_eq_true rfl) (ok_M_settles (by omega) (nI 10) μ g1) ?_ rfl
        refine wp_aload_n (x := 0) dX11_readAny_151 rfl ?_
        refine wp_bipush (nI 11) dX11_readAny_152 rfl ?_
        obtain ⟨μ12, g1, h⟩ := bnd_some h
        refine wp_cVv (d := d - 1) (o := 0) cv_X11_252 (kltM kRootM) kRootM (as := [.int (nI 11)]) (rest := []) dX11_readAny_154 (by omega) cloM rfl rfl (Nat.le_of_ble_eq_true rfl) (Nat.le_of_ble_eq_true rfl) (ok_M_settles (by omega) (nI 11) μ11 g1) ?_ rfl
        refine wp_aload_n (x := 0) dX11_readAny_157 rfl ?_
        refine wp_bipush (nI 11) dX11_readAny_158 rfl ?_
        obtain ⟨μ13, g1, h⟩ := bnd_some h
        refine wp_cVv (d := d - 1) (o := 0) cv_X11_246 (kltM kRootM) kRootM (as := [.int (nI 11)]) (rest := []) dX11_readAny_160 (by omega) cloM rfl rfl (Nat.le_of_ble_eq_true rfl) (Nat.le_of_ble_eq_true rfl) (ok_M_waits (by omega) (nI 11) μ12 g1) ?_ rfl
        refine wp_aload_n (x := 0) dX11_readAny_163 rfl ?_
        obtain ⟨μ14, g1, h⟩ := bnd_some h
        refine wp_cVv (d := d - 1) (o := 0) cv_X11_221 (kltM kRootM) kRootM (as := []) (rest := []) dX11_readAny_164 (by omega) cloM rfl rfl (Nat.le_of_ble_eq_true rfl) (Nat.le_of_ble_eq_true rfl) (ok_M_reads (by omega) μ13 g1) ?_ rfl
        refine wp_iconst (nI 1) dX11_readAny_167 rfl ?_
        refine wp_istore_n (L2 := [some (.ref 0), some (.int v1), some (.int (nI 1)), z3]) dX11_readAny_168 (by decide) rfl rfl ?_
        refine wp_goto 9 dX11_readAny_169 (by decide) ?_
        obtain rfl := some1 h
        exact hb (v1, (nI 1), μ14) _ hz
    · rw [if_neg c1] at h
      refine wp_aload_n (x := 0) dX11_readAny_116 rfl ?_
      refine wp_bipush (nI 10) dX11_readAny_117 rfl ?_
      obtain ⟨μ15, g1, h⟩ := bnd_some h
      refine wp_cVv (d := d - 1) (o := 0) cv_X11_252 (kltM kRootM) kRootM (as := [.int (nI 10)]) (rest := []) dX11_readAny_119 (by omega) cloM rfl rfl (Nat.le_of_ble_eq_true rfl) (Nat.le_of_ble_eq_true rfl) (ok_M_settles (by omega) (nI 10) μ g1) ?_ rfl
      refine wp_aload_n (x := 0) dX11_readAny_122 rfl ?_
      refine wp_bipush (nI 10) dX11_readAny_123 rfl ?_
      obtain ⟨μ16, g1, h⟩ := bnd_some h
      refine wp_cVv (d := d - 1) (o := 0) cv_X11_246 (kltM kRootM) kRootM (as := [.int (nI 10)]) (rest := []) dX11_readAny_125 (by omega) cloM rfl rfl (Nat.le_of_ble_eq_true rfl) (Nat.le_of_ble_eq_true rfl) (ok_M_waits (by omega) (nI 10) μ15 g1) ?_ rfl
      refine wp_aload_n (x := 0) dX11_readAny_128 rfl ?_
      obtain ⟨μ17, g1, h⟩ := bnd_some h
      refine wp_cVv (d := d - 1) (o := 0) cv_X11_221 (kltM kRootM) kRootM (as := []) (rest := []) dX11_readAny_129 (by omega) cloM rfl rfl (Nat.le_of_ble_eq_true rfl) (Nat.le_of_ble_eq_true rfl) (ok_M_reads (by omega) μ16 g1) ?_ rfl
      refine wp_iconst (nI 1) dX11_readAny_132 rfl ?_
      refine wp_istore_n (L2 := [some (.ref 0), some (.int v1), some (.int (nI 1)), z3]) dX11_readAny_133 (by decide) rfl rfl ?_
      refine wp_goto 9 dX11_readAny_134 (by decide) ?_
      obtain rfl := some1 h
      exact hb (v1, (nI 1), μ17) _ hz
  · rw [if_neg c1] at h
    refine wp_aload_n (x := 0) dX11_readAny_13 rfl ?_
    refine wp_iconst (nI 5) dX11_readAny_14 rfl ?_
    obtain ⟨r18, g1, h⟩ := bnd_some h
    refine wp_cVi (d := d - 1) (o := 0) cv_X11_243 (kltM kRootM) kRootM (as := [.int (nI 5)]) (rest := []) dX11_readAny_15 (by omega) cloM rfl rfl (Nat.le_of_ble_eq_true rfl) (Nat.le_of_ble_eq_true rfl) (ok_M_isWord (by omega) (nI 5) μ g1) ?_ rfl
    refine wp_istore_n (L2 := [some (.ref 0), some (.int v1), some (.int v2), some (.int r18)]) dX11_readAny_18 (by decide) rfl rfl ?_
    refine wp_iload_n (x := r18) dX11_readAny_19 rfl ?_
    refine wp_if_ne 32 dX11_readAny_20 (by decide) (fun c1 => ?_) (fun c1 => ?_)
    · rw [if_neg c1] at h
      exact ok_M_readAny_j32 hd v1 v2 r18 μ K hb he0 he1 he2 he3 h hz
    · rw [if_pos c1] at h
      refine wp_aload_n (x := 0) dX11_readAny_23 rfl ?_
      refine wp_bipush (nI 40) dX11_readAny_24 rfl ?_
      obtain ⟨r22, g1, h⟩ := bnd_some h
      refine wp_cVi (d := d - 1) (o := 0) cv_X11_228 (kltM kRootM) kRootM (as := [.int (nI 40)]) (rest := []) dX11_readAny_26 (by omega) cloM rfl rfl (Nat.le_of_ble_eq_true rfl) (Nat.le_of_ble_eq_true rfl) (ok_M_isSign (by omega) (nI 40) μ g1) ?_ rfl
      refine wp_if_eq 87 dX11_readAny_29 (by decide) (fun c1 => ?_) (fun c1 => ?_)
      · rw [if_pos c1] at h
        refine wp_aload_n (x := 0) dX11_readAny_87 rfl ?_
        obtain ⟨r24, μ23, g1, h⟩ := bnd2_some h
        refine wp_cVi (d := d - 1) (o := 0) cv_X11_249 (kltM kRootM) kRootM (as := []) (rest := []) dX11_readAny_88 (by omega) cloM rfl rfl (Nat.le_of_ble_eq_true rfl) (Nat.le_of_ble_eq_true rfl) (ok_M_readCompared (by omega) μ g1) ?_ rfl
        refine wp_iconst (-1) dX11_readAny_91 rfl ?_
        refine wp_icmp_ne 97 dX11_readAny_92 (by decide) (fun c1 => ?_) (fun c1 => ?_)
        · rw [if_neg c1] at h
          refine wp_aload_n (x := 0) dX11_readAny_97 rfl ?_
          refine wp_bipush (nI 9) dX11_readAny_98 rfl ?_
          obtain ⟨μ25, g1, h⟩ := bnd_some h
          refine wp_cVv (d := d - 1) (o := 0) cv_X11_252 (kltM kRootM) kRootM (as := [.int (nI 9)]) (rest := []) dX11_readAny_100 (by omega) cloM rfl rfl (Nat.le_of_ble_eq_true rfl) (Nat.le_of_ble_eq_true rfl) (ok_M_settles (by omega) (nI 9) μ23 g1) ?_ rfl
          refine wp_iconst (nI 0) dX11_readAny_103 rfl ?_
          refine wp_istore_n (L2 := [some (.ref 0), some (.int v1), some (.int (nI 0)), some (.int r18)]) dX11_readAny_104 (by decide) rfl rfl ?_
          refine wp_goto 9 dX11_readAny_105 (by decide) ?_
          obtain rfl := some1 h
          exact hb (v1, (nI 0), μ25) _ hz
        · rw [if_pos c1] at h
          obtain rfl := some1 h
          exact he1 μ23 _ _ _ hz
      · rw [if_neg c1] at h
        exact ok_M_readAny_j32 hd v1 v2 r18 μ K hb he0 he1 he2 he3 h hz
theorem okl_M_readAny_l9 {l : Launch} {d : Nat} (hd : 8 ≤ d) {Q : Option Value → Sh → Mm → Prop} (K : (Mm ⊕ (Mm ⊕ (Mm ⊕ Mm))) → Prop) (he0 : ∀ (x : Mm) (z1 : Option Value) (z2 : Option Value) (z3 : Option Value), K (Sum.inl x) → Wp l SM d (0, 0) mX11_readAny 41 [some (.ref 0), z1, z2, z3] [] x Q) (he1 : ∀ (x : Mm) (z1 : Option Value) (z2 : Option Value) (z3 : Option Value), K (Sum.inr (Sum.inl x)) → Wp l SM d (0, 0) mX11_readAny 95 [some (.ref 0), z1, z2, z3] [] x Q) (he2 : ∀ (x : Mm) (z1 : Option Value) (z2 : Option Value) (z3 : Option Value), K (Sum.inr (Sum.inr (Sum.inl x))) → Wp l SM d (0, 0) mX11_readAny 188 [some (.ref 0), z1, z2, z3] [] x Q) (he3 : ∀ (x : Mm) (z1 : Option Value) (z2 : Option Value) (z3 : Option Value), K (Sum.inr (Sum.inr (Sum.inr x))) → Wp l SM d (0, 0) mX11_readAny 199 [some (.ref 0), z1, z2, z3] [] x Q) : ∀ (n : Nat) (s : (Int32 × Int32 × Mm)) (y : (Mm ⊕ (Mm ⊕ (Mm ⊕ Mm)))) (z3 : Option Value) , iter n (fun s => M_readAny_l9 s.1 s.2.1 s.2.2) s = some y → K y → Wp l SM d (0, 0) mX11_readAny 9 [some (.ref 0), some (.int s.1), some (.int s.2.1), z3] [] s.2.2 Q := by
  intro n
  induction n with
  | zero => intro s y z3 h; cases h
  | succ n ih =>
    intro s y z3 h hK
    obtain ⟨z, hz, hn⟩ := iter_some h
    refine ok_M_readAny_l9 hd s.1 s.2.1 s.2.2 _ (fun z => nxt n (fun s => M_readAny_l9 s.1 s.2.1 s.2.2) z y) ?_ ?_ ?_ ?_ ?_ hz hn
    · intro s2 z3 h2
      exact ih s2 y _ h2 hK
    · intro x z1 z2 z3 h2
      have h3 : (Sum.inl x) = y := h2
      subst h3
      exact he0 x _ _ _ hK
    · intro x z1 z2 z3 h2
      have h3 : (Sum.inr (Sum.inl x)) = y := h2
      subst h3
      exact he1 x _ _ _ hK
    · intro x z1 z2 z3 h2
      have h3 : (Sum.inr (Sum.inr (Sum.inl x))) = y := h2
      subst h3
      exact he2 x _ _ _ hK
    · intro x z1 z2 z3 h2
      have h3 : (Sum.inr (Sum.inr (Sum.inr x))) = y := h2
      subst h3
      exact he3 x _ _ _ hK
theorem ok_M_readAny {l : Launch} {d : Nat} (hd : 8 ≤ d) (μ : Mm) {r : Int32} {μ' : Mm} (h : M_readAny μ = some (r, μ')) : Wp l SM d (0, 0) mX11_readAny 0 [some (.ref 0), none, none, none] [] μ (Qi SM r μ') := by
  unfold M_readAny at h
  refine wp_iconst (nI 0) dX11_readAny_0 rfl ?_
  refine wp_istore_n (L2 := [some (.ref 0), some (.int (nI 0)), none, none]) dX11_readAny_1 (by decide) rfl rfl ?_
  refine wp_aload_n (x := 0) dX11_readAny_2 rfl ?_
  refine wp_iconst (nI 0) dX11_readAny_3 rfl ?_
  obtain ⟨μ1, e1, h⟩ := lt_some h
  refine wp_putIe e1 fl_X11_237 (by decide) rfl (kltM kRootM) kRootM dX11_readAny_4 ?_
  refine wp_iconst (nI 1) dX11_readAny_7 rfl ?_
  refine wp_istore_n (L2 := [some (.ref 0), some (.int (nI 0)), some (.int (nI 1)), none]) dX11_readAny_8 (by decide) rfl rfl ?_
  obtain ⟨x9, hi, h⟩ := bni_some h
  refine okl_M_readAny_l9 hd  (fun z => z = x9) ?_ ?_ ?_ ?_ 1000000 ((nI 0), (nI 1), μ1) x9 _ hi rfl
  · intro x9a z1 z2 z3 e0
    have e0 : (Sum.inl x9a) = x9 := e0
    subst e0
    replace h := eL h
    refine wp_aload_n (x := 0) dX11_readAny_41 rfl ?_
    refine wp_iconst (nI 3) dX11_readAny_42 rfl ?_
    obtain ⟨r27, μ26, g1, h⟩ := bnd2_some h
    refine wp_cVi (d := d - 1) (o := 0) cv_X11_215 (kltM kRootM) kRootM (as := [.int (nI 3)]) (rest := []) dX11_readAny_43 (by omega) cloM rfl rfl (Nat.le_of_ble_eq_true rfl) (Nat.le_of_ble_eq_true rfl) (ok_M_errs (by omega) (nI 3) x9a g1) ?_ rfl
    obtain ⟨rfl, rfl⟩ := ret2 h
    exact wp_iret rfl dX11_readAny_46 ⟨rfl, rfl, rfl⟩
  · intro x9b z1 z2 z3 e0
    have e0 : (Sum.inr (Sum.inl x9b)) = x9 := e0
    subst e0
    replace h := eR h
    replace h := eL h
    refine wp_iconst (-1) dX11_readAny_95 rfl ?_
    obtain ⟨rfl, rfl⟩ := ret2 h
    exact wp_iret rfl dX11_readAny_96 ⟨rfl, rfl, rfl⟩
  · intro x9c z1 z2 z3 e0
    have e0 : (Sum.inr (Sum.inr (Sum.inl x9c))) = x9 := e0
    subst e0
    replace h := eR h
    replace h := eR h
    replace h := eL h
    refine wp_iconst (nI 0) dX11_readAny_188 rfl ?_
    obtain ⟨rfl, rfl⟩ := ret2 h
    exact wp_iret rfl dX11_readAny_189 ⟨rfl, rfl, rfl⟩
  · intro x9d z1 z2 z3 e0
    have e0 : (Sum.inr (Sum.inr (Sum.inr x9d))) = x9 := e0
    subst e0
    replace h := eR h
    replace h := eR h
    replace h := eR h
    refine wp_aload_n (x := 0) dX11_readAny_199 rfl ?_
    refine wp_iconst (nI 1) dX11_readAny_200 rfl ?_
    obtain ⟨r29, μ28, g1, h⟩ := bnd2_some h
    refine wp_cVi (d := d - 1) (o := 0) cv_X11_215 (kltM kRootM) kRootM (as := [.int (nI 1)]) (rest := []) dX11_readAny_201 (by omega) cloM rfl rfl (Nat.le_of_ble_eq_true rfl) (Nat.le_of_ble_eq_true rfl) (ok_M_errs (by omega) (nI 1) x9d g1) ?_ rfl
    obtain ⟨rfl, rfl⟩ := ret2 h
    exact wp_iret rfl dX11_readAny_204 ⟨rfl, rfl, rfl⟩
theorem ok_M_isLineWord_j13 {l : Launch} {d : Nat} (hd : 2 ≤ d) (s1 : Int32) (μ : Mm) {r : Int32} (h : M_isLineWord_j13 s1 μ = some r) : Wp l SM d (0, 0) mX11_isLineWord 13 [some (.ref 0)] [.int s1, .ref 0] μ (Qi SM r μ) := by
  unfold M_isLineWord_j13 at h
  obtain ⟨r1, g1, h⟩ := bnd_some h
  refine wp_cVi (d := d - 1) (o := 0) cv_X11_243 (kltM kRootM) kRootM (as := [.int s1]) (rest := []) dX11_isLineWord_13 (by omega) cloM rfl rfl (Nat.le_of_ble_eq_true rfl) (Nat.le_of_ble_eq_true rfl) (ok_M_isWord (by omega) s1 μ g1) ?_ rfl
  obtain ⟨c1, h⟩ := chk_some h
  obtain rfl := ret1 h
  exact wp_zret rfl c1 dX11_isLineWord_16 ⟨rfl, rfl, rfl⟩
theorem ok_M_isLineWord {l : Launch} {d : Nat} (hd : 2 ≤ d) (μ : Mm) {r : Int32} (h : M_isLineWord μ = some r) : Wp l SM d (0, 0) mX11_isLineWord 0 [some (.ref 0)] [] μ (Qi SM r μ) := by
  unfold M_isLineWord at h
  refine wp_aload_n (x := 0) dX11_isLineWord_0 rfl ?_
  refine wp_aload_n (x := 0) dX11_isLineWord_1 rfl ?_
  refine wp_getI fl_X11_209 (by decide) rfl (kltM kRootM) kRootM dX11_isLineWord_2 ?_
  refine wp_if_ne 12 dX11_isLineWord_5 (by decide) (fun c1 => ?_) (fun c1 => ?_)
  · rw [if_neg c1] at h
    refine wp_iconst (nI 1) dX11_isLineWord_12 rfl ?_
    exact ok_M_isLineWord_j13 hd (nI 1) μ h
  · rw [if_pos c1] at h
    refine wp_iconst (nI 0) dX11_isLineWord_8 rfl ?_
    refine wp_goto 13 dX11_isLineWord_9 (by decide) ?_
    exact ok_M_isLineWord_j13 hd (nI 0) μ h
theorem ok_M_readLaw_j82 {l : Launch} {d : Nat} (hd : 9 ≤ d) (v1 : Int32)  (v2 : Int32)  (μ : Mm) {Q : Option Value → Sh → Mm → Prop} (K : (Int32 × Mm) ⊕ (Mm ⊕ (Mm ⊕ (Mm ⊕ (Mm ⊕ (Int32 × Mm))))) → Prop) (hb : ∀ (s : (Int32 × Mm)) (z2 : Option Value), K (Sum.inl s) → Wp l SM d (0, 0) mX11_readLaw 2 [some (.ref 0), some (.int s.1), z2] [] s.2 Q) (he0 : ∀ (x : Mm) (z1 : Option Value) (z2 : Option Value), K (Sum.inr (Sum.inl x)) → Wp l SM d (0, 0) mX11_readLaw 15 [some (.ref 0), z1, z2] [] x Q) (he1 : ∀ (x : Mm) (z1 : Option Value) (z2 : Option Value), K (Sum.inr (Sum.inr (Sum.inl x))) → Wp l SM d (0, 0) mX11_readLaw 48 [some (.ref 0), z1, z2] [] x Q) (he2 : ∀ (x : Mm) (z1 : Option Value) (z2 : Option Value), K (Sum.inr (Sum.inr (Sum.inr (Sum.inl x)))) → Wp l SM d (0, 0) mX11_readLaw 80 [some (.ref 0), z1, z2] [] x Q) (he3 : ∀ (x : Mm) (z1 : Option Value) (z2 : Option Value), K (Sum.inr (Sum.inr (Sum.inr (Sum.inr (Sum.inl x))))) → Wp l SM d (0, 0) mX11_readLaw 101 [some (.ref 0), z1, z2] [] x Q) (he4 : ∀ (x : (Int32 × Mm)) (z2 : Option Value), K (Sum.inr (Sum.inr (Sum.inr (Sum.inr (Sum.inr x))))) → Wp l SM d (0, 0) mX11_readLaw 118 [some (.ref 0), some (.int x.1), z2] [] x.2 Q) {z : (Int32 × Mm) ⊕ (Mm ⊕ (Mm ⊕ (Mm ⊕ (Mm ⊕ (Int32 × Mm)))))} (h : M_readLaw_j82 v1 v2 μ = some z) (hz : K z) : Wp l SM d (0, 0) mX11_readLaw 82 [some (.ref 0), some (.int v1), some (.int v2)] [] μ Q := by
  unfold M_readLaw_j82 at h
  refine wp_aload_n (x := 0) dX11_readLaw_82 rfl ?_
  refine wp_getR 16 fl_X11_55 (by decide) rfl (kltM kRootM) kRootM (ly11_30 kRootM).1 dX11_readLaw_83 ?_
  refine wp_iload_n (x := v2) dX11_readLaw_86 rfl ?_
  refine wp_aload_n (x := 0) dX11_readLaw_87 rfl ?_
  refine wp_getI fl_X11_206 (by decide) rfl (kltM kRootM) kRootM dX11_readLaw_88 ?_
  obtain ⟨c1, h⟩ := chv_some h
  obtain ⟨μ8, e1, h⟩ := lt_some h
  refine wp_iaste e1 (kltM (ly11_30 kRootM).2.1) (ly11_30 kRootM).2.1 (ly11_30 kRootM).2.2 c1 dX11_readLaw_91 ?_
  refine wp_aload_n (x := 0) dX11_readLaw_92 rfl ?_
  refine wp_bipush (nI 59) dX11_readLaw_93 rfl ?_
  obtain ⟨r9, g1, h⟩ := bnd_some h
  refine wp_cVi (d := d - 1) (o := 0) cv_X11_228 (kltM kRootM) kRootM (as := [.int (nI 59)]) (rest := []) dX11_readLaw_95 (by omega) cloM rfl rfl (Nat.le_of_ble_eq_true rfl) (Nat.le_of_ble_eq_true rfl) (ok_M_isSign (by omega) (nI 59) μ8 g1) ?_ rfl
  refine wp_if_ne 107 dX11_readLaw_98 (by decide) (fun c1 => ?_) (fun c1 => ?_)
  · rw [if_neg c1] at h
    refine wp_aload_n (x := 0) dX11_readLaw_107 rfl ?_
    obtain ⟨μ10, g1, h⟩ := bnd_some h
    refine wp_cVv (d := d - 1) (o := 0) cv_X11_221 (kltM kRootM) kRootM (as := []) (rest := []) dX11_readLaw_108 (by omega) cloM rfl rfl (Nat.le_of_ble_eq_true rfl) (Nat.le_of_ble_eq_true rfl) (ok_M_reads (by omega) μ8 g1) ?_ rfl
    refine wp_iload_n (x := v1) dX11_readLaw_111 rfl ?_
    refine wp_iconst (nI 1) dX11_readLaw_112 rfl ?_
    refine wp_iadd dX11_readLaw_113 ?_
    refine wp_istore_n (L2 := [some (.ref 0), some (.int (v1 + (nI 1))), some (.int v2)]) dX11_readLaw_114 (by decide) rfl rfl ?_
    refine wp_goto 2 dX11_readLaw_115 (by decide) ?_
    obtain rfl := some1 h
    exact hb ((v1 + (nI 1)), μ10) _ hz
  · rw [if_pos c1] at h
    obtain rfl := some1 h
    exact he3 μ8 _ _ hz
theorem ok_M_readLaw_l2 {l : Launch} {d : Nat} (hd : 9 ≤ d) (v1 : Int32)  (μ : Mm) (z2 : Option Value) {Q : Option Value → Sh → Mm → Prop} (K : (Int32 × Mm) ⊕ (Mm ⊕ (Mm ⊕ (Mm ⊕ (Mm ⊕ (Int32 × Mm))))) → Prop) (hb : ∀ (s : (Int32 × Mm)) (z2 : Option Value), K (Sum.inl s) → Wp l SM d (0, 0) mX11_readLaw 2 [some (.ref 0), some (.int s.1), z2] [] s.2 Q) (he0 : ∀ (x : Mm) (z1 : Option Value) (z2 : Option Value), K (Sum.inr (Sum.inl x)) → Wp l SM d (0, 0) mX11_readLaw 15 [some (.ref 0), z1, z2] [] x Q) (he1 : ∀ (x : Mm) (z1 : Option Value) (z2 : Option Value), K (Sum.inr (Sum.inr (Sum.inl x))) → Wp l SM d (0, 0) mX11_readLaw 48 [some (.ref 0), z1, z2] [] x Q) (he2 : ∀ (x : Mm) (z1 : Option Value) (z2 : Option Value), K (Sum.inr (Sum.inr (Sum.inr (Sum.inl x)))) → Wp l SM d (0, 0) mX11_readLaw 80 [some (.ref 0), z1, z2] [] x Q) (he3 : ∀ (x : Mm) (z1 : Option Value) (z2 : Option Value), K (Sum.inr (Sum.inr (Sum.inr (Sum.inr (Sum.inl x))))) → Wp l SM d (0, 0) mX11_readLaw 101 [some (.ref 0), z1, z2] [] x Q) (he4 : ∀ (x : (Int32 × Mm)) (z2 : Option Value), K (Sum.inr (Sum.inr (Sum.inr (Sum.inr (Sum.inr x))))) → Wp l SM d (0, 0) mX11_readLaw 118 [some (.ref 0), some (.int x.1), z2] [] x.2 Q) {z : (Int32 × Mm) ⊕ (Mm ⊕ (Mm ⊕ (Mm ⊕ (Mm ⊕ (Int32 × Mm)))))} (h : M_readLaw_l2 v1 μ = some z) (hz : K z) : Wp l SM d (0, 0) mX11_readLaw 2 [some (.ref 0), some (.int v1), z2] [] μ Q := by
  unfold M_readLaw_l2 at h
  refine wp_aload_n (x := 0) dX11_readLaw_2 rfl ?_
  obtain ⟨r1, g1, h⟩ := bnd_some h
  refine wp_cVi (d := d - 1) (o := 0) cv_X11_255 (kltM kRootM) kRootM (as := []) (rest := []) dX11_readLaw_3 (by omega) cloM rfl rfl (Nat.le_of_ble_eq_true rfl) (Nat.le_of_ble_eq_true rfl) (ok_M_isLineWord (by omega) μ g1) ?_ rfl
  refine wp_if_eq 118 dX11_readLaw_6 (by decide) (fun c1 => ?_) (fun c1 => ?_)
  · rw [if_pos c1] at h
    obtain rfl := some1 h
    exact he4 (v1, μ) _ hz
  · rw [if_neg c1] at h
    refine wp_iload_n (x := v1) dX11_readLaw_9 rfl ?_
    refine wp_bipush (nI 16) dX11_readLaw_10 rfl ?_
    refine wp_icmp_ne 21 dX11_readLaw_12 (by decide) (fun c1 => ?_) (fun c1 => ?_)
    · rw [if_neg c1] at h
      refine wp_bipush (nI 32) dX11_readLaw_21 rfl ?_
      refine wp_iload_n (x := v1) dX11_readLaw_23 rfl ?_
      refine wp_iadd dX11_readLaw_24 ?_
      refine wp_istore_n (L2 := [some (.ref 0), some (.int v1), some (.int ((nI 32) + v1))]) dX11_readLaw_25 (by decide) rfl rfl ?_
      refine wp_aload_n (x := 0) dX11_readLaw_26 rfl ?_
      obtain ⟨μ2, g1, h⟩ := bnd_some h
      refine wp_cVv (d := d - 1) (o := 0) cv_X11_221 (kltM kRootM) kRootM (as := []) (rest := []) dX11_readLaw_27 (by omega) cloM rfl rfl (Nat.le_of_ble_eq_true rfl) (Nat.le_of_ble_eq_true rfl) (ok_M_reads (by omega) μ g1) ?_ rfl
      refine wp_aload_n (x := 0) dX11_readLaw_30 rfl ?_
      refine wp_getR 14 fl_X11_49 (by decide) rfl (kltM kRootM) kRootM (ly11_28 kRootM).1 dX11_readLaw_31 ?_
      refine wp_iload_n (x := ((nI 32) + v1)) dX11_readLaw_34 rfl ?_
      refine wp_aload_n (x := 0) dX11_readLaw_35 rfl ?_
      refine wp_getI fl_X11_206 (by decide) rfl (kltM kRootM) kRootM dX11_readLaw_36 ?_
      obtain ⟨c1, h⟩ := chv_some h
      obtain ⟨μ3, e1, h⟩ := lt_some h
      refine wp_iaste e1 (kltM (ly11_28 kRootM).2.1) (ly11_28 kRootM).2.1 (ly11_28 kRootM).2.2 c1 dX11_readLaw_39 ?_
      refine wp_aload_n (x := 0) dX11_readLaw_40 rfl ?_
      obtain ⟨r5, μ4, g1, h⟩ := bnd2_some h
      refine wp_cVi (d := d - 1) (o := 0) cv_X11_234 (kltM kRootM) kRootM (as := []) (rest := []) dX11_readLaw_41 (by omega) cloM rfl rfl (Nat.le_of_ble_eq_true rfl) (Nat.le_of_ble_eq_true rfl) (ok_M_readSum (by omega) μ3 g1) ?_ rfl
      refine wp_iconst (-1) dX11_readLaw_44 rfl ?_
      refine wp_icmp_ne 50 dX11_readLaw_45 (by decide) (fun c1 => ?_) (fun c1 => ?_)
      · rw [if_neg c1] at h
        refine wp_aload_n (x := 0) dX11_readLaw_50 rfl ?_
        refine wp_getR 15 fl_X11_52 (by decide) rfl (kltM kRootM) kRootM (ly11_29 kRootM).1 dX11_readLaw_51 ?_
        refine wp_iload_n (x := ((nI 32) + v1)) dX11_readLaw_54 rfl ?_
        refine wp_aload_n (x := 0) dX11_readLaw_55 rfl ?_
        refine wp_getI fl_X11_206 (by decide) rfl (kltM kRootM) kRootM dX11_readLaw_56 ?_
        obtain ⟨c1, h⟩ := chv_some h
        obtain ⟨μ6, e1, h⟩ := lt_some h
        refine wp_iaste e1 (kltM (ly11_29 kRootM).2.1) (ly11_29 kRootM).2.1 (ly11_29 kRootM).2.2 c1 dX11_readLaw_59 ?_
        refine wp_aload_n (x := 0) dX11_readLaw_60 rfl ?_
        refine wp_iconst (nI 2) dX11_readLaw_61 rfl ?_
        obtain ⟨r7, g1, h⟩ := bnd_some h
        refine wp_cVi (d := d - 1) (o := 0) cv_X11_243 (kltM kRootM) kRootM (as := [.int (nI 2)]) (rest := []) dX11_readLaw_62 (by omega) cloM rfl rfl (Nat.le_of_ble_eq_true rfl) (Nat.le_of_ble_eq_true rfl) (ok_M_isWord (by omega) (nI 2) μ6 g1) ?_ rfl
        refine wp_if_eq 82 dX11_readLaw_65 (by decide) (fun c1 => ?_) (fun c1 => ?_)
        · rw [if_pos c1] at h
          exact ok_M_readLaw_j82 hd v1 ((nI 32) + v1) μ6 K hb he0 he1 he2 he3 he4 h hz
        · rw [if_neg c1] at h
          refine wp_aload_n (x := 0) dX11_readLaw_68 rfl ?_
          obtain ⟨μ11, g1, h⟩ := bnd_some h
          refine wp_cVv (d := d - 1) (o := 0) cv_X11_221 (kltM kRootM) kRootM (as := []) (rest := []) dX11_readLaw_69 (by omega) cloM rfl rfl (Nat.le_of_ble_eq_true rfl) (Nat.le_of_ble_eq_true rfl) (ok_M_reads (by omega) μ6 g1) ?_ rfl
          refine wp_aload_n (x := 0) dX11_readLaw_72 rfl ?_
          obtain ⟨r13, μ12, g1, h⟩ := bnd2_some h
          refine wp_cVi (d := d - 1) (o := 0) cv_X11_259 (kltM kRootM) kRootM (as := []) (rest := []) dX11_readLaw_73 (by omega) cloM rfl rfl (Nat.le_of_ble_eq_true rfl) (Nat.le_of_ble_eq_true rfl) (ok_M_readAny (by omega) μ11 g1) ?_ rfl
          refine wp_iconst (-1) dX11_readLaw_76 rfl ?_
          refine wp_icmp_ne 82 dX11_readLaw_77 (by decide) (fun c1 => ?_) (fun c1 => ?_)
          · rw [if_neg c1] at h
            exact ok_M_readLaw_j82 hd v1 ((nI 32) + v1) μ12 K hb he0 he1 he2 he3 he4 h hz
          · rw [if_pos c1] at h
            obtain rfl := some1 h
            exact he2 μ12 _ _ hz
      · rw [if_pos c1] at h
        obtain rfl := some1 h
        exact he1 μ4 _ _ hz
    · rw [if_pos c1] at h
      obtain rfl := some1 h
      exact he0 μ _ _ hz
theorem okl_M_readLaw_l2 {l : Launch} {d : Nat} (hd : 9 ≤ d) {Q : Option Value → Sh → Mm → Prop} (K : (Mm ⊕ (Mm ⊕ (Mm ⊕ (Mm ⊕ (Int32 × Mm))))) → Prop) (he0 : ∀ (x : Mm) (z1 : Option Value) (z2 : Option Value), K (Sum.inl x) → Wp l SM d (0, 0) mX11_readLaw 15 [some (.ref 0), z1, z2] [] x Q) (he1 : ∀ (x : Mm) (z1 : Option Value) (z2 : Option Value), K (Sum.inr (Sum.inl x)) → Wp l SM d (0, 0) mX11_readLaw 48 [some (.ref 0), z1, z2] [] x Q) (he2 : ∀ (x : Mm) (z1 : Option Value) (z2 : Option Value), K (Sum.inr (Sum.inr (Sum.inl x))) → Wp l SM d (0, 0) mX11_readLaw 80 [some (.ref 0), z1, z2] [] x Q) (he3 : ∀ (x : Mm) (z1 : Option Value) (z2 : Option Value), K (Sum.inr (Sum.inr (Sum.inr (Sum.inl x)))) → Wp l SM d (0, 0) mX11_readLaw 101 [some (.ref 0), z1, z2] [] x Q) (he4 : ∀ (x : (Int32 × Mm)) (z2 : Option Value), K (Sum.inr (Sum.inr (Sum.inr (Sum.inr x)))) → Wp l SM d (0, 0) mX11_readLaw 118 [some (.ref 0), some (.int x.1), z2] [] x.2 Q) : ∀ (n : Nat) (s : (Int32 × Mm)) (y : (Mm ⊕ (Mm ⊕ (Mm ⊕ (Mm ⊕ (Int32 × Mm)))))) (z2 : Option Value) , iter n (fun s => M_readLaw_l2 s.1 s.2) s = some y → K y → Wp l SM d (0, 0) mX11_readLaw 2 [some (.ref 0), some (.int s.1), z2] [] s.2 Q := by
  intro n
  induction n with
  | zero => intro s y z2 h; cases h
  | succ n ih =>
    intro s y z2 h hK
    obtain ⟨z, hz, hn⟩ := iter_some h
    refine ok_M_readLaw_l2 hd s.1 s.2 _ (fun z => nxt n (fun s => M_readLaw_l2 s.1 s.2) z y) ?_ ?_ ?_ ?_ ?_ ?_ hz hn
    · intro s2 z2 h2
      exact ih s2 y _ h2 hK
    · intro x z1 z2 h2
      have h3 : (Sum.inl x) = y := h2
      subst h3
      exact he0 x _ _ hK
    · intro x z1 z2 h2
      have h3 : (Sum.inr (Sum.inl x)) = y := h2
      subst h3
      exact he1 x _ _ hK
    · intro x z1 z2 h2
      have h3 : (Sum.inr (Sum.inr (Sum.inl x))) = y := h2
      subst h3
      exact he2 x _ _ hK
    · intro x z1 z2 h2
      have h3 : (Sum.inr (Sum.inr (Sum.inr (Sum.inl x)))) = y := h2
      subst h3
      exact he3 x _ _ hK
    · intro x z2 h2
      have h3 : (Sum.inr (Sum.inr (Sum.inr (Sum.inr x)))) = y := h2
      subst h3
      exact he4 x _ hK
theorem ok_M_readLaw {l : Launch} {d : Nat} (hd : 9 ≤ d) (μ : Mm) {r : Int32} {μ' : Mm} (h : M_readLaw μ = some (r, μ')) : Wp l SM d (0, 0) mX11_readLaw 0 [some (.ref 0), none, none] [] μ (Qi SM r μ') := by
  unfold M_readLaw at h
  refine wp_iconst (nI 0) dX11_readLaw_0 rfl ?_
  refine wp_istore_n (L2 := [some (.ref 0), some (.int (nI 0)), none]) dX11_readLaw_1 (by decide) rfl rfl ?_
  obtain ⟨x2, hi, h⟩ := bni_some h
  refine okl_M_readLaw_l2 hd  (fun z => z = x2) ?_ ?_ ?_ ?_ ?_ 1000000 ((nI 0), μ) x2 _ hi rfl
  · intro x2a z1 z2 e0
    have e0 : (Sum.inl x2a) = x2 := e0
    subst e0
    replace h := eL h
    refine wp_aload_n (x := 0) dX11_readLaw_15 rfl ?_
    refine wp_iconst (nI 3) dX11_readLaw_16 rfl ?_
    obtain ⟨r15, μ14, g1, h⟩ := bnd2_some h
    refine wp_cVi (d := d - 1) (o := 0) cv_X11_215 (kltM kRootM) kRootM (as := [.int (nI 3)]) (rest := []) dX11_readLaw_17 (by omega) cloM rfl rfl (Nat.le_of_ble_eq_true rfl) (Nat.le_of_ble_eq_true rfl) (ok_M_errs (by omega) (nI 3) x2a g1) ?_ rfl
    obtain ⟨rfl, rfl⟩ := ret2 h
    exact wp_iret rfl dX11_readLaw_20 ⟨rfl, rfl, rfl⟩
  · intro x2b z1 z2 e0
    have e0 : (Sum.inr (Sum.inl x2b)) = x2 := e0
    subst e0
    replace h := eR h
    replace h := eL h
    refine wp_iconst (-1) dX11_readLaw_48 rfl ?_
    obtain ⟨rfl, rfl⟩ := ret2 h
    exact wp_iret rfl dX11_readLaw_49 ⟨rfl, rfl, rfl⟩
  · intro x2c z1 z2 e0
    have e0 : (Sum.inr (Sum.inr (Sum.inl x2c))) = x2 := e0
    subst e0
    replace h := eR h
    replace h := eR h
    replace h := eL h
    refine wp_iconst (-1) dX11_readLaw_80 rfl ?_
    obtain ⟨rfl, rfl⟩ := ret2 h
    exact wp_iret rfl dX11_readLaw_81 ⟨rfl, rfl, rfl⟩
  · intro x2d z1 z2 e0
    have e0 : (Sum.inr (Sum.inr (Sum.inr (Sum.inl x2d)))) = x2 := e0
    subst e0
    replace h := eR h
    replace h := eR h
    replace h := eR h
    replace h := eL h
    refine wp_aload_n (x := 0) dX11_readLaw_101 rfl ?_
    refine wp_iconst (nI 1) dX11_readLaw_102 rfl ?_
    obtain ⟨r17, μ16, g1, h⟩ := bnd2_some h
    refine wp_cVi (d := d - 1) (o := 0) cv_X11_215 (kltM kRootM) kRootM (as := [.int (nI 1)]) (rest := []) dX11_readLaw_103 (by omega) cloM rfl rfl (Nat.le_of_ble_eq_true rfl) (Nat.le_of_ble_eq_true rfl) (ok_M_errs (by omega) (nI 1) x2d g1) ?_ rfl
    obtain ⟨rfl, rfl⟩ := ret2 h
    exact wp_iret rfl dX11_readLaw_106 ⟨rfl, rfl, rfl⟩
  · intro x2e z2 e0
    have e0 : (Sum.inr (Sum.inr (Sum.inr (Sum.inr x2e)))) = x2 := e0
    subst e0
    replace h := eR h
    replace h := eR h
    replace h := eR h
    replace h := eR h
    refine wp_aload_n (x := 0) dX11_readLaw_118 rfl ?_
    refine wp_getI fl_X11_182 (by decide) rfl (kltM kRootM) kRootM dX11_readLaw_119 ?_
    refine wp_if_ne 129 dX11_readLaw_122 (by decide) (fun c1 => ?_) (fun c1 => ?_)
    · rw [if_neg c1] at h
      refine wp_aload_n (x := 0) dX11_readLaw_129 rfl ?_
      refine wp_iconst (nI 1) dX11_readLaw_130 rfl ?_
      obtain ⟨r19, μ18, g1, h⟩ := bnd2_some h
      refine wp_cVi (d := d - 1) (o := 0) cv_X11_215 (kltM kRootM) kRootM (as := [.int (nI 1)]) (rest := []) dX11_readLaw_131 (by omega) cloM rfl rfl (Nat.le_of_ble_eq_true rfl) (Nat.le_of_ble_eq_true rfl) (ok_M_errs (by omega) (nI 1) x2e.2 g1) ?_ rfl
      obtain ⟨rfl, rfl⟩ := ret2 h
      exact wp_iret rfl dX11_readLaw_134 ⟨rfl, rfl, rfl⟩
    · rw [if_pos c1] at h
      refine wp_iload_n (x := x2e.1) dX11_readLaw_125 rfl ?_
      refine wp_goto 134 dX11_readLaw_126 (by decide) ?_
      obtain ⟨rfl, rfl⟩ := ret2 h
      exact wp_iret rfl dX11_readLaw_134 ⟨rfl, rfl, rfl⟩
