theorem ok_Book_add {l : Launch} {d : Nat} (hd : 1 ≤ d) (v0 : Nat) (t0 : sK SC v0 = 0) (v1 : Int32)  (v2 : Int32)  (v3 : Int32)  (v4 : Int32)  (v5 : Int32)  (μ : Mm) {μ' : Mm} (h : Book_add v0 v1 v2 v3 v4 v5 μ = some μ') : Wp l SC d (0, 0) mX0_add 0 [some (.ref v0), some (.int v1), some (.int v2), some (.int v3), some (.int v4), some (.int v5)] [] μ (Qv SC μ') := by
  unfold Book_add at h
  refine wp_aload_n (x := v0) dX0_add_0 rfl ?_
  refine wp_getI fl_X0_27 (by decide) rfl (kltC t0) t0 dX0_add_1 ?_
  refine wp_sipush (nI 200) dX0_add_4 rfl ?_
  refine wp_icmp_lt 11 dX0_add_7 (by decide) (fun c1 => ?_) (fun c1 => ?_)
  · rw [if_pos c1] at h
    refine wp_aload_n (x := v0) dX0_add_11 rfl ?_
    refine wp_getR (v0 + 1) fl_X0_9 (by decide) rfl (kltC t0) t0 (ly0_0 t0).1 dX0_add_12 ?_
    refine wp_aload_n (x := v0) dX0_add_15 rfl ?_
    refine wp_getI fl_X0_27 (by decide) rfl (kltC t0) t0 dX0_add_16 ?_
    refine wp_iload_n (x := v1) dX0_add_19 rfl ?_
    obtain ⟨c1, h⟩ := chv_some h
    obtain ⟨μ1, e1, h⟩ := lt_some h
    refine wp_iaste e1 (kltC (ly0_0 t0).2.1) (ly0_0 t0).2.1 (ly0_0 t0).2.2 c1 dX0_add_20 ?_
    refine wp_aload_n (x := v0) dX0_add_21 rfl ?_
    refine wp_getR (v0 + 2) fl_X0_15 (by decide) rfl (kltC t0) t0 (ly0_1 t0).1 dX0_add_22 ?_
    refine wp_aload_n (x := v0) dX0_add_25 rfl ?_
    refine wp_getI fl_X0_27 (by decide) rfl (kltC t0) t0 dX0_add_26 ?_
    refine wp_iload_n (x := v2) dX0_add_29 rfl ?_
    obtain ⟨c1, h⟩ := chv_some h
    obtain ⟨μ2, e1, h⟩ := lt_some h
    refine wp_iaste e1 (kltC (ly0_1 t0).2.1) (ly0_1 t0).2.1 (ly0_1 t0).2.2 c1 dX0_add_30 ?_
    refine wp_aload_n (x := v0) dX0_add_31 rfl ?_
    refine wp_getR (v0 + 3) fl_X0_18 (by decide) rfl (kltC t0) t0 (ly0_2 t0).1 dX0_add_32 ?_
    refine wp_aload_n (x := v0) dX0_add_35 rfl ?_
    refine wp_getI fl_X0_27 (by decide) rfl (kltC t0) t0 dX0_add_36 ?_
    refine wp_iload_n (x := v3) dX0_add_39 rfl ?_
    obtain ⟨c1, h⟩ := chv_some h
    obtain ⟨μ3, e1, h⟩ := lt_some h
    refine wp_iaste e1 (kltC (ly0_2 t0).2.1) (ly0_2 t0).2.1 (ly0_2 t0).2.2 c1 dX0_add_40 ?_
    refine wp_aload_n (x := v0) dX0_add_41 rfl ?_
    refine wp_getR (v0 + 4) fl_X0_21 (by decide) rfl (kltC t0) t0 (ly0_3 t0).1 dX0_add_42 ?_
    refine wp_aload_n (x := v0) dX0_add_45 rfl ?_
    refine wp_getI fl_X0_27 (by decide) rfl (kltC t0) t0 dX0_add_46 ?_
    refine wp_iload (x := v4) dX0_add_49 rfl ?_
    obtain ⟨c1, h⟩ := chv_some h
    obtain ⟨μ4, e1, h⟩ := lt_some h
    refine wp_iaste e1 (kltC (ly0_3 t0).2.1) (ly0_3 t0).2.1 (ly0_3 t0).2.2 c1 dX0_add_51 ?_
    refine wp_aload_n (x := v0) dX0_add_52 rfl ?_
    refine wp_getR (v0 + 5) fl_X0_24 (by decide) rfl (kltC t0) t0 (ly0_4 t0).1 dX0_add_53 ?_
    refine wp_aload_n (x := v0) dX0_add_56 rfl ?_
    refine wp_getI fl_X0_27 (by decide) rfl (kltC t0) t0 dX0_add_57 ?_
    refine wp_iload (x := v5) dX0_add_60 rfl ?_
    obtain ⟨c1, h⟩ := chv_some h
    obtain ⟨μ5, e1, h⟩ := lt_some h
    refine wp_iaste e1 (kltC (ly0_4 t0).2.1) (ly0_4 t0).2.1 (ly0_4 t0).2.2 c1 dX0_add_62 ?_
    refine wp_aload_n (x := v0) dX0_add_63 rfl ?_
    refine wp_dup dX0_add_64 rfl ?_
    refine wp_getI fl_X0_27 (by decide) rfl (kltC t0) t0 dX0_add_65 ?_
    refine wp_iconst (nI 1) dX0_add_68 rfl ?_
    refine wp_iadd dX0_add_69 ?_
    obtain ⟨μ6, e1, h⟩ := lt_some h
    refine wp_putIe e1 fl_X0_27 (by decide) rfl (kltC t0) t0 dX0_add_70 ?_
    obtain rfl := ret1 h
    exact wp_vret rfl dX0_add_73 ⟨rfl, rfl, rfl⟩
  · rw [if_neg c1] at h
    obtain rfl := ret1 h
    exact wp_vret rfl dX0_add_10 ⟨rfl, rfl, rfl⟩
theorem ok_Book_copyFrom {l : Launch} {d : Nat} (hd : 2 ≤ d) (v0 : Nat) (t0 : sK SC v0 = 0) (v1 : Nat) (t1 : sK SC v1 = 0) (μ : Mm) {μ' : Mm} (h : Book_copyFrom v0 v1 μ = some μ') : Wp l SC d (0, 0) mX0_copyFrom 0 [some (.ref v0), some (.ref v1)] [] μ (Qv SC μ') := by
  unfold Book_copyFrom at h
  refine wp_aload_n (x := v1) dX0_copyFrom_0 rfl ?_
  refine wp_getR (v1 + 1) fl_X0_9 (by decide) rfl (kltC t1) t1 (ly0_0 t1).1 dX0_copyFrom_1 ?_
  refine wp_iconst (nI 0) dX0_copyFrom_4 rfl ?_
  refine wp_aload_n (x := v0) dX0_copyFrom_5 rfl ?_
  refine wp_getR (v0 + 1) fl_X0_9 (by decide) rfl (kltC t0) t0 (ly0_0 t0).1 dX0_copyFrom_6 ?_
  refine wp_iconst (nI 0) dX0_copyFrom_9 rfl ?_
  refine wp_aload_n (x := v1) dX0_copyFrom_10 rfl ?_
  refine wp_getI fl_X0_27 (by decide) rfl (kltC t1) t1 dX0_copyFrom_11 ?_
  obtain ⟨c1, h⟩ := chc_some h
  obtain ⟨μ1, e1, h⟩ := lt_some h
  refine wp_acopy e1 ac_X0_31 (kltC (ly0_0 t1).2.1) (ly0_0 t1).2.1 (ly0_0 t1).2.2 (kltC (ly0_0 t0).2.1) (ly0_0 t0).2.1 (ly0_0 t0).2.2 c1 (by omega) (Nat.le_of_ble_eq_true rfl) dX0_copyFrom_14 ?_
  refine wp_aload_n (x := v1) dX0_copyFrom_17 rfl ?_
  refine wp_getR (v1 + 2) fl_X0_15 (by decide) rfl (kltC t1) t1 (ly0_1 t1).1 dX0_copyFrom_18 ?_
  refine wp_iconst (nI 0) dX0_copyFrom_21 rfl ?_
  refine wp_aload_n (x := v0) dX0_copyFrom_22 rfl ?_
  refine wp_getR (v0 + 2) fl_X0_15 (by decide) rfl (kltC t0) t0 (ly0_1 t0).1 dX0_copyFrom_23 ?_
  refine wp_iconst (nI 0) dX0_copyFrom_26 rfl ?_
  refine wp_aload_n (x := v1) dX0_copyFrom_27 rfl ?_
  refine wp_getI fl_X0_27 (by decide) rfl (kltC t1) t1 dX0_copyFrom_28 ?_
  obtain ⟨c1, h⟩ := chc_some h
  obtain ⟨μ2, e1, h⟩ := lt_some h
  refine wp_acopy e1 ac_X0_31 (kltC (ly0_1 t1).2.1) (ly0_1 t1).2.1 (ly0_1 t1).2.2 (kltC (ly0_1 t0).2.1) (ly0_1 t0).2.1 (ly0_1 t0).2.2 c1 (by omega) (Nat.le_of_ble_eq_true rfl) dX0_copyFrom_31 ?_
  refine wp_aload_n (x := v1) dX0_copyFrom_34 rfl ?_
  refine wp_getR (v1 + 3) fl_X0_18 (by decide) rfl (kltC t1) t1 (ly0_2 t1).1 dX0_copyFrom_35 ?_
  refine wp_iconst (nI 0) dX0_copyFrom_38 rfl ?_
  refine wp_aload_n (x := v0) dX0_copyFrom_39 rfl ?_
  refine wp_getR (v0 + 3) fl_X0_18 (by decide) rfl (kltC t0) t0 (ly0_2 t0).1 dX0_copyFrom_40 ?_
  refine wp_iconst (nI 0) dX0_copyFrom_43 rfl ?_
  refine wp_aload_n (x := v1) dX0_copyFrom_44 rfl ?_
  refine wp_getI fl_X0_27 (by decide) rfl (kltC t1) t1 dX0_copyFrom_45 ?_
  obtain ⟨c1, h⟩ := chc_some h
  obtain ⟨μ3, e1, h⟩ := lt_some h
  refine wp_acopy e1 ac_X0_31 (kltC (ly0_2 t1).2.1) (ly0_2 t1).2.1 (ly0_2 t1).2.2 (kltC (ly0_2 t0).2.1) (ly0_2 t0).2.1 (ly0_2 t0).2.2 c1 (by omega) (Nat.le_of_ble_eq_true rfl) dX0_copyFrom_48 ?_
  refine wp_aload_n (x := v1) dX0_copyFrom_51 rfl ?_
  refine wp_getR (v1 + 4) fl_X0_21 (by decide) rfl (kltC t1) t1 (ly0_3 t1).1 dX0_copyFrom_52 ?_
  refine wp_iconst (nI 0) dX0_copyFrom_55 rfl ?_
  refine wp_aload_n (x := v0) dX0_copyFrom_56 rfl ?_
  refine wp_getR (v0 + 4) fl_X0_21 (by decide) rfl (kltC t0) t0 (ly0_3 t0).1 dX0_copyFrom_57 ?_
  refine wp_iconst (nI 0) dX0_copyFrom_60 rfl ?_
  refine wp_aload_n (x := v1) dX0_copyFrom_61 rfl ?_
  refine wp_getI fl_X0_27 (by decide) rfl (kltC t1) t1 dX0_copyFrom_62 ?_
  obtain ⟨c1, h⟩ := chc_some h
  obtain ⟨μ4, e1, h⟩ := lt_some h
  refine wp_acopy e1 ac_X0_31 (kltC (ly0_3 t1).2.1) (ly0_3 t1).2.1 (ly0_3 t1).2.2 (kltC (ly0_3 t0).2.1) (ly0_3 t0).2.1 (ly0_3 t0).2.2 c1 (by omega) (Nat.le_of_ble_eq_true rfl) dX0_copyFrom_65 ?_
  refine wp_aload_n (x := v1) dX0_copyFrom_68 rfl ?_
  refine wp_getR (v1 + 5) fl_X0_24 (by decide) rfl (kltC t1) t1 (ly0_4 t1).1 dX0_copyFrom_69 ?_
  refine wp_iconst (nI 0) dX0_copyFrom_72 rfl ?_
  refine wp_aload_n (x := v0) dX0_copyFrom_73 rfl ?_
  refine wp_getR (v0 + 5) fl_X0_24 (by decide) rfl (kltC t0) t0 (ly0_4 t0).1 dX0_copyFrom_74 ?_
  refine wp_iconst (nI 0) dX0_copyFrom_77 rfl ?_
  refine wp_aload_n (x := v1) dX0_copyFrom_78 rfl ?_
  refine wp_getI fl_X0_27 (by decide) rfl (kltC t1) t1 dX0_copyFrom_79 ?_
  obtain ⟨c1, h⟩ := chc_some h
  obtain ⟨μ5, e1, h⟩ := lt_some h
  refine wp_acopy e1 ac_X0_31 (kltC (ly0_4 t1).2.1) (ly0_4 t1).2.1 (ly0_4 t1).2.2 (kltC (ly0_4 t0).2.1) (ly0_4 t0).2.1 (ly0_4 t0).2.2 c1 (by omega) (Nat.le_of_ble_eq_true rfl) dX0_copyFrom_82 ?_
  refine wp_aload_n (x := v0) dX0_copyFrom_85 rfl ?_
  refine wp_aload_n (x := v1) dX0_copyFrom_86 rfl ?_
  refine wp_getI fl_X0_27 (by decide) rfl (kltC t1) t1 dX0_copyFrom_87 ?_
  obtain ⟨μ6, e1, h⟩ := lt_some h
  refine wp_putIe e1 fl_X0_27 (by decide) rfl (kltC t0) t0 dX0_copyFrom_90 ?_
  obtain rfl := ret1 h
  exact wp_vret rfl dX0_copyFrom_93 ⟨rfl, rfl, rfl⟩
theorem ok_Law_clear {l : Launch} {d : Nat} (hd : 1 ≤ d) (v0 : Nat) (t0 : sK SC v0 = 1) (μ : Mm) {μ' : Mm} (h : Law_clear v0 μ = some μ') : Wp l SC d (0, 0) mX1_clear 0 [some (.ref v0)] [] μ (Qv SC μ') := by
  unfold Law_clear at h
  refine wp_aload_n (x := v0) dX1_clear_0 rfl ?_
  refine wp_iconst (nI 0) dX1_clear_1 rfl ?_
  obtain ⟨μ1, e1, h⟩ := lt_some h
  refine wp_putIe e1 fl_X1_27 (by decide) rfl (kltC t0) t0 dX1_clear_2 ?_
  refine wp_aload_n (x := v0) dX1_clear_5 rfl ?_
  refine wp_iconst (nI 0) dX1_clear_6 rfl ?_
  obtain ⟨μ2, e1, h⟩ := lt_some h
  refine wp_putIe e1 fl_X1_31 (by decide) rfl (kltC t0) t0 dX1_clear_7 ?_
  obtain rfl := ret1 h
  exact wp_vret rfl dX1_clear_10 ⟨rfl, rfl, rfl⟩
theorem ok_Law_add {l : Launch} {d : Nat} (hd : 1 ≤ d) (v0 : Nat) (t0 : sK SC v0 = 1) (v1 : Int32)  (μ : Mm) {μ' : Mm} (h : Law_add v0 v1 μ = some μ') : Wp l SC d (0, 0) mX1_add 0 [some (.ref v0), some (.int v1)] [] μ (Qv SC μ') := by
  unfold Law_add at h
  refine wp_aload_n (x := v0) dX1_add_0 rfl ?_
  refine wp_getI fl_X1_27 (by decide) rfl (kltC t0) t0 dX1_add_1 ?_
  refine wp_sipush (nI 400) dX1_add_4 rfl ?_
  refine wp_icmp_ge 30 dX1_add_7 (by decide) (fun c1 => ?_) (fun c1 => ?_)
  · rw [if_pos c1] at h
    obtain rfl := ret1 h
    exact wp_vret rfl dX1_add_30 ⟨rfl, rfl, rfl⟩
  · rw [if_neg c1] at h
    refine wp_aload_n (x := v0) dX1_add_10 rfl ?_
    refine wp_getR (v0 + 1) fl_X1_9 (by decide) rfl (kltC t0) t0 (ly1_0 t0).1 dX1_add_11 ?_
    refine wp_aload_n (x := v0) dX1_add_14 rfl ?_
    refine wp_getI fl_X1_27 (by decide) rfl (kltC t0) t0 dX1_add_15 ?_
    refine wp_iload_n (x := v1) dX1_add_18 rfl ?_
    obtain ⟨c1, h⟩ := chv_some h
    obtain ⟨μ1, e1, h⟩ := lt_some h
    refine wp_iaste e1 (kltC (ly1_0 t0).2.1) (ly1_0 t0).2.1 (ly1_0 t0).2.2 c1 dX1_add_19 ?_
    refine wp_aload_n (x := v0) dX1_add_20 rfl ?_
    refine wp_dup dX1_add_21 rfl ?_
    refine wp_getI fl_X1_27 (by decide) rfl (kltC t0) t0 dX1_add_22 ?_
    refine wp_iconst (nI 1) dX1_add_25 rfl ?_
    refine wp_iadd dX1_add_26 ?_
    obtain ⟨μ2, e1, h⟩ := lt_some h
    refine wp_putIe e1 fl_X1_27 (by decide) rfl (kltC t0) t0 dX1_add_27 ?_
    obtain rfl := ret1 h
    exact wp_vret rfl dX1_add_30 ⟨rfl, rfl, rfl⟩
theorem ok_Law_addLine {l : Launch} {d : Nat} (hd : 1 ≤ d) (v0 : Nat) (t0 : sK SC v0 = 1) (v1 : Int32)  (v2 : Int32)  (μ : Mm) {μ' : Mm} (h : Law_addLine v0 v1 v2 μ = some μ') : Wp l SC d (0, 0) mX1_addLine 0 [some (.ref v0), some (.int v1), some (.int v2)] [] μ (Qv SC μ') := by
  unfold Law_addLine at h
  refine wp_aload_n (x := v0) dX1_addLine_0 rfl ?_
  refine wp_getI fl_X1_31 (by decide) rfl (kltC t0) t0 dX1_addLine_1 ?_
  refine wp_bipush (nI 16) dX1_addLine_4 rfl ?_
  refine wp_icmp_ge 52 dX1_addLine_6 (by decide) (fun c1 => ?_) (fun c1 => ?_)
  · rw [if_pos c1] at h
    obtain rfl := ret1 h
    exact wp_vret rfl dX1_addLine_52 ⟨rfl, rfl, rfl⟩
  · rw [if_neg c1] at h
    refine wp_aload_n (x := v0) dX1_addLine_9 rfl ?_
    refine wp_getR (v0 + 2) fl_X1_15 (by decide) rfl (kltC t0) t0 (ly1_1 t0).1 dX1_addLine_10 ?_
    refine wp_aload_n (x := v0) dX1_addLine_13 rfl ?_
    refine wp_getI fl_X1_31 (by decide) rfl (kltC t0) t0 dX1_addLine_14 ?_
    refine wp_iload_n (x := v1) dX1_addLine_17 rfl ?_
    obtain ⟨c1, h⟩ := chv_some h
    obtain ⟨μ1, e1, h⟩ := lt_some h
    refine wp_iaste e1 (kltC (ly1_1 t0).2.1) (ly1_1 t0).2.1 (ly1_1 t0).2.2 c1 dX1_addLine_18 ?_
    refine wp_aload_n (x := v0) dX1_addLine_19 rfl ?_
    refine wp_getR (v0 + 3) fl_X1_18 (by decide) rfl (kltC t0) t0 (ly1_2 t0).1 dX1_addLine_20 ?_
    refine wp_aload_n (x := v0) dX1_addLine_23 rfl ?_
    refine wp_getI fl_X1_31 (by decide) rfl (kltC t0) t0 dX1_addLine_24 ?_
    refine wp_iload_n (x := v2) dX1_addLine_27 rfl ?_
    obtain ⟨c1, h⟩ := chv_some h
    obtain ⟨μ2, e1, h⟩ := lt_some h
    refine wp_iaste e1 (kltC (ly1_2 t0).2.1) (ly1_2 t0).2.1 (ly1_2 t0).2.2 c1 dX1_addLine_28 ?_
    refine wp_aload_n (x := v0) dX1_addLine_29 rfl ?_
    refine wp_getR (v0 + 4) fl_X1_21 (by decide) rfl (kltC t0) t0 (ly1_3 t0).1 dX1_addLine_30 ?_
    refine wp_aload_n (x := v0) dX1_addLine_33 rfl ?_
    refine wp_getI fl_X1_31 (by decide) rfl (kltC t0) t0 dX1_addLine_34 ?_
    refine wp_aload_n (x := v0) dX1_addLine_37 rfl ?_
    refine wp_getI fl_X1_27 (by decide) rfl (kltC t0) t0 dX1_addLine_38 ?_
    obtain ⟨c1, h⟩ := chv_some h
    obtain ⟨μ3, e1, h⟩ := lt_some h
    refine wp_iaste e1 (kltC (ly1_3 t0).2.1) (ly1_3 t0).2.1 (ly1_3 t0).2.2 c1 dX1_addLine_41 ?_
    refine wp_aload_n (x := v0) dX1_addLine_42 rfl ?_
    refine wp_dup dX1_addLine_43 rfl ?_
    refine wp_getI fl_X1_31 (by decide) rfl (kltC t0) t0 dX1_addLine_44 ?_
    refine wp_iconst (nI 1) dX1_addLine_47 rfl ?_
    refine wp_iadd dX1_addLine_48 ?_
    obtain ⟨μ4, e1, h⟩ := lt_some h
    refine wp_putIe e1 fl_X1_31 (by decide) rfl (kltC t0) t0 dX1_addLine_49 ?_
    obtain rfl := ret1 h
    exact wp_vret rfl dX1_addLine_52 ⟨rfl, rfl, rfl⟩
theorem ok_Law_joined {l : Launch} {d : Nat} (hd : 1 ≤ d) (v0 : Int32)  (v1 : Int32)  (v2 : Int32)  (μ : Mm) {r : Int32} (h : Law_joined v0 v1 v2 = some r) : Wp l SC d (0, 0) mX1_joined 0 [some (.int v0), some (.int v1), some (.int v2)] [] μ (Qi SC r μ) := by
  unfold Law_joined at h
  refine wp_iload_n (x := v0) dX1_joined_0 rfl ?_
  by_cases c0 : v0 = (nI 42)
  · rw [if_pos c0] at h
    refine wp_lookup (off := 83) (tgt := 84) dX1_joined_1 (by decide) (by rw [c0]; rfl) (by decide) ?_
    refine wp_iload_n (x := v1) dX1_joined_84 rfl ?_
    refine wp_iload_n (x := v2) dX1_joined_85 rfl ?_
    refine wp_imul dX1_joined_86 ?_
    obtain rfl := ret1 h
    exact wp_iret rfl dX1_joined_87 ⟨rfl, rfl, rfl⟩
  · rw [if_neg c0] at h
    by_cases c1 : v0 = (nI 43)
    · rw [if_pos c1] at h
      refine wp_lookup (off := 75) (tgt := 76) dX1_joined_1 (by decide) (by rw [c1]; rfl) (by decide) ?_
      refine wp_iload_n (x := v1) dX1_joined_76 rfl ?_
      refine wp_iload_n (x := v2) dX1_joined_77 rfl ?_
      refine wp_iadd dX1_joined_78 ?_
      obtain rfl := ret1 h
      exact wp_iret rfl dX1_joined_79 ⟨rfl, rfl, rfl⟩
    · rw [if_neg c1] at h
      by_cases c2 : v0 = (nI 45)
      · rw [if_pos c2] at h
        refine wp_lookup (off := 79) (tgt := 80) dX1_joined_1 (by decide) (by rw [c2]; rfl) (by decide) ?_
        refine wp_iload_n (x := v1) dX1_joined_80 rfl ?_
        refine wp_iload_n (x := v2) dX1_joined_81 rfl ?_
        refine wp_isub dX1_joined_82 ?_
        obtain rfl := ret1 h
        exact wp_iret rfl dX1_joined_83 ⟨rfl, rfl, rfl⟩
      · rw [if_neg c2] at h
        by_cases c3 : v0 = (nI 47)
        · rw [if_pos c3] at h
          refine wp_lookup (off := 87) (tgt := 88) dX1_joined_1 (by decide) (by rw [c3]; rfl) (by decide) ?_
          refine wp_iload_n (x := v2) dX1_joined_88 rfl ?_
          refine wp_if_ne 96 dX1_joined_89 (by decide) (fun c1 => ?_) (fun c1 => ?_)
          · rw [if_neg c1] at h
            refine wp_iload_n (x := v1) dX1_joined_96 rfl ?_
            refine wp_iload_n (x := v2) dX1_joined_97 rfl ?_
            obtain ⟨c1, h⟩ := chk_some h
            refine wp_idiv dX1_joined_98 c1 ?_
            obtain rfl := ret1 h
            exact wp_iret rfl dX1_joined_99 ⟨rfl, rfl, rfl⟩
          · rw [if_pos c1] at h
            refine wp_iconst (nI 0) dX1_joined_92 rfl ?_
            refine wp_goto 99 dX1_joined_93 (by decide) ?_
            obtain rfl := ret1 h
            exact wp_iret rfl dX1_joined_99 ⟨rfl, rfl, rfl⟩
        · rw [if_neg c3] at h
          by_cases c4 : v0 = (nI 60)
          · rw [if_pos c4] at h
            refine wp_lookup (off := 99) (tgt := 100) dX1_joined_1 (by decide) (by rw [c4]; rfl) (by decide) ?_
            refine wp_iload_n (x := v1) dX1_joined_100 rfl ?_
            refine wp_iload_n (x := v2) dX1_joined_101 rfl ?_
            refine wp_icmp_ge 109 dX1_joined_102 (by decide) (fun c1 => ?_) (fun c1 => ?_)
            · rw [if_pos c1] at h
              refine wp_iconst (nI 0) dX1_joined_109 rfl ?_
              obtain rfl := ret1 h
              exact wp_iret rfl dX1_joined_110 ⟨rfl, rfl, rfl⟩
            · rw [if_neg c1] at h
              refine wp_iconst (nI 1) dX1_joined_105 rfl ?_
              refine wp_goto 110 dX1_joined_106 (by decide) ?_
              obtain rfl := ret1 h
              exact wp_iret rfl dX1_joined_110 ⟨rfl, rfl, rfl⟩
          · rw [if_neg c4] at h
            by_cases c5 : v0 = (nI 61)
            · rw [if_pos c5] at h
              refine wp_lookup (off := 110) (tgt := 111) dX1_joined_1 (by decide) (by rw [c5]; rfl) (by decide) ?_
              refine wp_iload_n (x := v1) dX1_joined_111 rfl ?_
              refine wp_iload_n (x := v2) dX1_joined_112 rfl ?_
              refine wp_icmp_ne 120 dX1_joined_113 (by decide) (fun c1 => ?_) (fun c1 => ?_)
              · rw [if_neg c1] at h
                refine wp_iconst (nI 0) dX1_joined_120 rfl ?_
                obtain rfl := ret1 h
                exact wp_iret rfl dX1_joined_121 ⟨rfl, rfl, rfl⟩
              · rw [if_pos c1] at h
                refine wp_iconst (nI 1) dX1_joined_116 rfl ?_
                refine wp_goto 121 dX1_joined_117 (by decide) ?_
                obtain rfl := ret1 h
                exact wp_iret rfl dX1_joined_121 ⟨rfl, rfl, rfl⟩
            · rw [if_neg c5] at h
              by_cases c6 : v0 = (nI 62)
              · rw [if_pos c6] at h
                refine wp_lookup (off := 121) (tgt := 122) dX1_joined_1 (by decide) (by rw [c6]; rfl) (by decide) ?_
                refine wp_iload_n (x := v1) dX1_joined_122 rfl ?_
                refine wp_iload_n (x := v2) dX1_joined_123 rfl ?_
                refine wp_icmp_le 131 dX1_joined_124 (by decide) (fun c1 => ?_) (fun c1 => ?_)
                · rw [if_pos c1] at h
                  refine wp_iconst (nI 0) dX1_joined_131 rfl ?_
                  obtain rfl := ret1 h
                  exact wp_iret rfl dX1_joined_132 ⟨rfl, rfl, rfl⟩
                · rw [if_neg c1] at h
                  refine wp_iconst (nI 1) dX1_joined_127 rfl ?_
                  refine wp_goto 132 dX1_joined_128 (by decide) ?_
                  obtain rfl := ret1 h
                  exact wp_iret rfl dX1_joined_132 ⟨rfl, rfl, rfl⟩
              · rw [if_neg c6] at h
                by_cases c7 : v0 = (nI 304)
                · rw [if_pos c7] at h
                  refine wp_lookup (off := 132) (tgt := 133) dX1_joined_1 (by decide) (by rw [c7]; rfl) (by decide) ?_
                  refine wp_iload_n (x := v1) dX1_joined_133 rfl ?_
                  refine wp_iload_n (x := v2) dX1_joined_134 rfl ?_
                  refine wp_iand dX1_joined_135 ?_
                  obtain rfl := ret1 h
                  exact wp_iret rfl dX1_joined_136 ⟨rfl, rfl, rfl⟩
                · rw [if_neg c7] at h
                  have q0 := nei c0 (z := 42) rfl
                  have q1 := nei c1 (z := 43) rfl
                  have q2 := nei c2 (z := 45) rfl
                  have q3 := nei c3 (z := 47) rfl
                  have q4 := nei c4 (z := 60) rfl
                  have q5 := nei c5 (z := 61) rfl
                  have q6 := nei c6 (z := 62) rfl
                  have q7 := nei c7 (z := 304) rfl
                  refine wp_lookup (off := 136) (tgt := 137) dX1_joined_1 (by decide) (by simp [Op.lookupswitch.offset, Ne.symm q0, Ne.symm q1, Ne.symm q2, Ne.symm q3, Ne.symm q4, Ne.symm q5, Ne.symm q6, Ne.symm q7]) (by decide) ?_
                  refine wp_iload_n (x := v1) dX1_joined_137 rfl ?_
                  refine wp_iload_n (x := v2) dX1_joined_138 rfl ?_
                  refine wp_ior dX1_joined_139 ?_
                  obtain rfl := ret1 h
                  exact wp_iret rfl dX1_joined_140 ⟨rfl, rfl, rfl⟩
theorem ok_Law_run_j149 {l : Launch} {d : Nat} (hd : 2 ≤ d) (v0 : Nat) (t0 : sK SC v0 = 1) (v2 : Int32)  (v3 : Nat) (t3 : sK SC v3 = 12) (v4 : Int32)  (v5 : Int32)  (μ : Mm) (z1 : Option Value) (z6 : Option Value) {Q : Option Value → Sh → Mm → Prop} (K : (Int32 × Int32 × Mm) ⊕ Mm → Prop) (hb : ∀ (s : (Int32 × Int32 × Mm)) (z1 : Option Value) (z6 : Option Value), K (Sum.inl s) → Wp l SC d (0, 0) mX1_run 6 [some (.ref v0), z1, some (.int v2), some (.ref v3), some (.int s.1), some (.int s.2.1), z6] [] s.2.2 Q) (he0 : ∀ (x : Mm) (z1 : Option Value) (z2 : Option Value) (z3 : Option Value) (z4 : Option Value) (z5 : Option Value) (z6 : Option Value), K (Sum.inr x) → Wp l SC d (0, 0) mX1_run 155 [some (.ref v0), z1, z2, z3, z4, z5, z6] [] x Q) {z : (Int32 × Int32 × Mm) ⊕ Mm} (h : Law_run_j149 v0 v2 v3 v4 v5 μ = some z) (hz : K z) : Wp l SC d (0, 0) mX1_run 149 [some (.ref v0), z1, some (.int v2), some (.ref v3), some (.int v4), some (.int v5), z6] [] μ Q := by
  unfold Law_run_j149 at h
  refine wp_iinc (x := v5) (k0 := (nI 1)) (L2 := [some (.ref v0), z1, some (.int v2), some (.ref v3), some (.int v4), some (.int (v5 + (nI 1))), z6]) dX1_run_149 rfl rfl (by decide) rfl rfl ?_
  refine wp_goto 6 dX1_run_152 (by decide) ?_
  obtain rfl := some1 h
  exact hb (v4, (v5 + (nI 1)), μ) _ _ hz
theorem ok_Law_run_j106 {l : Launch} {d : Nat} (hd : 2 ≤ d) (v0 : Nat) (t0 : sK SC v0 = 1) (v2 : Int32)  (v3 : Nat) (t3 : sK SC v3 = 12) (v4 : Int32)  (v5 : Int32)  (v6 : Int32)  (μ : Mm) (z1 : Option Value) {Q : Option Value → Sh → Mm → Prop} (K : (Int32 × Int32 × Mm) ⊕ Mm → Prop) (hb : ∀ (s : (Int32 × Int32 × Mm)) (z1 : Option Value) (z6 : Option Value), K (Sum.inl s) → Wp l SC d (0, 0) mX1_run 6 [some (.ref v0), z1, some (.int v2), some (.ref v3), some (.int s.1), some (.int s.2.1), z6] [] s.2.2 Q) (he0 : ∀ (x : Mm) (z1 : Option Value) (z2 : Option Value) (z3 : Option Value) (z4 : Option Value) (z5 : Option Value) (z6 : Option Value), K (Sum.inr x) → Wp l SC d (0, 0) mX1_run 155 [some (.ref v0), z1, z2, z3, z4, z5, z6] [] x Q) {z : (Int32 × Int32 × Mm) ⊕ Mm} (h : Law_run_j106 v0 v2 v3 v4 v5 v6 μ = some z) (hz : K z) : Wp l SC d (0, 0) mX1_run 106 [some (.ref v0), z1, some (.int v2), some (.ref v3), some (.int v4), some (.int v5), some (.int v6)] [] μ Q := by
  unfold Law_run_j106 at h
  refine wp_iload (x := v4) dX1_run_106 rfl ?_
  refine wp_iconst (nI 1) dX1_run_108 rfl ?_
  refine wp_icmp_le 149 dX1_run_109 (by decide) (fun c1 => ?_) (fun c1 => ?_)
  · rw [if_pos c1] at h
    exact ok_Law_run_j149 hd v0 t0 v2 v3 t3 v4 v5 μ _ _ K hb he0 h hz
  · rw [if_neg c1] at h
    refine wp_iinc (x := v4) (k0 := (-1)) (L2 := [some (.ref v0), z1, some (.int v2), some (.ref v3), some (.int (v4 + (-1))), some (.int v5), some (.int v6)]) dX1_run_112 rfl rfl (by decide) rfl rfl ?_
    refine wp_aload_n (x := v0) dX1_run_115 rfl ?_
    refine wp_getR (v0 + 5) fl_X1_24 (by decide) rfl (kltC t0) t0 (ly1_4 t0).1 dX1_run_116 ?_
    refine wp_iload (x := (v4 + (-1))) dX1_run_119 rfl ?_
    refine wp_iconst (nI 1) dX1_run_121 rfl ?_
    refine wp_isub dX1_run_122 ?_
    refine wp_iload (x := v6) dX1_run_123 rfl ?_
    refine wp_sipush (nI 20000) dX1_run_125 rfl ?_
    refine wp_isub dX1_run_128 ?_
    refine wp_aload_n (x := v0) dX1_run_129 rfl ?_
    refine wp_getR (v0 + 5) fl_X1_24 (by decide) rfl (kltC t0) t0 (ly1_4 t0).1 dX1_run_130 ?_
    refine wp_iload (x := (v4 + (-1))) dX1_run_133 rfl ?_
    refine wp_iconst (nI 1) dX1_run_135 rfl ?_
    refine wp_isub dX1_run_136 ?_
    obtain ⟨c1, h⟩ := chv_some h
    refine wp_ialde (kltC (ly1_4 t0).2.1) (ly1_4 t0).2.1 (ly1_4 t0).2.2 c1 dX1_run_137 ?_
    refine wp_aload_n (x := v0) dX1_run_138 rfl ?_
    refine wp_getR (v0 + 5) fl_X1_24 (by decide) rfl (kltC t0) t0 (ly1_4 t0).1 dX1_run_139 ?_
    refine wp_iload (x := (v4 + (-1))) dX1_run_142 rfl ?_
    obtain ⟨c1, h⟩ := chv_some h
    refine wp_ialde (kltC (ly1_4 t0).2.1) (ly1_4 t0).2.1 (ly1_4 t0).2.2 c1 dX1_run_144 ?_
    obtain ⟨r1, g1, h⟩ := bnd_some h
    refine wp_cSi (d := d - 1) cs_X1_38 (as := [.int (v6 - (nI 20000)), .int (μ.1 (v0 + 5) (ix ((v4 + (-1)) - (nI 1)))), .int (μ.1 (v0 + 5) (ix (v4 + (-1))))]) (rest := [.int ((v4 + (-1)) - (nI 1)), .ref (v0 + 5)]) dX1_run_145 (by omega) cloC rfl rfl (Nat.le_of_ble_eq_true rfl) (Nat.le_of_ble_eq_true rfl) (ok_Law_joined (by omega) (v6 - (nI 20000)) (μ.1 (v0 + 5) (ix ((v4 + (-1)) - (nI 1)))) (μ.1 (v0 + 5) (ix (v4 + (-1)))) μ g1) ?_ rfl
    obtain ⟨c1, h⟩ := chv_some h
    obtain ⟨μ2, e1, h⟩ := lt_some h
    refine wp_iaste e1 (kltC (ly1_4 t0).2.1) (ly1_4 t0).2.1 (ly1_4 t0).2.2 c1 dX1_run_148 ?_
    exact ok_Law_run_j149 hd v0 t0 v2 v3 t3 (v4 + (-1)) v5 μ2 _ _ K hb he0 h hz
theorem ok_Law_run_j70 {l : Launch} {d : Nat} (hd : 2 ≤ d) (v0 : Nat) (t0 : sK SC v0 = 1) (v2 : Int32)  (v3 : Nat) (t3 : sK SC v3 = 12) (v4 : Int32)  (v5 : Int32)  (v6 : Int32)  (μ : Mm) (z1 : Option Value) {Q : Option Value → Sh → Mm → Prop} (K : (Int32 × Int32 × Mm) ⊕ Mm → Prop) (hb : ∀ (s : (Int32 × Int32 × Mm)) (z1 : Option Value) (z6 : Option Value), K (Sum.inl s) → Wp l SC d (0, 0) mX1_run 6 [some (.ref v0), z1, some (.int v2), some (.ref v3), some (.int s.1), some (.int s.2.1), z6] [] s.2.2 Q) (he0 : ∀ (x : Mm) (z1 : Option Value) (z2 : Option Value) (z3 : Option Value) (z4 : Option Value) (z5 : Option Value) (z6 : Option Value), K (Sum.inr x) → Wp l SC d (0, 0) mX1_run 155 [some (.ref v0), z1, z2, z3, z4, z5, z6] [] x Q) {z : (Int32 × Int32 × Mm) ⊕ Mm} (h : Law_run_j70 v0 v2 v3 v4 v5 v6 μ = some z) (hz : K z) : Wp l SC d (0, 0) mX1_run 70 [some (.ref v0), z1, some (.int v2), some (.ref v3), some (.int v4), some (.int v5), some (.int v6)] [] μ Q := by
  unfold Law_run_j70 at h
  refine wp_iload (x := v6) dX1_run_70 rfl ?_
  refine wp_sipush (nI 20305) dX1_run_72 rfl ?_
  refine wp_icmp_ne 106 dX1_run_75 (by decide) (fun c1 => ?_) (fun c1 => ?_)
  · rw [if_neg c1] at h
    exact ok_Law_run_j106 hd v0 t0 v2 v3 t3 v4 v5 v6 μ _ K hb he0 h hz
  · rw [if_pos c1] at h
    refine wp_iload (x := v4) dX1_run_78 rfl ?_
    refine wp_if_le 106 dX1_run_80 (by decide) (fun c1 => ?_) (fun c1 => ?_)
    · rw [if_pos c1] at h
      exact ok_Law_run_j106 hd v0 t0 v2 v3 t3 v4 v5 v6 μ _ K hb he0 h hz
    · rw [if_neg c1] at h
      refine wp_aload_n (x := v0) dX1_run_83 rfl ?_
      refine wp_getR (v0 + 5) fl_X1_24 (by decide) rfl (kltC t0) t0 (ly1_4 t0).1 dX1_run_84 ?_
      refine wp_iload (x := v4) dX1_run_87 rfl ?_
      refine wp_iconst (nI 1) dX1_run_89 rfl ?_
      refine wp_isub dX1_run_90 ?_
      refine wp_iconst (nI 1) dX1_run_91 rfl ?_
      refine wp_aload_n (x := v0) dX1_run_92 rfl ?_
      refine wp_getR (v0 + 5) fl_X1_24 (by decide) rfl (kltC t0) t0 (ly1_4 t0).1 dX1_run_93 ?_
      refine wp_iload (x := v4) dX1_run_96 rfl ?_
      refine wp_iconst (nI 1) dX1_run_98 rfl ?_
      refine wp_isub dX1_run_99 ?_
      obtain ⟨c1, h⟩ := chv_some h
      refine wp_ialde (kltC (ly1_4 t0).2.1) (ly1_4 t0).2.1 (ly1_4 t0).2.2 c1 dX1_run_100 ?_
      refine wp_isub dX1_run_101 ?_
      obtain ⟨c1, h⟩ := chv_some h
      obtain ⟨μ3, e1, h⟩ := lt_some h
      refine wp_iaste e1 (kltC (ly1_4 t0).2.1) (ly1_4 t0).2.1 (ly1_4 t0).2.2 c1 dX1_run_102 ?_
      refine wp_goto 149 dX1_run_103 (by decide) ?_
      exact ok_Law_run_j149 hd v0 t0 v2 v3 t3 v4 v5 μ3 _ _ K hb he0 h hz
theorem ok_Law_run_j63 {l : Launch} {d : Nat} (hd : 2 ≤ d) (v0 : Nat) (t0 : sK SC v0 = 1) (v2 : Int32)  (v3 : Nat) (t3 : sK SC v3 = 12) (v4 : Int32)  (v5 : Int32)  (s0 : Nat) (ts0 : sK SC s0 = 12) (s1 : Int32) (s2 : Int32) (μ : Mm) (z1 : Option Value) (z6 : Option Value) {Q : Option Value → Sh → Mm → Prop} (K : (Int32 × Int32 × Mm) ⊕ Mm → Prop) (hb : ∀ (s : (Int32 × Int32 × Mm)) (z1 : Option Value) (z6 : Option Value), K (Sum.inl s) → Wp l SC d (0, 0) mX1_run 6 [some (.ref v0), z1, some (.int v2), some (.ref v3), some (.int s.1), some (.int s.2.1), z6] [] s.2.2 Q) (he0 : ∀ (x : Mm) (z1 : Option Value) (z2 : Option Value) (z3 : Option Value) (z4 : Option Value) (z5 : Option Value) (z6 : Option Value), K (Sum.inr x) → Wp l SC d (0, 0) mX1_run 155 [some (.ref v0), z1, z2, z3, z4, z5, z6] [] x Q) {z : (Int32 × Int32 × Mm) ⊕ Mm} (h : Law_run_j63 v0 v2 v3 v4 v5 s0 s1 s2 μ = some z) (hz : K z) : Wp l SC d (0, 0) mX1_run 63 [some (.ref v0), z1, some (.int v2), some (.ref v3), some (.int v4), some (.int v5), z6] [.int s2, .int s1, .ref s0] μ Q := by
  unfold Law_run_j63 at h
  obtain ⟨c1, h⟩ := chv_some h
  obtain ⟨μ4, e1, h⟩ := lt_some h
  refine wp_iaste e1 (kltC ts0) ts0 rfl c1 dX1_run_63 ?_
  refine wp_iinc (x := v4) (k0 := (nI 1)) (L2 := [some (.ref v0), z1, some (.int v2), some (.ref v3), some (.int (v4 + (nI 1))), some (.int v5), z6]) dX1_run_64 rfl rfl (by decide) rfl rfl ?_
  refine wp_goto 149 dX1_run_67 (by decide) ?_
  exact ok_Law_run_j149 hd v0 t0 v2 v3 t3 (v4 + (nI 1)) v5 μ4 _ _ K hb he0 h hz
theorem ok_Law_run_l6 {l : Launch} {d : Nat} (hd : 2 ≤ d) (v0 : Nat) (t0 : sK SC v0 = 1) (v2 : Int32)  (v3 : Nat) (t3 : sK SC v3 = 12) (v4 : Int32)  (v5 : Int32)  (μ : Mm) (z1 : Option Value) (z6 : Option Value) {Q : Option Value → Sh → Mm → Prop} (K : (Int32 × Int32 × Mm) ⊕ Mm → Prop) (hb : ∀ (s : (Int32 × Int32 × Mm)) (z1 : Option Value) (z6 : Option Value), K (Sum.inl s) → Wp l SC d (0, 0) mX1_run 6 [some (.ref v0), z1, some (.int v2), some (.ref v3), some (.int s.1), some (.int s.2.1), z6] [] s.2.2 Q) (he0 : ∀ (x : Mm) (z1 : Option Value) (z2 : Option Value) (z3 : Option Value) (z4 : Option Value) (z5 : Option Value) (z6 : Option Value), K (Sum.inr x) → Wp l SC d (0, 0) mX1_run 155 [some (.ref v0), z1, z2, z3, z4, z5, z6] [] x Q) {z : (Int32 × Int32 × Mm) ⊕ Mm} (h : Law_run_l6 v0 v2 v3 v4 v5 μ = some z) (hz : K z) : Wp l SC d (0, 0) mX1_run 6 [some (.ref v0), z1, some (.int v2), some (.ref v3), some (.int v4), some (.int v5), z6] [] μ Q := by
  unfold Law_run_l6 at h
  refine wp_iload (x := v5) dX1_run_6 rfl ?_
  refine wp_iload_n (x := v2) dX1_run_8 rfl ?_
  refine wp_icmp_ge 155 dX1_run_9 (by decide) (fun c1 => ?_) (fun c1 => ?_)
  · rw [if_pos c1] at h
    obtain rfl := some1 h
    exact he0 μ _ _ _ _ _ _ hz
  · rw [if_neg c1] at h
    refine wp_aload_n (x := v0) dX1_run_12 rfl ?_
    refine wp_getR (v0 + 1) fl_X1_9 (by decide) rfl (kltC t0) t0 (ly1_0 t0).1 dX1_run_13 ?_
    refine wp_iload (x := v5) dX1_run_16 rfl ?_
    obtain ⟨c1, h⟩ := chv_some h
    refine wp_ialde (kltC (ly1_0 t0).2.1) (ly1_0 t0).2.1 (ly1_0 t0).2.2 c1 dX1_run_18 ?_
    refine wp_istore (L2 := [some (.ref v0), z1, some (.int v2), some (.ref v3), some (.int v4), some (.int v5), some (.int (μ.1 (v0 + 1) (ix v5)))]) dX1_run_19 (by decide) rfl rfl ?_
    refine wp_iload (x := (μ.1 (v0 + 1) (ix v5))) dX1_run_21 rfl ?_
    refine wp_sipush (nI 20000) dX1_run_23 rfl ?_
    refine wp_icmp_ge 70 dX1_run_26 (by decide) (fun c1 => ?_) (fun c1 => ?_)
    · rw [if_pos c1] at h
      exact ok_Law_run_j70 hd v0 t0 v2 v3 t3 v4 v5 (μ.1 (v0 + 1) (ix v5)) μ _ K hb he0 h hz
    · rw [if_neg c1] at h
      refine wp_iload (x := v4) dX1_run_29 rfl ?_
      refine wp_bipush (nI 32) dX1_run_31 rfl ?_
      refine wp_icmp_ge 70 dX1_run_33 (by decide) (fun c1 => ?_) (fun c1 => ?_)
      · rw [if_pos c1] at h
        exact ok_Law_run_j70 hd v0 t0 v2 v3 t3 v4 v5 (μ.1 (v0 + 1) (ix v5)) μ _ K hb he0 h hz
      · rw [if_neg c1] at h
        refine wp_aload_n (x := v0) dX1_run_36 rfl ?_
        refine wp_getR (v0 + 5) fl_X1_24 (by decide) rfl (kltC t0) t0 (ly1_4 t0).1 dX1_run_37 ?_
        refine wp_iload (x := v4) dX1_run_40 rfl ?_
        refine wp_iload (x := (μ.1 (v0 + 1) (ix v5))) dX1_run_42 rfl ?_
        refine wp_sipush (nI 10000) dX1_run_44 rfl ?_
        refine wp_icmp_ge 55 dX1_run_47 (by decide) (fun c1 => ?_) (fun c1 => ?_)
        · rw [if_pos c1] at h
          refine wp_aload_n (x := v3) dX1_run_55 rfl ?_
          refine wp_iload (x := (μ.1 (v0 + 1) (ix v5))) dX1_run_56 rfl ?_
          refine wp_sipush (nI 10000) dX1_run_58 rfl ?_
          refine wp_isub dX1_run_61 ?_
          obtain ⟨c1, h⟩ := chv_some h
          refine wp_ialde (kltC t3) t3 rfl c1 dX1_run_62 ?_
          exact ok_Law_run_j63 hd v0 t0 v2 v3 t3 v4 v5 (v0 + 5) ((ly1_4 t0).2.1) v4 (μ.1 v3 (ix ((μ.1 (v0 + 1) (ix v5)) - (nI 10000)))) μ _ _ K hb he0 h hz
        · rw [if_neg c1] at h
          refine wp_iload (x := (μ.1 (v0 + 1) (ix v5))) dX1_run_50 rfl ?_
          refine wp_goto 63 dX1_run_52 (by decide) ?_
          exact ok_Law_run_j63 hd v0 t0 v2 v3 t3 v4 v5 (v0 + 5) ((ly1_4 t0).2.1) v4 (μ.1 (v0 + 1) (ix v5)) μ _ _ K hb he0 h hz
theorem okl_Law_run_l6 {l : Launch} {d : Nat} (hd : 2 ≤ d) (v0 : Nat) (t0 : sK SC v0 = 1) (v2 : Int32)  (v3 : Nat) (t3 : sK SC v3 = 12) {Q : Option Value → Sh → Mm → Prop} (K : Mm → Prop) (he0 : ∀ (x : Mm) (z1 : Option Value) (z2 : Option Value) (z3 : Option Value) (z4 : Option Value) (z5 : Option Value) (z6 : Option Value), K x → Wp l SC d (0, 0) mX1_run 155 [some (.ref v0), z1, z2, z3, z4, z5, z6] [] x Q) : ∀ (n : Nat) (s : (Int32 × Int32 × Mm)) (y : Mm) (z1 : Option Value) (z6 : Option Value) , iter n (fun s => Law_run_l6 v0 v2 v3 s.1 s.2.1 s.2.2) s = some y → K y → Wp l SC d (0, 0) mX1_run 6 [some (.ref v0), z1, some (.int v2), some (.ref v3), some (.int s.1), some (.int s.2.1), z6] [] s.2.2 Q := by
  intro n
  induction n with
  | zero => intro s y z1 z6 h; cases h
  | succ n ih =>
    intro s y z1 z6 h hK
    obtain ⟨z, hz, hn⟩ := iter_some h
    refine ok_Law_run_l6 hd v0 t0 v2 v3 t3 s.1 s.2.1 s.2.2 _ _ (fun z => nxt n (fun s => Law_run_l6 v0 v2 v3 s.1 s.2.1 s.2.2) z y) ?_ ?_ hz hn
    · intro s2 z1 z6 h2
      exact ih s2 y _ _ h2 hK
    · intro x z1 z2 z3 z4 z5 z6 h2
      have h3 : x = y := h2
      subst h3
      exact he0 x _ _ _ _ _ _ hK
theorem ok_Law_run {l : Launch} {d : Nat} (hd : 2 ≤ d) (v0 : Nat) (t0 : sK SC v0 = 1) (v1 : Int32)  (v2 : Int32)  (v3 : Nat) (t3 : sK SC v3 = 12) (μ : Mm) {r : Int32} {μ' : Mm} (h : Law_run v0 v1 v2 v3 μ = some (r, μ')) : Wp l SC d (0, 0) mX1_run 0 [some (.ref v0), some (.int v1), some (.int v2), some (.ref v3), none, none, none] [] μ (Qi SC r μ') := by
  unfold Law_run at h
  refine wp_iconst (nI 0) dX1_run_0 rfl ?_
  refine wp_istore (L2 := [some (.ref v0), some (.int v1), some (.int v2), some (.ref v3), some (.int (nI 0)), none, none]) dX1_run_1 (by decide) rfl rfl ?_
  refine wp_iload_n (x := v1) dX1_run_3 rfl ?_
  refine wp_istore (L2 := [some (.ref v0), some (.int v1), some (.int v2), some (.ref v3), some (.int (nI 0)), some (.int v1), none]) dX1_run_4 (by decide) rfl rfl ?_
  obtain ⟨x6, hi, h⟩ := bni_some h
  refine okl_Law_run_l6 hd v0 t0 v2 v3 t3 (fun z => z = x6) ?_ 1000000 ((nI 0), v1, μ) x6 _ _ hi rfl
  · intro y0 z1 z2 z3 z4 z5 z6 e0
    have e0 : y0 = x6 := e0
    subst e0
    refine wp_aload_n (x := v0) dX1_run_155 rfl ?_
    refine wp_getR (v0 + 5) fl_X1_24 (by decide) rfl (kltC t0) t0 (ly1_4 t0).1 dX1_run_156 ?_
    refine wp_iconst (nI 0) dX1_run_159 rfl ?_
    obtain ⟨c1, h⟩ := chv_some h
    refine wp_ialde (kltC (ly1_4 t0).2.1) (ly1_4 t0).2.1 (ly1_4 t0).2.2 c1 dX1_run_160 ?_
    obtain ⟨rfl, rfl⟩ := ret2 h
    exact wp_iret rfl dX1_run_161 ⟨rfl, rfl, rfl⟩
theorem ok_Law_valueFor_l2 {l : Launch} {d : Nat} (hd : 3 ≤ d) (v0 : Nat) (t0 : sK SC v0 = 1) (v1 : Nat) (t1 : sK SC v1 = 12) (v2 : Int32)  (v3 : Int32)  (μ : Mm) {Q : Option Value → Sh → Mm → Prop} (K : (Int32 × Mm) ⊕ ((Int32 × Mm) ⊕ Mm) → Prop) (hb : ∀ (s : (Int32 × Mm)), K (Sum.inl s) → Wp l SC d (0, 0) mX1_valueFor 2 [some (.ref v0), some (.ref v1), some (.int v2), some (.int s.1)] [] s.2 Q) (he0 : ∀ (x : (Int32 × Mm)) (z2 : Option Value), K (Sum.inr (Sum.inl x)) → Wp l SC d (0, 0) mX1_valueFor 45 [some (.ref v0), some (.ref v1), z2, some (.int x.1)] [] x.2 Q) (he1 : ∀ (x : Mm) (z0 : Option Value) (z1 : Option Value) (z3 : Option Value), K (Sum.inr (Sum.inr x)) → Wp l SC d (0, 0) mX1_valueFor 69 [z0, z1, some (.int v2), z3] [] x Q) {z : (Int32 × Mm) ⊕ ((Int32 × Mm) ⊕ Mm)} (h : Law_valueFor_l2 v0 v1 v2 v3 μ = some z) (hz : K z) : Wp l SC d (0, 0) mX1_valueFor 2 [some (.ref v0), some (.ref v1), some (.int v2), some (.int v3)] [] μ Q := by
  unfold Law_valueFor_l2 at h
  refine wp_iload_n (x := v3) dX1_valueFor_2 rfl ?_
  refine wp_aload_n (x := v0) dX1_valueFor_3 rfl ?_
  refine wp_getI fl_X1_31 (by decide) rfl (kltC t0) t0 dX1_valueFor_4 ?_
  refine wp_icmp_ge 69 dX1_valueFor_7 (by decide) (fun c1 => ?_) (fun c1 => ?_)
  · rw [if_pos c1] at h
    obtain rfl := some1 h
    exact he1 μ _ _ _ hz
  · rw [if_neg c1] at h
    refine wp_aload_n (x := v0) dX1_valueFor_10 rfl ?_
    refine wp_getR (v0 + 3) fl_X1_18 (by decide) rfl (kltC t0) t0 (ly1_2 t0).1 dX1_valueFor_11 ?_
    refine wp_iload_n (x := v3) dX1_valueFor_14 rfl ?_
    obtain ⟨c1, h⟩ := chv_some h
    refine wp_ialde (kltC (ly1_2 t0).2.1) (ly1_2 t0).2.1 (ly1_2 t0).2.2 c1 dX1_valueFor_15 ?_
    refine wp_aload_n (x := v0) dX1_valueFor_16 rfl ?_
    refine wp_getR (v0 + 4) fl_X1_21 (by decide) rfl (kltC t0) t0 (ly1_3 t0).1 dX1_valueFor_17 ?_
    refine wp_iload_n (x := v3) dX1_valueFor_20 rfl ?_
    obtain ⟨c1, h⟩ := chv_some h
    refine wp_ialde (kltC (ly1_3 t0).2.1) (ly1_3 t0).2.1 (ly1_3 t0).2.2 c1 dX1_valueFor_21 ?_
    refine wp_icmp_eq 45 dX1_valueFor_22 (by decide) (fun c1 => ?_) (fun c1 => ?_)
    · rw [if_pos c1] at h
      obtain rfl := some1 h
      exact he0 (v3, μ) _ hz
    · rw [if_neg c1] at h
      refine wp_aload_n (x := v0) dX1_valueFor_25 rfl ?_
      refine wp_aload_n (x := v0) dX1_valueFor_26 rfl ?_
      refine wp_getR (v0 + 3) fl_X1_18 (by decide) rfl (kltC t0) t0 (ly1_2 t0).1 dX1_valueFor_27 ?_
      refine wp_iload_n (x := v3) dX1_valueFor_30 rfl ?_
      obtain ⟨c1, h⟩ := chv_some h
      refine wp_ialde (kltC (ly1_2 t0).2.1) (ly1_2 t0).2.1 (ly1_2 t0).2.2 c1 dX1_valueFor_31 ?_
      refine wp_aload_n (x := v0) dX1_valueFor_32 rfl ?_
      refine wp_getR (v0 + 4) fl_X1_21 (by decide) rfl (kltC t0) t0 (ly1_3 t0).1 dX1_valueFor_33 ?_
      refine wp_iload_n (x := v3) dX1_valueFor_36 rfl ?_
      obtain ⟨c1, h⟩ := chv_some h
      refine wp_ialde (kltC (ly1_3 t0).2.1) (ly1_3 t0).2.1 (ly1_3 t0).2.2 c1 dX1_valueFor_37 ?_
      refine wp_aload_n (x := v1) dX1_valueFor_38 rfl ?_
      obtain ⟨r2, μ1, g1, h⟩ := bnd2_some h
      refine wp_cVi (d := d - 1) (o := v0) cv_X1_34 (kltC t0) t0 (as := [.int (μ.1 (v0 + 3) (ix v3)), .int (μ.1 (v0 + 4) (ix v3)), .ref v1]) (rest := []) dX1_valueFor_39 (by omega) cloC rfl rfl (Nat.le_of_ble_eq_true rfl) (Nat.le_of_ble_eq_true rfl) (ok_Law_run (by omega) v0 t0 (μ.1 (v0 + 3) (ix v3)) (μ.1 (v0 + 4) (ix v3)) v1 t1 μ g1) ?_ rfl
      refine wp_if_eq 63 dX1_valueFor_42 (by decide) (fun c1 => ?_) (fun c1 => ?_)
      · rw [if_pos c1] at h
        refine wp_iinc (x := v3) (k0 := (nI 1)) (L2 := [some (.ref v0), some (.ref v1), some (.int v2), some (.int (v3 + (nI 1)))]) dX1_valueFor_63 rfl rfl (by decide) rfl rfl ?_
        refine wp_goto 2 dX1_valueFor_66 (by decide) ?_
        obtain rfl := some1 h
        exact hb ((v3 + (nI 1)), μ1) hz
      · rw [if_neg c1] at h
        obtain rfl := some1 h
        exact he0 (v3, μ1) _ hz
theorem okl_Law_valueFor_l2 {l : Launch} {d : Nat} (hd : 3 ≤ d) (v0 : Nat) (t0 : sK SC v0 = 1) (v1 : Nat) (t1 : sK SC v1 = 12) (v2 : Int32)  {Q : Option Value → Sh → Mm → Prop} (K : ((Int32 × Mm) ⊕ Mm) → Prop) (he0 : ∀ (x : (Int32 × Mm)) (z2 : Option Value), K (Sum.inl x) → Wp l SC d (0, 0) mX1_valueFor 45 [some (.ref v0), some (.ref v1), z2, some (.int x.1)] [] x.2 Q) (he1 : ∀ (x : Mm) (z0 : Option Value) (z1 : Option Value) (z3 : Option Value), K (Sum.inr x) → Wp l SC d (0, 0) mX1_valueFor 69 [z0, z1, some (.int v2), z3] [] x Q) : ∀ (n : Nat) (s : (Int32 × Mm)) (y : ((Int32 × Mm) ⊕ Mm)) , iter n (fun s => Law_valueFor_l2 v0 v1 v2 s.1 s.2) s = some y → K y → Wp l SC d (0, 0) mX1_valueFor 2 [some (.ref v0), some (.ref v1), some (.int v2), some (.int s.1)] [] s.2 Q := by
  intro n
  induction n with
  | zero => intro s y  h; cases h
  | succ n ih =>
    intro s y  h hK
    obtain ⟨z, hz, hn⟩ := iter_some h
    refine ok_Law_valueFor_l2 hd v0 t0 v1 t1 v2 s.1 s.2 (fun z => nxt n (fun s => Law_valueFor_l2 v0 v1 v2 s.1 s.2) z y) ?_ ?_ ?_ hz hn
    · intro s2  h2
      exact ih s2 y h2 hK
    · intro x z2 h2
      have h3 : (Sum.inl x) = y := h2
      subst h3
      exact he0 x _ hK
    · intro x z0 z1 z3 h2
      have h3 : (Sum.inr x) = y := h2
      subst h3
      exact he1 x _ _ _ hK
theorem ok_Law_valueFor_j45 {l : Launch} {d : Nat} (hd : 3 ≤ d) (v0 : Nat) (t0 : sK SC v0 = 1) (v1 : Nat) (t1 : sK SC v1 = 12) (v3 : Int32)  (μ : Mm) (z2 : Option Value) {r : Int32} {μ' : Mm} (h : Law_valueFor_j45 v0 v1 v3 μ = some (r, μ')) : Wp l SC d (0, 0) mX1_valueFor 45 [some (.ref v0), some (.ref v1), z2, some (.int v3)] [] μ (Qi SC r μ') := by
  unfold Law_valueFor_j45 at h
  refine wp_aload_n (x := v0) dX1_valueFor_45 rfl ?_
  refine wp_aload_n (x := v0) dX1_valueFor_46 rfl ?_
  refine wp_getR (v0 + 2) fl_X1_15 (by decide) rfl (kltC t0) t0 (ly1_1 t0).1 dX1_valueFor_47 ?_
  refine wp_iload_n (x := v3) dX1_valueFor_50 rfl ?_
  obtain ⟨c1, h⟩ := chv_some h
  refine wp_ialde (kltC (ly1_1 t0).2.1) (ly1_1 t0).2.1 (ly1_1 t0).2.2 c1 dX1_valueFor_51 ?_
  refine wp_aload_n (x := v0) dX1_valueFor_52 rfl ?_
  refine wp_getR (v0 + 3) fl_X1_18 (by decide) rfl (kltC t0) t0 (ly1_2 t0).1 dX1_valueFor_53 ?_
  refine wp_iload_n (x := v3) dX1_valueFor_56 rfl ?_
  obtain ⟨c1, h⟩ := chv_some h
  refine wp_ialde (kltC (ly1_2 t0).2.1) (ly1_2 t0).2.1 (ly1_2 t0).2.2 c1 dX1_valueFor_57 ?_
  refine wp_aload_n (x := v1) dX1_valueFor_58 rfl ?_
  obtain ⟨r4, μ3, g1, h⟩ := bnd2_some h
  refine wp_cVi (d := d - 1) (o := v0) cv_X1_34 (kltC t0) t0 (as := [.int (μ.1 (v0 + 2) (ix v3)), .int (μ.1 (v0 + 3) (ix v3)), .ref v1]) (rest := []) dX1_valueFor_59 (by omega) cloC rfl rfl (Nat.le_of_ble_eq_true rfl) (Nat.le_of_ble_eq_true rfl) (ok_Law_run (by omega) v0 t0 (μ.1 (v0 + 2) (ix v3)) (μ.1 (v0 + 3) (ix v3)) v1 t1 μ g1) ?_ rfl
  obtain ⟨rfl, rfl⟩ := ret2 h
  exact wp_iret rfl dX1_valueFor_62 ⟨rfl, rfl, rfl⟩
theorem ok_Law_valueFor {l : Launch} {d : Nat} (hd : 3 ≤ d) (v0 : Nat) (t0 : sK SC v0 = 1) (v1 : Nat) (t1 : sK SC v1 = 12) (v2 : Int32)  (μ : Mm) {r : Int32} {μ' : Mm} (h : Law_valueFor v0 v1 v2 μ = some (r, μ')) : Wp l SC d (0, 0) mX1_valueFor 0 [some (.ref v0), some (.ref v1), some (.int v2), none] [] μ (Qi SC r μ') := by
  unfold Law_valueFor at h
  refine wp_iconst (nI 0) dX1_valueFor_0 rfl ?_
  refine wp_istore_n (L2 := [some (.ref v0), some (.ref v1), some (.int v2), some (.int (nI 0))]) dX1_valueFor_1 (by decide) rfl rfl ?_
  obtain ⟨x2, hi, h⟩ := bni_some h
  refine okl_Law_valueFor_l2 hd v0 t0 v1 t1 v2 (fun z => z = x2) ?_ ?_ 1000000 ((nI 0), μ) x2 hi rfl
  · intro x2a z2 e0
    have e0 : (Sum.inl x2a) = x2 := e0
    subst e0
    replace h := eL h
    exact ok_Law_valueFor_j45 hd v0 t0 v1 t1 x2a.1 x2a.2 _ h
  · intro x2b z0 z1 z3 e0
    have e0 : (Sum.inr x2b) = x2 := e0
    subst e0
    replace h := eR h
    refine wp_iload_n (x := v2) dX1_valueFor_69 rfl ?_
    obtain ⟨rfl, rfl⟩ := ret2 h
    exact wp_iret rfl dX1_valueFor_70 ⟨rfl, rfl, rfl⟩
theorem ok_Law_copyFrom {l : Launch} {d : Nat} (hd : 2 ≤ d) (v0 : Nat) (t0 : sK SC v0 = 1) (v1 : Nat) (t1 : sK SC v1 = 1) (μ : Mm) {μ' : Mm} (h : Law_copyFrom v0 v1 μ = some μ') : Wp l SC d (0, 0) mX1_copyFrom 0 [some (.ref v0), some (.ref v1)] [] μ (Qv SC μ') := by
  unfold Law_copyFrom at h
  refine wp_aload_n (x := v1) dX1_copyFrom_0 rfl ?_
  refine wp_getR (v1 + 1) fl_X1_9 (by decide) rfl (kltC t1) t1 (ly1_0 t1).1 dX1_copyFrom_1 ?_
  refine wp_iconst (nI 0) dX1_copyFrom_4 rfl ?_
  refine wp_aload_n (x := v0) dX1_copyFrom_5 rfl ?_
  refine wp_getR (v0 + 1) fl_X1_9 (by decide) rfl (kltC t0) t0 (ly1_0 t0).1 dX1_copyFrom_6 ?_
  refine wp_iconst (nI 0) dX1_copyFrom_9 rfl ?_
  refine wp_aload_n (x := v1) dX1_copyFrom_10 rfl ?_
  refine wp_getI fl_X1_27 (by decide) rfl (kltC t1) t1 dX1_copyFrom_11 ?_
  obtain ⟨c1, h⟩ := chc_some h
  obtain ⟨μ1, e1, h⟩ := lt_some h
  refine wp_acopy e1 ac_X1_42 (kltC (ly1_0 t1).2.1) (ly1_0 t1).2.1 (ly1_0 t1).2.2 (kltC (ly1_0 t0).2.1) (ly1_0 t0).2.1 (ly1_0 t0).2.2 c1 (by omega) (Nat.le_of_ble_eq_true rfl) dX1_copyFrom_14 ?_
  refine wp_aload_n (x := v1) dX1_copyFrom_17 rfl ?_
  refine wp_getR (v1 + 2) fl_X1_15 (by decide) rfl (kltC t1) t1 (ly1_1 t1).1 dX1_copyFrom_18 ?_
  refine wp_iconst (nI 0) dX1_copyFrom_21 rfl ?_
  refine wp_aload_n (x := v0) dX1_copyFrom_22 rfl ?_
  refine wp_getR (v0 + 2) fl_X1_15 (by decide) rfl (kltC t0) t0 (ly1_1 t0).1 dX1_copyFrom_23 ?_
  refine wp_iconst (nI 0) dX1_copyFrom_26 rfl ?_
  refine wp_aload_n (x := v1) dX1_copyFrom_27 rfl ?_
  refine wp_getI fl_X1_31 (by decide) rfl (kltC t1) t1 dX1_copyFrom_28 ?_
  obtain ⟨c1, h⟩ := chc_some h
  obtain ⟨μ2, e1, h⟩ := lt_some h
  refine wp_acopy e1 ac_X1_42 (kltC (ly1_1 t1).2.1) (ly1_1 t1).2.1 (ly1_1 t1).2.2 (kltC (ly1_1 t0).2.1) (ly1_1 t0).2.1 (ly1_1 t0).2.2 c1 (by omega) (Nat.le_of_ble_eq_true rfl) dX1_copyFrom_31 ?_
  refine wp_aload_n (x := v1) dX1_copyFrom_34 rfl ?_
  refine wp_getR (v1 + 3) fl_X1_18 (by decide) rfl (kltC t1) t1 (ly1_2 t1).1 dX1_copyFrom_35 ?_
  refine wp_iconst (nI 0) dX1_copyFrom_38 rfl ?_
  refine wp_aload_n (x := v0) dX1_copyFrom_39 rfl ?_
  refine wp_getR (v0 + 3) fl_X1_18 (by decide) rfl (kltC t0) t0 (ly1_2 t0).1 dX1_copyFrom_40 ?_
  refine wp_iconst (nI 0) dX1_copyFrom_43 rfl ?_
  refine wp_aload_n (x := v1) dX1_copyFrom_44 rfl ?_
  refine wp_getI fl_X1_31 (by decide) rfl (kltC t1) t1 dX1_copyFrom_45 ?_
  obtain ⟨c1, h⟩ := chc_some h
  obtain ⟨μ3, e1, h⟩ := lt_some h
  refine wp_acopy e1 ac_X1_42 (kltC (ly1_2 t1).2.1) (ly1_2 t1).2.1 (ly1_2 t1).2.2 (kltC (ly1_2 t0).2.1) (ly1_2 t0).2.1 (ly1_2 t0).2.2 c1 (by omega) (Nat.le_of_ble_eq_true rfl) dX1_copyFrom_48 ?_
  refine wp_aload_n (x := v1) dX1_copyFrom_51 rfl ?_
  refine wp_getR (v1 + 4) fl_X1_21 (by decide) rfl (kltC t1) t1 (ly1_3 t1).1 dX1_copyFrom_52 ?_
  refine wp_iconst (nI 0) dX1_copyFrom_55 rfl ?_
  refine wp_aload_n (x := v0) dX1_copyFrom_56 rfl ?_
  refine wp_getR (v0 + 4) fl_X1_21 (by decide) rfl (kltC t0) t0 (ly1_3 t0).1 dX1_copyFrom_57 ?_
  refine wp_iconst (nI 0) dX1_copyFrom_60 rfl ?_
  refine wp_aload_n (x := v1) dX1_copyFrom_61 rfl ?_
  refine wp_getI fl_X1_31 (by decide) rfl (kltC t1) t1 dX1_copyFrom_62 ?_
  obtain ⟨c1, h⟩ := chc_some h
  obtain ⟨μ4, e1, h⟩ := lt_some h
  refine wp_acopy e1 ac_X1_42 (kltC (ly1_3 t1).2.1) (ly1_3 t1).2.1 (ly1_3 t1).2.2 (kltC (ly1_3 t0).2.1) (ly1_3 t0).2.1 (ly1_3 t0).2.2 c1 (by omega) (Nat.le_of_ble_eq_true rfl) dX1_copyFrom_65 ?_
  refine wp_aload_n (x := v0) dX1_copyFrom_68 rfl ?_
  refine wp_aload_n (x := v1) dX1_copyFrom_69 rfl ?_
  refine wp_getI fl_X1_27 (by decide) rfl (kltC t1) t1 dX1_copyFrom_70 ?_
  obtain ⟨μ5, e1, h⟩ := lt_some h
  refine wp_putIe e1 fl_X1_27 (by decide) rfl (kltC t0) t0 dX1_copyFrom_73 ?_
  refine wp_aload_n (x := v0) dX1_copyFrom_76 rfl ?_
  refine wp_aload_n (x := v1) dX1_copyFrom_77 rfl ?_
  refine wp_getI fl_X1_31 (by decide) rfl (kltC t1) t1 dX1_copyFrom_78 ?_
  obtain ⟨μ6, e1, h⟩ := lt_some h
  refine wp_putIe e1 fl_X1_31 (by decide) rfl (kltC t0) t0 dX1_copyFrom_81 ?_
  obtain rfl := ret1 h
  exact wp_vret rfl dX1_copyFrom_84 ⟨rfl, rfl, rfl⟩
theorem ok_Letters_isFull {l : Launch} {d : Nat} (hd : 1 ≤ d) (v0 : Nat) (t0 : sK SC v0 = 2) (μ : Mm) {r : Int32} (h : Letters_isFull v0 μ = some r) : Wp l SC d (0, 0) mX2_isFull 0 [some (.ref v0)] [] μ (Qi SC r μ) := by
  unfold Letters_isFull at h
  refine wp_aload_n (x := v0) dX2_isFull_0 rfl ?_
  refine wp_getI fl_X2_25 (by decide) rfl (kltC t0) t0 dX2_isFull_1 ?_
  refine wp_aload_n (x := v0) dX2_isFull_4 rfl ?_
  refine wp_getR (v0 + 1) fl_X2_7 (by decide) rfl (kltC t0) t0 (ly2_0 t0).1 dX2_isFull_5 ?_
  refine wp_alene (kltC (ly2_0 t0).2.1) (ly2_0 t0).2.1 rfl dX2_isFull_8 ?_
  refine wp_icmp_lt 16 dX2_isFull_9 (by decide) (fun c1 => ?_) (fun c1 => ?_)
  · rw [if_pos c1] at h
    refine wp_iconst (nI 0) dX2_isFull_16 rfl ?_
    obtain rfl := ret1 h
    exact wp_zret rfl (Or.inl rfl) dX2_isFull_17 ⟨rfl, rfl, rfl⟩
  · rw [if_neg c1] at h
    refine wp_iconst (nI 1) dX2_isFull_12 rfl ?_
    refine wp_goto 17 dX2_isFull_13 (by decide) ?_
    obtain rfl := ret1 h
    exact wp_zret rfl (Or.inr rfl) dX2_isFull_17 ⟨rfl, rfl, rfl⟩
theorem ok_Letters_has {l : Launch} {d : Nat} (hd : 1 ≤ d) (v0 : Nat) (t0 : sK SC v0 = 2) (v1 : Int32)  (μ : Mm) {r : Int32} (h : Letters_has v0 v1 μ = some r) : Wp l SC d (0, 0) mX2_has 0 [some (.ref v0), some (.int v1)] [] μ (Qi SC r μ) := by
  unfold Letters_has at h
  refine wp_iload_n (x := v1) dX2_has_0 rfl ?_
  refine wp_if_lt 16 dX2_has_1 (by decide) (fun c1 => ?_) (fun c1 => ?_)
  · rw [if_pos c1] at h
    refine wp_iconst (nI 0) dX2_has_16 rfl ?_
    obtain rfl := ret1 h
    exact wp_zret rfl (Or.inl rfl) dX2_has_17 ⟨rfl, rfl, rfl⟩
  · rw [if_neg c1] at h
    refine wp_iload_n (x := v1) dX2_has_4 rfl ?_
    refine wp_aload_n (x := v0) dX2_has_5 rfl ?_
    refine wp_getI fl_X2_25 (by decide) rfl (kltC t0) t0 dX2_has_6 ?_
    refine wp_icmp_ge 16 dX2_has_9 (by decide) (fun c1 => ?_) (fun c1 => ?_)
    · rw [if_pos c1] at h
      refine wp_iconst (nI 0) dX2_has_16 rfl ?_
      obtain rfl := ret1 h
      exact wp_zret rfl (Or.inl rfl) dX2_has_17 ⟨rfl, rfl, rfl⟩
    · rw [if_neg c1] at h
      refine wp_iconst (nI 1) dX2_has_12 rfl ?_
      refine wp_goto 17 dX2_has_13 (by decide) ?_
      obtain rfl := ret1 h
      exact wp_zret rfl (Or.inr rfl) dX2_has_17 ⟨rfl, rfl, rfl⟩
theorem ok_Letters_add {l : Launch} {d : Nat} (hd : 2 ≤ d) (v0 : Nat) (t0 : sK SC v0 = 2) (v1 : Int32)  (v2 : Int32)  (v3 : Int32)  (v4 : Int32)  (v5 : Int32)  (μ : Mm) {μ' : Mm} (h : Letters_add v0 v1 v2 v3 v4 v5 μ = some μ') : Wp l SC d (0, 0) mX2_add 0 [some (.ref v0), some (.int v1), some (.int v2), some (.int v3), some (.int v4), some (.int v5)] [] μ (Qv SC μ') := by
  unfold Letters_add at h
  refine wp_aload_n (x := v0) dX2_add_0 rfl ?_
  obtain ⟨r1, g1, h⟩ := bnd_some h
  refine wp_cVi (d := d - 1) (o := v0) cv_X2_29 (kltC t0) t0 (as := []) (rest := []) dX2_add_1 (by omega) cloC rfl rfl (Nat.le_of_ble_eq_true rfl) (Nat.le_of_ble_eq_true rfl) (ok_Letters_isFull (by omega) v0 t0 μ g1) ?_ rfl
  refine wp_if_eq 8 dX2_add_4 (by decide) (fun c1 => ?_) (fun c1 => ?_)
  · rw [if_pos c1] at h
    refine wp_aload_n (x := v0) dX2_add_8 rfl ?_
    refine wp_getR (v0 + 1) fl_X2_7 (by decide) rfl (kltC t0) t0 (ly2_0 t0).1 dX2_add_9 ?_
    refine wp_aload_n (x := v0) dX2_add_12 rfl ?_
    refine wp_getI fl_X2_25 (by decide) rfl (kltC t0) t0 dX2_add_13 ?_
    refine wp_iload_n (x := v1) dX2_add_16 rfl ?_
    obtain ⟨c1, h⟩ := chv_some h
    obtain ⟨μ2, e1, h⟩ := lt_some h
    refine wp_iaste e1 (kltC (ly2_0 t0).2.1) (ly2_0 t0).2.1 rfl c1 dX2_add_17 ?_
    refine wp_aload_n (x := v0) dX2_add_18 rfl ?_
    refine wp_getR (v0 + 2) fl_X2_13 (by decide) rfl (kltC t0) t0 (ly2_1 t0).1 dX2_add_19 ?_
    refine wp_aload_n (x := v0) dX2_add_22 rfl ?_
    refine wp_getI fl_X2_25 (by decide) rfl (kltC t0) t0 dX2_add_23 ?_
    refine wp_iload_n (x := v2) dX2_add_26 rfl ?_
    obtain ⟨c1, h⟩ := chv_some h
    obtain ⟨μ3, e1, h⟩ := lt_some h
    refine wp_iaste e1 (kltC (ly2_1 t0).2.1) (ly2_1 t0).2.1 rfl c1 dX2_add_27 ?_
    refine wp_aload_n (x := v0) dX2_add_28 rfl ?_
    refine wp_getR (v0 + 3) fl_X2_16 (by decide) rfl (kltC t0) t0 (ly2_2 t0).1 dX2_add_29 ?_
    refine wp_aload_n (x := v0) dX2_add_32 rfl ?_
    refine wp_getI fl_X2_25 (by decide) rfl (kltC t0) t0 dX2_add_33 ?_
    refine wp_iload_n (x := v3) dX2_add_36 rfl ?_
    obtain ⟨c1, h⟩ := chv_some h
    obtain ⟨μ4, e1, h⟩ := lt_some h
    refine wp_iaste e1 (kltC (ly2_2 t0).2.1) (ly2_2 t0).2.1 rfl c1 dX2_add_37 ?_
    refine wp_aload_n (x := v0) dX2_add_38 rfl ?_
    refine wp_getR (v0 + 4) fl_X2_19 (by decide) rfl (kltC t0) t0 (ly2_3 t0).1 dX2_add_39 ?_
    refine wp_aload_n (x := v0) dX2_add_42 rfl ?_
    refine wp_getI fl_X2_25 (by decide) rfl (kltC t0) t0 dX2_add_43 ?_
    refine wp_iload (x := v4) dX2_add_46 rfl ?_
    obtain ⟨c1, h⟩ := chv_some h
    obtain ⟨μ5, e1, h⟩ := lt_some h
    refine wp_iaste e1 (kltC (ly2_3 t0).2.1) (ly2_3 t0).2.1 rfl c1 dX2_add_48 ?_
    refine wp_aload_n (x := v0) dX2_add_49 rfl ?_
    refine wp_getR (v0 + 5) fl_X2_22 (by decide) rfl (kltC t0) t0 (ly2_4 t0).1 dX2_add_50 ?_
    refine wp_aload_n (x := v0) dX2_add_53 rfl ?_
    refine wp_getI fl_X2_25 (by decide) rfl (kltC t0) t0 dX2_add_54 ?_
    refine wp_iload (x := v5) dX2_add_57 rfl ?_
    obtain ⟨c1, h⟩ := chv_some h
    obtain ⟨μ6, e1, h⟩ := lt_some h
    refine wp_iaste e1 (kltC (ly2_4 t0).2.1) (ly2_4 t0).2.1 rfl c1 dX2_add_59 ?_
    refine wp_aload_n (x := v0) dX2_add_60 rfl ?_
    refine wp_dup dX2_add_61 rfl ?_
    refine wp_getI fl_X2_25 (by decide) rfl (kltC t0) t0 dX2_add_62 ?_
    refine wp_iconst (nI 1) dX2_add_65 rfl ?_
    refine wp_iadd dX2_add_66 ?_
    obtain ⟨μ7, e1, h⟩ := lt_some h
    refine wp_putIe e1 fl_X2_25 (by decide) rfl (kltC t0) t0 dX2_add_67 ?_
    obtain rfl := ret1 h
    exact wp_vret rfl dX2_add_70 ⟨rfl, rfl, rfl⟩
  · rw [if_neg c1] at h
    obtain rfl := ret1 h
    exact wp_vret rfl dX2_add_7 ⟨rfl, rfl, rfl⟩
theorem ok_Letters_remove {l : Launch} {d : Nat} (hd : 2 ≤ d) (v0 : Nat) (t0 : sK SC v0 = 2) (v1 : Int32)  (μ : Mm) {μ' : Mm} (h : Letters_remove v0 v1 μ = some μ') : Wp l SC d (0, 0) mX2_remove 0 [some (.ref v0), some (.int v1)] [] μ (Qv SC μ') := by
  unfold Letters_remove at h
  refine wp_aload_n (x := v0) dX2_remove_0 rfl ?_
  refine wp_iload_n (x := v1) dX2_remove_1 rfl ?_
  obtain ⟨r1, g1, h⟩ := bnd_some h
  refine wp_cVi (d := d - 1) (o := v0) cv_X2_33 (kltC t0) t0 (as := [.int v1]) (rest := []) dX2_remove_2 (by omega) cloC rfl rfl (Nat.le_of_ble_eq_true rfl) (Nat.le_of_ble_eq_true rfl) (ok_Letters_has (by omega) v0 t0 v1 μ g1) ?_ rfl
  refine wp_if_ne 9 dX2_remove_5 (by decide) (fun c1 => ?_) (fun c1 => ?_)
  · rw [if_neg c1] at h
    refine wp_aload_n (x := v0) dX2_remove_9 rfl ?_
    refine wp_dup dX2_remove_10 rfl ?_
    refine wp_getI fl_X2_25 (by decide) rfl (kltC t0) t0 dX2_remove_11 ?_
    refine wp_iconst (nI 1) dX2_remove_14 rfl ?_
    refine wp_isub dX2_remove_15 ?_
    obtain ⟨μ2, e1, h⟩ := lt_some h
    refine wp_putIe e1 fl_X2_25 (by decide) rfl (kltC t0) t0 dX2_remove_16 ?_
    refine wp_aload_n (x := v0) dX2_remove_19 rfl ?_
    refine wp_getR (v0 + 1) fl_X2_7 (by decide) rfl (kltC t0) t0 (ly2_0 t0).1 dX2_remove_20 ?_
    refine wp_iload_n (x := v1) dX2_remove_23 rfl ?_
    refine wp_iconst (nI 1) dX2_remove_24 rfl ?_
    refine wp_iadd dX2_remove_25 ?_
    refine wp_aload_n (x := v0) dX2_remove_26 rfl ?_
    refine wp_getR (v0 + 1) fl_X2_7 (by decide) rfl (kltC t0) t0 (ly2_0 t0).1 dX2_remove_27 ?_
    refine wp_iload_n (x := v1) dX2_remove_30 rfl ?_
    refine wp_aload_n (x := v0) dX2_remove_31 rfl ?_
    refine wp_getI fl_X2_25 (by decide) rfl (kltC t0) t0 dX2_remove_32 ?_
    refine wp_iload_n (x := v1) dX2_remove_35 rfl ?_
    refine wp_isub dX2_remove_36 ?_
    obtain ⟨c1, h⟩ := chc_some h
    obtain ⟨μ3, e1, h⟩ := lt_some h
    refine wp_acopy e1 ac_X2_37 (kltC (ly2_0 t0).2.1) (ly2_0 t0).2.1 rfl (kltC (ly2_0 t0).2.1) (ly2_0 t0).2.1 rfl c1 (by omega) (Nat.le_of_ble_eq_true rfl) dX2_remove_37 ?_
    refine wp_aload_n (x := v0) dX2_remove_40 rfl ?_
    refine wp_getR (v0 + 2) fl_X2_13 (by decide) rfl (kltC t0) t0 (ly2_1 t0).1 dX2_remove_41 ?_
    refine wp_iload_n (x := v1) dX2_remove_44 rfl ?_
    refine wp_iconst (nI 1) dX2_remove_45 rfl ?_
    refine wp_iadd dX2_remove_46 ?_
    refine wp_aload_n (x := v0) dX2_remove_47 rfl ?_
    refine wp_getR (v0 + 2) fl_X2_13 (by decide) rfl (kltC t0) t0 (ly2_1 t0).1 dX2_remove_48 ?_
    refine wp_iload_n (x := v1) dX2_remove_51 rfl ?_
    refine wp_aload_n (x := v0) dX2_remove_52 rfl ?_
    refine wp_getI fl_X2_25 (by decide) rfl (kltC t0) t0 dX2_remove_53 ?_
    refine wp_iload_n (x := v1) dX2_remove_56 rfl ?_
    refine wp_isub dX2_remove_57 ?_
    obtain ⟨c1, h⟩ := chc_some h
    obtain ⟨μ4, e1, h⟩ := lt_some h
    refine wp_acopy e1 ac_X2_37 (kltC (ly2_1 t0).2.1) (ly2_1 t0).2.1 rfl (kltC (ly2_1 t0).2.1) (ly2_1 t0).2.1 rfl c1 (by omega) (Nat.le_of_ble_eq_true rfl) dX2_remove_58 ?_
    refine wp_aload_n (x := v0) dX2_remove_61 rfl ?_
    refine wp_getR (v0 + 3) fl_X2_16 (by decide) rfl (kltC t0) t0 (ly2_2 t0).1 dX2_remove_62 ?_
    refine wp_iload_n (x := v1) dX2_remove_65 rfl ?_
    refine wp_iconst (nI 1) dX2_remove_66 rfl ?_
    refine wp_iadd dX2_remove_67 ?_
    refine wp_aload_n (x := v0) dX2_remove_68 rfl ?_
    refine wp_getR (v0 + 3) fl_X2_16 (by decide) rfl (kltC t0) t0 (ly2_2 t0).1 dX2_remove_69 ?_
    refine wp_iload_n (x := v1) dX2_remove_72 rfl ?_
    refine wp_aload_n (x := v0) dX2_remove_73 rfl ?_
    refine wp_getI fl_X2_25 (by decide) rfl (kltC t0) t0 dX2_remove_74 ?_
    refine wp_iload_n (x := v1) dX2_remove_77 rfl ?_
    refine wp_isub dX2_remove_78 ?_
    obtain ⟨c1, h⟩ := chc_some h
    obtain ⟨μ5, e1, h⟩ := lt_some h
    refine wp_acopy e1 ac_X2_37 (kltC (ly2_2 t0).2.1) (ly2_2 t0).2.1 rfl (kltC (ly2_2 t0).2.1) (ly2_2 t0).2.1 rfl c1 (by omega) (Nat.le_of_ble_eq_true rfl) dX2_remove_79 ?_
    refine wp_aload_n (x := v0) dX2_remove_82 rfl ?_
    refine wp_getR (v0 + 4) fl_X2_19 (by decide) rfl (kltC t0) t0 (ly2_3 t0).1 dX2_remove_83 ?_
    refine wp_iload_n (x := v1) dX2_remove_86 rfl ?_
    refine wp_iconst (nI 1) dX2_remove_87 rfl ?_
    refine wp_iadd dX2_remove_88 ?_
    refine wp_aload_n (x := v0) dX2_remove_89 rfl ?_
    refine wp_getR (v0 + 4) fl_X2_19 (by decide) rfl (kltC t0) t0 (ly2_3 t0).1 dX2_remove_90 ?_
    refine wp_iload_n (x := v1) dX2_remove_93 rfl ?_
    refine wp_aload_n (x := v0) dX2_remove_94 rfl ?_
    refine wp_getI fl_X2_25 (by decide) rfl (kltC t0) t0 dX2_remove_95 ?_
    refine wp_iload_n (x := v1) dX2_remove_98 rfl ?_
    refine wp_isub dX2_remove_99 ?_
    obtain ⟨c1, h⟩ := chc_some h
    obtain ⟨μ6, e1, h⟩ := lt_some h
    refine wp_acopy e1 ac_X2_37 (kltC (ly2_3 t0).2.1) (ly2_3 t0).2.1 rfl (kltC (ly2_3 t0).2.1) (ly2_3 t0).2.1 rfl c1 (by omega) (Nat.le_of_ble_eq_true rfl) dX2_remove_100 ?_
    refine wp_aload_n (x := v0) dX2_remove_103 rfl ?_
    refine wp_getR (v0 + 5) fl_X2_22 (by decide) rfl (kltC t0) t0 (ly2_4 t0).1 dX2_remove_104 ?_
    refine wp_iload_n (x := v1) dX2_remove_107 rfl ?_
    refine wp_iconst (nI 1) dX2_remove_108 rfl ?_
    refine wp_iadd dX2_remove_109 ?_
    refine wp_aload_n (x := v0) dX2_remove_110 rfl ?_
    refine wp_getR (v0 + 5) fl_X2_22 (by decide) rfl (kltC t0) t0 (ly2_4 t0).1 dX2_remove_111 ?_
    refine wp_iload_n (x := v1) dX2_remove_114 rfl ?_
    refine wp_aload_n (x := v0) dX2_remove_115 rfl ?_
    refine wp_getI fl_X2_25 (by decide) rfl (kltC t0) t0 dX2_remove_116 ?_
    refine wp_iload_n (x := v1) dX2_remove_119 rfl ?_
    refine wp_isub dX2_remove_120 ?_
    obtain ⟨c1, h⟩ := chc_some h
    obtain ⟨μ7, e1, h⟩ := lt_some h
    refine wp_acopy e1 ac_X2_37 (kltC (ly2_4 t0).2.1) (ly2_4 t0).2.1 rfl (kltC (ly2_4 t0).2.1) (ly2_4 t0).2.1 rfl c1 (by omega) (Nat.le_of_ble_eq_true rfl) dX2_remove_121 ?_
    obtain rfl := ret1 h
    exact wp_vret rfl dX2_remove_124 ⟨rfl, rfl, rfl⟩
  · rw [if_pos c1] at h
    obtain rfl := ret1 h
    exact wp_vret rfl dX2_remove_8 ⟨rfl, rfl, rfl⟩
theorem ok_Letters_copyFrom {l : Launch} {d : Nat} (hd : 2 ≤ d) (v0 : Nat) (t0 : sK SC v0 = 2) (v1 : Nat) (t1 : sK SC v1 = 2) (μ : Mm) {μ' : Mm} (h : Letters_copyFrom v0 v1 μ = some μ') : Wp l SC d (0, 0) mX2_copyFrom 0 [some (.ref v0), some (.ref v1)] [] μ (Qv SC μ') := by
  unfold Letters_copyFrom at h
  refine wp_aload_n (x := v1) dX2_copyFrom_0 rfl ?_
  refine wp_getR (v1 + 1) fl_X2_7 (by decide) rfl (kltC t1) t1 (ly2_0 t1).1 dX2_copyFrom_1 ?_
  refine wp_iconst (nI 0) dX2_copyFrom_4 rfl ?_
  refine wp_aload_n (x := v0) dX2_copyFrom_5 rfl ?_
  refine wp_getR (v0 + 1) fl_X2_7 (by decide) rfl (kltC t0) t0 (ly2_0 t0).1 dX2_copyFrom_6 ?_
  refine wp_iconst (nI 0) dX2_copyFrom_9 rfl ?_
  refine wp_aload_n (x := v1) dX2_copyFrom_10 rfl ?_
  refine wp_getI fl_X2_25 (by decide) rfl (kltC t1) t1 dX2_copyFrom_11 ?_
  obtain ⟨c1, h⟩ := chc_some h
  obtain ⟨μ1, e1, h⟩ := lt_some h
  refine wp_acopy e1 ac_X2_37 (kltC (ly2_0 t1).2.1) (ly2_0 t1).2.1 rfl (kltC (ly2_0 t0).2.1) (ly2_0 t0).2.1 rfl c1 (by omega) (Nat.le_of_ble_eq_true rfl) dX2_copyFrom_14 ?_
  refine wp_aload_n (x := v1) dX2_copyFrom_17 rfl ?_
  refine wp_getR (v1 + 2) fl_X2_13 (by decide) rfl (kltC t1) t1 (ly2_1 t1).1 dX2_copyFrom_18 ?_
  refine wp_iconst (nI 0) dX2_copyFrom_21 rfl ?_
  refine wp_aload_n (x := v0) dX2_copyFrom_22 rfl ?_
  refine wp_getR (v0 + 2) fl_X2_13 (by decide) rfl (kltC t0) t0 (ly2_1 t0).1 dX2_copyFrom_23 ?_
  refine wp_iconst (nI 0) dX2_copyFrom_26 rfl ?_
  refine wp_aload_n (x := v1) dX2_copyFrom_27 rfl ?_
  refine wp_getI fl_X2_25 (by decide) rfl (kltC t1) t1 dX2_copyFrom_28 ?_
  obtain ⟨c1, h⟩ := chc_some h
  obtain ⟨μ2, e1, h⟩ := lt_some h
  refine wp_acopy e1 ac_X2_37 (kltC (ly2_1 t1).2.1) (ly2_1 t1).2.1 rfl (kltC (ly2_1 t0).2.1) (ly2_1 t0).2.1 rfl c1 (by omega) (Nat.le_of_ble_eq_true rfl) dX2_copyFrom_31 ?_
  refine wp_aload_n (x := v1) dX2_copyFrom_34 rfl ?_
  refine wp_getR (v1 + 3) fl_X2_16 (by decide) rfl (kltC t1) t1 (ly2_2 t1).1 dX2_copyFrom_35 ?_
  refine wp_iconst (nI 0) dX2_copyFrom_38 rfl ?_
  refine wp_aload_n (x := v0) dX2_copyFrom_39 rfl ?_
  refine wp_getR (v0 + 3) fl_X2_16 (by decide) rfl (kltC t0) t0 (ly2_2 t0).1 dX2_copyFrom_40 ?_
  refine wp_iconst (nI 0) dX2_copyFrom_43 rfl ?_
  refine wp_aload_n (x := v1) dX2_copyFrom_44 rfl ?_
  refine wp_getI fl_X2_25 (by decide) rfl (kltC t1) t1 dX2_copyFrom_45 ?_
  obtain ⟨c1, h⟩ := chc_some h
  obtain ⟨μ3, e1, h⟩ := lt_some h
  refine wp_acopy e1 ac_X2_37 (kltC (ly2_2 t1).2.1) (ly2_2 t1).2.1 rfl (kltC (ly2_2 t0).2.1) (ly2_2 t0).2.1 rfl c1 (by omega) (Nat.le_of_ble_eq_true rfl) dX2_copyFrom_48 ?_
  refine wp_aload_n (x := v1) dX2_copyFrom_51 rfl ?_
  refine wp_getR (v1 + 4) fl_X2_19 (by decide) rfl (kltC t1) t1 (ly2_3 t1).1 dX2_copyFrom_52 ?_
  refine wp_iconst (nI 0) dX2_copyFrom_55 rfl ?_
  refine wp_aload_n (x := v0) dX2_copyFrom_56 rfl ?_
  refine wp_getR (v0 + 4) fl_X2_19 (by decide) rfl (kltC t0) t0 (ly2_3 t0).1 dX2_copyFrom_57 ?_
  refine wp_iconst (nI 0) dX2_copyFrom_60 rfl ?_
  refine wp_aload_n (x := v1) dX2_copyFrom_61 rfl ?_
  refine wp_getI fl_X2_25 (by decide) rfl (kltC t1) t1 dX2_copyFrom_62 ?_
  obtain ⟨c1, h⟩ := chc_some h
  obtain ⟨μ4, e1, h⟩ := lt_some h
  refine wp_acopy e1 ac_X2_37 (kltC (ly2_3 t1).2.1) (ly2_3 t1).2.1 rfl (kltC (ly2_3 t0).2.1) (ly2_3 t0).2.1 rfl c1 (by omega) (Nat.le_of_ble_eq_true rfl) dX2_copyFrom_65 ?_
  refine wp_aload_n (x := v1) dX2_copyFrom_68 rfl ?_
  refine wp_getR (v1 + 5) fl_X2_22 (by decide) rfl (kltC t1) t1 (ly2_4 t1).1 dX2_copyFrom_69 ?_
  refine wp_iconst (nI 0) dX2_copyFrom_72 rfl ?_
  refine wp_aload_n (x := v0) dX2_copyFrom_73 rfl ?_
  refine wp_getR (v0 + 5) fl_X2_22 (by decide) rfl (kltC t0) t0 (ly2_4 t0).1 dX2_copyFrom_74 ?_
  refine wp_iconst (nI 0) dX2_copyFrom_77 rfl ?_
  refine wp_aload_n (x := v1) dX2_copyFrom_78 rfl ?_
  refine wp_getI fl_X2_25 (by decide) rfl (kltC t1) t1 dX2_copyFrom_79 ?_
  obtain ⟨c1, h⟩ := chc_some h
  obtain ⟨μ5, e1, h⟩ := lt_some h
  refine wp_acopy e1 ac_X2_37 (kltC (ly2_4 t1).2.1) (ly2_4 t1).2.1 rfl (kltC (ly2_4 t0).2.1) (ly2_4 t0).2.1 rfl c1 (by omega) (Nat.le_of_ble_eq_true rfl) dX2_copyFrom_82 ?_
  refine wp_aload_n (x := v0) dX2_copyFrom_85 rfl ?_
  refine wp_aload_n (x := v1) dX2_copyFrom_86 rfl ?_
  refine wp_getI fl_X2_25 (by decide) rfl (kltC t1) t1 dX2_copyFrom_87 ?_
  obtain ⟨μ6, e1, h⟩ := lt_some h
  refine wp_putIe e1 fl_X2_25 (by decide) rfl (kltC t0) t0 dX2_copyFrom_90 ?_
  obtain rfl := ret1 h
  exact wp_vret rfl dX2_copyFrom_93 ⟨rfl, rfl, rfl⟩
theorem ok_Person_begin {l : Launch} {d : Nat} (hd : 1 ≤ d) (v0 : Nat) (t0 : sK SC v0 = 3) (v1 : Int32)  (v2 : Int32)  (v3 : Int32)  (μ : Mm) {μ' : Mm} (h : Person_begin v0 v1 v2 v3 μ = some μ') : Wp l SC d (0, 0) mX3_begin 0 [some (.ref v0), some (.int v1), some (.int v2), some (.int v3)] [] μ (Qv SC μ') := by
  unfold Person_begin at h
  refine wp_aload_n (x := v0) dX3_begin_0 rfl ?_
  refine wp_getR (v0 + 1) fl_X3_9 (by decide) rfl (kltC t0) t0 (ly3_0 t0).1 dX3_begin_1 ?_
  refine wp_iconst (nI 0) dX3_begin_4 rfl ?_
  refine wp_iload_n (x := v1) dX3_begin_5 rfl ?_
  obtain ⟨c1, h⟩ := chv_some h
  obtain ⟨μ1, e1, h⟩ := lt_some h
  refine wp_iaste e1 (kltC (ly3_0 t0).2.1) (ly3_0 t0).2.1 (ly3_0 t0).2.2 c1 dX3_begin_6 ?_
  refine wp_aload_n (x := v0) dX3_begin_7 rfl ?_
  refine wp_getR (v0 + 1) fl_X3_9 (by decide) rfl (kltC t0) t0 (ly3_0 t0).1 dX3_begin_8 ?_
  refine wp_iconst (nI 1) dX3_begin_11 rfl ?_
  refine wp_iload_n (x := v2) dX3_begin_12 rfl ?_
  obtain ⟨c1, h⟩ := chv_some h
  obtain ⟨μ2, e1, h⟩ := lt_some h
  refine wp_iaste e1 (kltC (ly3_0 t0).2.1) (ly3_0 t0).2.1 (ly3_0 t0).2.2 c1 dX3_begin_13 ?_
  refine wp_aload_n (x := v0) dX3_begin_14 rfl ?_
  refine wp_getR (v0 + 1) fl_X3_9 (by decide) rfl (kltC t0) t0 (ly3_0 t0).1 dX3_begin_15 ?_
  refine wp_iconst (nI 2) dX3_begin_18 rfl ?_
  refine wp_iload_n (x := v3) dX3_begin_19 rfl ?_
  obtain ⟨c1, h⟩ := chv_some h
  obtain ⟨μ3, e1, h⟩ := lt_some h
  refine wp_iaste e1 (kltC (ly3_0 t0).2.1) (ly3_0 t0).2.1 (ly3_0 t0).2.2 c1 dX3_begin_20 ?_
  refine wp_aload_n (x := v0) dX3_begin_21 rfl ?_
  refine wp_getR (v0 + 1) fl_X3_9 (by decide) rfl (kltC t0) t0 (ly3_0 t0).1 dX3_begin_22 ?_
  refine wp_iconst (nI 3) dX3_begin_25 rfl ?_
  refine wp_iconst (nI 0) dX3_begin_26 rfl ?_
  obtain ⟨c1, h⟩ := chv_some h
  obtain ⟨μ4, e1, h⟩ := lt_some h
  refine wp_iaste e1 (kltC (ly3_0 t0).2.1) (ly3_0 t0).2.1 (ly3_0 t0).2.2 c1 dX3_begin_27 ?_
  refine wp_aload_n (x := v0) dX3_begin_28 rfl ?_
  refine wp_getR (v0 + 1) fl_X3_9 (by decide) rfl (kltC t0) t0 (ly3_0 t0).1 dX3_begin_29 ?_
  refine wp_iconst (nI 4) dX3_begin_32 rfl ?_
  refine wp_iconst (nI 0) dX3_begin_33 rfl ?_
  obtain ⟨c1, h⟩ := chv_some h
  obtain ⟨μ5, e1, h⟩ := lt_some h
  refine wp_iaste e1 (kltC (ly3_0 t0).2.1) (ly3_0 t0).2.1 (ly3_0 t0).2.2 c1 dX3_begin_34 ?_
  refine wp_aload_n (x := v0) dX3_begin_35 rfl ?_
  refine wp_getR (v0 + 1) fl_X3_9 (by decide) rfl (kltC t0) t0 (ly3_0 t0).1 dX3_begin_36 ?_
  refine wp_iconst (nI 5) dX3_begin_39 rfl ?_
  refine wp_iconst (nI 0) dX3_begin_40 rfl ?_
  obtain ⟨c1, h⟩ := chv_some h
  obtain ⟨μ6, e1, h⟩ := lt_some h
  refine wp_iaste e1 (kltC (ly3_0 t0).2.1) (ly3_0 t0).2.1 (ly3_0 t0).2.2 c1 dX3_begin_41 ?_
  refine wp_aload_n (x := v0) dX3_begin_42 rfl ?_
  refine wp_getR (v0 + 3) fl_X3_23 (by decide) rfl (kltC t0) t0 (ly3_2 t0).1 dX3_begin_43 ?_
  refine wp_iconst (nI 0) dX3_begin_46 rfl ?_
  obtain ⟨μ7, e1, h⟩ := lt_some h
  refine wp_putIe e1 fl_X3_27 (by decide) rfl (kltC (ly3_2 t0).2.1) (ly3_2 t0).2.1 dX3_begin_47 ?_
  refine wp_aload_n (x := v0) dX3_begin_50 rfl ?_
  refine wp_iconst (nI 0) dX3_begin_51 rfl ?_
  obtain ⟨μ8, e1, h⟩ := lt_some h
  refine wp_putIe e1 fl_X3_31 (by decide) rfl (kltC t0) t0 dX3_begin_52 ?_
  refine wp_aload_n (x := v0) dX3_begin_55 rfl ?_
  refine wp_iconst (nI 0) dX3_begin_56 rfl ?_
  obtain ⟨μ9, e1, h⟩ := lt_some h
  refine wp_putIe e1 fl_X3_34 (by decide) rfl (kltC t0) t0 dX3_begin_57 ?_
  refine wp_aload_n (x := v0) dX3_begin_60 rfl ?_
  refine wp_iconst (nI 0) dX3_begin_61 rfl ?_
  obtain ⟨μ10, e1, h⟩ := lt_some h
  refine wp_putIe e1 fl_X3_37 (by decide) rfl (kltC t0) t0 dX3_begin_62 ?_
  refine wp_aload_n (x := v0) dX3_begin_65 rfl ?_
  refine wp_lconst 0 dX3_begin_66 rfl ?_
  obtain ⟨μ11, e1, h⟩ := lt_some h
  refine wp_putLe e1 fl_X3_40 (by decide) rfl (kltC t0) t0 dX3_begin_67 ?_
  obtain rfl := ret1 h
  exact wp_vret rfl dX3_begin_70 ⟨rfl, rfl, rfl⟩
theorem ok_Person_isWriting {l : Launch} {d : Nat} (hd : 1 ≤ d) (v0 : Nat) (t0 : sK SC v0 = 3) (μ : Mm) {r : Int32} (h : Person_isWriting v0 μ = some r) : Wp l SC d (0, 0) mX3_isWriting 0 [some (.ref v0)] [] μ (Qi SC r μ) := by
  unfold Person_isWriting at h
  refine wp_aload_n (x := v0) dX3_isWriting_0 rfl ?_
  refine wp_getR (v0 + 1) fl_X3_9 (by decide) rfl (kltC t0) t0 (ly3_0 t0).1 dX3_isWriting_1 ?_
  refine wp_iconst (nI 1) dX3_isWriting_4 rfl ?_
  obtain ⟨c1, h⟩ := chv_some h
  refine wp_ialde (kltC (ly3_0 t0).2.1) (ly3_0 t0).2.1 (ly3_0 t0).2.2 c1 dX3_isWriting_5 ?_
  refine wp_iconst (nI 2) dX3_isWriting_6 rfl ?_
  refine wp_icmp_eq 30 dX3_isWriting_7 (by decide) (fun c1 => ?_) (fun c1 => ?_)
  · rw [if_pos c1] at h
    refine wp_iconst (nI 0) dX3_isWriting_30 rfl ?_
    obtain rfl := ret1 h
    exact wp_zret rfl (Or.inl rfl) dX3_isWriting_31 ⟨rfl, rfl, rfl⟩
  · rw [if_neg c1] at h
    refine wp_aload_n (x := v0) dX3_isWriting_10 rfl ?_
    refine wp_getR (v0 + 1) fl_X3_9 (by decide) rfl (kltC t0) t0 (ly3_0 t0).1 dX3_isWriting_11 ?_
    refine wp_iconst (nI 5) dX3_isWriting_14 rfl ?_
    obtain ⟨c1, h⟩ := chv_some h
    refine wp_ialde (kltC (ly3_0 t0).2.1) (ly3_0 t0).2.1 (ly3_0 t0).2.2 c1 dX3_isWriting_15 ?_
    refine wp_if_ne 30 dX3_isWriting_16 (by decide) (fun c1 => ?_) (fun c1 => ?_)
    · rw [if_neg c1] at h
      refine wp_iconst (nI 0) dX3_isWriting_30 rfl ?_
      obtain rfl := ret1 h
      exact wp_zret rfl (Or.inl rfl) dX3_isWriting_31 ⟨rfl, rfl, rfl⟩
    · rw [if_pos c1] at h
      refine wp_aload_n (x := v0) dX3_isWriting_19 rfl ?_
      refine wp_getI fl_X3_31 (by decide) rfl (kltC t0) t0 dX3_isWriting_20 ?_
      refine wp_if_le 30 dX3_isWriting_23 (by decide) (fun c1 => ?_) (fun c1 => ?_)
      · rw [if_pos c1] at h
        refine wp_iconst (nI 0) dX3_isWriting_30 rfl ?_
        obtain rfl := ret1 h
        exact wp_zret rfl (Or.inl rfl) dX3_isWriting_31 ⟨rfl, rfl, rfl⟩
      · rw [if_neg c1] at h
        refine wp_iconst (nI 1) dX3_isWriting_26 rfl ?_
        refine wp_goto 31 dX3_isWriting_27 (by decide) ?_
        obtain rfl := ret1 h
        exact wp_zret rfl (Or.inr rfl) dX3_isWriting_31 ⟨rfl, rfl, rfl⟩
theorem ok_Person_passesOn {l : Launch} {d : Nat} (hd : 1 ≤ d) (v0 : Nat) (t0 : sK SC v0 = 3) (μ : Mm) {r : Int32} (h : Person_passesOn v0 μ = some r) : Wp l SC d (0, 0) mX3_passesOn 0 [some (.ref v0)] [] μ (Qi SC r μ) := by
  unfold Person_passesOn at h
  refine wp_aload_n (x := v0) dX3_passesOn_0 rfl ?_
  refine wp_getR (v0 + 1) fl_X3_9 (by decide) rfl (kltC t0) t0 (ly3_0 t0).1 dX3_passesOn_1 ?_
  refine wp_iconst (nI 1) dX3_passesOn_4 rfl ?_
  obtain ⟨c1, h⟩ := chv_some h
  refine wp_ialde (kltC (ly3_0 t0).2.1) (ly3_0 t0).2.1 (ly3_0 t0).2.2 c1 dX3_passesOn_5 ?_
  refine wp_if_ne 22 dX3_passesOn_6 (by decide) (fun c1 => ?_) (fun c1 => ?_)
  · rw [if_neg c1] at h
    refine wp_iconst (nI 0) dX3_passesOn_22 rfl ?_
    obtain rfl := ret1 h
    exact wp_zret rfl (Or.inl rfl) dX3_passesOn_23 ⟨rfl, rfl, rfl⟩
  · rw [if_pos c1] at h
    refine wp_aload_n (x := v0) dX3_passesOn_9 rfl ?_
    refine wp_getR (v0 + 1) fl_X3_9 (by decide) rfl (kltC t0) t0 (ly3_0 t0).1 dX3_passesOn_10 ?_
    refine wp_iconst (nI 5) dX3_passesOn_13 rfl ?_
    obtain ⟨c1, h⟩ := chv_some h
    refine wp_ialde (kltC (ly3_0 t0).2.1) (ly3_0 t0).2.1 (ly3_0 t0).2.2 c1 dX3_passesOn_14 ?_
    refine wp_if_ne 22 dX3_passesOn_15 (by decide) (fun c1 => ?_) (fun c1 => ?_)
    · rw [if_neg c1] at h
      refine wp_iconst (nI 0) dX3_passesOn_22 rfl ?_
      obtain rfl := ret1 h
      exact wp_zret rfl (Or.inl rfl) dX3_passesOn_23 ⟨rfl, rfl, rfl⟩
    · rw [if_pos c1] at h
      refine wp_iconst (nI 1) dX3_passesOn_18 rfl ?_
      refine wp_goto 23 dX3_passesOn_19 (by decide) ?_
      obtain rfl := ret1 h
      exact wp_zret rfl (Or.inr rfl) dX3_passesOn_23 ⟨rfl, rfl, rfl⟩
theorem ok_Person_rowSet_l4 {l : Launch} {d : Nat} (hd : 1 ≤ d) (v0 : Nat) (t0 : sK SC v0 = 3) (v1 : Int32)  (v2 : Int32)  (μ : Mm) {Q : Option Value → Sh → Mm → Prop} (K : (Int32 × Int32) ⊕ Int32 → Prop) (hb : ∀ (s : (Int32 × Int32)), K (Sum.inl s) → Wp l SC d (0, 0) mX3_rowSet 4 [some (.ref v0), some (.int s.1), some (.int s.2)] [] μ Q) (he0 : ∀ (x : Int32) (z0 : Option Value) (z2 : Option Value), K (Sum.inr x) → Wp l SC d (0, 0) mX3_rowSet 29 [z0, some (.int x), z2] [] μ Q) {z : (Int32 × Int32) ⊕ Int32} (h : Person_rowSet_l4 v0 v1 v2 μ = some z) (hz : K z) : Wp l SC d (0, 0) mX3_rowSet 4 [some (.ref v0), some (.int v1), some (.int v2)] [] μ Q := by
  unfold Person_rowSet_l4 at h
  refine wp_iload_n (x := v2) dX3_rowSet_4 rfl ?_
  refine wp_aload_n (x := v0) dX3_rowSet_5 rfl ?_
  refine wp_getI fl_X3_31 (by decide) rfl (kltC t0) t0 dX3_rowSet_6 ?_
  refine wp_icmp_ge 29 dX3_rowSet_9 (by decide) (fun c1 => ?_) (fun c1 => ?_)
  · rw [if_pos c1] at h
    obtain rfl := some1 h
    exact he0 v1 _ _ hz
  · rw [if_neg c1] at h
    refine wp_iload_n (x := v1) dX3_rowSet_12 rfl ?_
    refine wp_iconst (nI 1) dX3_rowSet_13 rfl ?_
    refine wp_aload_n (x := v0) dX3_rowSet_14 rfl ?_
    refine wp_getR (v0 + 2) fl_X3_15 (by decide) rfl (kltC t0) t0 (ly3_1 t0).1 dX3_rowSet_15 ?_
    refine wp_iload_n (x := v2) dX3_rowSet_18 rfl ?_
    obtain ⟨c1, h⟩ := chv_some h
    refine wp_ialde (kltC (ly3_1 t0).2.1) (ly3_1 t0).2.1 (ly3_1 t0).2.2 c1 dX3_rowSet_19 ?_
    refine wp_ishl dX3_rowSet_20 ?_
    refine wp_ior dX3_rowSet_21 ?_
    obtain ⟨u1, e1, h⟩ := lt_some h
    rw [← e1]
    refine wp_istore_n (L2 := [some (.ref v0), some (.int u1), some (.int v2)]) dX3_rowSet_22 (by decide) rfl rfl ?_
    refine wp_iinc (x := v2) (k0 := (nI 1)) (L2 := [some (.ref v0), some (.int u1), some (.int (v2 + (nI 1)))]) dX3_rowSet_23 rfl rfl (by decide) rfl rfl ?_
    refine wp_goto 4 dX3_rowSet_26 (by decide) ?_
    obtain rfl := some1 h
    exact hb (u1, (v2 + (nI 1))) hz
theorem okl_Person_rowSet_l4 {l : Launch} {d : Nat} (hd : 1 ≤ d) (v0 : Nat) (t0 : sK SC v0 = 3) (μ : Mm) {Q : Option Value → Sh → Mm → Prop} (K : Int32 → Prop) (he0 : ∀ (x : Int32) (z0 : Option Value) (z2 : Option Value), K x → Wp l SC d (0, 0) mX3_rowSet 29 [z0, some (.int x), z2] [] μ Q) : ∀ (n : Nat) (s : (Int32 × Int32)) (y : Int32) , iter n (fun s => Person_rowSet_l4 v0 s.1 s.2 μ) s = some y → K y → Wp l SC d (0, 0) mX3_rowSet 4 [some (.ref v0), some (.int s.1), some (.int s.2)] [] μ Q := by
  intro n
  induction n with
  | zero => intro s y  h; cases h
  | succ n ih =>
    intro s y  h hK
    obtain ⟨z, hz, hn⟩ := iter_some h
    refine ok_Person_rowSet_l4 hd v0 t0 s.1 s.2 μ (fun z => nxt n (fun s => Person_rowSet_l4 v0 s.1 s.2 μ) z y) ?_ ?_ hz hn
    · intro s2  h2
      exact ih s2 y h2 hK
    · intro x z0 z2 h2
      have h3 : x = y := h2
      subst h3
      exact he0 x _ _ hK
theorem ok_Person_rowSet {l : Launch} {d : Nat} (hd : 1 ≤ d) (v0 : Nat) (t0 : sK SC v0 = 3) (μ : Mm) {r : Int32} (h : Person_rowSet v0 μ = some r) : Wp l SC d (0, 0) mX3_rowSet 0 [some (.ref v0), none, none] [] μ (Qi SC r μ) := by
  unfold Person_rowSet at h
  refine wp_iconst (nI 0) dX3_rowSet_0 rfl ?_
  refine wp_istore_n (L2 := [some (.ref v0), some (.int (nI 0)), none]) dX3_rowSet_1 (by decide) rfl rfl ?_
  refine wp_iconst (nI 0) dX3_rowSet_2 rfl ?_
  refine wp_istore_n (L2 := [some (.ref v0), some (.int (nI 0)), some (.int (nI 0))]) dX3_rowSet_3 (by decide) rfl rfl ?_
  obtain ⟨x4, hi, h⟩ := bni_some h
  refine okl_Person_rowSet_l4 hd v0 t0 μ (fun z => z = x4) ?_ 1000000 ((nI 0), (nI 0)) x4 hi rfl
  · intro y0 z0 z2 e0
    have e0 : y0 = x4 := e0
    subst e0
    refine wp_iload_n (x := y0) dX3_rowSet_29 rfl ?_
    obtain rfl := ret1 h
    exact wp_iret rfl dX3_rowSet_30 ⟨rfl, rfl, rfl⟩
theorem ok_Person_copyFrom {l : Launch} {d : Nat} (hd : 3 ≤ d) (v0 : Nat) (t0 : sK SC v0 = 3) (v1 : Nat) (t1 : sK SC v1 = 3) (μ : Mm) {μ' : Mm} (h : Person_copyFrom v0 v1 μ = some μ') : Wp l SC d (0, 0) mX3_copyFrom 0 [some (.ref v0), some (.ref v1)] [] μ (Qv SC μ') := by
  unfold Person_copyFrom at h
  refine wp_aload_n (x := v1) dX3_copyFrom_0 rfl ?_
  refine wp_getR (v1 + 1) fl_X3_9 (by decide) rfl (kltC t1) t1 (ly3_0 t1).1 dX3_copyFrom_1 ?_
  refine wp_iconst (nI 0) dX3_copyFrom_4 rfl ?_
  refine wp_aload_n (x := v0) dX3_copyFrom_5 rfl ?_
  refine wp_getR (v0 + 1) fl_X3_9 (by decide) rfl (kltC t0) t0 (ly3_0 t0).1 dX3_copyFrom_6 ?_
  refine wp_iconst (nI 0) dX3_copyFrom_9 rfl ?_
  refine wp_aload_n (x := v0) dX3_copyFrom_10 rfl ?_
  refine wp_getR (v0 + 1) fl_X3_9 (by decide) rfl (kltC t0) t0 (ly3_0 t0).1 dX3_copyFrom_11 ?_
  refine wp_alene (kltC (ly3_0 t0).2.1) (ly3_0 t0).2.1 (ly3_0 t0).2.2 dX3_copyFrom_14 ?_
  obtain ⟨c1, h⟩ := chc_some h
  obtain ⟨μ1, e1, h⟩ := lt_some h
  refine wp_acopy e1 ac_X3_44 (kltC (ly3_0 t1).2.1) (ly3_0 t1).2.1 (ly3_0 t1).2.2 (kltC (ly3_0 t0).2.1) (ly3_0 t0).2.1 (ly3_0 t0).2.2 c1 (by omega) (Nat.le_of_ble_eq_true rfl) dX3_copyFrom_15 ?_
  refine wp_aload_n (x := v1) dX3_copyFrom_18 rfl ?_
  refine wp_getR (v1 + 2) fl_X3_15 (by decide) rfl (kltC t1) t1 (ly3_1 t1).1 dX3_copyFrom_19 ?_
  refine wp_iconst (nI 0) dX3_copyFrom_22 rfl ?_
  refine wp_aload_n (x := v0) dX3_copyFrom_23 rfl ?_
  refine wp_getR (v0 + 2) fl_X3_15 (by decide) rfl (kltC t0) t0 (ly3_1 t0).1 dX3_copyFrom_24 ?_
  refine wp_iconst (nI 0) dX3_copyFrom_27 rfl ?_
  refine wp_aload_n (x := v0) dX3_copyFrom_28 rfl ?_
  refine wp_getR (v0 + 2) fl_X3_15 (by decide) rfl (kltC t0) t0 (ly3_1 t0).1 dX3_copyFrom_29 ?_
  refine wp_alene (kltC (ly3_1 t0).2.1) (ly3_1 t0).2.1 (ly3_1 t0).2.2 dX3_copyFrom_32 ?_
  obtain ⟨c1, h⟩ := chc_some h
  obtain ⟨μ2, e1, h⟩ := lt_some h
  refine wp_acopy e1 ac_X3_44 (kltC (ly3_1 t1).2.1) (ly3_1 t1).2.1 (ly3_1 t1).2.2 (kltC (ly3_1 t0).2.1) (ly3_1 t0).2.1 (ly3_1 t0).2.2 c1 (by omega) (Nat.le_of_ble_eq_true rfl) dX3_copyFrom_33 ?_
  refine wp_aload_n (x := v0) dX3_copyFrom_36 rfl ?_
  refine wp_getR (v0 + 3) fl_X3_23 (by decide) rfl (kltC t0) t0 (ly3_2 t0).1 dX3_copyFrom_37 ?_
  refine wp_aload_n (x := v1) dX3_copyFrom_40 rfl ?_
  refine wp_getR (v1 + 3) fl_X3_23 (by decide) rfl (kltC t1) t1 (ly3_2 t1).1 dX3_copyFrom_41 ?_
  obtain ⟨μ3, g1, h⟩ := bnd_some h
  refine wp_cVv (d := d - 1) (o := (v0 + 3)) cv_X3_50 (kltC (ly3_2 t0).2.1) (ly3_2 t0).2.1 (as := [.ref (v1 + 3)]) (rest := []) dX3_copyFrom_44 (by omega) cloC rfl rfl (Nat.le_of_ble_eq_true rfl) (Nat.le_of_ble_eq_true rfl) (ok_Letters_copyFrom (by omega) (v0 + 3) ((ly3_2 t0).2.1) (v1 + 3) ((ly3_2 t1).2.1) μ2 g1) ?_ rfl
  refine wp_aload_n (x := v0) dX3_copyFrom_47 rfl ?_
  refine wp_aload_n (x := v1) dX3_copyFrom_48 rfl ?_
  refine wp_getI fl_X3_31 (by decide) rfl (kltC t1) t1 dX3_copyFrom_49 ?_
  obtain ⟨μ4, e1, h⟩ := lt_some h
  refine wp_putIe e1 fl_X3_31 (by decide) rfl (kltC t0) t0 dX3_copyFrom_52 ?_
  refine wp_aload_n (x := v0) dX3_copyFrom_55 rfl ?_
  refine wp_aload_n (x := v1) dX3_copyFrom_56 rfl ?_
  refine wp_getI fl_X3_34 (by decide) rfl (kltC t1) t1 dX3_copyFrom_57 ?_
  obtain ⟨μ5, e1, h⟩ := lt_some h
  refine wp_putIe e1 fl_X3_34 (by decide) rfl (kltC t0) t0 dX3_copyFrom_60 ?_
  refine wp_aload_n (x := v0) dX3_copyFrom_63 rfl ?_
  refine wp_aload_n (x := v1) dX3_copyFrom_64 rfl ?_
  refine wp_getI fl_X3_37 (by decide) rfl (kltC t1) t1 dX3_copyFrom_65 ?_
  obtain ⟨μ6, e1, h⟩ := lt_some h
  refine wp_putIe e1 fl_X3_37 (by decide) rfl (kltC t0) t0 dX3_copyFrom_68 ?_
  refine wp_aload_n (x := v0) dX3_copyFrom_71 rfl ?_
  refine wp_aload_n (x := v1) dX3_copyFrom_72 rfl ?_
  refine wp_getL fl_X3_40 (by decide) rfl (kltC t1) t1 dX3_copyFrom_73 ?_
  obtain ⟨μ7, e1, h⟩ := lt_some h
  refine wp_putLe e1 fl_X3_40 (by decide) rfl (kltC t0) t0 dX3_copyFrom_76 ?_
  obtain rfl := ret1 h
  exact wp_vret rfl dX3_copyFrom_79 ⟨rfl, rfl, rfl⟩
theorem ok_Picks_canTake_l2 {l : Launch} {d : Nat} (hd : 1 ≤ d) (v0 : Nat) (t0 : sK SC v0 = 4) (v1 : Int32)  (v2 : Int32)  (μ : Mm) {Q : Option Value → Sh → Mm → Prop} (K : Int32 ⊕ (Unit ⊕ Unit) → Prop) (hb : ∀ (s : Int32), K (Sum.inl s) → Wp l SC d (0, 0) mX4_canTake 2 [some (.ref v0), some (.int v1), some (.int s)] [] μ Q) (he0 : ∀ (x : Unit) (z0 : Option Value) (z1 : Option Value) (z2 : Option Value), K (Sum.inr (Sum.inl x)) → Wp l SC d (0, 0) mX4_canTake 20 [z0, z1, z2] [] μ Q) (he1 : ∀ (x : Unit) (z1 : Option Value) (z2 : Option Value), K (Sum.inr (Sum.inr x)) → Wp l SC d (0, 0) mX4_canTake 28 [some (.ref v0), z1, z2] [] μ Q) {z : Int32 ⊕ (Unit ⊕ Unit)} (h : Picks_canTake_l2 v0 v1 v2 μ = some z) (hz : K z) : Wp l SC d (0, 0) mX4_canTake 2 [some (.ref v0), some (.int v1), some (.int v2)] [] μ Q := by
  unfold Picks_canTake_l2 at h
  refine wp_iload_n (x := v2) dX4_canTake_2 rfl ?_
  refine wp_aload_n (x := v0) dX4_canTake_3 rfl ?_
  refine wp_getI fl_X4_15 (by decide) rfl (kltC t0) t0 dX4_canTake_4 ?_
  refine wp_icmp_ge 28 dX4_canTake_7 (by decide) (fun c1 => ?_) (fun c1 => ?_)
  · rw [if_pos c1] at h
    obtain rfl := some1 h
    exact he1 () _ _ hz
  · rw [if_neg c1] at h
    refine wp_aload_n (x := v0) dX4_canTake_10 rfl ?_
    refine wp_getR (v0 + 1) fl_X4_9 (by decide) rfl (kltC t0) t0 (ly4_0 t0).1 dX4_canTake_11 ?_
    refine wp_iload_n (x := v2) dX4_canTake_14 rfl ?_
    obtain ⟨c1, h⟩ := chv_some h
    refine wp_ialde (kltC (ly4_0 t0).2.1) (ly4_0 t0).2.1 (ly4_0 t0).2.2 c1 dX4_canTake_15 ?_
    refine wp_iload_n (x := v1) dX4_canTake_16 rfl ?_
    refine wp_icmp_ne 22 dX4_canTake_17 (by decide) (fun c1 => ?_) (fun c1 => ?_)
    · rw [if_neg c1] at h
      refine wp_iinc (x := v2) (k0 := (nI 1)) (L2 := [some (.ref v0), some (.int v1), some (.int (v2 + (nI 1)))]) dX4_canTake_22 rfl rfl (by decide) rfl rfl ?_
      refine wp_goto 2 dX4_canTake_25 (by decide) ?_
      obtain rfl := some1 h
      exact hb (v2 + (nI 1)) hz
    · rw [if_pos c1] at h
      obtain rfl := some1 h
      exact he0 () _ _ _ hz
theorem okl_Picks_canTake_l2 {l : Launch} {d : Nat} (hd : 1 ≤ d) (v0 : Nat) (t0 : sK SC v0 = 4) (v1 : Int32)  (μ : Mm) {Q : Option Value → Sh → Mm → Prop} (K : (Unit ⊕ Unit) → Prop) (he0 : ∀ (x : Unit) (z0 : Option Value) (z1 : Option Value) (z2 : Option Value), K (Sum.inl x) → Wp l SC d (0, 0) mX4_canTake 20 [z0, z1, z2] [] μ Q) (he1 : ∀ (x : Unit) (z1 : Option Value) (z2 : Option Value), K (Sum.inr x) → Wp l SC d (0, 0) mX4_canTake 28 [some (.ref v0), z1, z2] [] μ Q) : ∀ (n : Nat) (s : Int32) (y : (Unit ⊕ Unit)) , iter n (fun s => Picks_canTake_l2 v0 v1 s μ) s = some y → K y → Wp l SC d (0, 0) mX4_canTake 2 [some (.ref v0), some (.int v1), some (.int s)] [] μ Q := by
  intro n
  induction n with
  | zero => intro s y  h; cases h
  | succ n ih =>
    intro s y  h hK
    obtain ⟨z, hz, hn⟩ := iter_some h
    refine ok_Picks_canTake_l2 hd v0 t0 v1 s μ (fun z => nxt n (fun s => Picks_canTake_l2 v0 v1 s μ) z y) ?_ ?_ ?_ hz hn
    · intro s2  h2
      exact ih s2 y h2 hK
    · intro x z0 z1 z2 h2
      have h3 : (Sum.inl x) = y := h2
      subst h3
      exact he0 x _ _ _ hK
    · intro x z1 z2 h2
      have h3 : (Sum.inr x) = y := h2
      subst h3
      exact he1 x _ _ hK
theorem ok_Picks_canTake {l : Launch} {d : Nat} (hd : 1 ≤ d) (v0 : Nat) (t0 : sK SC v0 = 4) (v1 : Int32)  (μ : Mm) {r : Int32} (h : Picks_canTake v0 v1 μ = some r) : Wp l SC d (0, 0) mX4_canTake 0 [some (.ref v0), some (.int v1), none] [] μ (Qi SC r μ) := by
  unfold Picks_canTake at h
  refine wp_iconst (nI 0) dX4_canTake_0 rfl ?_
  refine wp_istore_n (L2 := [some (.ref v0), some (.int v1), some (.int (nI 0))]) dX4_canTake_1 (by decide) rfl rfl ?_
  obtain ⟨x2, hi, h⟩ := bni_some h
  refine okl_Picks_canTake_l2 hd v0 t0 v1 μ (fun z => z = x2) ?_ ?_ 1000000 (nI 0) x2 hi rfl
  · intro x2a z0 z1 z2 e0
    have e0 : (Sum.inl x2a) = x2 := e0
    subst e0
    replace h := eL h
    refine wp_iconst (nI 0) dX4_canTake_20 rfl ?_
    obtain rfl := ret1 h
    exact wp_zret rfl (Or.inl rfl) dX4_canTake_21 ⟨rfl, rfl, rfl⟩
  · intro x2b z1 z2 e0
    have e0 : (Sum.inr x2b) = x2 := e0
    subst e0
    replace h := eR h
    refine wp_aload_n (x := v0) dX4_canTake_28 rfl ?_
    refine wp_getI fl_X4_15 (by decide) rfl (kltC t0) t0 dX4_canTake_29 ?_
    refine wp_bipush (nI 8) dX4_canTake_32 rfl ?_
    refine wp_icmp_ge 41 dX4_canTake_34 (by decide) (fun c1 => ?_) (fun c1 => ?_)
    · rw [if_pos c1] at h
      refine wp_iconst (nI 0) dX4_canTake_41 rfl ?_
      obtain rfl := ret1 h
      exact wp_zret rfl (Or.inl rfl) dX4_canTake_42 ⟨rfl, rfl, rfl⟩
    · rw [if_neg c1] at h
      refine wp_iconst (nI 1) dX4_canTake_37 rfl ?_
      refine wp_goto 42 dX4_canTake_38 (by decide) ?_
      obtain rfl := ret1 h
      exact wp_zret rfl (Or.inr rfl) dX4_canTake_42 ⟨rfl, rfl, rfl⟩
theorem ok_Picks_take {l : Launch} {d : Nat} (hd : 1 ≤ d) (v0 : Nat) (t0 : sK SC v0 = 4) (v1 : Int32)  (μ : Mm) {μ' : Mm} (h : Picks_take v0 v1 μ = some μ') : Wp l SC d (0, 0) mX4_take 0 [some (.ref v0), some (.int v1)] [] μ (Qv SC μ') := by
  unfold Picks_take at h
  refine wp_aload_n (x := v0) dX4_take_0 rfl ?_
  refine wp_getI fl_X4_15 (by decide) rfl (kltC t0) t0 dX4_take_1 ?_
  refine wp_bipush (nI 8) dX4_take_4 rfl ?_
  refine wp_icmp_ge 29 dX4_take_6 (by decide) (fun c1 => ?_) (fun c1 => ?_)
  · rw [if_pos c1] at h
    obtain rfl := ret1 h
    exact wp_vret rfl dX4_take_29 ⟨rfl, rfl, rfl⟩
  · rw [if_neg c1] at h
    refine wp_aload_n (x := v0) dX4_take_9 rfl ?_
    refine wp_getR (v0 + 1) fl_X4_9 (by decide) rfl (kltC t0) t0 (ly4_0 t0).1 dX4_take_10 ?_
    refine wp_aload_n (x := v0) dX4_take_13 rfl ?_
    refine wp_getI fl_X4_15 (by decide) rfl (kltC t0) t0 dX4_take_14 ?_
    refine wp_iload_n (x := v1) dX4_take_17 rfl ?_
    obtain ⟨c1, h⟩ := chv_some h
    obtain ⟨μ1, e1, h⟩ := lt_some h
    refine wp_iaste e1 (kltC (ly4_0 t0).2.1) (ly4_0 t0).2.1 (ly4_0 t0).2.2 c1 dX4_take_18 ?_
    refine wp_aload_n (x := v0) dX4_take_19 rfl ?_
    refine wp_dup dX4_take_20 rfl ?_
    refine wp_getI fl_X4_15 (by decide) rfl (kltC t0) t0 dX4_take_21 ?_
    refine wp_iconst (nI 1) dX4_take_24 rfl ?_
    refine wp_iadd dX4_take_25 ?_
    obtain ⟨μ2, e1, h⟩ := lt_some h
    refine wp_putIe e1 fl_X4_15 (by decide) rfl (kltC t0) t0 dX4_take_26 ?_
    obtain rfl := ret1 h
    exact wp_vret rfl dX4_take_29 ⟨rfl, rfl, rfl⟩
theorem ok_Picks_keepBelow_j37 {l : Launch} {d : Nat} (hd : 1 ≤ d) (v0 : Nat) (t0 : sK SC v0 = 4) (v1 : Int32)  (v2 : Int32)  (v3 : Int32)  (μ : Mm) {Q : Option Value → Sh → Mm → Prop} (K : (Int32 × Int32 × Mm) ⊕ (Int32 × Mm) → Prop) (hb : ∀ (s : (Int32 × Int32 × Mm)), K (Sum.inl s) → Wp l SC d (0, 0) mX4_keepBelow 4 [some (.ref v0), some (.int v1), some (.int s.1), some (.int s.2.1)] [] s.2.2 Q) (he0 : ∀ (x : (Int32 × Mm)) (z1 : Option Value) (z3 : Option Value), K (Sum.inr x) → Wp l SC d (0, 0) mX4_keepBelow 43 [some (.ref v0), z1, some (.int x.1), z3] [] x.2 Q) {z : (Int32 × Int32 × Mm) ⊕ (Int32 × Mm)} (h : Picks_keepBelow_j37 v0 v1 v2 v3 μ = some z) (hz : K z) : Wp l SC d (0, 0) mX4_keepBelow 37 [some (.ref v0), some (.int v1), some (.int v2), some (.int v3)] [] μ Q := by
  unfold Picks_keepBelow_j37 at h
  refine wp_iinc (x := v3) (k0 := (nI 1)) (L2 := [some (.ref v0), some (.int v1), some (.int v2), some (.int (v3 + (nI 1)))]) dX4_keepBelow_37 rfl rfl (by decide) rfl rfl ?_
  refine wp_goto 4 dX4_keepBelow_40 (by decide) ?_
  obtain rfl := some1 h
  exact hb (v2, (v3 + (nI 1)), μ) hz
theorem ok_Picks_keepBelow_l4 {l : Launch} {d : Nat} (hd : 1 ≤ d) (v0 : Nat) (t0 : sK SC v0 = 4) (v1 : Int32)  (v2 : Int32)  (v3 : Int32)  (μ : Mm) {Q : Option Value → Sh → Mm → Prop} (K : (Int32 × Int32 × Mm) ⊕ (Int32 × Mm) → Prop) (hb : ∀ (s : (Int32 × Int32 × Mm)), K (Sum.inl s) → Wp l SC d (0, 0) mX4_keepBelow 4 [some (.ref v0), some (.int v1), some (.int s.1), some (.int s.2.1)] [] s.2.2 Q) (he0 : ∀ (x : (Int32 × Mm)) (z1 : Option Value) (z3 : Option Value), K (Sum.inr x) → Wp l SC d (0, 0) mX4_keepBelow 43 [some (.ref v0), z1, some (.int x.1), z3] [] x.2 Q) {z : (Int32 × Int32 × Mm) ⊕ (Int32 × Mm)} (h : Picks_keepBelow_l4 v0 v1 v2 v3 μ = some z) (hz : K z) : Wp l SC d (0, 0) mX4_keepBelow 4 [some (.ref v0), some (.int v1), some (.int v2), some (.int v3)] [] μ Q := by
  unfold Picks_keepBelow_l4 at h
  refine wp_iload_n (x := v3) dX4_keepBelow_4 rfl ?_
  refine wp_aload_n (x := v0) dX4_keepBelow_5 rfl ?_
  refine wp_getI fl_X4_15 (by decide) rfl (kltC t0) t0 dX4_keepBelow_6 ?_
  refine wp_icmp_ge 43 dX4_keepBelow_9 (by decide) (fun c1 => ?_) (fun c1 => ?_)
  · rw [if_pos c1] at h
    obtain rfl := some1 h
    exact he0 (v2, μ) _ _ hz
  · rw [if_neg c1] at h
    refine wp_aload_n (x := v0) dX4_keepBelow_12 rfl ?_
    refine wp_getR (v0 + 1) fl_X4_9 (by decide) rfl (kltC t0) t0 (ly4_0 t0).1 dX4_keepBelow_13 ?_
    refine wp_iload_n (x := v3) dX4_keepBelow_16 rfl ?_
    obtain ⟨c1, h⟩ := chv_some h
    refine wp_ialde (kltC (ly4_0 t0).2.1) (ly4_0 t0).2.1 (ly4_0 t0).2.2 c1 dX4_keepBelow_17 ?_
    refine wp_iload_n (x := v1) dX4_keepBelow_18 rfl ?_
    refine wp_icmp_ge 37 dX4_keepBelow_19 (by decide) (fun c1 => ?_) (fun c1 => ?_)
    · rw [if_pos c1] at h
      exact ok_Picks_keepBelow_j37 hd v0 t0 v1 v2 v3 μ K hb he0 h hz
    · rw [if_neg c1] at h
      refine wp_aload_n (x := v0) dX4_keepBelow_22 rfl ?_
      refine wp_getR (v0 + 1) fl_X4_9 (by decide) rfl (kltC t0) t0 (ly4_0 t0).1 dX4_keepBelow_23 ?_
      refine wp_iload_n (x := v2) dX4_keepBelow_26 rfl ?_
      refine wp_aload_n (x := v0) dX4_keepBelow_27 rfl ?_
      refine wp_getR (v0 + 1) fl_X4_9 (by decide) rfl (kltC t0) t0 (ly4_0 t0).1 dX4_keepBelow_28 ?_
      refine wp_iload_n (x := v3) dX4_keepBelow_31 rfl ?_
      obtain ⟨c1, h⟩ := chv_some h
      refine wp_ialde (kltC (ly4_0 t0).2.1) (ly4_0 t0).2.1 (ly4_0 t0).2.2 c1 dX4_keepBelow_32 ?_
      obtain ⟨c1, h⟩ := chv_some h
      obtain ⟨μ1, e1, h⟩ := lt_some h
      refine wp_iaste e1 (kltC (ly4_0 t0).2.1) (ly4_0 t0).2.1 (ly4_0 t0).2.2 c1 dX4_keepBelow_33 ?_
      refine wp_iinc (x := v2) (k0 := (nI 1)) (L2 := [some (.ref v0), some (.int v1), some (.int (v2 + (nI 1))), some (.int v3)]) dX4_keepBelow_34 rfl rfl (by decide) rfl rfl ?_
      exact ok_Picks_keepBelow_j37 hd v0 t0 v1 (v2 + (nI 1)) v3 μ1 K hb he0 h hz
theorem okl_Picks_keepBelow_l4 {l : Launch} {d : Nat} (hd : 1 ≤ d) (v0 : Nat) (t0 : sK SC v0 = 4) (v1 : Int32)  {Q : Option Value → Sh → Mm → Prop} (K : (Int32 × Mm) → Prop) (he0 : ∀ (x : (Int32 × Mm)) (z1 : Option Value) (z3 : Option Value), K x → Wp l SC d (0, 0) mX4_keepBelow 43 [some (.ref v0), z1, some (.int x.1), z3] [] x.2 Q) : ∀ (n : Nat) (s : (Int32 × Int32 × Mm)) (y : (Int32 × Mm)) , iter n (fun s => Picks_keepBelow_l4 v0 v1 s.1 s.2.1 s.2.2) s = some y → K y → Wp l SC d (0, 0) mX4_keepBelow 4 [some (.ref v0), some (.int v1), some (.int s.1), some (.int s.2.1)] [] s.2.2 Q := by
  intro n
  induction n with
  | zero => intro s y  h; cases h
  | succ n ih =>
    intro s y  h hK
    obtain ⟨z, hz, hn⟩ := iter_some h
    refine ok_Picks_keepBelow_l4 hd v0 t0 v1 s.1 s.2.1 s.2.2 (fun z => nxt n (fun s => Picks_keepBelow_l4 v0 v1 s.1 s.2.1 s.2.2) z y) ?_ ?_ hz hn
    · intro s2  h2
      exact ih s2 y h2 hK
    · intro x z1 z3 h2
      have h3 : x = y := h2
      subst h3
      exact he0 x _ _ hK
theorem ok_Picks_keepBelow {l : Launch} {d : Nat} (hd : 1 ≤ d) (v0 : Nat) (t0 : sK SC v0 = 4) (v1 : Int32)  (μ : Mm) {μ' : Mm} (h : Picks_keepBelow v0 v1 μ = some μ') : Wp l SC d (0, 0) mX4_keepBelow 0 [some (.ref v0), some (.int v1), none, none] [] μ (Qv SC μ') := by
  unfold Picks_keepBelow at h
  refine wp_iconst (nI 0) dX4_keepBelow_0 rfl ?_
  refine wp_istore_n (L2 := [some (.ref v0), some (.int v1), some (.int (nI 0)), none]) dX4_keepBelow_1 (by decide) rfl rfl ?_
  refine wp_iconst (nI 0) dX4_keepBelow_2 rfl ?_
  refine wp_istore_n (L2 := [some (.ref v0), some (.int v1), some (.int (nI 0)), some (.int (nI 0))]) dX4_keepBelow_3 (by decide) rfl rfl ?_
  obtain ⟨x4, hi, h⟩ := bni_some h
  refine okl_Picks_keepBelow_l4 hd v0 t0 v1 (fun z => z = x4) ?_ 1000000 ((nI 0), (nI 0), μ) x4 hi rfl
  · intro y0 z1 z3 e0
    have e0 : y0 = x4 := e0
    subst e0
    refine wp_aload_n (x := v0) dX4_keepBelow_43 rfl ?_
    refine wp_iload_n (x := y0.1) dX4_keepBelow_44 rfl ?_
    obtain ⟨μ2, e1, h⟩ := lt_some h
    refine wp_putIe e1 fl_X4_15 (by decide) rfl (kltC t0) t0 dX4_keepBelow_45 ?_
    obtain rfl := ret1 h
    exact wp_vret rfl dX4_keepBelow_48 ⟨rfl, rfl, rfl⟩
theorem ok_Nine_hasBit {l : Launch} {d : Nat} (hd : 1 ≤ d) (v0 : Int32)  (v1 : Int32)  (μ : Mm) {r : Int32} (h : Nine_hasBit v0 v1 = some r) : Wp l SC d (0, 0) mX10_hasBit 0 [some (.int v0), some (.int v1)] [] μ (Qi SC r μ) := by
  unfold Nine_hasBit at h
  refine wp_iload_n (x := v0) dX10_hasBit_0 rfl ?_
  refine wp_iload_n (x := v1) dX10_hasBit_1 rfl ?_
  refine wp_ishr dX10_hasBit_2 ?_
  refine wp_iconst (nI 1) dX10_hasBit_3 rfl ?_
  refine wp_iand dX10_hasBit_4 ?_
  refine wp_iconst (nI 1) dX10_hasBit_5 rfl ?_
  refine wp_icmp_ne 13 dX10_hasBit_6 (by decide) (fun c1 => ?_) (fun c1 => ?_)
  · rw [if_neg c1] at h
    refine wp_iconst (nI 0) dX10_hasBit_13 rfl ?_
    obtain rfl := ret1 h
    exact wp_zret rfl (Or.inl rfl) dX10_hasBit_14 ⟨rfl, rfl, rfl⟩
  · rw [if_pos c1] at h
    refine wp_iconst (nI 1) dX10_hasBit_9 rfl ?_
    refine wp_goto 14 dX10_hasBit_10 (by decide) ?_
    obtain rfl := ret1 h
    exact wp_zret rfl (Or.inr rfl) dX10_hasBit_14 ⟨rfl, rfl, rfl⟩
theorem ok_JI_bitCount {l : Launch} {S : Sh} (hS : ∀ x, sK S x < 15 → x < sN S) {d : Nat} (hd : 1 ≤ d) (v0 : Int32)  (μ : Mm) {r : Int32} (h : JI_bitCount v0 = some r) : Wp l S d (0, 0) mJ6_bitCount_0f7a4 0 [some (.int v0)] [] μ (Qi S r μ) := by
  unfold JI_bitCount at h
  refine wp_iload_n (x := v0) dJ6_bitCount_0f7a4_0 rfl ?_
  refine wp_iload_n (x := v0) dJ6_bitCount_0f7a4_1 rfl ?_
  refine wp_iconst (nI 1) dJ6_bitCount_0f7a4_2 rfl ?_
  refine wp_iushr dJ6_bitCount_0f7a4_3 ?_
  refine wp_ldcw (v := (nI 1431655765)) dJ6_bitCount_0f7a4_4 kc_J6_265 ?_
  refine wp_iand dJ6_bitCount_0f7a4_7 ?_
  refine wp_isub dJ6_bitCount_0f7a4_8 ?_
  obtain ⟨u1, e1, h⟩ := lt_some h
  rw [← e1]
  refine wp_istore_n (L2 := [some (.int u1)]) dJ6_bitCount_0f7a4_9 (by decide) rfl rfl ?_
  refine wp_iload_n (x := u1) dJ6_bitCount_0f7a4_10 rfl ?_
  refine wp_ldcw (v := (nI 858993459)) dJ6_bitCount_0f7a4_11 kc_J6_266 ?_
  refine wp_iand dJ6_bitCount_0f7a4_14 ?_
  refine wp_iload_n (x := u1) dJ6_bitCount_0f7a4_15 rfl ?_
  refine wp_iconst (nI 2) dJ6_bitCount_0f7a4_16 rfl ?_
  refine wp_iushr dJ6_bitCount_0f7a4_17 ?_
  refine wp_ldcw (v := (nI 858993459)) dJ6_bitCount_0f7a4_18 kc_J6_266 ?_
  refine wp_iand dJ6_bitCount_0f7a4_21 ?_
  refine wp_iadd dJ6_bitCount_0f7a4_22 ?_
  obtain ⟨u2, e1, h⟩ := lt_some h
  rw [← e1]
  refine wp_istore_n (L2 := [some (.int u2)]) dJ6_bitCount_0f7a4_23 (by decide) rfl rfl ?_
  refine wp_iload_n (x := u2) dJ6_bitCount_0f7a4_24 rfl ?_
  refine wp_iload_n (x := u2) dJ6_bitCount_0f7a4_25 rfl ?_
  refine wp_iconst (nI 4) dJ6_bitCount_0f7a4_26 rfl ?_
  refine wp_iushr dJ6_bitCount_0f7a4_27 ?_
  refine wp_iadd dJ6_bitCount_0f7a4_28 ?_
  refine wp_ldcw (v := (nI 252645135)) dJ6_bitCount_0f7a4_29 kc_J6_267 ?_
  refine wp_iand dJ6_bitCount_0f7a4_32 ?_
  refine wp_istore_n (L2 := [some (.int ((u2 + (ushr u2 (nI 4))) &&& (nI 252645135)))]) dJ6_bitCount_0f7a4_33 (by decide) rfl rfl ?_
  refine wp_iload_n (x := ((u2 + (ushr u2 (nI 4))) &&& (nI 252645135))) dJ6_bitCount_0f7a4_34 rfl ?_
  refine wp_iload_n (x := ((u2 + (ushr u2 (nI 4))) &&& (nI 252645135))) dJ6_bitCount_0f7a4_35 rfl ?_
  refine wp_bipush (nI 8) dJ6_bitCount_0f7a4_36 rfl ?_
  refine wp_iushr dJ6_bitCount_0f7a4_38 ?_
  refine wp_iadd dJ6_bitCount_0f7a4_39 ?_
  obtain ⟨u3, e1, h⟩ := lt_some h
  rw [← e1]
  refine wp_istore_n (L2 := [some (.int u3)]) dJ6_bitCount_0f7a4_40 (by decide) rfl rfl ?_
  refine wp_iload_n (x := u3) dJ6_bitCount_0f7a4_41 rfl ?_
  refine wp_iload_n (x := u3) dJ6_bitCount_0f7a4_42 rfl ?_
  refine wp_bipush (nI 16) dJ6_bitCount_0f7a4_43 rfl ?_
  refine wp_iushr dJ6_bitCount_0f7a4_45 ?_
  refine wp_iadd dJ6_bitCount_0f7a4_46 ?_
  refine wp_istore_n (L2 := [some (.int (u3 + (ushr u3 (nI 16))))]) dJ6_bitCount_0f7a4_47 (by decide) rfl rfl ?_
  refine wp_iload_n (x := (u3 + (ushr u3 (nI 16)))) dJ6_bitCount_0f7a4_48 rfl ?_
  refine wp_bipush (nI 63) dJ6_bitCount_0f7a4_49 rfl ?_
  refine wp_iand dJ6_bitCount_0f7a4_51 ?_
  obtain rfl := ret1 h
  exact wp_iret rfl dJ6_bitCount_0f7a4_52 ⟨rfl, rfl, rfl⟩
theorem ok_Picks_nearness_j63 {l : Launch} {d : Nat} (hd : 2 ≤ d) (v0 : Nat) (t0 : sK SC v0 = 4) (v1 : Nat) (t1 : sK SC v1 = 8) (v2 : Int32)  (v3 : Int32)  (v4 : Int32)  (v5 : Int32)  (μ : Mm) (z6 : Option Value) {Q : Option Value → Sh → Mm → Prop} (K : (Int32 × Int32) ⊕ Int32 → Prop) (hb : ∀ (s : (Int32 × Int32)) (z6 : Option Value), K (Sum.inl s) → Wp l SC d (0, 0) mX4_nearness 7 [some (.ref v0), some (.ref v1), some (.int v2), some (.int v3), some (.int s.1), some (.int s.2), z6] [] μ Q) (he0 : ∀ (x : Int32) (z0 : Option Value) (z1 : Option Value) (z2 : Option Value) (z3 : Option Value) (z5 : Option Value) (z6 : Option Value), K (Sum.inr x) → Wp l SC d (0, 0) mX4_nearness 69 [z0, z1, z2, z3, some (.int x), z5, z6] [] μ Q) {z : (Int32 × Int32) ⊕ Int32} (h : Picks_nearness_j63 v0 v1 v2 v3 v4 v5 μ = some z) (hz : K z) : Wp l SC d (0, 0) mX4_nearness 63 [some (.ref v0), some (.ref v1), some (.int v2), some (.int v3), some (.int v4), some (.int v5), z6] [] μ Q := by
  unfold Picks_nearness_j63 at h
  refine wp_iinc (x := v5) (k0 := (nI 1)) (L2 := [some (.ref v0), some (.ref v1), some (.int v2), some (.int v3), some (.int v4), some (.int (v5 + (nI 1))), z6]) dX4_nearness_63 rfl rfl (by decide) rfl rfl ?_
  refine wp_goto 7 dX4_nearness_66 (by decide) ?_
  obtain rfl := some1 h
  exact hb (v4, (v5 + (nI 1))) _ hz
theorem ok_Picks_nearness_l7 {l : Launch} {d : Nat} (hd : 2 ≤ d) (v0 : Nat) (t0 : sK SC v0 = 4) (v1 : Nat) (t1 : sK SC v1 = 8) (v2 : Int32)  (v3 : Int32)  (v4 : Int32)  (v5 : Int32)  (μ : Mm) (z6 : Option Value) {Q : Option Value → Sh → Mm → Prop} (K : (Int32 × Int32) ⊕ Int32 → Prop) (hb : ∀ (s : (Int32 × Int32)) (z6 : Option Value), K (Sum.inl s) → Wp l SC d (0, 0) mX4_nearness 7 [some (.ref v0), some (.ref v1), some (.int v2), some (.int v3), some (.int s.1), some (.int s.2), z6] [] μ Q) (he0 : ∀ (x : Int32) (z0 : Option Value) (z1 : Option Value) (z2 : Option Value) (z3 : Option Value) (z5 : Option Value) (z6 : Option Value), K (Sum.inr x) → Wp l SC d (0, 0) mX4_nearness 69 [z0, z1, z2, z3, some (.int x), z5, z6] [] μ Q) {z : (Int32 × Int32) ⊕ Int32} (h : Picks_nearness_l7 v0 v1 v2 v3 v4 v5 μ = some z) (hz : K z) : Wp l SC d (0, 0) mX4_nearness 7 [some (.ref v0), some (.ref v1), some (.int v2), some (.int v3), some (.int v4), some (.int v5), z6] [] μ Q := by
  unfold Picks_nearness_l7 at h
  refine wp_iload (x := v5) dX4_nearness_7 rfl ?_
  refine wp_aload_n (x := v0) dX4_nearness_9 rfl ?_
  refine wp_getI fl_X4_15 (by decide) rfl (kltC t0) t0 dX4_nearness_10 ?_
  refine wp_icmp_ge 69 dX4_nearness_13 (by decide) (fun c1 => ?_) (fun c1 => ?_)
  · rw [if_pos c1] at h
    obtain rfl := some1 h
    exact he0 v4 _ _ _ _ _ _ hz
  · rw [if_neg c1] at h
    refine wp_iload_n (x := v2) dX4_nearness_16 rfl ?_
    refine wp_iload (x := v5) dX4_nearness_17 rfl ?_
    obtain ⟨r1, g1, h⟩ := bnd_some h
    refine wp_cNi (d := d - 1) cs_X4_19 (as := [.int v2, .int v5]) (rest := []) dX4_nearness_19 (by omega) cloC rfl rfl (Nat.le_of_ble_eq_true rfl) (Nat.le_of_ble_eq_true rfl) (ok_Nine_hasBit (by omega) v2 v5 μ g1) ?_ rfl
    refine wp_if_eq 63 dX4_nearness_22 (by decide) (fun c1 => ?_) (fun c1 => ?_)
    · rw [if_pos c1] at h
      exact ok_Picks_nearness_j63 hd v0 t0 v1 t1 v2 v3 v4 v5 μ _ K hb he0 h hz
    · rw [if_neg c1] at h
      refine wp_aload_n (x := v1) dX4_nearness_25 rfl ?_
      refine wp_getR (v1 + 2) fl_X4_27 (by decide) rfl (kltC t1) t1 (ly8_1 t1).1 dX4_nearness_26 ?_
      refine wp_aload_n (x := v0) dX4_nearness_29 rfl ?_
      refine wp_getR (v0 + 1) fl_X4_9 (by decide) rfl (kltC t0) t0 (ly4_0 t0).1 dX4_nearness_30 ?_
      refine wp_iload_n (x := v3) dX4_nearness_33 rfl ?_
      obtain ⟨c1, h⟩ := chv_some h
      refine wp_ialde (kltC (ly4_0 t0).2.1) (ly4_0 t0).2.1 (ly4_0 t0).2.2 c1 dX4_nearness_34 ?_
      obtain ⟨c1, h⟩ := chv_some h
      refine wp_ialde (kltC (ly8_1 t1).2.1) (ly8_1 t1).2.1 (ly8_1 t1).2.2 c1 dX4_nearness_35 ?_
      refine wp_aload_n (x := v1) dX4_nearness_36 rfl ?_
      refine wp_getR (v1 + 2) fl_X4_27 (by decide) rfl (kltC t1) t1 (ly8_1 t1).1 dX4_nearness_37 ?_
      refine wp_aload_n (x := v0) dX4_nearness_40 rfl ?_
      refine wp_getR (v0 + 1) fl_X4_9 (by decide) rfl (kltC t0) t0 (ly4_0 t0).1 dX4_nearness_41 ?_
      refine wp_iload (x := v5) dX4_nearness_44 rfl ?_
      obtain ⟨c1, h⟩ := chv_some h
      refine wp_ialde (kltC (ly4_0 t0).2.1) (ly4_0 t0).2.1 (ly4_0 t0).2.2 c1 dX4_nearness_46 ?_
      obtain ⟨c1, h⟩ := chv_some h
      refine wp_ialde (kltC (ly8_1 t1).2.1) (ly8_1 t1).2.1 (ly8_1 t1).2.2 c1 dX4_nearness_47 ?_
      refine wp_ixor dX4_nearness_48 ?_
      obtain ⟨u2, e1, h⟩ := lt_some h
      rw [← e1]
      refine wp_istore (L2 := [some (.ref v0), some (.ref v1), some (.int v2), some (.int v3), some (.int v4), some (.int v5), some (.int u2)]) dX4_nearness_49 (by decide) rfl rfl ?_
      refine wp_iload (x := v4) dX4_nearness_51 rfl ?_
      refine wp_iload (x := u2) dX4_nearness_53 rfl ?_
      obtain ⟨r3, g1, h⟩ := bnd_some h
      refine wp_cSi (d := d - 1) cs_X4_32 (as := [.int u2]) (rest := [.int v4]) dX4_nearness_55 (by omega) cloC rfl rfl (Nat.le_of_ble_eq_true rfl) (Nat.le_of_ble_eq_true rfl) (ok_JI_bitCount wfC (by omega) u2 μ g1) ?_ rfl
      refine wp_mmin mm_X4_38 (by omega) (Nat.le_of_ble_eq_true rfl) dX4_nearness_58 ?_
      refine wp_istore (L2 := [some (.ref v0), some (.ref v1), some (.int v2), some (.int v3), some (.int (jmin v4 r3)), some (.int v5), some (.int u2)]) dX4_nearness_61 (by decide) rfl rfl ?_
      exact ok_Picks_nearness_j63 hd v0 t0 v1 t1 v2 v3 (jmin v4 r3) v5 μ _ K hb he0 h hz
theorem okl_Picks_nearness_l7 {l : Launch} {d : Nat} (hd : 2 ≤ d) (v0 : Nat) (t0 : sK SC v0 = 4) (v1 : Nat) (t1 : sK SC v1 = 8) (v2 : Int32)  (v3 : Int32)  (μ : Mm) {Q : Option Value → Sh → Mm → Prop} (K : Int32 → Prop) (he0 : ∀ (x : Int32) (z0 : Option Value) (z1 : Option Value) (z2 : Option Value) (z3 : Option Value) (z5 : Option Value) (z6 : Option Value), K x → Wp l SC d (0, 0) mX4_nearness 69 [z0, z1, z2, z3, some (.int x), z5, z6] [] μ Q) : ∀ (n : Nat) (s : (Int32 × Int32)) (y : Int32) (z6 : Option Value) , iter n (fun s => Picks_nearness_l7 v0 v1 v2 v3 s.1 s.2 μ) s = some y → K y → Wp l SC d (0, 0) mX4_nearness 7 [some (.ref v0), some (.ref v1), some (.int v2), some (.int v3), some (.int s.1), some (.int s.2), z6] [] μ Q := by
  intro n
  induction n with
  | zero => intro s y z6 h; cases h
  | succ n ih =>
    intro s y z6 h hK
    obtain ⟨z, hz, hn⟩ := iter_some h
    refine ok_Picks_nearness_l7 hd v0 t0 v1 t1 v2 v3 s.1 s.2 μ _ (fun z => nxt n (fun s => Picks_nearness_l7 v0 v1 v2 v3 s.1 s.2 μ) z y) ?_ ?_ hz hn
    · intro s2 z6 h2
      exact ih s2 y _ h2 hK
    · intro x z0 z1 z2 z3 z5 z6 h2
      have h3 : x = y := h2
      subst h3
      exact he0 x _ _ _ _ _ _ hK
theorem ok_Picks_nearness {l : Launch} {d : Nat} (hd : 2 ≤ d) (v0 : Nat) (t0 : sK SC v0 = 4) (v1 : Nat) (t1 : sK SC v1 = 8) (v2 : Int32)  (v3 : Int32)  (μ : Mm) {r : Int32} (h : Picks_nearness v0 v1 v2 v3 μ = some r) : Wp l SC d (0, 0) mX4_nearness 0 [some (.ref v0), some (.ref v1), some (.int v2), some (.int v3), none, none, none] [] μ (Qi SC r μ) := by
  unfold Picks_nearness at h
  refine wp_bipush (nI 10) dX4_nearness_0 rfl ?_
  refine wp_istore (L2 := [some (.ref v0), some (.ref v1), some (.int v2), some (.int v3), some (.int (nI 10)), none, none]) dX4_nearness_2 (by decide) rfl rfl ?_
  refine wp_iconst (nI 0) dX4_nearness_4 rfl ?_
  refine wp_istore (L2 := [some (.ref v0), some (.ref v1), some (.int v2), some (.int v3), some (.int (nI 10)), some (.int (nI 0)), none]) dX4_nearness_5 (by decide) rfl rfl ?_
  obtain ⟨x7, hi, h⟩ := bni_some h
  refine okl_Picks_nearness_l7 hd v0 t0 v1 t1 v2 v3 μ (fun z => z = x7) ?_ 1000000 ((nI 10), (nI 0)) x7 _ hi rfl
  · intro y0 z0 z1 z2 z3 z5 z6 e0
    have e0 : y0 = x7 := e0
    subst e0
    refine wp_iload (x := y0) dX4_nearness_69 rfl ?_
    obtain rfl := ret1 h
    exact wp_iret rfl dX4_nearness_71 ⟨rfl, rfl, rfl⟩
theorem ok_Picks_leastJoin_j74 {l : Launch} {d : Nat} (hd : 3 ≤ d) (v0 : Nat) (t0 : sK SC v0 = 4) (v1 : Nat) (t1 : sK SC v1 = 8) (v2 : Int32)  (v3 : Int32)  (v4 : Int32)  (v5 : Int32)  (v6 : Int32)  (v7 : Int32)  (μ : Mm) (z8 : Option Value) {Q : Option Value → Sh → Mm → Prop} (K : (Int32 × Int32 × Int32) ⊕ (Int32 × Int32) → Prop) (hb : ∀ (s : (Int32 × Int32 × Int32)) (z8 : Option Value), K (Sum.inl s) → Wp l SC d (0, 0) mX4_leastJoin 26 [some (.ref v0), some (.ref v1), some (.int v2), some (.int v3), some (.int v4), some (.int s.1), some (.int s.2.1), some (.int s.2.2), z8] [] μ Q) (he0 : ∀ (x : (Int32 × Int32)) (z7 : Option Value) (z8 : Option Value), K (Sum.inr x) → Wp l SC d (0, 0) mX4_leastJoin 80 [some (.ref v0), some (.ref v1), some (.int v2), some (.int v3), some (.int v4), some (.int x.1), some (.int x.2), z7, z8] [] μ Q) {z : (Int32 × Int32 × Int32) ⊕ (Int32 × Int32)} (h : Picks_leastJoin_j74 v0 v1 v2 v3 v4 v5 v6 v7 μ = some z) (hz : K z) : Wp l SC d (0, 0) mX4_leastJoin 74 [some (.ref v0), some (.ref v1), some (.int v2), some (.int v3), some (.int v4), some (.int v5), some (.int v6), some (.int v7), z8] [] μ Q := by
  unfold Picks_leastJoin_j74 at h
  refine wp_iinc (x := v7) (k0 := (nI 1)) (L2 := [some (.ref v0), some (.ref v1), some (.int v2), some (.int v3), some (.int v4), some (.int v5), some (.int v6), some (.int (v7 + (nI 1))), z8]) dX4_leastJoin_74 rfl rfl (by decide) rfl rfl ?_
  refine wp_goto 26 dX4_leastJoin_77 (by decide) ?_
  obtain rfl := some1 h
  exact hb (v5, v6, (v7 + (nI 1))) _ hz
theorem ok_Picks_leastJoin_j57 {l : Launch} {d : Nat} (hd : 3 ≤ d) (v0 : Nat) (t0 : sK SC v0 = 4) (v1 : Nat) (t1 : sK SC v1 = 8) (v2 : Int32)  (v3 : Int32)  (v4 : Int32)  (v5 : Int32)  (v6 : Int32)  (v7 : Int32)  (s0 : Int32) (μ : Mm) (z8 : Option Value) {Q : Option Value → Sh → Mm → Prop} (K : (Int32 × Int32 × Int32) ⊕ (Int32 × Int32) → Prop) (hb : ∀ (s : (Int32 × Int32 × Int32)) (z8 : Option Value), K (Sum.inl s) → Wp l SC d (0, 0) mX4_leastJoin 26 [some (.ref v0), some (.ref v1), some (.int v2), some (.int v3), some (.int v4), some (.int s.1), some (.int s.2.1), some (.int s.2.2), z8] [] μ Q) (he0 : ∀ (x : (Int32 × Int32)) (z7 : Option Value) (z8 : Option Value), K (Sum.inr x) → Wp l SC d (0, 0) mX4_leastJoin 80 [some (.ref v0), some (.ref v1), some (.int v2), some (.int v3), some (.int v4), some (.int x.1), some (.int x.2), z7, z8] [] μ Q) {z : (Int32 × Int32 × Int32) ⊕ (Int32 × Int32)} (h : Picks_leastJoin_j57 v0 v1 v2 v3 v4 v5 v6 v7 s0 μ = some z) (hz : K z) : Wp l SC d (0, 0) mX4_leastJoin 57 [some (.ref v0), some (.ref v1), some (.int v2), some (.int v3), some (.int v4), some (.int v5), some (.int v6), some (.int v7), z8] [.int s0] μ Q := by
  unfold Picks_leastJoin_j57 at h
  refine wp_istore (L2 := [some (.ref v0), some (.ref v1), some (.int v2), some (.int v3), some (.int v4), some (.int v5), some (.int v6), some (.int v7), some (.int s0)]) dX4_leastJoin_57 (by decide) rfl rfl ?_
  refine wp_iload (x := s0) dX4_leastJoin_59 rfl ?_
  refine wp_iload (x := v6) dX4_leastJoin_61 rfl ?_
  refine wp_icmp_ge 74 dX4_leastJoin_63 (by decide) (fun c1 => ?_) (fun c1 => ?_)
  · rw [if_pos c1] at h
    exact ok_Picks_leastJoin_j74 hd v0 t0 v1 t1 v2 v3 v4 v5 v6 v7 μ _ K hb he0 h hz
  · rw [if_neg c1] at h
    refine wp_iload (x := v7) dX4_leastJoin_66 rfl ?_
    refine wp_istore (L2 := [some (.ref v0), some (.ref v1), some (.int v2), some (.int v3), some (.int v4), some (.int v7), some (.int v6), some (.int v7), some (.int s0)]) dX4_leastJoin_68 (by decide) rfl rfl ?_
    refine wp_iload (x := s0) dX4_leastJoin_70 rfl ?_
    refine wp_istore (L2 := [some (.ref v0), some (.ref v1), some (.int v2), some (.int v3), some (.int v4), some (.int v7), some (.int s0), some (.int v7), some (.int s0)]) dX4_leastJoin_72 (by decide) rfl rfl ?_
    exact ok_Picks_leastJoin_j74 hd v0 t0 v1 t1 v2 v3 v4 v7 s0 v7 μ _ K hb he0 h hz
theorem ok_Picks_leastJoin_l26 {l : Launch} {d : Nat} (hd : 3 ≤ d) (v0 : Nat) (t0 : sK SC v0 = 4) (v1 : Nat) (t1 : sK SC v1 = 8) (v2 : Int32)  (v3 : Int32)  (v4 : Int32)  (v5 : Int32)  (v6 : Int32)  (v7 : Int32)  (μ : Mm) (z8 : Option Value) {Q : Option Value → Sh → Mm → Prop} (K : (Int32 × Int32 × Int32) ⊕ (Int32 × Int32) → Prop) (hb : ∀ (s : (Int32 × Int32 × Int32)) (z8 : Option Value), K (Sum.inl s) → Wp l SC d (0, 0) mX4_leastJoin 26 [some (.ref v0), some (.ref v1), some (.int v2), some (.int v3), some (.int v4), some (.int s.1), some (.int s.2.1), some (.int s.2.2), z8] [] μ Q) (he0 : ∀ (x : (Int32 × Int32)) (z7 : Option Value) (z8 : Option Value), K (Sum.inr x) → Wp l SC d (0, 0) mX4_leastJoin 80 [some (.ref v0), some (.ref v1), some (.int v2), some (.int v3), some (.int v4), some (.int x.1), some (.int x.2), z7, z8] [] μ Q) {z : (Int32 × Int32 × Int32) ⊕ (Int32 × Int32)} (h : Picks_leastJoin_l26 v0 v1 v2 v3 v4 v5 v6 v7 μ = some z) (hz : K z) : Wp l SC d (0, 0) mX4_leastJoin 26 [some (.ref v0), some (.ref v1), some (.int v2), some (.int v3), some (.int v4), some (.int v5), some (.int v6), some (.int v7), z8] [] μ Q := by
  unfold Picks_leastJoin_l26 at h
  refine wp_iload (x := v7) dX4_leastJoin_26 rfl ?_
  refine wp_aload_n (x := v0) dX4_leastJoin_28 rfl ?_
  refine wp_getI fl_X4_15 (by decide) rfl (kltC t0) t0 dX4_leastJoin_29 ?_
  refine wp_icmp_ge 80 dX4_leastJoin_32 (by decide) (fun c1 => ?_) (fun c1 => ?_)
  · rw [if_pos c1] at h
    obtain rfl := some1 h
    exact he0 (v5, v6) _ _ hz
  · rw [if_neg c1] at h
    refine wp_iload_n (x := v3) dX4_leastJoin_35 rfl ?_
    refine wp_iload (x := v7) dX4_leastJoin_36 rfl ?_
    obtain ⟨r1, g1, h⟩ := bnd_some h
    refine wp_cNi (d := d - 1) cs_X4_19 (as := [.int v3, .int v7]) (rest := []) dX4_leastJoin_38 (by omega) cloC rfl rfl (Nat.le_of_ble_eq_true rfl) (Nat.le_of_ble_eq_true rfl) (ok_Nine_hasBit (by omega) v3 v7 μ g1) ?_ rfl
    refine wp_if_eq 49 dX4_leastJoin_41 (by decide) (fun c1 => ?_) (fun c1 => ?_)
    · rw [if_pos c1] at h
      refine wp_aload_n (x := v0) dX4_leastJoin_49 rfl ?_
      refine wp_aload_n (x := v1) dX4_leastJoin_50 rfl ?_
      refine wp_iload_n (x := v3) dX4_leastJoin_51 rfl ?_
      refine wp_iload (x := v7) dX4_leastJoin_52 rfl ?_
      obtain ⟨r2, g1, h⟩ := bnd_some h
      refine wp_cVi (d := d - 1) (o := v0) cv_X4_23 (kltC t0) t0 (as := [.ref v1, .int v3, .int v7]) (rest := []) dX4_leastJoin_54 (by omega) cloC rfl rfl (Nat.le_of_ble_eq_true rfl) (Nat.le_of_ble_eq_true rfl) (ok_Picks_nearness (by omega) v0 t0 v1 t1 v3 v7 μ g1) ?_ rfl
      exact ok_Picks_leastJoin_j57 hd v0 t0 v1 t1 v2 v3 v4 v5 v6 v7 r2 μ _ K hb he0 h hz
    · rw [if_neg c1] at h
      refine wp_bipush (nI 11) dX4_leastJoin_44 rfl ?_
      refine wp_goto 57 dX4_leastJoin_46 (by decide) ?_
      exact ok_Picks_leastJoin_j57 hd v0 t0 v1 t1 v2 v3 v4 v5 v6 v7 (nI 11) μ _ K hb he0 h hz
theorem okl_Picks_leastJoin_l26 {l : Launch} {d : Nat} (hd : 3 ≤ d) (v0 : Nat) (t0 : sK SC v0 = 4) (v1 : Nat) (t1 : sK SC v1 = 8) (v2 : Int32)  (v3 : Int32)  (v4 : Int32)  (μ : Mm) {Q : Option Value → Sh → Mm → Prop} (K : (Int32 × Int32) → Prop) (he0 : ∀ (x : (Int32 × Int32)) (z7 : Option Value) (z8 : Option Value), K x → Wp l SC d (0, 0) mX4_leastJoin 80 [some (.ref v0), some (.ref v1), some (.int v2), some (.int v3), some (.int v4), some (.int x.1), some (.int x.2), z7, z8] [] μ Q) : ∀ (n : Nat) (s : (Int32 × Int32 × Int32)) (y : (Int32 × Int32)) (z8 : Option Value) , iter n (fun s => Picks_leastJoin_l26 v0 v1 v2 v3 v4 s.1 s.2.1 s.2.2 μ) s = some y → K y → Wp l SC d (0, 0) mX4_leastJoin 26 [some (.ref v0), some (.ref v1), some (.int v2), some (.int v3), some (.int v4), some (.int s.1), some (.int s.2.1), some (.int s.2.2), z8] [] μ Q := by
  intro n
  induction n with
  | zero => intro s y z8 h; cases h
  | succ n ih =>
    intro s y z8 h hK
    obtain ⟨z, hz, hn⟩ := iter_some h
    refine ok_Picks_leastJoin_l26 hd v0 t0 v1 t1 v2 v3 v4 s.1 s.2.1 s.2.2 μ _ (fun z => nxt n (fun s => Picks_leastJoin_l26 v0 v1 v2 v3 v4 s.1 s.2.1 s.2.2 μ) z y) ?_ ?_ hz hn
    · intro s2 z8 h2
      exact ih s2 y _ h2 hK
    · intro x z7 z8 h2
      have h3 : x = y := h2
      subst h3
      exact he0 x _ _ hK
theorem ok_Picks_leastJoin_l7 {l : Launch} {d : Nat} (hd : 3 ≤ d) (v0 : Nat) (t0 : sK SC v0 = 4) (v1 : Nat) (t1 : sK SC v1 = 8) (v2 : Int32)  (v3 : Int32)  (v4 : Int32)  (μ : Mm) (z5 : Option Value) (z6 : Option Value) (z7 : Option Value) (z8 : Option Value) {Q : Option Value → Sh → Mm → Prop} (K : (Int32 × Int32 × Int32) ⊕ Int32 → Prop) (hb : ∀ (s : (Int32 × Int32 × Int32)) (z5 : Option Value) (z6 : Option Value) (z7 : Option Value) (z8 : Option Value), K (Sum.inl s) → Wp l SC d (0, 0) mX4_leastJoin 7 [some (.ref v0), some (.ref v1), some (.int s.1), some (.int s.2.1), some (.int s.2.2), z5, z6, z7, z8] [] μ Q) (he0 : ∀ (x : Int32) (z0 : Option Value) (z1 : Option Value) (z3 : Option Value) (z4 : Option Value) (z5 : Option Value) (z6 : Option Value) (z7 : Option Value) (z8 : Option Value), K (Sum.inr x) → Wp l SC d (0, 0) mX4_leastJoin 98 [z0, z1, some (.int x), z3, z4, z5, z6, z7, z8] [] μ Q) {z : (Int32 × Int32 × Int32) ⊕ Int32} (h : Picks_leastJoin_l7 v0 v1 v2 v3 v4 μ = some z) (hz : K z) : Wp l SC d (0, 0) mX4_leastJoin 7 [some (.ref v0), some (.ref v1), some (.int v2), some (.int v3), some (.int v4), z5, z6, z7, z8] [] μ Q := by
  unfold Picks_leastJoin_l7 at h
  refine wp_iload (x := v4) dX4_leastJoin_7 rfl ?_
  refine wp_aload_n (x := v0) dX4_leastJoin_9 rfl ?_
  refine wp_getI fl_X4_15 (by decide) rfl (kltC t0) t0 dX4_leastJoin_10 ?_
  refine wp_icmp_ge 98 dX4_leastJoin_13 (by decide) (fun c1 => ?_) (fun c1 => ?_)
  · rw [if_pos c1] at h
    obtain rfl := some1 h
    exact he0 v2 _ _ _ _ _ _ _ _ hz
  · rw [if_neg c1] at h
    refine wp_iconst (nI 0) dX4_leastJoin_16 rfl ?_
    refine wp_istore (L2 := [some (.ref v0), some (.ref v1), some (.int v2), some (.int v3), some (.int v4), some (.int (nI 0)), z6, z7, z8]) dX4_leastJoin_17 (by decide) rfl rfl ?_
    refine wp_bipush (nI 11) dX4_leastJoin_19 rfl ?_
    refine wp_istore (L2 := [some (.ref v0), some (.ref v1), some (.int v2), some (.int v3), some (.int v4), some (.int (nI 0)), some (.int (nI 11)), z7, z8]) dX4_leastJoin_21 (by decide) rfl rfl ?_
    refine wp_iconst (nI 0) dX4_leastJoin_23 rfl ?_
    refine wp_istore (L2 := [some (.ref v0), some (.ref v1), some (.int v2), some (.int v3), some (.int v4), some (.int (nI 0)), some (.int (nI 11)), some (.int (nI 0)), z8]) dX4_leastJoin_24 (by decide) rfl rfl ?_
    obtain ⟨x26, hi, h⟩ := bni_some h
    refine okl_Picks_leastJoin_l26 hd v0 t0 v1 t1 v2 v3 v4 μ (fun z => z = x26) ?_ 1000000 ((nI 0), (nI 11), (nI 0)) x26 _ hi rfl
    · intro y0 z7 z8 e0
      have e0 : y0 = x26 := e0
      subst e0
      refine wp_iload_n (x := v3) dX4_leastJoin_80 rfl ?_
      refine wp_iconst (nI 1) dX4_leastJoin_81 rfl ?_
      refine wp_iload (x := y0.1) dX4_leastJoin_82 rfl ?_
      refine wp_ishl dX4_leastJoin_84 ?_
      refine wp_ior dX4_leastJoin_85 ?_
      refine wp_istore_n (L2 := [some (.ref v0), some (.ref v1), some (.int v2), some (.int (v3 ||| ((nI 1) <<< (y0.1 &&& 31)))), some (.int v4), some (.int y0.1), some (.int y0.2), z7, z8]) dX4_leastJoin_86 (by decide) rfl rfl ?_
      refine wp_iload_n (x := v2) dX4_leastJoin_87 rfl ?_
      refine wp_iload (x := y0.2) dX4_leastJoin_88 rfl ?_
      refine wp_iadd dX4_leastJoin_90 ?_
      refine wp_istore_n (L2 := [some (.ref v0), some (.ref v1), some (.int (v2 + y0.2)), some (.int (v3 ||| ((nI 1) <<< (y0.1 &&& 31)))), some (.int v4), some (.int y0.1), some (.int y0.2), z7, z8]) dX4_leastJoin_91 (by decide) rfl rfl ?_
      refine wp_iinc (x := v4) (k0 := (nI 1)) (L2 := [some (.ref v0), some (.ref v1), some (.int (v2 + y0.2)), some (.int (v3 ||| ((nI 1) <<< (y0.1 &&& 31)))), some (.int (v4 + (nI 1))), some (.int y0.1), some (.int y0.2), z7, z8]) dX4_leastJoin_92 rfl rfl (by decide) rfl rfl ?_
      refine wp_goto 7 dX4_leastJoin_95 (by decide) ?_
      obtain rfl := some1 h
      exact hb ((v2 + y0.2), (v3 ||| ((nI 1) <<< (y0.1 &&& 31))), (v4 + (nI 1))) _ _ _ _ hz
theorem okl_Picks_leastJoin_l7 {l : Launch} {d : Nat} (hd : 3 ≤ d) (v0 : Nat) (t0 : sK SC v0 = 4) (v1 : Nat) (t1 : sK SC v1 = 8) (μ : Mm) {Q : Option Value → Sh → Mm → Prop} (K : Int32 → Prop) (he0 : ∀ (x : Int32) (z0 : Option Value) (z1 : Option Value) (z3 : Option Value) (z4 : Option Value) (z5 : Option Value) (z6 : Option Value) (z7 : Option Value) (z8 : Option Value), K x → Wp l SC d (0, 0) mX4_leastJoin 98 [z0, z1, some (.int x), z3, z4, z5, z6, z7, z8] [] μ Q) : ∀ (n : Nat) (s : (Int32 × Int32 × Int32)) (y : Int32) (z5 : Option Value) (z6 : Option Value) (z7 : Option Value) (z8 : Option Value) , iter n (fun s => Picks_leastJoin_l7 v0 v1 s.1 s.2.1 s.2.2 μ) s = some y → K y → Wp l SC d (0, 0) mX4_leastJoin 7 [some (.ref v0), some (.ref v1), some (.int s.1), some (.int s.2.1), some (.int s.2.2), z5, z6, z7, z8] [] μ Q := by
  intro n
  induction n with
  | zero => intro s y z5 z6 z7 z8 h; cases h
  | succ n ih =>
    intro s y z5 z6 z7 z8 h hK
    obtain ⟨z, hz, hn⟩ := iter_some h
    refine ok_Picks_leastJoin_l7 hd v0 t0 v1 t1 s.1 s.2.1 s.2.2 μ _ _ _ _ (fun z => nxt n (fun s => Picks_leastJoin_l7 v0 v1 s.1 s.2.1 s.2.2 μ) z y) ?_ ?_ hz hn
    · intro s2 z5 z6 z7 z8 h2
      exact ih s2 y _ _ _ _ h2 hK
    · intro x z0 z1 z3 z4 z5 z6 z7 z8 h2
      have h3 : x = y := h2
      subst h3
      exact he0 x _ _ _ _ _ _ _ _ hK
theorem ok_Picks_leastJoin {l : Launch} {d : Nat} (hd : 3 ≤ d) (v0 : Nat) (t0 : sK SC v0 = 4) (v1 : Nat) (t1 : sK SC v1 = 8) (μ : Mm) {r : Int32} (h : Picks_leastJoin v0 v1 μ = some r) : Wp l SC d (0, 0) mX4_leastJoin 0 [some (.ref v0), some (.ref v1), none, none, none, none, none, none, none] [] μ (Qi SC r μ) := by
  unfold Picks_leastJoin at h
  refine wp_iconst (nI 0) dX4_leastJoin_0 rfl ?_
  refine wp_istore_n (L2 := [some (.ref v0), some (.ref v1), some (.int (nI 0)), none, none, none, none, none, none]) dX4_leastJoin_1 (by decide) rfl rfl ?_
  refine wp_iconst (nI 1) dX4_leastJoin_2 rfl ?_
  refine wp_istore_n (L2 := [some (.ref v0), some (.ref v1), some (.int (nI 0)), some (.int (nI 1)), none, none, none, none, none]) dX4_leastJoin_3 (by decide) rfl rfl ?_
  refine wp_iconst (nI 1) dX4_leastJoin_4 rfl ?_
  refine wp_istore (L2 := [some (.ref v0), some (.ref v1), some (.int (nI 0)), some (.int (nI 1)), some (.int (nI 1)), none, none, none, none]) dX4_leastJoin_5 (by decide) rfl rfl ?_
  obtain ⟨x7, hi, h⟩ := bni_some h
  refine okl_Picks_leastJoin_l7 hd v0 t0 v1 t1 μ (fun z => z = x7) ?_ 1000000 ((nI 0), (nI 1), (nI 1)) x7 _ _ _ _ hi rfl
  · intro y0 z0 z1 z3 z4 z5 z6 z7 z8 e0
    have e0 : y0 = x7 := e0
    subst e0
    refine wp_iload_n (x := y0) dX4_leastJoin_98 rfl ?_
    obtain rfl := ret1 h
    exact wp_iret rfl dX4_leastJoin_99 ⟨rfl, rfl, rfl⟩
theorem ok_Picks_copyFrom {l : Launch} {d : Nat} (hd : 2 ≤ d) (v0 : Nat) (t0 : sK SC v0 = 4) (v1 : Nat) (t1 : sK SC v1 = 4) (μ : Mm) {μ' : Mm} (h : Picks_copyFrom v0 v1 μ = some μ') : Wp l SC d (0, 0) mX4_copyFrom 0 [some (.ref v0), some (.ref v1)] [] μ (Qv SC μ') := by
  unfold Picks_copyFrom at h
  refine wp_aload_n (x := v1) dX4_copyFrom_0 rfl ?_
  refine wp_getR (v1 + 1) fl_X4_9 (by decide) rfl (kltC t1) t1 (ly4_0 t1).1 dX4_copyFrom_1 ?_
  refine wp_iconst (nI 0) dX4_copyFrom_4 rfl ?_
  refine wp_aload_n (x := v0) dX4_copyFrom_5 rfl ?_
  refine wp_getR (v0 + 1) fl_X4_9 (by decide) rfl (kltC t0) t0 (ly4_0 t0).1 dX4_copyFrom_6 ?_
  refine wp_iconst (nI 0) dX4_copyFrom_9 rfl ?_
  refine wp_aload_n (x := v1) dX4_copyFrom_10 rfl ?_
  refine wp_getI fl_X4_15 (by decide) rfl (kltC t1) t1 dX4_copyFrom_11 ?_
  obtain ⟨c1, h⟩ := chc_some h
  obtain ⟨μ1, e1, h⟩ := lt_some h
  refine wp_acopy e1 ac_X4_44 (kltC (ly4_0 t1).2.1) (ly4_0 t1).2.1 (ly4_0 t1).2.2 (kltC (ly4_0 t0).2.1) (ly4_0 t0).2.1 (ly4_0 t0).2.2 c1 (by omega) (Nat.le_of_ble_eq_true rfl) dX4_copyFrom_14 ?_
  refine wp_aload_n (x := v0) dX4_copyFrom_17 rfl ?_
  refine wp_aload_n (x := v1) dX4_copyFrom_18 rfl ?_
  refine wp_getI fl_X4_15 (by decide) rfl (kltC t1) t1 dX4_copyFrom_19 ?_
  obtain ⟨μ2, e1, h⟩ := lt_some h
  refine wp_putIe e1 fl_X4_15 (by decide) rfl (kltC t0) t0 dX4_copyFrom_22 ?_
  obtain rfl := ret1 h
  exact wp_vret rfl dX4_copyFrom_25 ⟨rfl, rfl, rfl⟩
theorem ok_JA_fill_l5 {l : Launch} {S : Sh} (hS : ∀ x, sK S x < 15 → x < sN S) {d : Nat} (hd : 1 ≤ d) (v0 : Nat) (t0 : sK S v0 = 12) (v1 : Int32)  (v2 : Int32)  (v3 : Int32)  (μ : Mm) {Q : Option Value → Sh → Mm → Prop} (K : (Int32 × Mm) ⊕ Mm → Prop) (hb : ∀ (s : (Int32 × Mm)), K (Sum.inl s) → Wp l S d (0, 0) mJ7_fill_53178 5 [some (.ref v0), some (.int v1), some (.int s.1), some (.int v3)] [] s.2 Q) (he0 : ∀ (x : Mm) (z0 : Option Value) (z1 : Option Value) (z2 : Option Value) (z3 : Option Value), K (Sum.inr x) → Wp l S d (0, 0) mJ7_fill_53178 20 [z0, z1, z2, z3] [] x Q) {z : (Int32 × Mm) ⊕ Mm} (h : JA_fill_l5 S v0 v1 v2 v3 μ = some z) (hz : K z) : Wp l S d (0, 0) mJ7_fill_53178 5 [some (.ref v0), some (.int v1), some (.int v2), some (.int v3)] [] μ Q := by
  unfold JA_fill_l5 at h
  refine wp_iload_n (x := v2) dJ7_fill_53178_5 rfl ?_
  refine wp_iload_n (x := v3) dJ7_fill_53178_6 rfl ?_
  refine wp_icmp_ge 20 dJ7_fill_53178_7 (by decide) (fun c1 => ?_) (fun c1 => ?_)
  · rw [if_pos c1] at h
    obtain rfl := some1 h
    exact he0 μ _ _ _ _ hz
  · rw [if_neg c1] at h
    refine wp_aload_n (x := v0) dJ7_fill_53178_10 rfl ?_
    refine wp_iload_n (x := v2) dJ7_fill_53178_11 rfl ?_
    refine wp_iload_n (x := v1) dJ7_fill_53178_12 rfl ?_
    obtain ⟨c1, h⟩ := chv_some h
    obtain ⟨μ1, e1, h⟩ := lt_some h
    refine wp_iaste e1 (kltS hS t0) t0 rfl c1 dJ7_fill_53178_13 ?_
    refine wp_iinc (x := v2) (k0 := (nI 1)) (L2 := [some (.ref v0), some (.int v1), some (.int (v2 + (nI 1))), some (.int v3)]) dJ7_fill_53178_14 rfl rfl (by decide) rfl rfl ?_
    refine wp_goto 5 dJ7_fill_53178_17 (by decide) ?_
    obtain rfl := some1 h
    exact hb ((v2 + (nI 1)), μ1) hz
theorem okl_JA_fill_l5 {l : Launch} {S : Sh} (hS : ∀ x, sK S x < 15 → x < sN S) {d : Nat} (hd : 1 ≤ d) (v0 : Nat) (t0 : sK S v0 = 12) (v1 : Int32)  (v3 : Int32)  {Q : Option Value → Sh → Mm → Prop} (K : Mm → Prop) (he0 : ∀ (x : Mm) (z0 : Option Value) (z1 : Option Value) (z2 : Option Value) (z3 : Option Value), K x → Wp l S d (0, 0) mJ7_fill_53178 20 [z0, z1, z2, z3] [] x Q) : ∀ (n : Nat) (s : (Int32 × Mm)) (y : Mm) , iter n (fun s => JA_fill_l5 S v0 v1 s.1 v3 s.2) s = some y → K y → Wp l S d (0, 0) mJ7_fill_53178 5 [some (.ref v0), some (.int v1), some (.int s.1), some (.int v3)] [] s.2 Q := by
  intro n
  induction n with
  | zero => intro s y  h; cases h
  | succ n ih =>
    intro s y  h hK
    obtain ⟨z, hz, hn⟩ := iter_some h
    refine ok_JA_fill_l5 hS hd v0 t0 v1 s.1 v3 s.2 (fun z => nxt n (fun s => JA_fill_l5 S v0 v1 s.1 v3 s.2) z y) ?_ ?_ hz hn
    · intro s2  h2
      exact ih s2 y h2 hK
    · intro x z0 z1 z2 z3 h2
      have h3 : x = y := h2
      subst h3
      exact he0 x _ _ _ _ hK
theorem ok_JA_fill {l : Launch} {S : Sh} (hS : ∀ x, sK S x < 15 → x < sN S) {d : Nat} (hd : 1 ≤ d) (v0 : Nat) (t0 : sK S v0 = 12) (v1 : Int32)  (μ : Mm) {μ' : Mm} (h : JA_fill S v0 v1 μ = some μ') : Wp l S d (0, 0) mJ7_fill_53178 0 [some (.ref v0), some (.int v1), none, none] [] μ (Qv S μ') := by
  unfold JA_fill at h
  refine wp_iconst (nI 0) dJ7_fill_53178_0 rfl ?_
  refine wp_istore_n (L2 := [some (.ref v0), some (.int v1), some (.int (nI 0)), none]) dJ7_fill_53178_1 (by decide) rfl rfl ?_
  refine wp_aload_n (x := v0) dJ7_fill_53178_2 rfl ?_
  refine wp_alene (kltS hS t0) t0 rfl dJ7_fill_53178_3 ?_
  refine wp_istore_n (L2 := [some (.ref v0), some (.int v1), some (.int (nI 0)), some (.int (nI (sL S v0)))]) dJ7_fill_53178_4 (by decide) rfl rfl ?_
  obtain ⟨x5, hi, h⟩ := bni_some h
  refine okl_JA_fill_l5 hS hd v0 t0 v1 (nI (sL S v0)) (fun z => z = x5) ?_ 1000000 ((nI 0), μ) x5 hi rfl
  · intro y0 z0 z1 z2 z3 e0
    have e0 : y0 = x5 := e0
    subst e0
    obtain rfl := ret1 h
    exact wp_vret rfl dJ7_fill_53178_20 ⟨rfl, rfl, rfl⟩
theorem ok_Post_clear {l : Launch} {d : Nat} (hd : 2 ≤ d) (v0 : Nat) (t0 : sK SC v0 = 5) (μ : Mm) {μ' : Mm} (h : Post_clear v0 μ = some μ') : Wp l SC d (0, 0) mX5_clear 0 [some (.ref v0)] [] μ (Qv SC μ') := by
  unfold Post_clear at h
  refine wp_aload_n (x := v0) dX5_clear_0 rfl ?_
  refine wp_getR (v0 + 1) fl_X5_9 (by decide) rfl (kltC t0) t0 (ly5_0 t0).1 dX5_clear_1 ?_
  refine wp_iconst (nI 1) dX5_clear_4 rfl ?_
  obtain ⟨μ1, g1, h⟩ := bnd_some h
  refine wp_cSv (d := d - 1) cs_X5_15 (as := [.ref (v0 + 1), .int (nI 1)]) (rest := []) dX5_clear_5 (by omega) cloC rfl rfl (Nat.le_of_ble_eq_true rfl) (Nat.le_of_ble_eq_true rfl) (ok_JA_fill wfC (by omega) (v0 + 1) ((ly5_0 t0).2.1) (nI 1) μ g1) ?_ rfl
  refine wp_aload_n (x := v0) dX5_clear_8 rfl ?_
  refine wp_iconst (nI 0) dX5_clear_9 rfl ?_
  obtain ⟨μ2, e1, h⟩ := lt_some h
  refine wp_putIe e1 fl_X5_21 (by decide) rfl (kltC t0) t0 dX5_clear_10 ?_
  obtain rfl := ret1 h
  exact wp_vret rfl dX5_clear_13 ⟨rfl, rfl, rfl⟩
theorem ok_Post_add {l : Launch} {d : Nat} (hd : 1 ≤ d) (v0 : Nat) (t0 : sK SC v0 = 5) (v1 : Int32)  (v2 : Int32)  (v3 : Int32)  (μ : Mm) {μ' : Mm} (h : Post_add v0 v1 v2 v3 μ = some μ') : Wp l SC d (0, 0) mX5_add 0 [some (.ref v0), some (.int v1), some (.int v2), some (.int v3)] [] μ (Qv SC μ') := by
  unfold Post_add at h
  refine wp_aload_n (x := v0) dX5_add_0 rfl ?_
  refine wp_getR (v0 + 1) fl_X5_9 (by decide) rfl (kltC t0) t0 (ly5_0 t0).1 dX5_add_1 ?_
  refine wp_iload_n (x := v1) dX5_add_4 rfl ?_
  refine wp_bipush (nI 6) dX5_add_5 rfl ?_
  refine wp_imul dX5_add_7 ?_
  refine wp_iload_n (x := v2) dX5_add_8 rfl ?_
  refine wp_iadd dX5_add_9 ?_
  refine wp_iload_n (x := v3) dX5_add_10 rfl ?_
  obtain ⟨c1, h⟩ := chv_some h
  obtain ⟨μ1, e1, h⟩ := lt_some h
  refine wp_iaste e1 (kltC (ly5_0 t0).2.1) (ly5_0 t0).2.1 (ly5_0 t0).2.2 c1 dX5_add_11 ?_
  refine wp_aload_n (x := v0) dX5_add_12 rfl ?_
  refine wp_getR (v0 + 1) fl_X5_9 (by decide) rfl (kltC t0) t0 (ly5_0 t0).1 dX5_add_13 ?_
  refine wp_iload_n (x := v2) dX5_add_16 rfl ?_
  refine wp_bipush (nI 6) dX5_add_17 rfl ?_
  refine wp_imul dX5_add_19 ?_
  refine wp_iload_n (x := v1) dX5_add_20 rfl ?_
  refine wp_iadd dX5_add_21 ?_
  refine wp_iload_n (x := v3) dX5_add_22 rfl ?_
  obtain ⟨c1, h⟩ := chv_some h
  obtain ⟨μ2, e1, h⟩ := lt_some h
  refine wp_iaste e1 (kltC (ly5_0 t0).2.1) (ly5_0 t0).2.1 (ly5_0 t0).2.2 c1 dX5_add_23 ?_
  refine wp_aload_n (x := v0) dX5_add_24 rfl ?_
  refine wp_dup dX5_add_25 rfl ?_
  refine wp_getI fl_X5_21 (by decide) rfl (kltC t0) t0 dX5_add_26 ?_
  refine wp_iconst (nI 1) dX5_add_29 rfl ?_
  refine wp_iadd dX5_add_30 ?_
  obtain ⟨μ3, e1, h⟩ := lt_some h
  refine wp_putIe e1 fl_X5_21 (by decide) rfl (kltC t0) t0 dX5_add_31 ?_
  obtain rfl := ret1 h
  exact wp_vret rfl dX5_add_34 ⟨rfl, rfl, rfl⟩
theorem ok_Post_daysBetween {l : Launch} {d : Nat} (hd : 1 ≤ d) (v0 : Nat) (t0 : sK SC v0 = 5) (v1 : Int32)  (v2 : Int32)  (μ : Mm) {r : Int32} (h : Post_daysBetween v0 v1 v2 μ = some r) : Wp l SC d (0, 0) mX5_daysBetween 0 [some (.ref v0), some (.int v1), some (.int v2)] [] μ (Qi SC r μ) := by
  unfold Post_daysBetween at h
  refine wp_aload_n (x := v0) dX5_daysBetween_0 rfl ?_
  refine wp_getR (v0 + 1) fl_X5_9 (by decide) rfl (kltC t0) t0 (ly5_0 t0).1 dX5_daysBetween_1 ?_
  refine wp_iload_n (x := v1) dX5_daysBetween_4 rfl ?_
  refine wp_bipush (nI 6) dX5_daysBetween_5 rfl ?_
  refine wp_imul dX5_daysBetween_7 ?_
  refine wp_iload_n (x := v2) dX5_daysBetween_8 rfl ?_
  refine wp_iadd dX5_daysBetween_9 ?_
  obtain ⟨c1, h⟩ := chv_some h
  refine wp_ialde (kltC (ly5_0 t0).2.1) (ly5_0 t0).2.1 (ly5_0 t0).2.2 c1 dX5_daysBetween_10 ?_
  obtain rfl := ret1 h
  exact wp_iret rfl dX5_daysBetween_11 ⟨rfl, rfl, rfl⟩
theorem ok_Post_copyFrom {l : Launch} {d : Nat} (hd : 2 ≤ d) (v0 : Nat) (t0 : sK SC v0 = 5) (v1 : Nat) (t1 : sK SC v1 = 5) (μ : Mm) {μ' : Mm} (h : Post_copyFrom v0 v1 μ = some μ') : Wp l SC d (0, 0) mX5_copyFrom 0 [some (.ref v0), some (.ref v1)] [] μ (Qv SC μ') := by
  unfold Post_copyFrom at h
  refine wp_aload_n (x := v1) dX5_copyFrom_0 rfl ?_
  refine wp_getR (v1 + 1) fl_X5_9 (by decide) rfl (kltC t1) t1 (ly5_0 t1).1 dX5_copyFrom_1 ?_
  refine wp_iconst (nI 0) dX5_copyFrom_4 rfl ?_
  refine wp_aload_n (x := v0) dX5_copyFrom_5 rfl ?_
  refine wp_getR (v0 + 1) fl_X5_9 (by decide) rfl (kltC t0) t0 (ly5_0 t0).1 dX5_copyFrom_6 ?_
  refine wp_iconst (nI 0) dX5_copyFrom_9 rfl ?_
  refine wp_aload_n (x := v0) dX5_copyFrom_10 rfl ?_
  refine wp_getR (v0 + 1) fl_X5_9 (by decide) rfl (kltC t0) t0 (ly5_0 t0).1 dX5_copyFrom_11 ?_
  refine wp_alene (kltC (ly5_0 t0).2.1) (ly5_0 t0).2.1 (ly5_0 t0).2.2 dX5_copyFrom_14 ?_
  obtain ⟨c1, h⟩ := chc_some h
  obtain ⟨μ1, e1, h⟩ := lt_some h
  refine wp_acopy e1 ac_X5_25 (kltC (ly5_0 t1).2.1) (ly5_0 t1).2.1 (ly5_0 t1).2.2 (kltC (ly5_0 t0).2.1) (ly5_0 t0).2.1 (ly5_0 t0).2.2 c1 (by omega) (Nat.le_of_ble_eq_true rfl) dX5_copyFrom_15 ?_
  refine wp_aload_n (x := v0) dX5_copyFrom_18 rfl ?_
  refine wp_aload_n (x := v1) dX5_copyFrom_19 rfl ?_
  refine wp_getI fl_X5_21 (by decide) rfl (kltC t1) t1 dX5_copyFrom_20 ?_
  obtain ⟨μ2, e1, h⟩ := lt_some h
  refine wp_putIe e1 fl_X5_21 (by decide) rfl (kltC t0) t0 dX5_copyFrom_23 ?_
  obtain rfl := ret1 h
  exact wp_vret rfl dX5_copyFrom_26 ⟨rfl, rfl, rfl⟩
theorem ok_Reader_appendNumber_l3 {l : Launch} {d : Nat} (hd : 1 ≤ d) (v0 : Nat) (t0 : sK SC v0 = 6) (v1 : Int32)  (v2 : Int32)  (μ : Mm) {Q : Option Value → Sh → Mm → Prop} (K : (Int32 × Mm) ⊕ Mm → Prop) (hb : ∀ (s : (Int32 × Mm)), K (Sum.inl s) → Wp l SC d (0, 0) mX6_appendNumber 3 [some (.ref v0), some (.int v1), some (.int s.1)] [] s.2 Q) (he0 : ∀ (x : Mm) (z0 : Option Value) (z1 : Option Value) (z2 : Option Value), K (Sum.inr x) → Wp l SC d (0, 0) mX6_appendNumber 39 [z0, z1, z2] [] x Q) {z : (Int32 × Mm) ⊕ Mm} (h : Reader_appendNumber_l3 v0 v1 v2 μ = some z) (hz : K z) : Wp l SC d (0, 0) mX6_appendNumber 3 [some (.ref v0), some (.int v1), some (.int v2)] [] μ Q := by
  unfold Reader_appendNumber_l3 at h
  refine wp_iload_n (x := v2) dX6_appendNumber_3 rfl ?_
  refine wp_if_lt 39 dX6_appendNumber_4 (by decide) (fun c1 => ?_) (fun c1 => ?_)
  · rw [if_pos c1] at h
    obtain rfl := some1 h
    exact he0 μ _ _ _ hz
  · rw [if_neg c1] at h
    refine wp_aload_n (x := v0) dX6_appendNumber_7 rfl ?_
    refine wp_getR (v0 + 1) fl_X6_9 (by decide) rfl (kltC t0) t0 (ly6_0 t0).1 dX6_appendNumber_8 ?_
    refine wp_aload_n (x := v0) dX6_appendNumber_11 rfl ?_
    refine wp_getI fl_X6_42 (by decide) rfl (kltC t0) t0 dX6_appendNumber_12 ?_
    refine wp_iload_n (x := v1) dX6_appendNumber_15 rfl ?_
    refine wp_iload_n (x := v2) dX6_appendNumber_16 rfl ?_
    refine wp_iushr dX6_appendNumber_17 ?_
    refine wp_sipush (nI 255) dX6_appendNumber_18 rfl ?_
    refine wp_iand dX6_appendNumber_21 ?_
    obtain ⟨c1, h⟩ := chv_some h
    obtain ⟨μ1, e1, h⟩ := lt_some h
    refine wp_iaste e1 (kltC (ly6_0 t0).2.1) (ly6_0 t0).2.1 (ly6_0 t0).2.2 c1 dX6_appendNumber_22 ?_
    refine wp_aload_n (x := v0) dX6_appendNumber_23 rfl ?_
    refine wp_dup dX6_appendNumber_24 rfl ?_
    refine wp_getI fl_X6_42 (by decide) rfl (kltC t0) t0 dX6_appendNumber_25 ?_
    refine wp_iconst (nI 1) dX6_appendNumber_28 rfl ?_
    refine wp_iadd dX6_appendNumber_29 ?_
    obtain ⟨μ2, e1, h⟩ := lt_some h
    refine wp_putIe e1 fl_X6_42 (by decide) rfl (kltC t0) t0 dX6_appendNumber_30 ?_
    refine wp_iinc (x := v2) (k0 := (-8)) (L2 := [some (.ref v0), some (.int v1), some (.int (v2 + (-8)))]) dX6_appendNumber_33 rfl rfl (by decide) rfl rfl ?_
    refine wp_goto 3 dX6_appendNumber_36 (by decide) ?_
    obtain rfl := some1 h
    exact hb ((v2 + (-8)), μ2) hz
theorem okl_Reader_appendNumber_l3 {l : Launch} {d : Nat} (hd : 1 ≤ d) (v0 : Nat) (t0 : sK SC v0 = 6) (v1 : Int32)  {Q : Option Value → Sh → Mm → Prop} (K : Mm → Prop) (he0 : ∀ (x : Mm) (z0 : Option Value) (z1 : Option Value) (z2 : Option Value), K x → Wp l SC d (0, 0) mX6_appendNumber 39 [z0, z1, z2] [] x Q) : ∀ (n : Nat) (s : (Int32 × Mm)) (y : Mm) , iter n (fun s => Reader_appendNumber_l3 v0 v1 s.1 s.2) s = some y → K y → Wp l SC d (0, 0) mX6_appendNumber 3 [some (.ref v0), some (.int v1), some (.int s.1)] [] s.2 Q := by
  intro n
  induction n with
  | zero => intro s y  h; cases h
  | succ n ih =>
    intro s y  h hK
    obtain ⟨z, hz, hn⟩ := iter_some h
    refine ok_Reader_appendNumber_l3 hd v0 t0 v1 s.1 s.2 (fun z => nxt n (fun s => Reader_appendNumber_l3 v0 v1 s.1 s.2) z y) ?_ ?_ hz hn
    · intro s2  h2
      exact ih s2 y h2 hK
    · intro x z0 z1 z2 h2
      have h3 : x = y := h2
      subst h3
      exact he0 x _ _ _ hK
theorem ok_Reader_appendNumber {l : Launch} {d : Nat} (hd : 1 ≤ d) (v0 : Nat) (t0 : sK SC v0 = 6) (v1 : Int32)  (μ : Mm) {μ' : Mm} (h : Reader_appendNumber v0 v1 μ = some μ') : Wp l SC d (0, 0) mX6_appendNumber 0 [some (.ref v0), some (.int v1), none] [] μ (Qv SC μ') := by
  unfold Reader_appendNumber at h
  refine wp_bipush (nI 24) dX6_appendNumber_0 rfl ?_
  refine wp_istore_n (L2 := [some (.ref v0), some (.int v1), some (.int (nI 24))]) dX6_appendNumber_2 (by decide) rfl rfl ?_
  obtain ⟨x3, hi, h⟩ := bni_some h
  refine okl_Reader_appendNumber_l3 hd v0 t0 v1 (fun z => z = x3) ?_ 1000000 ((nI 24), μ) x3 hi rfl
  · intro y0 z0 z1 z2 e0
    have e0 : y0 = x3 := e0
    subst e0
    obtain rfl := ret1 h
    exact wp_vret rfl dX6_appendNumber_39 ⟨rfl, rfl, rfl⟩
theorem ok_Reader_append {l : Launch} {d : Nat} (hd : 2 ≤ d) (v0 : Nat) (t0 : sK SC v0 = 6) (v1 : Int32)  (v2 : Int32)  (v3 : Int32)  (v4 : Int32)  (v5 : Int32)  (μ : Mm) {r : Int32} {μ' : Mm} (h : Reader_append v0 v1 v2 v3 v4 v5 μ = some (r, μ')) : Wp l SC d (0, 0) mX6_append 0 [some (.ref v0), some (.int v1), some (.int v2), some (.int v3), some (.int v4), some (.int v5)] [] μ (Qi SC r μ') := by
  unfold Reader_append at h
  refine wp_aload_n (x := v0) dX6_append_0 rfl ?_
  refine wp_getI fl_X6_42 (by decide) rfl (kltC t0) t0 dX6_append_1 ?_
  refine wp_bipush (nI 20) dX6_append_4 rfl ?_
  refine wp_iadd dX6_append_6 ?_
  refine wp_sipush (nI 400) dX6_append_7 rfl ?_
  refine wp_icmp_le 15 dX6_append_10 (by decide) (fun c1 => ?_) (fun c1 => ?_)
  · rw [if_pos c1] at h
    refine wp_aload_n (x := v0) dX6_append_15 rfl ?_
    refine wp_iload_n (x := v1) dX6_append_16 rfl ?_
    obtain ⟨μ1, g1, h⟩ := bnd_some h
    refine wp_cVv (d := d - 1) (o := v0) cv_X6_45 (kltC t0) t0 (as := [.int v1]) (rest := []) dX6_append_17 (by omega) cloC rfl rfl (Nat.le_of_ble_eq_true rfl) (Nat.le_of_ble_eq_true rfl) (ok_Reader_appendNumber (by omega) v0 t0 v1 μ g1) ?_ rfl
    refine wp_aload_n (x := v0) dX6_append_20 rfl ?_
    refine wp_iload_n (x := v2) dX6_append_21 rfl ?_
    obtain ⟨μ2, g1, h⟩ := bnd_some h
    refine wp_cVv (d := d - 1) (o := v0) cv_X6_45 (kltC t0) t0 (as := [.int v2]) (rest := []) dX6_append_22 (by omega) cloC rfl rfl (Nat.le_of_ble_eq_true rfl) (Nat.le_of_ble_eq_true rfl) (ok_Reader_appendNumber (by omega) v0 t0 v2 μ1 g1) ?_ rfl
    refine wp_aload_n (x := v0) dX6_append_25 rfl ?_
    refine wp_iload_n (x := v3) dX6_append_26 rfl ?_
    obtain ⟨μ3, g1, h⟩ := bnd_some h
    refine wp_cVv (d := d - 1) (o := v0) cv_X6_45 (kltC t0) t0 (as := [.int v3]) (rest := []) dX6_append_27 (by omega) cloC rfl rfl (Nat.le_of_ble_eq_true rfl) (Nat.le_of_ble_eq_true rfl) (ok_Reader_appendNumber (by omega) v0 t0 v3 μ2 g1) ?_ rfl
    refine wp_aload_n (x := v0) dX6_append_30 rfl ?_
    refine wp_iload (x := v4) dX6_append_31 rfl ?_
    obtain ⟨μ4, g1, h⟩ := bnd_some h
    refine wp_cVv (d := d - 1) (o := v0) cv_X6_45 (kltC t0) t0 (as := [.int v4]) (rest := []) dX6_append_33 (by omega) cloC rfl rfl (Nat.le_of_ble_eq_true rfl) (Nat.le_of_ble_eq_true rfl) (ok_Reader_appendNumber (by omega) v0 t0 v4 μ3 g1) ?_ rfl
    refine wp_aload_n (x := v0) dX6_append_36 rfl ?_
    refine wp_iload (x := v5) dX6_append_37 rfl ?_
    obtain ⟨μ5, g1, h⟩ := bnd_some h
    refine wp_cVv (d := d - 1) (o := v0) cv_X6_45 (kltC t0) t0 (as := [.int v5]) (rest := []) dX6_append_39 (by omega) cloC rfl rfl (Nat.le_of_ble_eq_true rfl) (Nat.le_of_ble_eq_true rfl) (ok_Reader_appendNumber (by omega) v0 t0 v5 μ4 g1) ?_ rfl
    refine wp_aload_n (x := v0) dX6_append_42 rfl ?_
    refine wp_getI fl_X6_42 (by decide) rfl (kltC t0) t0 dX6_append_43 ?_
    obtain ⟨rfl, rfl⟩ := ret2 h
    exact wp_iret rfl dX6_append_46 ⟨rfl, rfl, rfl⟩
  · rw [if_neg c1] at h
    refine wp_iconst (-1) dX6_append_13 rfl ?_
    obtain ⟨rfl, rfl⟩ := ret2 h
    exact wp_iret rfl dX6_append_14 ⟨rfl, rfl, rfl⟩
theorem ok_Reader_isLetter_j24 {l : Launch} {d : Nat} (hd : 1 ≤ d) (μ : Mm) (z0 : Option Value) {r : Int32} (h : Reader_isLetter_j24 = some r) : Wp l SC d (0, 0) mX6_isLetter 24 [z0] [] μ (Qi SC r μ) := by
  unfold Reader_isLetter_j24 at h
  refine wp_iconst (nI 1) dX6_isLetter_24 rfl ?_
  refine wp_goto 29 dX6_isLetter_25 (by decide) ?_
  obtain rfl := ret1 h
  exact wp_zret rfl (Or.inr rfl) dX6_isLetter_29 ⟨rfl, rfl, rfl⟩
theorem ok_Reader_isLetter_j12 {l : Launch} {d : Nat} (hd : 1 ≤ d) (v0 : Int32)  (μ : Mm) {r : Int32} (h : Reader_isLetter_j12 v0 = some r) : Wp l SC d (0, 0) mX6_isLetter 12 [some (.int v0)] [] μ (Qi SC r μ) := by
  unfold Reader_isLetter_j12 at h
  refine wp_iload_n (x := v0) dX6_isLetter_12 rfl ?_
  refine wp_bipush (nI 65) dX6_isLetter_13 rfl ?_
  refine wp_icmp_lt 28 dX6_isLetter_15 (by decide) (fun c1 => ?_) (fun c1 => ?_)
  · rw [if_pos c1] at h
    refine wp_iconst (nI 0) dX6_isLetter_28 rfl ?_
    obtain rfl := ret1 h
    exact wp_zret rfl (Or.inl rfl) dX6_isLetter_29 ⟨rfl, rfl, rfl⟩
  · rw [if_neg c1] at h
    refine wp_iload_n (x := v0) dX6_isLetter_18 rfl ?_
    refine wp_bipush (nI 90) dX6_isLetter_19 rfl ?_
    refine wp_icmp_gt 28 dX6_isLetter_21 (by decide) (fun c1 => ?_) (fun c1 => ?_)
    · rw [if_pos c1] at h
      refine wp_iconst (nI 0) dX6_isLetter_28 rfl ?_
      obtain rfl := ret1 h
      exact wp_zret rfl (Or.inl rfl) dX6_isLetter_29 ⟨rfl, rfl, rfl⟩
    · rw [if_neg c1] at h
      exact ok_Reader_isLetter_j24 hd μ _ h
theorem ok_Reader_isLetter {l : Launch} {d : Nat} (hd : 1 ≤ d) (v0 : Int32)  (μ : Mm) {r : Int32} (h : Reader_isLetter v0 = some r) : Wp l SC d (0, 0) mX6_isLetter 0 [some (.int v0)] [] μ (Qi SC r μ) := by
  unfold Reader_isLetter at h
  refine wp_iload_n (x := v0) dX6_isLetter_0 rfl ?_
  refine wp_bipush (nI 97) dX6_isLetter_1 rfl ?_
  refine wp_icmp_lt 12 dX6_isLetter_3 (by decide) (fun c1 => ?_) (fun c1 => ?_)
  · rw [if_pos c1] at h
    exact ok_Reader_isLetter_j12 hd v0 μ h
  · rw [if_neg c1] at h
    refine wp_iload_n (x := v0) dX6_isLetter_6 rfl ?_
    refine wp_bipush (nI 122) dX6_isLetter_7 rfl ?_
    refine wp_icmp_le 24 dX6_isLetter_9 (by decide) (fun c1 => ?_) (fun c1 => ?_)
    · rw [if_pos c1] at h
      exact ok_Reader_isLetter_j24 hd μ _ h
    · rw [if_neg c1] at h
      exact ok_Reader_isLetter_j12 hd v0 μ h
theorem ok_Reader_isDigit {l : Launch} {d : Nat} (hd : 1 ≤ d) (v0 : Int32)  (μ : Mm) {r : Int32} (h : Reader_isDigit v0 = some r) : Wp l SC d (0, 0) mX6_isDigit 0 [some (.int v0)] [] μ (Qi SC r μ) := by
  unfold Reader_isDigit at h
  refine wp_iload_n (x := v0) dX6_isDigit_0 rfl ?_
  refine wp_bipush (nI 48) dX6_isDigit_1 rfl ?_
  refine wp_icmp_lt 16 dX6_isDigit_3 (by decide) (fun c1 => ?_) (fun c1 => ?_)
  · rw [if_pos c1] at h
    refine wp_iconst (nI 0) dX6_isDigit_16 rfl ?_
    obtain rfl := ret1 h
    exact wp_zret rfl (Or.inl rfl) dX6_isDigit_17 ⟨rfl, rfl, rfl⟩
  · rw [if_neg c1] at h
    refine wp_iload_n (x := v0) dX6_isDigit_6 rfl ?_
    refine wp_bipush (nI 57) dX6_isDigit_7 rfl ?_
    refine wp_icmp_gt 16 dX6_isDigit_9 (by decide) (fun c1 => ?_) (fun c1 => ?_)
    · rw [if_pos c1] at h
      refine wp_iconst (nI 0) dX6_isDigit_16 rfl ?_
      obtain rfl := ret1 h
      exact wp_zret rfl (Or.inl rfl) dX6_isDigit_17 ⟨rfl, rfl, rfl⟩
    · rw [if_neg c1] at h
      refine wp_iconst (nI 1) dX6_isDigit_12 rfl ?_
      refine wp_goto 17 dX6_isDigit_13 (by decide) ?_
      obtain rfl := ret1 h
      exact wp_zret rfl (Or.inr rfl) dX6_isDigit_17 ⟨rfl, rfl, rfl⟩
theorem ok_Reader_endOfToken_l54 {l : Launch} {d : Nat} (hd : 2 ≤ d) (v0 : Nat) (t0 : sK SC v0 = 6) (v2 : Int32)  (μ : Mm) (z1 : Option Value) {Q : Option Value → Sh → Mm → Prop} (K : Int32 ⊕ Int32 → Prop) (hb : ∀ (s : Int32) (z1 : Option Value), K (Sum.inl s) → Wp l SC d (0, 0) mX6_endOfToken 54 [some (.ref v0), z1, some (.int s)] [] μ Q) (he0 : ∀ (x : Int32) (z0 : Option Value) (z1 : Option Value), K (Sum.inr x) → Wp l SC d (0, 0) mX6_endOfToken 80 [z0, z1, some (.int x)] [] μ Q) {z : Int32 ⊕ Int32} (h : Reader_endOfToken_l54 v0 v2 μ = some z) (hz : K z) : Wp l SC d (0, 0) mX6_endOfToken 54 [some (.ref v0), z1, some (.int v2)] [] μ Q := by
  unfold Reader_endOfToken_l54 at h
  refine wp_iload_n (x := v2) dX6_endOfToken_54 rfl ?_
  refine wp_aload_n (x := v0) dX6_endOfToken_55 rfl ?_
  refine wp_getI fl_X6_42 (by decide) rfl (kltC t0) t0 dX6_endOfToken_56 ?_
  refine wp_icmp_ge 80 dX6_endOfToken_59 (by decide) (fun c1 => ?_) (fun c1 => ?_)
  · rw [if_pos c1] at h
    obtain rfl := some1 h
    exact he0 v2 _ _ hz
  · rw [if_neg c1] at h
    refine wp_aload_n (x := v0) dX6_endOfToken_62 rfl ?_
    refine wp_getR (v0 + 1) fl_X6_9 (by decide) rfl (kltC t0) t0 (ly6_0 t0).1 dX6_endOfToken_63 ?_
    refine wp_iload_n (x := v2) dX6_endOfToken_66 rfl ?_
    obtain ⟨c1, h⟩ := chv_some h
    refine wp_ialde (kltC (ly6_0 t0).2.1) (ly6_0 t0).2.1 (ly6_0 t0).2.2 c1 dX6_endOfToken_67 ?_
    obtain ⟨r3, g1, h⟩ := bnd_some h
    refine wp_cSi (d := d - 1) cs_X6_76 (as := [.int (μ.1 (v0 + 1) (ix v2))]) (rest := []) dX6_endOfToken_68 (by omega) cloC rfl rfl (Nat.le_of_ble_eq_true rfl) (Nat.le_of_ble_eq_true rfl) (ok_Reader_isDigit (by omega) (μ.1 (v0 + 1) (ix v2)) μ g1) ?_ rfl
    refine wp_if_eq 80 dX6_endOfToken_71 (by decide) (fun c1 => ?_) (fun c1 => ?_)
    · rw [if_pos c1] at h
      obtain rfl := some1 h
      exact he0 v2 _ _ hz
    · rw [if_neg c1] at h
      refine wp_iincF (x := v2) (k0 := (nI 1)) (L2 := [some (.ref v0), none, some (.int (v2 + (nI 1)))]) dX6_endOfToken_74 rfl rfl (by decide) rfl ?_
      refine wp_goto 54 dX6_endOfToken_77 (by decide) ?_
      obtain rfl := some1 h
      exact hb (v2 + (nI 1)) _ hz
theorem okl_Reader_endOfToken_l54 {l : Launch} {d : Nat} (hd : 2 ≤ d) (v0 : Nat) (t0 : sK SC v0 = 6) (μ : Mm) {Q : Option Value → Sh → Mm → Prop} (K : Int32 → Prop) (he0 : ∀ (x : Int32) (z0 : Option Value) (z1 : Option Value), K x → Wp l SC d (0, 0) mX6_endOfToken 80 [z0, z1, some (.int x)] [] μ Q) : ∀ (n : Nat) (s : Int32) (y : Int32) (z1 : Option Value) , iter n (fun s => Reader_endOfToken_l54 v0 s μ) s = some y → K y → Wp l SC d (0, 0) mX6_endOfToken 54 [some (.ref v0), z1, some (.int s)] [] μ Q := by
  intro n
  induction n with
  | zero => intro s y z1 h; cases h
  | succ n ih =>
    intro s y z1 h hK
    obtain ⟨z, hz, hn⟩ := iter_some h
    refine ok_Reader_endOfToken_l54 hd v0 t0 s μ _ (fun z => nxt n (fun s => Reader_endOfToken_l54 v0 s μ) z y) ?_ ?_ hz hn
    · intro s2 z1 h2
      exact ih s2 y _ h2 hK
    · intro x z0 z1 h2
      have h3 : x = y := h2
      subst h3
      exact he0 x _ _ hK
theorem ok_Reader_endOfToken_l16 {l : Launch} {d : Nat} (hd : 2 ≤ d) (v0 : Nat) (t0 : sK SC v0 = 6) (v2 : Int32)  (μ : Mm) (z1 : Option Value) {Q : Option Value → Sh → Mm → Prop} (K : Int32 ⊕ Int32 → Prop) (hb : ∀ (s : Int32) (z1 : Option Value), K (Sum.inl s) → Wp l SC d (0, 0) mX6_endOfToken 16 [some (.ref v0), z1, some (.int s)] [] μ Q) (he0 : ∀ (x : Int32) (z0 : Option Value) (z1 : Option Value), K (Sum.inr x) → Wp l SC d (0, 0) mX6_endOfToken 80 [z0, z1, some (.int x)] [] μ Q) {z : Int32 ⊕ Int32} (h : Reader_endOfToken_l16 v0 v2 μ = some z) (hz : K z) : Wp l SC d (0, 0) mX6_endOfToken 16 [some (.ref v0), z1, some (.int v2)] [] μ Q := by
  unfold Reader_endOfToken_l16 at h
  refine wp_iload_n (x := v2) dX6_endOfToken_16 rfl ?_
  refine wp_aload_n (x := v0) dX6_endOfToken_17 rfl ?_
  refine wp_getI fl_X6_42 (by decide) rfl (kltC t0) t0 dX6_endOfToken_18 ?_
  refine wp_icmp_ge 80 dX6_endOfToken_21 (by decide) (fun c1 => ?_) (fun c1 => ?_)
  · rw [if_pos c1] at h
    obtain rfl := some1 h
    exact he0 v2 _ _ hz
  · rw [if_neg c1] at h
    refine wp_aload_n (x := v0) dX6_endOfToken_24 rfl ?_
    refine wp_getR (v0 + 1) fl_X6_9 (by decide) rfl (kltC t0) t0 (ly6_0 t0).1 dX6_endOfToken_25 ?_
    refine wp_iload_n (x := v2) dX6_endOfToken_28 rfl ?_
    obtain ⟨c1, h⟩ := chv_some h
    refine wp_ialde (kltC (ly6_0 t0).2.1) (ly6_0 t0).2.1 (ly6_0 t0).2.2 c1 dX6_endOfToken_29 ?_
    obtain ⟨r4, g1, h⟩ := bnd_some h
    refine wp_cSi (d := d - 1) cs_X6_72 (as := [.int (μ.1 (v0 + 1) (ix v2))]) (rest := []) dX6_endOfToken_30 (by omega) cloC rfl rfl (Nat.le_of_ble_eq_true rfl) (Nat.le_of_ble_eq_true rfl) (ok_Reader_isLetter (by omega) (μ.1 (v0 + 1) (ix v2)) μ g1) ?_ rfl
    refine wp_if_eq 80 dX6_endOfToken_33 (by decide) (fun c1 => ?_) (fun c1 => ?_)
    · rw [if_pos c1] at h
      obtain rfl := some1 h
      exact he0 v2 _ _ hz
    · rw [if_neg c1] at h
      refine wp_iincF (x := v2) (k0 := (nI 1)) (L2 := [some (.ref v0), none, some (.int (v2 + (nI 1)))]) dX6_endOfToken_36 rfl rfl (by decide) rfl ?_
      refine wp_goto 16 dX6_endOfToken_39 (by decide) ?_
      obtain rfl := some1 h
      exact hb (v2 + (nI 1)) _ hz
theorem okl_Reader_endOfToken_l16 {l : Launch} {d : Nat} (hd : 2 ≤ d) (v0 : Nat) (t0 : sK SC v0 = 6) (μ : Mm) {Q : Option Value → Sh → Mm → Prop} (K : Int32 → Prop) (he0 : ∀ (x : Int32) (z0 : Option Value) (z1 : Option Value), K x → Wp l SC d (0, 0) mX6_endOfToken 80 [z0, z1, some (.int x)] [] μ Q) : ∀ (n : Nat) (s : Int32) (y : Int32) (z1 : Option Value) , iter n (fun s => Reader_endOfToken_l16 v0 s μ) s = some y → K y → Wp l SC d (0, 0) mX6_endOfToken 16 [some (.ref v0), z1, some (.int s)] [] μ Q := by
  intro n
  induction n with
  | zero => intro s y z1 h; cases h
  | succ n ih =>
    intro s y z1 h hK
    obtain ⟨z, hz, hn⟩ := iter_some h
    refine ok_Reader_endOfToken_l16 hd v0 t0 s μ _ (fun z => nxt n (fun s => Reader_endOfToken_l16 v0 s μ) z y) ?_ ?_ hz hn
    · intro s2 z1 h2
      exact ih s2 y _ h2 hK
    · intro x z0 z1 h2
      have h3 : x = y := h2
      subst h3
      exact he0 x _ _ hK
theorem ok_Reader_endOfToken {l : Launch} {d : Nat} (hd : 2 ≤ d) (v0 : Nat) (t0 : sK SC v0 = 6) (v1 : Int32)  (μ : Mm) {r : Int32} (h : Reader_endOfToken v0 v1 μ = some r) : Wp l SC d (0, 0) mX6_endOfToken 0 [some (.ref v0), some (.int v1), none] [] μ (Qi SC r μ) := by
  unfold Reader_endOfToken at h
  refine wp_iload_n (x := v1) dX6_endOfToken_0 rfl ?_
  refine wp_iconst (nI 1) dX6_endOfToken_1 rfl ?_
  refine wp_iadd dX6_endOfToken_2 ?_
  refine wp_istore_n (L2 := [some (.ref v0), some (.int v1), some (.int (v1 + (nI 1)))]) dX6_endOfToken_3 (by decide) rfl rfl ?_
  refine wp_aload_n (x := v0) dX6_endOfToken_4 rfl ?_
  refine wp_getR (v0 + 1) fl_X6_9 (by decide) rfl (kltC t0) t0 (ly6_0 t0).1 dX6_endOfToken_5 ?_
  refine wp_iload_n (x := v1) dX6_endOfToken_8 rfl ?_
  obtain ⟨c1, h⟩ := chv_some h
  refine wp_ialde (kltC (ly6_0 t0).2.1) (ly6_0 t0).2.1 (ly6_0 t0).2.2 c1 dX6_endOfToken_9 ?_
  obtain ⟨r1, g1, h⟩ := bnd_some h
  refine wp_cSi (d := d - 1) cs_X6_72 (as := [.int (μ.1 (v0 + 1) (ix v1))]) (rest := []) dX6_endOfToken_10 (by omega) cloC rfl rfl (Nat.le_of_ble_eq_true rfl) (Nat.le_of_ble_eq_true rfl) (ok_Reader_isLetter (by omega) (μ.1 (v0 + 1) (ix v1)) μ g1) ?_ rfl
  refine wp_if_eq 42 dX6_endOfToken_13 (by decide) (fun c1 => ?_) (fun c1 => ?_)
  · rw [if_pos c1] at h
    refine wp_aload_n (x := v0) dX6_endOfToken_42 rfl ?_
    refine wp_getR (v0 + 1) fl_X6_9 (by decide) rfl (kltC t0) t0 (ly6_0 t0).1 dX6_endOfToken_43 ?_
    refine wp_iload_n (x := v1) dX6_endOfToken_46 rfl ?_
    obtain ⟨c1, h⟩ := chv_some h
    refine wp_ialde (kltC (ly6_0 t0).2.1) (ly6_0 t0).2.1 (ly6_0 t0).2.2 c1 dX6_endOfToken_47 ?_
    obtain ⟨r2, g1, h⟩ := bnd_some h
    refine wp_cSi (d := d - 1) cs_X6_76 (as := [.int (μ.1 (v0 + 1) (ix v1))]) (rest := []) dX6_endOfToken_48 (by omega) cloC rfl rfl (Nat.le_of_ble_eq_true rfl) (Nat.le_of_ble_eq_true rfl) (ok_Reader_isDigit (by omega) (μ.1 (v0 + 1) (ix v1)) μ g1) ?_ rfl
    refine wp_if_eq 80 dX6_endOfToken_51 (by decide) (fun c1 => ?_) (fun c1 => ?_)
    · rw [if_pos c1] at h
      refine wp_iload_n (x := (v1 + (nI 1))) dX6_endOfToken_80 rfl ?_
      obtain rfl := ret1 h
      exact wp_iret rfl dX6_endOfToken_81 ⟨rfl, rfl, rfl⟩
    · rw [if_neg c1] at h
      obtain ⟨x54, hi, h⟩ := bni_some h
      refine okl_Reader_endOfToken_l54 hd v0 t0 μ (fun z => z = x54) ?_ 1000000 (v1 + (nI 1)) x54 _ hi rfl
      · intro y0 z0 z1 e0
        have e0 : y0 = x54 := e0
        subst e0
        refine wp_iload_n (x := y0) dX6_endOfToken_80 rfl ?_
        obtain rfl := ret1 h
        exact wp_iret rfl dX6_endOfToken_81 ⟨rfl, rfl, rfl⟩
  · rw [if_neg c1] at h
    obtain ⟨x16, hi, h⟩ := bni_some h
    refine okl_Reader_endOfToken_l16 hd v0 t0 μ (fun z => z = x16) ?_ 1000000 (v1 + (nI 1)) x16 _ hi rfl
    · intro y0 z0 z1 e0
      have e0 : y0 = x16 := e0
      subst e0
      refine wp_iload_n (x := y0) dX6_endOfToken_80 rfl ?_
      obtain rfl := ret1 h
      exact wp_iret rfl dX6_endOfToken_81 ⟨rfl, rfl, rfl⟩
theorem ok_Reader_isSpelled_l3 {l : Launch} {d : Nat} (hd : 8 ≤ d) (v0 : Nat) (t0 : sK SC v0 = 6) (v1 : Int32)  (v2 : Int32)  (v3 : Int32)  (v4 : Int32)  (μ : Mm) {Q : Option Value → Sh → Mm → Prop} (K : Int32 ⊕ (Unit ⊕ Unit) → Prop) (hb : ∀ (s : Int32), K (Sum.inl s) → Wp l SC d (0, 0) mX6_isSpelled 3 [some (.ref v0), some (.int v1), some (.int v2), some (.int v3), some (.int s)] [] μ Q) (he0 : ∀ (x : Unit) (z0 : Option Value) (z1 : Option Value) (z2 : Option Value) (z3 : Option Value) (z4 : Option Value), K (Sum.inr (Sum.inl x)) → Wp l SC d (0, 0) mX6_isSpelled 32 [z0, z1, z2, z3, z4] [] μ Q) (he1 : ∀ (x : Unit) (z0 : Option Value) (z1 : Option Value) (z2 : Option Value) (z3 : Option Value) (z4 : Option Value), K (Sum.inr (Sum.inr x)) → Wp l SC d (0, 0) mX6_isSpelled 40 [z0, z1, z2, z3, z4] [] μ Q) {z : Int32 ⊕ (Unit ⊕ Unit)} (h : Reader_isSpelled_l3 v0 v1 v2 v3 v4 μ = some z) (hz : K z) : Wp l SC d (0, 0) mX6_isSpelled 3 [some (.ref v0), some (.int v1), some (.int v2), some (.int v3), some (.int v4)] [] μ Q := by
  unfold Reader_isSpelled_l3 at h
  refine wp_iload_n (x := v2) dX6_isSpelled_3 rfl ?_
  refine wp_iload (x := v4) dX6_isSpelled_4 rfl ?_
  refine wp_iadd dX6_isSpelled_6 ?_
  refine wp_iload_n (x := v3) dX6_isSpelled_7 rfl ?_
  refine wp_icmp_ge 40 dX6_isSpelled_8 (by decide) (fun c1 => ?_) (fun c1 => ?_)
  · rw [if_pos c1] at h
    obtain rfl := some1 h
    exact he1 () _ _ _ _ _ hz
  · rw [if_neg c1] at h
    refine wp_aload_n (x := v0) dX6_isSpelled_11 rfl ?_
    refine wp_getR (v0 + 1) fl_X6_9 (by decide) rfl (kltC t0) t0 (ly6_0 t0).1 dX6_isSpelled_12 ?_
    refine wp_iload_n (x := v2) dX6_isSpelled_15 rfl ?_
    refine wp_iload (x := v4) dX6_isSpelled_16 rfl ?_
    refine wp_iadd dX6_isSpelled_18 ?_
    obtain ⟨c1, h⟩ := chv_some h
    refine wp_ialde (kltC (ly6_0 t0).2.1) (ly6_0 t0).2.1 (ly6_0 t0).2.2 c1 dX6_isSpelled_19 ?_
    refine wp_ldcWords rfl dX6_isSpelled_20 ?_
    refine wp_iload_n (x := v1) dX6_isSpelled_22 rfl ?_
    refine wp_iload (x := v4) dX6_isSpelled_23 rfl ?_
    refine wp_iadd dX6_isSpelled_25 ?_
    obtain ⟨c1, h⟩ := chv_some h
    refine wp_wchar sv_X6_90 c1 (by omega) (Nat.le_of_ble_eq_true rfl) dX6_isSpelled_26 ?_
    refine wp_icmp_eq 34 dX6_isSpelled_29 (by decide) (fun c1 => ?_) (fun c1 => ?_)
    · rw [if_pos c1] at h
      refine wp_iinc (x := v4) (k0 := (nI 1)) (L2 := [some (.ref v0), some (.int v1), some (.int v2), some (.int v3), some (.int (v4 + (nI 1)))]) dX6_isSpelled_34 rfl rfl (by decide) rfl rfl ?_
      refine wp_goto 3 dX6_isSpelled_37 (by decide) ?_
      obtain rfl := some1 h
      exact hb (v4 + (nI 1)) hz
    · rw [if_neg c1] at h
      obtain rfl := some1 h
      exact he0 () _ _ _ _ _ hz
theorem okl_Reader_isSpelled_l3 {l : Launch} {d : Nat} (hd : 8 ≤ d) (v0 : Nat) (t0 : sK SC v0 = 6) (v1 : Int32)  (v2 : Int32)  (v3 : Int32)  (μ : Mm) {Q : Option Value → Sh → Mm → Prop} (K : (Unit ⊕ Unit) → Prop) (he0 : ∀ (x : Unit) (z0 : Option Value) (z1 : Option Value) (z2 : Option Value) (z3 : Option Value) (z4 : Option Value), K (Sum.inl x) → Wp l SC d (0, 0) mX6_isSpelled 32 [z0, z1, z2, z3, z4] [] μ Q) (he1 : ∀ (x : Unit) (z0 : Option Value) (z1 : Option Value) (z2 : Option Value) (z3 : Option Value) (z4 : Option Value), K (Sum.inr x) → Wp l SC d (0, 0) mX6_isSpelled 40 [z0, z1, z2, z3, z4] [] μ Q) : ∀ (n : Nat) (s : Int32) (y : (Unit ⊕ Unit)) , iter n (fun s => Reader_isSpelled_l3 v0 v1 v2 v3 s μ) s = some y → K y → Wp l SC d (0, 0) mX6_isSpelled 3 [some (.ref v0), some (.int v1), some (.int v2), some (.int v3), some (.int s)] [] μ Q := by
  intro n
  induction n with
  | zero => intro s y  h; cases h
  | succ n ih =>
    intro s y  h hK
    obtain ⟨z, hz, hn⟩ := iter_some h
    refine ok_Reader_isSpelled_l3 hd v0 t0 v1 v2 v3 s μ (fun z => nxt n (fun s => Reader_isSpelled_l3 v0 v1 v2 v3 s μ) z y) ?_ ?_ ?_ hz hn
    · intro s2  h2
      exact ih s2 y h2 hK
    · intro x z0 z1 z2 z3 z4 h2
      have h3 : (Sum.inl x) = y := h2
      subst h3
      exact he0 x _ _ _ _ _ hK
    · intro x z0 z1 z2 z3 z4 h2
      have h3 : (Sum.inr x) = y := h2
      subst h3
      exact he1 x _ _ _ _ _ hK
theorem ok_Reader_isSpelled {l : Launch} {d : Nat} (hd : 8 ≤ d) (v0 : Nat) (t0 : sK SC v0 = 6) (v1 : Int32)  (v2 : Int32)  (v3 : Int32)  (μ : Mm) {r : Int32} (h : Reader_isSpelled v0 v1 v2 v3 μ = some r) : Wp l SC d (0, 0) mX6_isSpelled 0 [some (.ref v0), some (.int v1), some (.int v2), some (.int v3), none] [] μ (Qi SC r μ) := by
  unfold Reader_isSpelled at h
  refine wp_iconst (nI 0) dX6_isSpelled_0 rfl ?_
  refine wp_istore (L2 := [some (.ref v0), some (.int v1), some (.int v2), some (.int v3), some (.int (nI 0))]) dX6_isSpelled_1 (by decide) rfl rfl ?_
  obtain ⟨x3, hi, h⟩ := bni_some h
  refine okl_Reader_isSpelled_l3 hd v0 t0 v1 v2 v3 μ (fun z => z = x3) ?_ ?_ 1000000 (nI 0) x3 hi rfl
  · intro x3a z0 z1 z2 z3 z4 e0
    have e0 : (Sum.inl x3a) = x3 := e0
    subst e0
    replace h := eL h
    refine wp_iconst (nI 0) dX6_isSpelled_32 rfl ?_
    obtain rfl := ret1 h
    exact wp_zret rfl (Or.inl rfl) dX6_isSpelled_33 ⟨rfl, rfl, rfl⟩
  · intro x3b z0 z1 z2 z3 z4 e0
    have e0 : (Sum.inr x3b) = x3 := e0
    subst e0
    replace h := eR h
    refine wp_iconst (nI 1) dX6_isSpelled_40 rfl ?_
    obtain rfl := ret1 h
    exact wp_zret rfl (Or.inr rfl) dX6_isSpelled_41 ⟨rfl, rfl, rfl⟩
theorem ok_Reader_wordBetween_j65 {l : Launch} {d : Nat} (hd : 9 ≤ d) (v0 : Nat) (t0 : sK SC v0 = 6) (v1 : Int32)  (v2 : Int32)  (v3 : Int32)  (v4 : Int32)  (v5 : Int32)  (μ : Mm) {Q : Option Value → Sh → Mm → Prop} (K : (Int32 × Int32 × Int32) ⊕ (Int32 ⊕ Unit) → Prop) (hb : ∀ (s : (Int32 × Int32 × Int32)), K (Sum.inl s) → Wp l SC d (0, 0) mX6_wordBetween 10 [some (.ref v0), some (.int v1), some (.int v2), some (.int s.1), some (.int s.2.1), some (.int s.2.2)] [] μ Q) (he0 : ∀ (x : Int32) (z0 : Option Value) (z1 : Option Value) (z2 : Option Value) (z4 : Option Value) (z5 : Option Value), K (Sum.inr (Sum.inl x)) → Wp l SC d (0, 0) mX6_wordBetween 54 [z0, z1, z2, some (.int x), z4, z5] [] μ Q) (he1 : ∀ (x : Unit) (z0 : Option Value) (z1 : Option Value) (z2 : Option Value) (z3 : Option Value) (z4 : Option Value) (z5 : Option Value), K (Sum.inr (Sum.inr x)) → Wp l SC d (0, 0) mX6_wordBetween 71 [z0, z1, z2, z3, z4, z5] [] μ Q) {z : (Int32 × Int32 × Int32) ⊕ (Int32 ⊕ Unit)} (h : Reader_wordBetween_j65 v0 v1 v2 v3 v4 v5 μ = some z) (hz : K z) : Wp l SC d (0, 0) mX6_wordBetween 65 [some (.ref v0), some (.int v1), some (.int v2), some (.int v3), some (.int v4), some (.int v5)] [] μ Q := by
  unfold Reader_wordBetween_j65 at h
  refine wp_iinc (x := v5) (k0 := (nI 1)) (L2 := [some (.ref v0), some (.int v1), some (.int v2), some (.int v3), some (.int v4), some (.int (v5 + (nI 1)))]) dX6_wordBetween_65 rfl rfl (by decide) rfl rfl ?_
  refine wp_goto 10 dX6_wordBetween_68 (by decide) ?_
  obtain rfl := some1 h
  exact hb (v3, v4, (v5 + (nI 1))) hz
theorem ok_Reader_wordBetween_j56 {l : Launch} {d : Nat} (hd : 9 ≤ d) (v0 : Nat) (t0 : sK SC v0 = 6) (v1 : Int32)  (v2 : Int32)  (v3 : Int32)  (v5 : Int32)  (μ : Mm) (z4 : Option Value) {Q : Option Value → Sh → Mm → Prop} (K : (Int32 × Int32 × Int32) ⊕ (Int32 ⊕ Unit) → Prop) (hb : ∀ (s : (Int32 × Int32 × Int32)), K (Sum.inl s) → Wp l SC d (0, 0) mX6_wordBetween 10 [some (.ref v0), some (.int v1), some (.int v2), some (.int s.1), some (.int s.2.1), some (.int s.2.2)] [] μ Q) (he0 : ∀ (x : Int32) (z0 : Option Value) (z1 : Option Value) (z2 : Option Value) (z4 : Option Value) (z5 : Option Value), K (Sum.inr (Sum.inl x)) → Wp l SC d (0, 0) mX6_wordBetween 54 [z0, z1, z2, some (.int x), z4, z5] [] μ Q) (he1 : ∀ (x : Unit) (z0 : Option Value) (z1 : Option Value) (z2 : Option Value) (z3 : Option Value) (z4 : Option Value) (z5 : Option Value), K (Sum.inr (Sum.inr x)) → Wp l SC d (0, 0) mX6_wordBetween 71 [z0, z1, z2, z3, z4, z5] [] μ Q) {z : (Int32 × Int32 × Int32) ⊕ (Int32 ⊕ Unit)} (h : Reader_wordBetween_j56 v0 v1 v2 v3 v5 μ = some z) (hz : K z) : Wp l SC d (0, 0) mX6_wordBetween 56 [some (.ref v0), some (.int v1), some (.int v2), some (.int v3), z4, some (.int v5)] [] μ Q := by
  unfold Reader_wordBetween_j56 at h
  refine wp_iinc (x := v3) (k0 := (nI 1)) (L2 := [some (.ref v0), some (.int v1), some (.int v2), some (.int (v3 + (nI 1))), z4, some (.int v5)]) dX6_wordBetween_56 rfl rfl (by decide) rfl rfl ?_
  refine wp_iload (x := v5) dX6_wordBetween_59 rfl ?_
  refine wp_iconst (nI 1) dX6_wordBetween_61 rfl ?_
  refine wp_iadd dX6_wordBetween_62 ?_
  refine wp_istore (L2 := [some (.ref v0), some (.int v1), some (.int v2), some (.int (v3 + (nI 1))), some (.int (v5 + (nI 1))), some (.int v5)]) dX6_wordBetween_63 (by decide) rfl rfl ?_
  exact ok_Reader_wordBetween_j65 hd v0 t0 v1 v2 (v3 + (nI 1)) (v5 + (nI 1)) v5 μ K hb he0 he1 h hz
theorem ok_Reader_wordBetween_l10 {l : Launch} {d : Nat} (hd : 9 ≤ d) (v0 : Nat) (t0 : sK SC v0 = 6) (v1 : Int32)  (v2 : Int32)  (v3 : Int32)  (v4 : Int32)  (v5 : Int32)  (μ : Mm) {Q : Option Value → Sh → Mm → Prop} (K : (Int32 × Int32 × Int32) ⊕ (Int32 ⊕ Unit) → Prop) (hb : ∀ (s : (Int32 × Int32 × Int32)), K (Sum.inl s) → Wp l SC d (0, 0) mX6_wordBetween 10 [some (.ref v0), some (.int v1), some (.int v2), some (.int s.1), some (.int s.2.1), some (.int s.2.2)] [] μ Q) (he0 : ∀ (x : Int32) (z0 : Option Value) (z1 : Option Value) (z2 : Option Value) (z4 : Option Value) (z5 : Option Value), K (Sum.inr (Sum.inl x)) → Wp l SC d (0, 0) mX6_wordBetween 54 [z0, z1, z2, some (.int x), z4, z5] [] μ Q) (he1 : ∀ (x : Unit) (z0 : Option Value) (z1 : Option Value) (z2 : Option Value) (z3 : Option Value) (z4 : Option Value) (z5 : Option Value), K (Sum.inr (Sum.inr x)) → Wp l SC d (0, 0) mX6_wordBetween 71 [z0, z1, z2, z3, z4, z5] [] μ Q) {z : (Int32 × Int32 × Int32) ⊕ (Int32 ⊕ Unit)} (h : Reader_wordBetween_l10 v0 v1 v2 v3 v4 v5 μ = some z) (hz : K z) : Wp l SC d (0, 0) mX6_wordBetween 10 [some (.ref v0), some (.int v1), some (.int v2), some (.int v3), some (.int v4), some (.int v5)] [] μ Q := by
  unfold Reader_wordBetween_l10 at h
  refine wp_iload (x := v5) dX6_wordBetween_10 rfl ?_
  refine wp_ldcWords rfl dX6_wordBetween_12 ?_
  refine wp_wlen sv_X6_84 (by omega) (Nat.le_of_ble_eq_true rfl) dX6_wordBetween_14 ?_
  refine wp_icmp_ge 71 dX6_wordBetween_17 (by decide) (fun c1 => ?_) (fun c1 => ?_)
  · rw [if_pos c1] at h
    obtain rfl := some1 h
    exact he1 () _ _ _ _ _ _ hz
  · rw [if_neg c1] at h
    refine wp_ldcWords rfl dX6_wordBetween_20 ?_
    refine wp_iload (x := v5) dX6_wordBetween_22 rfl ?_
    obtain ⟨c1, h⟩ := chv_some h
    refine wp_wchar sv_X6_90 c1 (by omega) (Nat.le_of_ble_eq_true rfl) dX6_wordBetween_24 ?_
    refine wp_bipush (nI 32) dX6_wordBetween_27 rfl ?_
    refine wp_icmp_ne 65 dX6_wordBetween_29 (by decide) (fun c1 => ?_) (fun c1 => ?_)
    · rw [if_neg c1] at h
      exact ok_Reader_wordBetween_j65 hd v0 t0 v1 v2 v3 v4 v5 μ K hb he0 he1 h hz
    · rw [if_pos c1] at h
      refine wp_iload (x := v5) dX6_wordBetween_32 rfl ?_
      refine wp_iload (x := v4) dX6_wordBetween_34 rfl ?_
      refine wp_isub dX6_wordBetween_36 ?_
      refine wp_iload_n (x := v2) dX6_wordBetween_37 rfl ?_
      refine wp_iload_n (x := v1) dX6_wordBetween_38 rfl ?_
      refine wp_isub dX6_wordBetween_39 ?_
      refine wp_icmp_ne 56 dX6_wordBetween_40 (by decide) (fun c1 => ?_) (fun c1 => ?_)
      · rw [if_neg c1] at h
        exact ok_Reader_wordBetween_j56 hd v0 t0 v1 v2 v3 v5 μ _ K hb he0 he1 h hz
      · rw [if_pos c1] at h
        refine wp_aload_n (x := v0) dX6_wordBetween_43 rfl ?_
        refine wp_iload (x := v4) dX6_wordBetween_44 rfl ?_
        refine wp_iload_n (x := v1) dX6_wordBetween_46 rfl ?_
        refine wp_iload_n (x := v2) dX6_wordBetween_47 rfl ?_
        obtain ⟨r1, g1, h⟩ := bnd_some h
        refine wp_cVi (d := d - 1) (o := v0) cv_X6_94 (kltC t0) t0 (as := [.int v4, .int v1, .int v2]) (rest := []) dX6_wordBetween_48 (by omega) cloC rfl rfl (Nat.le_of_ble_eq_true rfl) (Nat.le_of_ble_eq_true rfl) (ok_Reader_isSpelled (by omega) v0 t0 v4 v1 v2 μ g1) ?_ rfl
        refine wp_if_eq 56 dX6_wordBetween_51 (by decide) (fun c1 => ?_) (fun c1 => ?_)
        · rw [if_pos c1] at h
          exact ok_Reader_wordBetween_j56 hd v0 t0 v1 v2 v3 v5 μ _ K hb he0 he1 h hz
        · rw [if_neg c1] at h
          obtain rfl := some1 h
          exact he0 v3 _ _ _ _ _ hz
theorem okl_Reader_wordBetween_l10 {l : Launch} {d : Nat} (hd : 9 ≤ d) (v0 : Nat) (t0 : sK SC v0 = 6) (v1 : Int32)  (v2 : Int32)  (μ : Mm) {Q : Option Value → Sh → Mm → Prop} (K : (Int32 ⊕ Unit) → Prop) (he0 : ∀ (x : Int32) (z0 : Option Value) (z1 : Option Value) (z2 : Option Value) (z4 : Option Value) (z5 : Option Value), K (Sum.inl x) → Wp l SC d (0, 0) mX6_wordBetween 54 [z0, z1, z2, some (.int x), z4, z5] [] μ Q) (he1 : ∀ (x : Unit) (z0 : Option Value) (z1 : Option Value) (z2 : Option Value) (z3 : Option Value) (z4 : Option Value) (z5 : Option Value), K (Sum.inr x) → Wp l SC d (0, 0) mX6_wordBetween 71 [z0, z1, z2, z3, z4, z5] [] μ Q) : ∀ (n : Nat) (s : (Int32 × Int32 × Int32)) (y : (Int32 ⊕ Unit)) , iter n (fun s => Reader_wordBetween_l10 v0 v1 v2 s.1 s.2.1 s.2.2 μ) s = some y → K y → Wp l SC d (0, 0) mX6_wordBetween 10 [some (.ref v0), some (.int v1), some (.int v2), some (.int s.1), some (.int s.2.1), some (.int s.2.2)] [] μ Q := by
  intro n
  induction n with
  | zero => intro s y  h; cases h
  | succ n ih =>
    intro s y  h hK
    obtain ⟨z, hz, hn⟩ := iter_some h
    refine ok_Reader_wordBetween_l10 hd v0 t0 v1 v2 s.1 s.2.1 s.2.2 μ (fun z => nxt n (fun s => Reader_wordBetween_l10 v0 v1 v2 s.1 s.2.1 s.2.2 μ) z y) ?_ ?_ ?_ hz hn
    · intro s2  h2
      exact ih s2 y h2 hK
    · intro x z0 z1 z2 z4 z5 h2
      have h3 : (Sum.inl x) = y := h2
      subst h3
      exact he0 x _ _ _ _ _ hK
    · intro x z0 z1 z2 z3 z4 z5 h2
      have h3 : (Sum.inr x) = y := h2
      subst h3
      exact he1 x _ _ _ _ _ _ hK
theorem ok_Reader_wordBetween {l : Launch} {d : Nat} (hd : 9 ≤ d) (v0 : Nat) (t0 : sK SC v0 = 6) (v1 : Int32)  (v2 : Int32)  (μ : Mm) {r : Int32} (h : Reader_wordBetween v0 v1 v2 μ = some r) : Wp l SC d (0, 0) mX6_wordBetween 0 [some (.ref v0), some (.int v1), some (.int v2), none, none, none] [] μ (Qi SC r μ) := by
  unfold Reader_wordBetween at h
  refine wp_sipush (nI 300) dX6_wordBetween_0 rfl ?_
  refine wp_istore_n (L2 := [some (.ref v0), some (.int v1), some (.int v2), some (.int (nI 300)), none, none]) dX6_wordBetween_3 (by decide) rfl rfl ?_
  refine wp_iconst (nI 0) dX6_wordBetween_4 rfl ?_
  refine wp_istore (L2 := [some (.ref v0), some (.int v1), some (.int v2), some (.int (nI 300)), some (.int (nI 0)), none]) dX6_wordBetween_5 (by decide) rfl rfl ?_
  refine wp_iconst (nI 0) dX6_wordBetween_7 rfl ?_
  refine wp_istore (L2 := [some (.ref v0), some (.int v1), some (.int v2), some (.int (nI 300)), some (.int (nI 0)), some (.int (nI 0))]) dX6_wordBetween_8 (by decide) rfl rfl ?_
  obtain ⟨x10, hi, h⟩ := bni_some h
  refine okl_Reader_wordBetween_l10 hd v0 t0 v1 v2 μ (fun z => z = x10) ?_ ?_ 1000000 ((nI 300), (nI 0), (nI 0)) x10 hi rfl
  · intro x10a z0 z1 z2 z4 z5 e0
    have e0 : (Sum.inl x10a) = x10 := e0
    subst e0
    replace h := eL h
    refine wp_iload_n (x := x10a) dX6_wordBetween_54 rfl ?_
    obtain rfl := ret1 h
    exact wp_iret rfl dX6_wordBetween_55 ⟨rfl, rfl, rfl⟩
  · intro x10b z0 z1 z2 z3 z4 z5 e0
    have e0 : (Sum.inr x10b) = x10 := e0
    subst e0
    replace h := eR h
    refine wp_sipush (nI 258) dX6_wordBetween_71 rfl ?_
    obtain rfl := ret1 h
    exact wp_iret rfl dX6_wordBetween_74 ⟨rfl, rfl, rfl⟩
theorem ok_Reader_kindOfToken {l : Launch} {d : Nat} (hd : 10 ≤ d) (v0 : Nat) (t0 : sK SC v0 = 6) (v1 : Int32)  (v2 : Int32)  (μ : Mm) {r : Int32} (h : Reader_kindOfToken v0 v1 v2 μ = some r) : Wp l SC d (0, 0) mX6_kindOfToken 0 [some (.ref v0), some (.int v1), some (.int v2)] [] μ (Qi SC r μ) := by
  unfold Reader_kindOfToken at h
  refine wp_aload_n (x := v0) dX6_kindOfToken_0 rfl ?_
  refine wp_getR (v0 + 1) fl_X6_9 (by decide) rfl (kltC t0) t0 (ly6_0 t0).1 dX6_kindOfToken_1 ?_
  refine wp_iload_n (x := v1) dX6_kindOfToken_4 rfl ?_
  obtain ⟨c1, h⟩ := chv_some h
  refine wp_ialde (kltC (ly6_0 t0).2.1) (ly6_0 t0).2.1 (ly6_0 t0).2.2 c1 dX6_kindOfToken_5 ?_
  obtain ⟨r1, g1, h⟩ := bnd_some h
  refine wp_cSi (d := d - 1) cs_X6_72 (as := [.int (μ.1 (v0 + 1) (ix v1))]) (rest := []) dX6_kindOfToken_6 (by omega) cloC rfl rfl (Nat.le_of_ble_eq_true rfl) (Nat.le_of_ble_eq_true rfl) (ok_Reader_isLetter (by omega) (μ.1 (v0 + 1) (ix v1)) μ g1) ?_ rfl
  refine wp_if_eq 19 dX6_kindOfToken_9 (by decide) (fun c1 => ?_) (fun c1 => ?_)
  · rw [if_pos c1] at h
    refine wp_aload_n (x := v0) dX6_kindOfToken_19 rfl ?_
    refine wp_getR (v0 + 1) fl_X6_9 (by decide) rfl (kltC t0) t0 (ly6_0 t0).1 dX6_kindOfToken_20 ?_
    refine wp_iload_n (x := v1) dX6_kindOfToken_23 rfl ?_
    obtain ⟨c1, h⟩ := chv_some h
    refine wp_ialde (kltC (ly6_0 t0).2.1) (ly6_0 t0).2.1 (ly6_0 t0).2.2 c1 dX6_kindOfToken_24 ?_
    obtain ⟨r2, g1, h⟩ := bnd_some h
    refine wp_cSi (d := d - 1) cs_X6_76 (as := [.int (μ.1 (v0 + 1) (ix v1))]) (rest := []) dX6_kindOfToken_25 (by omega) cloC rfl rfl (Nat.le_of_ble_eq_true rfl) (Nat.le_of_ble_eq_true rfl) (ok_Reader_isDigit (by omega) (μ.1 (v0 + 1) (ix v1)) μ g1) ?_ rfl
    refine wp_if_eq 48 dX6_kindOfToken_28 (by decide) (fun c1 => ?_) (fun c1 => ?_)
    · rw [if_pos c1] at h
      refine wp_aload_n (x := v0) dX6_kindOfToken_48 rfl ?_
      refine wp_getR (v0 + 1) fl_X6_9 (by decide) rfl (kltC t0) t0 (ly6_0 t0).1 dX6_kindOfToken_49 ?_
      refine wp_iload_n (x := v1) dX6_kindOfToken_52 rfl ?_
      obtain ⟨c1, h⟩ := chv_some h
      refine wp_ialde (kltC (ly6_0 t0).2.1) (ly6_0 t0).2.1 (ly6_0 t0).2.2 c1 dX6_kindOfToken_53 ?_
      obtain rfl := ret1 h
      exact wp_iret rfl dX6_kindOfToken_54 ⟨rfl, rfl, rfl⟩
    · rw [if_neg c1] at h
      refine wp_iload_n (x := v2) dX6_kindOfToken_31 rfl ?_
      refine wp_iload_n (x := v1) dX6_kindOfToken_32 rfl ?_
      refine wp_isub dX6_kindOfToken_33 ?_
      refine wp_iconst (nI 4) dX6_kindOfToken_34 rfl ?_
      refine wp_icmp_gt 44 dX6_kindOfToken_35 (by decide) (fun c1 => ?_) (fun c1 => ?_)
      · rw [if_pos c1] at h
        refine wp_sipush (nI 258) dX6_kindOfToken_44 rfl ?_
        obtain rfl := ret1 h
        exact wp_iret rfl dX6_kindOfToken_47 ⟨rfl, rfl, rfl⟩
      · rw [if_neg c1] at h
        refine wp_sipush (nI 257) dX6_kindOfToken_38 rfl ?_
        refine wp_goto 47 dX6_kindOfToken_41 (by decide) ?_
        obtain rfl := ret1 h
        exact wp_iret rfl dX6_kindOfToken_47 ⟨rfl, rfl, rfl⟩
  · rw [if_neg c1] at h
    refine wp_aload_n (x := v0) dX6_kindOfToken_12 rfl ?_
    refine wp_iload_n (x := v1) dX6_kindOfToken_13 rfl ?_
    refine wp_iload_n (x := v2) dX6_kindOfToken_14 rfl ?_
    obtain ⟨r3, g1, h⟩ := bnd_some h
    refine wp_cVi (d := d - 1) (o := v0) cv_X6_79 (kltC t0) t0 (as := [.int v1, .int v2]) (rest := []) dX6_kindOfToken_15 (by omega) cloC rfl rfl (Nat.le_of_ble_eq_true rfl) (Nat.le_of_ble_eq_true rfl) (ok_Reader_wordBetween (by omega) v0 t0 v1 v2 μ g1) ?_ rfl
    obtain rfl := ret1 h
    exact wp_iret rfl dX6_kindOfToken_18 ⟨rfl, rfl, rfl⟩
theorem ok_Reader_valueOfDigits_l5 {l : Launch} {d : Nat} (hd : 1 ≤ d) (v0 : Nat) (t0 : sK SC v0 = 6) (v2 : Int32)  (v3 : Int32)  (v4 : Int32)  (μ : Mm) (z1 : Option Value) {Q : Option Value → Sh → Mm → Prop} (K : (Int32 × Int32) ⊕ Int32 → Prop) (hb : ∀ (s : (Int32 × Int32)) (z1 : Option Value), K (Sum.inl s) → Wp l SC d (0, 0) mX6_valueOfDigits 5 [some (.ref v0), z1, some (.int v2), some (.int s.1), some (.int s.2)] [] μ Q) (he0 : ∀ (x : Int32) (z0 : Option Value) (z1 : Option Value) (z2 : Option Value) (z4 : Option Value), K (Sum.inr x) → Wp l SC d (0, 0) mX6_valueOfDigits 33 [z0, z1, z2, some (.int x), z4] [] μ Q) {z : (Int32 × Int32) ⊕ Int32} (h : Reader_valueOfDigits_l5 v0 v2 v3 v4 μ = some z) (hz : K z) : Wp l SC d (0, 0) mX6_valueOfDigits 5 [some (.ref v0), z1, some (.int v2), some (.int v3), some (.int v4)] [] μ Q := by
  unfold Reader_valueOfDigits_l5 at h
  refine wp_iload (x := v4) dX6_valueOfDigits_5 rfl ?_
  refine wp_iload_n (x := v2) dX6_valueOfDigits_7 rfl ?_
  refine wp_icmp_ge 33 dX6_valueOfDigits_8 (by decide) (fun c1 => ?_) (fun c1 => ?_)
  · rw [if_pos c1] at h
    obtain rfl := some1 h
    exact he0 v3 _ _ _ _ hz
  · rw [if_neg c1] at h
    refine wp_iload_n (x := v3) dX6_valueOfDigits_11 rfl ?_
    refine wp_bipush (nI 10) dX6_valueOfDigits_12 rfl ?_
    refine wp_imul dX6_valueOfDigits_14 ?_
    refine wp_aload_n (x := v0) dX6_valueOfDigits_15 rfl ?_
    refine wp_getR (v0 + 1) fl_X6_9 (by decide) rfl (kltC t0) t0 (ly6_0 t0).1 dX6_valueOfDigits_16 ?_
    refine wp_iload (x := v4) dX6_valueOfDigits_19 rfl ?_
    obtain ⟨c1, h⟩ := chv_some h
    refine wp_ialde (kltC (ly6_0 t0).2.1) (ly6_0 t0).2.1 (ly6_0 t0).2.2 c1 dX6_valueOfDigits_21 ?_
    refine wp_iadd dX6_valueOfDigits_22 ?_
    refine wp_bipush (nI 48) dX6_valueOfDigits_23 rfl ?_
    refine wp_isub dX6_valueOfDigits_25 ?_
    obtain ⟨u1, e1, h⟩ := lt_some h
    rw [← e1]
    refine wp_istore_n (L2 := [some (.ref v0), z1, some (.int v2), some (.int u1), some (.int v4)]) dX6_valueOfDigits_26 (by decide) rfl rfl ?_
    refine wp_iinc (x := v4) (k0 := (nI 1)) (L2 := [some (.ref v0), z1, some (.int v2), some (.int u1), some (.int (v4 + (nI 1)))]) dX6_valueOfDigits_27 rfl rfl (by decide) rfl rfl ?_
    refine wp_goto 5 dX6_valueOfDigits_30 (by decide) ?_
    obtain rfl := some1 h
    exact hb (u1, (v4 + (nI 1))) _ hz
theorem okl_Reader_valueOfDigits_l5 {l : Launch} {d : Nat} (hd : 1 ≤ d) (v0 : Nat) (t0 : sK SC v0 = 6) (v2 : Int32)  (μ : Mm) {Q : Option Value → Sh → Mm → Prop} (K : Int32 → Prop) (he0 : ∀ (x : Int32) (z0 : Option Value) (z1 : Option Value) (z2 : Option Value) (z4 : Option Value), K x → Wp l SC d (0, 0) mX6_valueOfDigits 33 [z0, z1, z2, some (.int x), z4] [] μ Q) : ∀ (n : Nat) (s : (Int32 × Int32)) (y : Int32) (z1 : Option Value) , iter n (fun s => Reader_valueOfDigits_l5 v0 v2 s.1 s.2 μ) s = some y → K y → Wp l SC d (0, 0) mX6_valueOfDigits 5 [some (.ref v0), z1, some (.int v2), some (.int s.1), some (.int s.2)] [] μ Q := by
  intro n
  induction n with
  | zero => intro s y z1 h; cases h
  | succ n ih =>
    intro s y z1 h hK
    obtain ⟨z, hz, hn⟩ := iter_some h
    refine ok_Reader_valueOfDigits_l5 hd v0 t0 v2 s.1 s.2 μ _ (fun z => nxt n (fun s => Reader_valueOfDigits_l5 v0 v2 s.1 s.2 μ) z y) ?_ ?_ hz hn
    · intro s2 z1 h2
      exact ih s2 y _ h2 hK
    · intro x z0 z1 z2 z4 h2
      have h3 : x = y := h2
      subst h3
      exact he0 x _ _ _ _ hK
theorem ok_Reader_valueOfDigits {l : Launch} {d : Nat} (hd : 1 ≤ d) (v0 : Nat) (t0 : sK SC v0 = 6) (v1 : Int32)  (v2 : Int32)  (μ : Mm) {r : Int32} (h : Reader_valueOfDigits v0 v1 v2 μ = some r) : Wp l SC d (0, 0) mX6_valueOfDigits 0 [some (.ref v0), some (.int v1), some (.int v2), none, none] [] μ (Qi SC r μ) := by
  unfold Reader_valueOfDigits at h
  refine wp_iconst (nI 0) dX6_valueOfDigits_0 rfl ?_
  refine wp_istore_n (L2 := [some (.ref v0), some (.int v1), some (.int v2), some (.int (nI 0)), none]) dX6_valueOfDigits_1 (by decide) rfl rfl ?_
  refine wp_iload_n (x := v1) dX6_valueOfDigits_2 rfl ?_
  refine wp_istore (L2 := [some (.ref v0), some (.int v1), some (.int v2), some (.int (nI 0)), some (.int v1)]) dX6_valueOfDigits_3 (by decide) rfl rfl ?_
  obtain ⟨x5, hi, h⟩ := bni_some h
  refine okl_Reader_valueOfDigits_l5 hd v0 t0 v2 μ (fun z => z = x5) ?_ 1000000 ((nI 0), v1) x5 _ hi rfl
  · intro y0 z0 z1 z2 z4 e0
    have e0 : y0 = x5 := e0
    subst e0
    refine wp_iload_n (x := y0) dX6_valueOfDigits_33 rfl ?_
    obtain rfl := ret1 h
    exact wp_iret rfl dX6_valueOfDigits_34 ⟨rfl, rfl, rfl⟩
