theorem ok_M_takesLaw_l2 {l : Launch} {d : Nat} (hd : 1 ≤ d) (v1 : Int32)  (v2 : Int32)  (μ : Mm) {Q : Option Value → Sh → Mm → Prop} (K : (Int32 × Mm) ⊕ Mm → Prop) (hb : ∀ (s : (Int32 × Mm)), K (Sum.inl s) → Wp l SM d (0, 0) mX11_takesLaw 2 [some (.ref 0), some (.int v1), some (.int s.1)] [] s.2 Q) (he0 : ∀ (x : Mm) (z2 : Option Value), K (Sum.inr x) → Wp l SM d (0, 0) mX11_takesLaw 82 [some (.ref 0), some (.int v1), z2] [] x Q) {z : (Int32 × Mm) ⊕ Mm} (h : M_takesLaw_l2 v1 v2 μ = some z) (hz : K z) : Wp l SM d (0, 0) mX11_takesLaw 2 [some (.ref 0), some (.int v1), some (.int v2)] [] μ Q := by
  unfold M_takesLaw_l2 at h
  refine wp_iload_n (x := v2) dX11_takesLaw_2 rfl ?_
  refine wp_iload_n (x := v1) dX11_takesLaw_3 rfl ?_
  refine wp_icmp_ge 82 dX11_takesLaw_4 (by decide) (fun c1 => ?_) (fun c1 => ?_)
  · rw [if_pos c1] at h
    obtain rfl := some1 h
    exact he0 μ _ hz
  · rw [if_neg c1] at h
    refine wp_aload_n (x := 0) dX11_takesLaw_7 rfl ?_
    refine wp_getR 14 fl_X11_49 (by decide) rfl (kltM kRootM) kRootM (ly11_28 kRootM).1 dX11_takesLaw_8 ?_
    refine wp_bipush (nI 16) dX11_takesLaw_11 rfl ?_
    refine wp_aload_n (x := 0) dX11_takesLaw_13 rfl ?_
    refine wp_getI fl_X11_209 (by decide) rfl (kltM kRootM) kRootM dX11_takesLaw_14 ?_
    refine wp_imul dX11_takesLaw_17 ?_
    refine wp_iload_n (x := v2) dX11_takesLaw_18 rfl ?_
    refine wp_iadd dX11_takesLaw_19 ?_
    refine wp_aload_n (x := 0) dX11_takesLaw_20 rfl ?_
    refine wp_getR 14 fl_X11_49 (by decide) rfl (kltM kRootM) kRootM (ly11_28 kRootM).1 dX11_takesLaw_21 ?_
    refine wp_bipush (nI 32) dX11_takesLaw_24 rfl ?_
    refine wp_iload_n (x := v2) dX11_takesLaw_26 rfl ?_
    refine wp_iadd dX11_takesLaw_27 ?_
    obtain ⟨c1, h⟩ := chv_some h
    refine wp_ialde (kltM (ly11_28 kRootM).2.1) (ly11_28 kRootM).2.1 (ly11_28 kRootM).2.2 c1 dX11_takesLaw_28 ?_
    obtain ⟨c1, h⟩ := chv_some h
    obtain ⟨μ1, e1, h⟩ := lt_some h
    refine wp_iaste e1 (kltM (ly11_28 kRootM).2.1) (ly11_28 kRootM).2.1 (ly11_28 kRootM).2.2 c1 dX11_takesLaw_29 ?_
    refine wp_aload_n (x := 0) dX11_takesLaw_30 rfl ?_
    refine wp_getR 15 fl_X11_52 (by decide) rfl (kltM kRootM) kRootM (ly11_29 kRootM).1 dX11_takesLaw_31 ?_
    refine wp_bipush (nI 16) dX11_takesLaw_34 rfl ?_
    refine wp_aload_n (x := 0) dX11_takesLaw_36 rfl ?_
    refine wp_getI fl_X11_209 (by decide) rfl (kltM kRootM) kRootM dX11_takesLaw_37 ?_
    refine wp_imul dX11_takesLaw_40 ?_
    refine wp_iload_n (x := v2) dX11_takesLaw_41 rfl ?_
    refine wp_iadd dX11_takesLaw_42 ?_
    refine wp_aload_n (x := 0) dX11_takesLaw_43 rfl ?_
    refine wp_getR 15 fl_X11_52 (by decide) rfl (kltM kRootM) kRootM (ly11_29 kRootM).1 dX11_takesLaw_44 ?_
    refine wp_bipush (nI 32) dX11_takesLaw_47 rfl ?_
    refine wp_iload_n (x := v2) dX11_takesLaw_49 rfl ?_
    refine wp_iadd dX11_takesLaw_50 ?_
    obtain ⟨c1, h⟩ := chv_some h
    refine wp_ialde (kltM (ly11_29 kRootM).2.1) (ly11_29 kRootM).2.1 (ly11_29 kRootM).2.2 c1 dX11_takesLaw_51 ?_
    obtain ⟨c1, h⟩ := chv_some h
    obtain ⟨μ2, e1, h⟩ := lt_some h
    refine wp_iaste e1 (kltM (ly11_29 kRootM).2.1) (ly11_29 kRootM).2.1 (ly11_29 kRootM).2.2 c1 dX11_takesLaw_52 ?_
    refine wp_aload_n (x := 0) dX11_takesLaw_53 rfl ?_
    refine wp_getR 16 fl_X11_55 (by decide) rfl (kltM kRootM) kRootM (ly11_30 kRootM).1 dX11_takesLaw_54 ?_
    refine wp_bipush (nI 16) dX11_takesLaw_57 rfl ?_
    refine wp_aload_n (x := 0) dX11_takesLaw_59 rfl ?_
    refine wp_getI fl_X11_209 (by decide) rfl (kltM kRootM) kRootM dX11_takesLaw_60 ?_
    refine wp_imul dX11_takesLaw_63 ?_
    refine wp_iload_n (x := v2) dX11_takesLaw_64 rfl ?_
    refine wp_iadd dX11_takesLaw_65 ?_
    refine wp_aload_n (x := 0) dX11_takesLaw_66 rfl ?_
    refine wp_getR 16 fl_X11_55 (by decide) rfl (kltM kRootM) kRootM (ly11_30 kRootM).1 dX11_takesLaw_67 ?_
    refine wp_bipush (nI 32) dX11_takesLaw_70 rfl ?_
    refine wp_iload_n (x := v2) dX11_takesLaw_72 rfl ?_
    refine wp_iadd dX11_takesLaw_73 ?_
    obtain ⟨c1, h⟩ := chv_some h
    refine wp_ialde (kltM (ly11_30 kRootM).2.1) (ly11_30 kRootM).2.1 (ly11_30 kRootM).2.2 c1 dX11_takesLaw_74 ?_
    obtain ⟨c1, h⟩ := chv_some h
    obtain ⟨μ3, e1, h⟩ := lt_some h
    refine wp_iaste e1 (kltM (ly11_30 kRootM).2.1) (ly11_30 kRootM).2.1 (ly11_30 kRootM).2.2 c1 dX11_takesLaw_75 ?_
    refine wp_iinc (x := v2) (k0 := (nI 1)) (L2 := [some (.ref 0), some (.int v1), some (.int (v2 + (nI 1)))]) dX11_takesLaw_76 rfl rfl (by decide) rfl rfl ?_
    refine wp_goto 2 dX11_takesLaw_79 (by decide) ?_
    obtain rfl := some1 h
    exact hb ((v2 + (nI 1)), μ3) hz
theorem okl_M_takesLaw_l2 {l : Launch} {d : Nat} (hd : 1 ≤ d) (v1 : Int32)  {Q : Option Value → Sh → Mm → Prop} (K : Mm → Prop) (he0 : ∀ (x : Mm) (z2 : Option Value), K x → Wp l SM d (0, 0) mX11_takesLaw 82 [some (.ref 0), some (.int v1), z2] [] x Q) : ∀ (n : Nat) (s : (Int32 × Mm)) (y : Mm) , iter n (fun s => M_takesLaw_l2 v1 s.1 s.2) s = some y → K y → Wp l SM d (0, 0) mX11_takesLaw 2 [some (.ref 0), some (.int v1), some (.int s.1)] [] s.2 Q := by
  intro n
  induction n with
  | zero => intro s y  h; cases h
  | succ n ih =>
    intro s y  h hK
    obtain ⟨z, hz, hn⟩ := iter_some h
    refine ok_M_takesLaw_l2 hd v1 s.1 s.2 (fun z => nxt n (fun s => M_takesLaw_l2 v1 s.1 s.2) z y) ?_ ?_ hz hn
    · intro s2  h2
      exact ih s2 y h2 hK
    · intro x z2 h2
      have h3 : x = y := h2
      subst h3
      exact he0 x _ hK
theorem ok_M_takesLaw_l84 {l : Launch} {d : Nat} (hd : 1 ≤ d) (v1 : Int32)  (v2 : Int32)  (μ : Mm) {Q : Option Value → Sh → Mm → Prop} (K : (Int32 × Mm) ⊕ Mm → Prop) (hb : ∀ (s : (Int32 × Mm)), K (Sum.inl s) → Wp l SM d (0, 0) mX11_takesLaw 84 [some (.ref 0), some (.int v1), some (.int s.1)] [] s.2 Q) (he0 : ∀ (x : Mm) (z2 : Option Value), K (Sum.inr x) → Wp l SM d (0, 0) mX11_takesLaw 148 [some (.ref 0), some (.int v1), z2] [] x Q) {z : (Int32 × Mm) ⊕ Mm} (h : M_takesLaw_l84 v1 v2 μ = some z) (hz : K z) : Wp l SM d (0, 0) mX11_takesLaw 84 [some (.ref 0), some (.int v1), some (.int v2)] [] μ Q := by
  unfold M_takesLaw_l84 at h
  refine wp_iload_n (x := v2) dX11_takesLaw_84 rfl ?_
  refine wp_aload_n (x := 0) dX11_takesLaw_85 rfl ?_
  refine wp_getI fl_X11_206 (by decide) rfl (kltM kRootM) kRootM dX11_takesLaw_86 ?_
  refine wp_icmp_ge 148 dX11_takesLaw_89 (by decide) (fun c1 => ?_) (fun c1 => ?_)
  · rw [if_pos c1] at h
    obtain rfl := some1 h
    exact he0 μ _ hz
  · rw [if_neg c1] at h
    refine wp_aload_n (x := 0) dX11_takesLaw_92 rfl ?_
    refine wp_getR 17 fl_X11_58 (by decide) rfl (kltM kRootM) kRootM (ly11_31 kRootM).1 dX11_takesLaw_93 ?_
    refine wp_sipush (nI 400) dX11_takesLaw_96 rfl ?_
    refine wp_aload_n (x := 0) dX11_takesLaw_99 rfl ?_
    refine wp_getI fl_X11_209 (by decide) rfl (kltM kRootM) kRootM dX11_takesLaw_100 ?_
    refine wp_imul dX11_takesLaw_103 ?_
    refine wp_iload_n (x := v2) dX11_takesLaw_104 rfl ?_
    refine wp_iadd dX11_takesLaw_105 ?_
    refine wp_aload_n (x := 0) dX11_takesLaw_106 rfl ?_
    refine wp_getR 17 fl_X11_58 (by decide) rfl (kltM kRootM) kRootM (ly11_31 kRootM).1 dX11_takesLaw_107 ?_
    refine wp_sipush (nI 800) dX11_takesLaw_110 rfl ?_
    refine wp_iload_n (x := v2) dX11_takesLaw_113 rfl ?_
    refine wp_iadd dX11_takesLaw_114 ?_
    obtain ⟨c1, h⟩ := chv_some h
    refine wp_ialde (kltM (ly11_31 kRootM).2.1) (ly11_31 kRootM).2.1 (ly11_31 kRootM).2.2 c1 dX11_takesLaw_115 ?_
    obtain ⟨c1, h⟩ := chv_some h
    obtain ⟨μ4, e1, h⟩ := lt_some h
    refine wp_iaste e1 (kltM (ly11_31 kRootM).2.1) (ly11_31 kRootM).2.1 (ly11_31 kRootM).2.2 c1 dX11_takesLaw_116 ?_
    refine wp_aload_n (x := 0) dX11_takesLaw_117 rfl ?_
    refine wp_getR 18 fl_X11_61 (by decide) rfl (kltM kRootM) kRootM (ly11_32 kRootM).1 dX11_takesLaw_118 ?_
    refine wp_sipush (nI 400) dX11_takesLaw_121 rfl ?_
    refine wp_aload_n (x := 0) dX11_takesLaw_124 rfl ?_
    refine wp_getI fl_X11_209 (by decide) rfl (kltM kRootM) kRootM dX11_takesLaw_125 ?_
    refine wp_imul dX11_takesLaw_128 ?_
    refine wp_iload_n (x := v2) dX11_takesLaw_129 rfl ?_
    refine wp_iadd dX11_takesLaw_130 ?_
    refine wp_aload_n (x := 0) dX11_takesLaw_131 rfl ?_
    refine wp_getR 18 fl_X11_61 (by decide) rfl (kltM kRootM) kRootM (ly11_32 kRootM).1 dX11_takesLaw_132 ?_
    refine wp_sipush (nI 800) dX11_takesLaw_135 rfl ?_
    refine wp_iload_n (x := v2) dX11_takesLaw_138 rfl ?_
    refine wp_iadd dX11_takesLaw_139 ?_
    obtain ⟨c1, h⟩ := chv_some h
    refine wp_ialde (kltM (ly11_32 kRootM).2.1) (ly11_32 kRootM).2.1 (ly11_32 kRootM).2.2 c1 dX11_takesLaw_140 ?_
    obtain ⟨c1, h⟩ := chv_some h
    obtain ⟨μ5, e1, h⟩ := lt_some h
    refine wp_iaste e1 (kltM (ly11_32 kRootM).2.1) (ly11_32 kRootM).2.1 (ly11_32 kRootM).2.2 c1 dX11_takesLaw_141 ?_
    refine wp_iinc (x := v2) (k0 := (nI 1)) (L2 := [some (.ref 0), some (.int v1), some (.int (v2 + (nI 1)))]) dX11_takesLaw_142 rfl rfl (by decide) rfl rfl ?_
    refine wp_goto 84 dX11_takesLaw_145 (by decide) ?_
    obtain rfl := some1 h
    exact hb ((v2 + (nI 1)), μ5) hz
theorem okl_M_takesLaw_l84 {l : Launch} {d : Nat} (hd : 1 ≤ d) (v1 : Int32)  {Q : Option Value → Sh → Mm → Prop} (K : Mm → Prop) (he0 : ∀ (x : Mm) (z2 : Option Value), K x → Wp l SM d (0, 0) mX11_takesLaw 148 [some (.ref 0), some (.int v1), z2] [] x Q) : ∀ (n : Nat) (s : (Int32 × Mm)) (y : Mm) , iter n (fun s => M_takesLaw_l84 v1 s.1 s.2) s = some y → K y → Wp l SM d (0, 0) mX11_takesLaw 84 [some (.ref 0), some (.int v1), some (.int s.1)] [] s.2 Q := by
  intro n
  induction n with
  | zero => intro s y  h; cases h
  | succ n ih =>
    intro s y  h hK
    obtain ⟨z, hz, hn⟩ := iter_some h
    refine ok_M_takesLaw_l84 hd v1 s.1 s.2 (fun z => nxt n (fun s => M_takesLaw_l84 v1 s.1 s.2) z y) ?_ ?_ hz hn
    · intro s2  h2
      exact ih s2 y h2 hK
    · intro x z2 h2
      have h3 : x = y := h2
      subst h3
      exact he0 x _ hK
theorem ok_M_takesLaw {l : Launch} {d : Nat} (hd : 1 ≤ d) (v1 : Int32)  (μ : Mm) {μ' : Mm} (h : M_takesLaw v1 μ = some μ') : Wp l SM d (0, 0) mX11_takesLaw 0 [some (.ref 0), some (.int v1), none] [] μ (Qv SM μ') := by
  unfold M_takesLaw at h
  refine wp_iconst (nI 0) dX11_takesLaw_0 rfl ?_
  refine wp_istore_n (L2 := [some (.ref 0), some (.int v1), some (.int (nI 0))]) dX11_takesLaw_1 (by decide) rfl rfl ?_
  obtain ⟨x2, hi, h⟩ := bni_some h
  refine okl_M_takesLaw_l2 hd v1 (fun z => z = x2) ?_ 1000000 ((nI 0), μ) x2 hi rfl
  · intro y0 z2 e0
    have e0 : y0 = x2 := e0
    subst e0
    refine wp_iconst (nI 0) dX11_takesLaw_82 rfl ?_
    refine wp_istore_n (L2 := [some (.ref 0), some (.int v1), some (.int (nI 0))]) dX11_takesLaw_83 (by decide) rfl rfl ?_
    obtain ⟨x84, hi, h⟩ := bni_some h
    refine okl_M_takesLaw_l84 hd v1 (fun z => z = x84) ?_ 1000000 ((nI 0), y0) x84 hi rfl
    · intro y0 z2 e0
      have e0 : y0 = x84 := e0
      subst e0
      refine wp_aload_n (x := 0) dX11_takesLaw_148 rfl ?_
      refine wp_getR 13 fl_X11_46 (by decide) rfl (kltM kRootM) kRootM (ly11_27 kRootM).1 dX11_takesLaw_149 ?_
      refine wp_aload_n (x := 0) dX11_takesLaw_152 rfl ?_
      refine wp_getI fl_X11_209 (by decide) rfl (kltM kRootM) kRootM dX11_takesLaw_153 ?_
      refine wp_iload_n (x := v1) dX11_takesLaw_156 rfl ?_
      obtain ⟨c1, h⟩ := chv_some h
      obtain ⟨μ6, e1, h⟩ := lt_some h
      refine wp_iaste e1 (kltM (ly11_27 kRootM).2.1) (ly11_27 kRootM).2.1 (ly11_27 kRootM).2.2 c1 dX11_takesLaw_157 ?_
      obtain rfl := ret1 h
      exact wp_vret rfl dX11_takesLaw_158 ⟨rfl, rfl, rfl⟩
theorem ok_M_readNumber {l : Launch} {d : Nat} (hd : 4 ≤ d) (v1 : Int32)  (v2 : Int32)  (μ : Mm) {r : Int32} {μ' : Mm} (h : M_readNumber v1 v2 μ = some (r, μ')) : Wp l SM d (0, 0) mX11_readNumber 0 [some (.ref 0), some (.int v1), some (.int v2), none] [] μ (Qi SM r μ') := by
  unfold M_readNumber at h
  refine wp_aload_n (x := 0) dX11_readNumber_0 rfl ?_
  refine wp_getI fl_X11_182 (by decide) rfl (kltM kRootM) kRootM dX11_readNumber_1 ?_
  refine wp_iconst (nI 3) dX11_readNumber_4 rfl ?_
  refine wp_icmp_eq 14 dX11_readNumber_5 (by decide) (fun c1 => ?_) (fun c1 => ?_)
  · rw [if_pos c1] at h
    refine wp_aload_n (x := 0) dX11_readNumber_14 rfl ?_
    refine wp_aload_n (x := 0) dX11_readNumber_15 rfl ?_
    refine wp_getI fl_X11_185 (by decide) rfl (kltM kRootM) kRootM dX11_readNumber_16 ?_
    refine wp_iload_n (x := v1) dX11_readNumber_19 rfl ?_
    refine wp_iload_n (x := v2) dX11_readNumber_20 rfl ?_
    obtain ⟨r1, g1, h⟩ := bnd_some h
    refine wp_cVi (d := d - 1) (o := 0) cv_X11_113 (kltM kRootM) kRootM (as := [.int (μ.1 0 25), .int v1, .int v2]) (rest := []) dX11_readNumber_21 (by omega) cloM rfl rfl (Nat.le_of_ble_eq_true rfl) (Nat.le_of_ble_eq_true rfl) (ok_M_isIn (by omega) (μ.1 0 25) v1 v2 μ g1) ?_ rfl
    refine wp_if_ne 33 dX11_readNumber_24 (by decide) (fun c1 => ?_) (fun c1 => ?_)
    · rw [if_neg c1] at h
      refine wp_aload_n (x := 0) dX11_readNumber_33 rfl ?_
      refine wp_getI fl_X11_185 (by decide) rfl (kltM kRootM) kRootM dX11_readNumber_34 ?_
      refine wp_istore_n (L2 := [some (.ref 0), some (.int v1), some (.int v2), some (.int (μ.1 0 25))]) dX11_readNumber_37 (by decide) rfl rfl ?_
      refine wp_aload_n (x := 0) dX11_readNumber_38 rfl ?_
      obtain ⟨μ2, g1, h⟩ := bnd_some h
      refine wp_cVv (d := d - 1) (o := 0) cv_X11_221 (kltM kRootM) kRootM (as := []) (rest := []) dX11_readNumber_39 (by omega) cloM rfl rfl (Nat.le_of_ble_eq_true rfl) (Nat.le_of_ble_eq_true rfl) (ok_M_reads (by omega) μ g1) ?_ rfl
      refine wp_iload_n (x := (μ.1 0 25)) dX11_readNumber_42 rfl ?_
      obtain ⟨rfl, rfl⟩ := ret2 h
      exact wp_iret rfl dX11_readNumber_43 ⟨rfl, rfl, rfl⟩
    · rw [if_pos c1] at h
      refine wp_aload_n (x := 0) dX11_readNumber_27 rfl ?_
      refine wp_iconst (nI 2) dX11_readNumber_28 rfl ?_
      obtain ⟨r4, μ3, g1, h⟩ := bnd2_some h
      refine wp_cVi (d := d - 1) (o := 0) cv_X11_215 (kltM kRootM) kRootM (as := [.int (nI 2)]) (rest := []) dX11_readNumber_29 (by omega) cloM rfl rfl (Nat.le_of_ble_eq_true rfl) (Nat.le_of_ble_eq_true rfl) (ok_M_errs (by omega) (nI 2) μ g1) ?_ rfl
      obtain ⟨rfl, rfl⟩ := ret2 h
      exact wp_iret rfl dX11_readNumber_32 ⟨rfl, rfl, rfl⟩
  · rw [if_neg c1] at h
    refine wp_aload_n (x := 0) dX11_readNumber_8 rfl ?_
    refine wp_iconst (nI 1) dX11_readNumber_9 rfl ?_
    obtain ⟨r6, μ5, g1, h⟩ := bnd2_some h
    refine wp_cVi (d := d - 1) (o := 0) cv_X11_215 (kltM kRootM) kRootM (as := [.int (nI 1)]) (rest := []) dX11_readNumber_10 (by omega) cloM rfl rfl (Nat.le_of_ble_eq_true rfl) (Nat.le_of_ble_eq_true rfl) (ok_M_errs (by omega) (nI 1) μ g1) ?_ rfl
    obtain ⟨rfl, rfl⟩ := ret2 h
    exact wp_iret rfl dX11_readNumber_13 ⟨rfl, rfl, rfl⟩
theorem ok_M_readWord {l : Launch} {d : Nat} (hd : 4 ≤ d) (v1 : Int32)  (μ : Mm) {r : Int32} {μ' : Mm} (h : M_readWord v1 μ = some (r, μ')) : Wp l SM d (0, 0) mX11_readWord 0 [some (.ref 0), some (.int v1)] [] μ (Qi SM r μ') := by
  unfold M_readWord at h
  refine wp_aload_n (x := 0) dX11_readWord_0 rfl ?_
  refine wp_iload_n (x := v1) dX11_readWord_1 rfl ?_
  obtain ⟨r1, g1, h⟩ := bnd_some h
  refine wp_cVi (d := d - 1) (o := 0) cv_X11_243 (kltM kRootM) kRootM (as := [.int v1]) (rest := []) dX11_readWord_2 (by omega) cloM rfl rfl (Nat.le_of_ble_eq_true rfl) (Nat.le_of_ble_eq_true rfl) (ok_M_isWord (by omega) v1 μ g1) ?_ rfl
  refine wp_if_ne 14 dX11_readWord_5 (by decide) (fun c1 => ?_) (fun c1 => ?_)
  · rw [if_neg c1] at h
    refine wp_aload_n (x := 0) dX11_readWord_14 rfl ?_
    obtain ⟨μ2, g1, h⟩ := bnd_some h
    refine wp_cVv (d := d - 1) (o := 0) cv_X11_221 (kltM kRootM) kRootM (as := []) (rest := []) dX11_readWord_15 (by omega) cloM rfl rfl (Nat.le_of_ble_eq_true rfl) (Nat.le_of_ble_eq_true rfl) (ok_M_reads (by omega) μ g1) ?_ rfl
    refine wp_iconst (nI 0) dX11_readWord_18 rfl ?_
    obtain ⟨rfl, rfl⟩ := ret2 h
    exact wp_iret rfl dX11_readWord_19 ⟨rfl, rfl, rfl⟩
  · rw [if_pos c1] at h
    refine wp_aload_n (x := 0) dX11_readWord_8 rfl ?_
    refine wp_iconst (nI 1) dX11_readWord_9 rfl ?_
    obtain ⟨r4, μ3, g1, h⟩ := bnd2_some h
    refine wp_cVi (d := d - 1) (o := 0) cv_X11_215 (kltM kRootM) kRootM (as := [.int (nI 1)]) (rest := []) dX11_readWord_10 (by omega) cloM rfl rfl (Nat.le_of_ble_eq_true rfl) (Nat.le_of_ble_eq_true rfl) (ok_M_errs (by omega) (nI 1) μ g1) ?_ rfl
    obtain ⟨rfl, rfl⟩ := ret2 h
    exact wp_iret rfl dX11_readWord_13 ⟨rfl, rfl, rfl⟩
theorem ok_M_readWay {l : Launch} {d : Nat} (hd : 5 ≤ d) (μ : Mm) {r : Int32} {μ' : Mm} (h : M_readWay μ = some (r, μ')) : Wp l SM d (0, 0) mX11_readWay 0 [some (.ref 0), none, none, none] [] μ (Qi SM r μ') := by
  unfold M_readWay at h
  refine wp_aload_n (x := 0) dX11_readWay_0 rfl ?_
  refine wp_iconst (nI 0) dX11_readWay_1 rfl ?_
  refine wp_iconst (nI 5) dX11_readWay_2 rfl ?_
  obtain ⟨r2, μ1, g1, h⟩ := bnd2_some h
  refine wp_cVi (d := d - 1) (o := 0) cv_X11_262 (kltM kRootM) kRootM (as := [.int (nI 0), .int (nI 5)]) (rest := []) dX11_readWay_3 (by omega) cloM rfl rfl (Nat.le_of_ble_eq_true rfl) (Nat.le_of_ble_eq_true rfl) (ok_M_readNumber (by omega) (nI 0) (nI 5) μ g1) ?_ rfl
  refine wp_istore_n (L2 := [some (.ref 0), some (.int r2), none, none]) dX11_readWay_6 (by decide) rfl rfl ?_
  refine wp_iload_n (x := r2) dX11_readWay_7 rfl ?_
  refine wp_iconst (-1) dX11_readWay_8 rfl ?_
  refine wp_icmp_eq 22 dX11_readWay_9 (by decide) (fun c1 => ?_) (fun c1 => ?_)
  · rw [if_pos c1] at h
    refine wp_iconst (-1) dX11_readWay_22 rfl ?_
    obtain ⟨rfl, rfl⟩ := ret2 h
    exact wp_iret rfl dX11_readWay_23 ⟨rfl, rfl, rfl⟩
  · rw [if_neg c1] at h
    refine wp_aload_n (x := 0) dX11_readWay_12 rfl ?_
    refine wp_bipush (nI 18) dX11_readWay_13 rfl ?_
    obtain ⟨r4, μ3, g1, h⟩ := bnd2_some h
    refine wp_cVi (d := d - 1) (o := 0) cv_X11_265 (kltM kRootM) kRootM (as := [.int (nI 18)]) (rest := []) dX11_readWay_15 (by omega) cloM rfl rfl (Nat.le_of_ble_eq_true rfl) (Nat.le_of_ble_eq_true rfl) (ok_M_readWord (by omega) (nI 18) μ1 g1) ?_ rfl
    refine wp_iconst (-1) dX11_readWay_18 rfl ?_
    refine wp_icmp_ne 24 dX11_readWay_19 (by decide) (fun c1 => ?_) (fun c1 => ?_)
    · rw [if_neg c1] at h
      refine wp_aload_n (x := 0) dX11_readWay_24 rfl ?_
      refine wp_iconst (nI 0) dX11_readWay_25 rfl ?_
      refine wp_iconst (nI 5) dX11_readWay_26 rfl ?_
      obtain ⟨r6, μ5, g1, h⟩ := bnd2_some h
      refine wp_cVi (d := d - 1) (o := 0) cv_X11_262 (kltM kRootM) kRootM (as := [.int (nI 0), .int (nI 5)]) (rest := []) dX11_readWay_27 (by omega) cloM rfl rfl (Nat.le_of_ble_eq_true rfl) (Nat.le_of_ble_eq_true rfl) (ok_M_readNumber (by omega) (nI 0) (nI 5) μ3 g1) ?_ rfl
      refine wp_istore_n (L2 := [some (.ref 0), some (.int r2), some (.int r6), none]) dX11_readWay_30 (by decide) rfl rfl ?_
      refine wp_iload_n (x := r6) dX11_readWay_31 rfl ?_
      refine wp_iconst (-1) dX11_readWay_32 rfl ?_
      refine wp_icmp_eq 46 dX11_readWay_33 (by decide) (fun c1 => ?_) (fun c1 => ?_)
      · rw [if_pos c1] at h
        refine wp_iconst (-1) dX11_readWay_46 rfl ?_
        obtain ⟨rfl, rfl⟩ := ret2 h
        exact wp_iret rfl dX11_readWay_47 ⟨rfl, rfl, rfl⟩
      · rw [if_neg c1] at h
        refine wp_aload_n (x := 0) dX11_readWay_36 rfl ?_
        refine wp_bipush (nI 19) dX11_readWay_37 rfl ?_
        obtain ⟨r8, μ7, g1, h⟩ := bnd2_some h
        refine wp_cVi (d := d - 1) (o := 0) cv_X11_265 (kltM kRootM) kRootM (as := [.int (nI 19)]) (rest := []) dX11_readWay_39 (by omega) cloM rfl rfl (Nat.le_of_ble_eq_true rfl) (Nat.le_of_ble_eq_true rfl) (ok_M_readWord (by omega) (nI 19) μ5 g1) ?_ rfl
        refine wp_iconst (-1) dX11_readWay_42 rfl ?_
        refine wp_icmp_ne 48 dX11_readWay_43 (by decide) (fun c1 => ?_) (fun c1 => ?_)
        · rw [if_neg c1] at h
          refine wp_aload_n (x := 0) dX11_readWay_48 rfl ?_
          refine wp_iconst (nI 1) dX11_readWay_49 rfl ?_
          refine wp_bipush (nI 20) dX11_readWay_50 rfl ?_
          obtain ⟨r10, μ9, g1, h⟩ := bnd2_some h
          refine wp_cVi (d := d - 1) (o := 0) cv_X11_262 (kltM kRootM) kRootM (as := [.int (nI 1), .int (nI 20)]) (rest := []) dX11_readWay_52 (by omega) cloM rfl rfl (Nat.le_of_ble_eq_true rfl) (Nat.le_of_ble_eq_true rfl) (ok_M_readNumber (by omega) (nI 1) (nI 20) μ7 g1) ?_ rfl
          refine wp_istore_n (L2 := [some (.ref 0), some (.int r2), some (.int r6), some (.int r10)]) dX11_readWay_55 (by decide) rfl rfl ?_
          refine wp_iload_n (x := r10) dX11_readWay_56 rfl ?_
          refine wp_iconst (-1) dX11_readWay_57 rfl ?_
          refine wp_icmp_ne 63 dX11_readWay_58 (by decide) (fun c1 => ?_) (fun c1 => ?_)
          · rw [if_neg c1] at h
            refine wp_aload_n (x := 0) dX11_readWay_63 rfl ?_
            refine wp_bipush (nI 59) dX11_readWay_64 rfl ?_
            obtain ⟨r11, g1, h⟩ := bnd_some h
            refine wp_cVi (d := d - 1) (o := 0) cv_X11_228 (kltM kRootM) kRootM (as := [.int (nI 59)]) (rest := []) dX11_readWay_66 (by omega) cloM rfl rfl (Nat.le_of_ble_eq_true rfl) (Nat.le_of_ble_eq_true rfl) (ok_M_isSign (by omega) (nI 59) μ9 g1) ?_ rfl
            refine wp_if_ne 78 dX11_readWay_69 (by decide) (fun c1 => ?_) (fun c1 => ?_)
            · rw [if_neg c1] at h
              refine wp_aload_n (x := 0) dX11_readWay_78 rfl ?_
              obtain ⟨μ12, g1, h⟩ := bnd_some h
              refine wp_cVv (d := d - 1) (o := 0) cv_X11_221 (kltM kRootM) kRootM (as := []) (rest := []) dX11_readWay_79 (by omega) cloM rfl rfl (Nat.le_of_ble_eq_true rfl) (Nat.le_of_ble_eq_true rfl) (ok_M_reads (by omega) μ9 g1) ?_ rfl
              refine wp_aload_n (x := 0) dX11_readWay_82 rfl ?_
              refine wp_getR 20 fl_X11_71 (by decide) rfl (kltM kRootM) kRootM (ly11_42 kRootM).1 dX11_readWay_83 ?_
              refine wp_bipush (nI 36) dX11_readWay_86 rfl ?_
              refine wp_bipush (nI 6) dX11_readWay_88 rfl ?_
              refine wp_iload_n (x := r2) dX11_readWay_90 rfl ?_
              refine wp_imul dX11_readWay_91 ?_
              refine wp_iadd dX11_readWay_92 ?_
              refine wp_iload_n (x := r6) dX11_readWay_93 rfl ?_
              refine wp_iadd dX11_readWay_94 ?_
              refine wp_iload_n (x := r10) dX11_readWay_95 rfl ?_
              refine wp_iconst (nI 1) dX11_readWay_96 rfl ?_
              refine wp_isub dX11_readWay_97 ?_
              obtain ⟨c1, h⟩ := chv_some h
              obtain ⟨μ13, e1, h⟩ := lt_some h
              refine wp_iaste e1 (kltM (ly11_42 kRootM).2.1) (ly11_42 kRootM).2.1 (ly11_42 kRootM).2.2 c1 dX11_readWay_98 ?_
              refine wp_aload_n (x := 0) dX11_readWay_99 rfl ?_
              refine wp_getR 20 fl_X11_71 (by decide) rfl (kltM kRootM) kRootM (ly11_42 kRootM).1 dX11_readWay_100 ?_
              refine wp_bipush (nI 36) dX11_readWay_103 rfl ?_
              refine wp_bipush (nI 6) dX11_readWay_105 rfl ?_
              refine wp_iload_n (x := r6) dX11_readWay_107 rfl ?_
              refine wp_imul dX11_readWay_108 ?_
              refine wp_iadd dX11_readWay_109 ?_
              refine wp_iload_n (x := r2) dX11_readWay_110 rfl ?_
              refine wp_iadd dX11_readWay_111 ?_
              refine wp_iload_n (x := r10) dX11_readWay_112 rfl ?_
              refine wp_iconst (nI 1) dX11_readWay_113 rfl ?_
              refine wp_isub dX11_readWay_114 ?_
              obtain ⟨c1, h⟩ := chv_some h
              obtain ⟨μ14, e1, h⟩ := lt_some h
              refine wp_iaste e1 (kltM (ly11_42 kRootM).2.1) (ly11_42 kRootM).2.1 (ly11_42 kRootM).2.2 c1 dX11_readWay_115 ?_
              refine wp_iconst (nI 0) dX11_readWay_116 rfl ?_
              obtain ⟨rfl, rfl⟩ := ret2 h
              exact wp_iret rfl dX11_readWay_117 ⟨rfl, rfl, rfl⟩
            · rw [if_pos c1] at h
              refine wp_aload_n (x := 0) dX11_readWay_72 rfl ?_
              refine wp_iconst (nI 1) dX11_readWay_73 rfl ?_
              obtain ⟨r16, μ15, g1, h⟩ := bnd2_some h
              refine wp_cVi (d := d - 1) (o := 0) cv_X11_215 (kltM kRootM) kRootM (as := [.int (nI 1)]) (rest := []) dX11_readWay_74 (by omega) cloM rfl rfl (Nat.le_of_ble_eq_true rfl) (Nat.le_of_ble_eq_true rfl) (ok_M_errs (by omega) (nI 1) μ9 g1) ?_ rfl
              obtain ⟨rfl, rfl⟩ := ret2 h
              exact wp_iret rfl dX11_readWay_77 ⟨rfl, rfl, rfl⟩
          · rw [if_pos c1] at h
            refine wp_iconst (-1) dX11_readWay_61 rfl ?_
            obtain ⟨rfl, rfl⟩ := ret2 h
            exact wp_iret rfl dX11_readWay_62 ⟨rfl, rfl, rfl⟩
        · rw [if_pos c1] at h
          refine wp_iconst (-1) dX11_readWay_46 rfl ?_
          obtain ⟨rfl, rfl⟩ := ret2 h
          exact wp_iret rfl dX11_readWay_47 ⟨rfl, rfl, rfl⟩
    · rw [if_pos c1] at h
      refine wp_iconst (-1) dX11_readWay_22 rfl ?_
      obtain ⟨rfl, rfl⟩ := ret2 h
      exact wp_iret rfl dX11_readWay_23 ⟨rfl, rfl, rfl⟩
theorem ok_M_readPost_l2 {l : Launch} {d : Nat} (hd : 6 ≤ d) (v1 : Int32)  (μ : Mm) {Q : Option Value → Sh → Mm → Prop} (K : (Int32 × Mm) ⊕ Mm → Prop) (hb : ∀ (s : (Int32 × Mm)), K (Sum.inl s) → Wp l SM d (0, 0) mX11_readPost 2 [some (.ref 0), some (.int s.1)] [] s.2 Q) (he0 : ∀ (x : Mm) (z1 : Option Value), K (Sum.inr x) → Wp l SM d (0, 0) mX11_readPost 24 [some (.ref 0), z1] [] x Q) {z : (Int32 × Mm) ⊕ Mm} (h : M_readPost_l2 v1 μ = some z) (hz : K z) : Wp l SM d (0, 0) mX11_readPost 2 [some (.ref 0), some (.int v1)] [] μ Q := by
  unfold M_readPost_l2 at h
  refine wp_iload_n (x := v1) dX11_readPost_2 rfl ?_
  refine wp_bipush (nI 36) dX11_readPost_3 rfl ?_
  refine wp_icmp_ge 24 dX11_readPost_5 (by decide) (fun c1 => ?_) (fun c1 => ?_)
  · rw [if_pos c1] at h
    obtain rfl := some1 h
    exact he0 μ _ hz
  · rw [if_neg c1] at h
    refine wp_aload_n (x := 0) dX11_readPost_8 rfl ?_
    refine wp_getR 20 fl_X11_71 (by decide) rfl (kltM kRootM) kRootM (ly11_42 kRootM).1 dX11_readPost_9 ?_
    refine wp_bipush (nI 36) dX11_readPost_12 rfl ?_
    refine wp_iload_n (x := v1) dX11_readPost_14 rfl ?_
    refine wp_iadd dX11_readPost_15 ?_
    refine wp_iconst (nI 0) dX11_readPost_16 rfl ?_
    obtain ⟨c1, h⟩ := chv_some h
    obtain ⟨μ1, e1, h⟩ := lt_some h
    refine wp_iaste e1 (kltM (ly11_42 kRootM).2.1) (ly11_42 kRootM).2.1 (ly11_42 kRootM).2.2 c1 dX11_readPost_17 ?_
    refine wp_iinc (x := v1) (k0 := (nI 1)) (L2 := [some (.ref 0), some (.int (v1 + (nI 1)))]) dX11_readPost_18 rfl rfl (by decide) rfl rfl ?_
    refine wp_goto 2 dX11_readPost_21 (by decide) ?_
    obtain rfl := some1 h
    exact hb ((v1 + (nI 1)), μ1) hz
theorem okl_M_readPost_l2 {l : Launch} {d : Nat} (hd : 6 ≤ d) {Q : Option Value → Sh → Mm → Prop} (K : Mm → Prop) (he0 : ∀ (x : Mm) (z1 : Option Value), K x → Wp l SM d (0, 0) mX11_readPost 24 [some (.ref 0), z1] [] x Q) : ∀ (n : Nat) (s : (Int32 × Mm)) (y : Mm) , iter n (fun s => M_readPost_l2 s.1 s.2) s = some y → K y → Wp l SM d (0, 0) mX11_readPost 2 [some (.ref 0), some (.int s.1)] [] s.2 Q := by
  intro n
  induction n with
  | zero => intro s y  h; cases h
  | succ n ih =>
    intro s y  h hK
    obtain ⟨z, hz, hn⟩ := iter_some h
    refine ok_M_readPost_l2 hd s.1 s.2 (fun z => nxt n (fun s => M_readPost_l2 s.1 s.2) z y) ?_ ?_ hz hn
    · intro s2  h2
      exact ih s2 y h2 hK
    · intro x z1 h2
      have h3 : x = y := h2
      subst h3
      exact he0 x _ hK
theorem ok_M_readPost_l26 {l : Launch} {d : Nat} (hd : 6 ≤ d) (v1 : Int32)  (μ : Mm) {Q : Option Value → Sh → Mm → Prop} (K : (Int32 × Mm) ⊕ (Mm ⊕ (Int32 × Mm)) → Prop) (hb : ∀ (s : (Int32 × Mm)), K (Sum.inl s) → Wp l SM d (0, 0) mX11_readPost 26 [some (.ref 0), some (.int s.1)] [] s.2 Q) (he0 : ∀ (x : Mm) (z1 : Option Value), K (Sum.inr (Sum.inl x)) → Wp l SM d (0, 0) mX11_readPost 47 [some (.ref 0), z1] [] x Q) (he1 : ∀ (x : (Int32 × Mm)), K (Sum.inr (Sum.inr x)) → Wp l SM d (0, 0) mX11_readPost 56 [some (.ref 0), some (.int x.1)] [] x.2 Q) {z : (Int32 × Mm) ⊕ (Mm ⊕ (Int32 × Mm))} (h : M_readPost_l26 v1 μ = some z) (hz : K z) : Wp l SM d (0, 0) mX11_readPost 26 [some (.ref 0), some (.int v1)] [] μ Q := by
  unfold M_readPost_l26 at h
  refine wp_aload_n (x := 0) dX11_readPost_26 rfl ?_
  refine wp_bipush (nI 17) dX11_readPost_27 rfl ?_
  obtain ⟨r2, g1, h⟩ := bnd_some h
  refine wp_cVi (d := d - 1) (o := 0) cv_X11_243 (kltM kRootM) kRootM (as := [.int (nI 17)]) (rest := []) dX11_readPost_29 (by omega) cloM rfl rfl (Nat.le_of_ble_eq_true rfl) (Nat.le_of_ble_eq_true rfl) (ok_M_isWord (by omega) (nI 17) μ g1) ?_ rfl
  refine wp_if_eq 56 dX11_readPost_32 (by decide) (fun c1 => ?_) (fun c1 => ?_)
  · rw [if_pos c1] at h
    obtain rfl := some1 h
    exact he1 (v1, μ) hz
  · rw [if_neg c1] at h
    refine wp_aload_n (x := 0) dX11_readPost_35 rfl ?_
    obtain ⟨μ3, g1, h⟩ := bnd_some h
    refine wp_cVv (d := d - 1) (o := 0) cv_X11_221 (kltM kRootM) kRootM (as := []) (rest := []) dX11_readPost_36 (by omega) cloM rfl rfl (Nat.le_of_ble_eq_true rfl) (Nat.le_of_ble_eq_true rfl) (ok_M_reads (by omega) μ g1) ?_ rfl
    refine wp_aload_n (x := 0) dX11_readPost_39 rfl ?_
    obtain ⟨r5, μ4, g1, h⟩ := bnd2_some h
    refine wp_cVi (d := d - 1) (o := 0) cv_X11_268 (kltM kRootM) kRootM (as := []) (rest := []) dX11_readPost_40 (by omega) cloM rfl rfl (Nat.le_of_ble_eq_true rfl) (Nat.le_of_ble_eq_true rfl) (ok_M_readWay (by omega) μ3 g1) ?_ rfl
    refine wp_iconst (-1) dX11_readPost_43 rfl ?_
    refine wp_icmp_ne 49 dX11_readPost_44 (by decide) (fun c1 => ?_) (fun c1 => ?_)
    · rw [if_neg c1] at h
      refine wp_iload_n (x := v1) dX11_readPost_49 rfl ?_
      refine wp_iconst (nI 1) dX11_readPost_50 rfl ?_
      refine wp_iadd dX11_readPost_51 ?_
      refine wp_istore_n (L2 := [some (.ref 0), some (.int (v1 + (nI 1)))]) dX11_readPost_52 (by decide) rfl rfl ?_
      refine wp_goto 26 dX11_readPost_53 (by decide) ?_
      obtain rfl := some1 h
      exact hb ((v1 + (nI 1)), μ4) hz
    · rw [if_pos c1] at h
      obtain rfl := some1 h
      exact he0 μ4 _ hz
theorem okl_M_readPost_l26 {l : Launch} {d : Nat} (hd : 6 ≤ d) {Q : Option Value → Sh → Mm → Prop} (K : (Mm ⊕ (Int32 × Mm)) → Prop) (he0 : ∀ (x : Mm) (z1 : Option Value), K (Sum.inl x) → Wp l SM d (0, 0) mX11_readPost 47 [some (.ref 0), z1] [] x Q) (he1 : ∀ (x : (Int32 × Mm)), K (Sum.inr x) → Wp l SM d (0, 0) mX11_readPost 56 [some (.ref 0), some (.int x.1)] [] x.2 Q) : ∀ (n : Nat) (s : (Int32 × Mm)) (y : (Mm ⊕ (Int32 × Mm))) , iter n (fun s => M_readPost_l26 s.1 s.2) s = some y → K y → Wp l SM d (0, 0) mX11_readPost 26 [some (.ref 0), some (.int s.1)] [] s.2 Q := by
  intro n
  induction n with
  | zero => intro s y  h; cases h
  | succ n ih =>
    intro s y  h hK
    obtain ⟨z, hz, hn⟩ := iter_some h
    refine ok_M_readPost_l26 hd s.1 s.2 (fun z => nxt n (fun s => M_readPost_l26 s.1 s.2) z y) ?_ ?_ ?_ hz hn
    · intro s2  h2
      exact ih s2 y h2 hK
    · intro x z1 h2
      have h3 : (Sum.inl x) = y := h2
      subst h3
      exact he0 x _ hK
    · intro x  h2
      have h3 : (Sum.inr x) = y := h2
      subst h3
      exact he1 x hK
theorem ok_M_readPost {l : Launch} {d : Nat} (hd : 6 ≤ d) (μ : Mm) {r : Int32} {μ' : Mm} (h : M_readPost μ = some (r, μ')) : Wp l SM d (0, 0) mX11_readPost 0 [some (.ref 0), none] [] μ (Qi SM r μ') := by
  unfold M_readPost at h
  refine wp_iconst (nI 0) dX11_readPost_0 rfl ?_
  refine wp_istore_n (L2 := [some (.ref 0), some (.int (nI 0))]) dX11_readPost_1 (by decide) rfl rfl ?_
  obtain ⟨x2, hi, h⟩ := bni_some h
  refine okl_M_readPost_l2 hd  (fun z => z = x2) ?_ 1000000 ((nI 0), μ) x2 hi rfl
  · intro y0 z1 e0
    have e0 : y0 = x2 := e0
    subst e0
    refine wp_iconst (nI 0) dX11_readPost_24 rfl ?_
    refine wp_istore_n (L2 := [some (.ref 0), some (.int (nI 0))]) dX11_readPost_25 (by decide) rfl rfl ?_
    obtain ⟨x26, hi, h⟩ := bni_some h
    refine okl_M_readPost_l26 hd  (fun z => z = x26) ?_ ?_ 1000000 ((nI 0), y0) x26 hi rfl
    · intro x26a z1 e0
      have e0 : (Sum.inl x26a) = x26 := e0
      subst e0
      replace h := eL h
      refine wp_iconst (-1) dX11_readPost_47 rfl ?_
      obtain ⟨rfl, rfl⟩ := ret2 h
      exact wp_iret rfl dX11_readPost_48 ⟨rfl, rfl, rfl⟩
    · intro x26b  e0
      have e0 : (Sum.inr x26b) = x26 := e0
      subst e0
      replace h := eR h
      refine wp_aload_n (x := 0) dX11_readPost_56 rfl ?_
      refine wp_getI fl_X11_182 (by decide) rfl (kltM kRootM) kRootM dX11_readPost_57 ?_
      refine wp_if_ne 67 dX11_readPost_60 (by decide) (fun c1 => ?_) (fun c1 => ?_)
      · rw [if_neg c1] at h
        refine wp_aload_n (x := 0) dX11_readPost_67 rfl ?_
        refine wp_iconst (nI 1) dX11_readPost_68 rfl ?_
        obtain ⟨r7, μ6, g1, h⟩ := bnd2_some h
        refine wp_cVi (d := d - 1) (o := 0) cv_X11_215 (kltM kRootM) kRootM (as := [.int (nI 1)]) (rest := []) dX11_readPost_69 (by omega) cloM rfl rfl (Nat.le_of_ble_eq_true rfl) (Nat.le_of_ble_eq_true rfl) (ok_M_errs (by omega) (nI 1) x26b.2 g1) ?_ rfl
        obtain ⟨rfl, rfl⟩ := ret2 h
        exact wp_iret rfl dX11_readPost_72 ⟨rfl, rfl, rfl⟩
      · rw [if_pos c1] at h
        refine wp_iload_n (x := x26b.1) dX11_readPost_63 rfl ?_
        refine wp_goto 72 dX11_readPost_64 (by decide) ?_
        obtain ⟨rfl, rfl⟩ := ret2 h
        exact wp_iret rfl dX11_readPost_72 ⟨rfl, rfl, rfl⟩
theorem ok_M_takesPost_l2 {l : Launch} {d : Nat} (hd : 1 ≤ d) (v1 : Int32)  (v2 : Int32)  (μ : Mm) {Q : Option Value → Sh → Mm → Prop} (K : (Int32 × Mm) ⊕ Mm → Prop) (hb : ∀ (s : (Int32 × Mm)), K (Sum.inl s) → Wp l SM d (0, 0) mX11_takesPost 2 [some (.ref 0), some (.int v1), some (.int s.1)] [] s.2 Q) (he0 : ∀ (x : Mm) (z2 : Option Value), K (Sum.inr x) → Wp l SM d (0, 0) mX11_takesPost 29 [some (.ref 0), some (.int v1), z2] [] x Q) {z : (Int32 × Mm) ⊕ Mm} (h : M_takesPost_l2 v1 v2 μ = some z) (hz : K z) : Wp l SM d (0, 0) mX11_takesPost 2 [some (.ref 0), some (.int v1), some (.int v2)] [] μ Q := by
  unfold M_takesPost_l2 at h
  refine wp_iload_n (x := v2) dX11_takesPost_2 rfl ?_
  refine wp_bipush (nI 36) dX11_takesPost_3 rfl ?_
  refine wp_icmp_ge 29 dX11_takesPost_5 (by decide) (fun c1 => ?_) (fun c1 => ?_)
  · rw [if_pos c1] at h
    obtain rfl := some1 h
    exact he0 μ _ hz
  · rw [if_neg c1] at h
    refine wp_aload_n (x := 0) dX11_takesPost_8 rfl ?_
    refine wp_getR 20 fl_X11_71 (by decide) rfl (kltM kRootM) kRootM (ly11_42 kRootM).1 dX11_takesPost_9 ?_
    refine wp_iload_n (x := v2) dX11_takesPost_12 rfl ?_
    refine wp_aload_n (x := 0) dX11_takesPost_13 rfl ?_
    refine wp_getR 20 fl_X11_71 (by decide) rfl (kltM kRootM) kRootM (ly11_42 kRootM).1 dX11_takesPost_14 ?_
    refine wp_bipush (nI 36) dX11_takesPost_17 rfl ?_
    refine wp_iload_n (x := v2) dX11_takesPost_19 rfl ?_
    refine wp_iadd dX11_takesPost_20 ?_
    obtain ⟨c1, h⟩ := chv_some h
    refine wp_ialde (kltM (ly11_42 kRootM).2.1) (ly11_42 kRootM).2.1 (ly11_42 kRootM).2.2 c1 dX11_takesPost_21 ?_
    obtain ⟨c1, h⟩ := chv_some h
    obtain ⟨μ1, e1, h⟩ := lt_some h
    refine wp_iaste e1 (kltM (ly11_42 kRootM).2.1) (ly11_42 kRootM).2.1 (ly11_42 kRootM).2.2 c1 dX11_takesPost_22 ?_
    refine wp_iinc (x := v2) (k0 := (nI 1)) (L2 := [some (.ref 0), some (.int v1), some (.int (v2 + (nI 1)))]) dX11_takesPost_23 rfl rfl (by decide) rfl rfl ?_
    refine wp_goto 2 dX11_takesPost_26 (by decide) ?_
    obtain rfl := some1 h
    exact hb ((v2 + (nI 1)), μ1) hz
theorem okl_M_takesPost_l2 {l : Launch} {d : Nat} (hd : 1 ≤ d) (v1 : Int32)  {Q : Option Value → Sh → Mm → Prop} (K : Mm → Prop) (he0 : ∀ (x : Mm) (z2 : Option Value), K x → Wp l SM d (0, 0) mX11_takesPost 29 [some (.ref 0), some (.int v1), z2] [] x Q) : ∀ (n : Nat) (s : (Int32 × Mm)) (y : Mm) , iter n (fun s => M_takesPost_l2 v1 s.1 s.2) s = some y → K y → Wp l SM d (0, 0) mX11_takesPost 2 [some (.ref 0), some (.int v1), some (.int s.1)] [] s.2 Q := by
  intro n
  induction n with
  | zero => intro s y  h; cases h
  | succ n ih =>
    intro s y  h hK
    obtain ⟨z, hz, hn⟩ := iter_some h
    refine ok_M_takesPost_l2 hd v1 s.1 s.2 (fun z => nxt n (fun s => M_takesPost_l2 v1 s.1 s.2) z y) ?_ ?_ hz hn
    · intro s2  h2
      exact ih s2 y h2 hK
    · intro x z2 h2
      have h3 : x = y := h2
      subst h3
      exact he0 x _ hK
theorem ok_M_takesPost {l : Launch} {d : Nat} (hd : 1 ≤ d) (v1 : Int32)  (μ : Mm) {μ' : Mm} (h : M_takesPost v1 μ = some μ') : Wp l SM d (0, 0) mX11_takesPost 0 [some (.ref 0), some (.int v1), none] [] μ (Qv SM μ') := by
  unfold M_takesPost at h
  refine wp_iconst (nI 0) dX11_takesPost_0 rfl ?_
  refine wp_istore_n (L2 := [some (.ref 0), some (.int v1), some (.int (nI 0))]) dX11_takesPost_1 (by decide) rfl rfl ?_
  obtain ⟨x2, hi, h⟩ := bni_some h
  refine okl_M_takesPost_l2 hd v1 (fun z => z = x2) ?_ 1000000 ((nI 0), μ) x2 hi rfl
  · intro y0 z2 e0
    have e0 : y0 = x2 := e0
    subst e0
    refine wp_aload_n (x := 0) dX11_takesPost_29 rfl ?_
    refine wp_iload_n (x := v1) dX11_takesPost_30 rfl ?_
    obtain ⟨μ2, e1, h⟩ := lt_some h
    refine wp_putIe e1 fl_X11_271 (by decide) rfl (kltM kRootM) kRootM dX11_takesPost_31 ?_
    obtain rfl := ret1 h
    exact wp_vret rfl dX11_takesPost_34 ⟨rfl, rfl, rfl⟩
theorem ok_M_text_j89 {l : Launch} {d : Nat} (hd : 10 ≤ d) (v1 : Int32)  (v2 : Int32)  (μ : Mm) {r : Int32} {μ' : Mm} (h : M_text_j89 v1 v2 μ = some (r, μ')) : Wp l SM d (0, 0) mX11_text 89 [some (.ref 0), some (.int v1), some (.int v2)] [] μ (Qi SM r μ') := by
  unfold M_text_j89 at h
  refine wp_aload_n (x := 0) dX11_text_89 rfl ?_
  refine wp_iconst (nI 0) dX11_text_90 rfl ?_
  obtain ⟨μ9, e1, h⟩ := lt_some h
  refine wp_putIe e1 fl_X11_166 (by decide) rfl (kltM kRootM) kRootM dX11_text_91 ?_
  refine wp_iload_n (x := v2) dX11_text_94 rfl ?_
  refine wp_iconst (-1) dX11_text_95 rfl ?_
  refine wp_icmp_ne 101 dX11_text_96 (by decide) (fun c1 => ?_) (fun c1 => ?_)
  · rw [if_neg c1] at h
    refine wp_iload_n (x := v1) dX11_text_101 rfl ?_
    refine wp_iconst (nI 2) dX11_text_102 rfl ?_
    refine wp_icmp_ne 114 dX11_text_103 (by decide) (fun c1 => ?_) (fun c1 => ?_)
    · rw [if_neg c1] at h
      refine wp_aload_n (x := 0) dX11_text_114 rfl ?_
      refine wp_iload_n (x := v2) dX11_text_115 rfl ?_
      obtain ⟨μ10, g1, h⟩ := bnd_some h
      refine wp_cVv (d := d - 1) (o := 0) cv_X11_286 (kltM kRootM) kRootM (as := [.int v2]) (rest := []) dX11_text_116 (by omega) cloM rfl rfl (Nat.le_of_ble_eq_true rfl) (Nat.le_of_ble_eq_true rfl) (ok_M_takesLaw (by omega) v2 μ9 g1) ?_ rfl
      refine wp_iload_n (x := v2) dX11_text_119 rfl ?_
      obtain ⟨rfl, rfl⟩ := ret2 h
      exact wp_iret rfl dX11_text_120 ⟨rfl, rfl, rfl⟩
    · rw [if_pos c1] at h
      refine wp_aload_n (x := 0) dX11_text_106 rfl ?_
      refine wp_iload_n (x := v2) dX11_text_107 rfl ?_
      obtain ⟨μ11, g1, h⟩ := bnd_some h
      refine wp_cVv (d := d - 1) (o := 0) cv_X11_283 (kltM kRootM) kRootM (as := [.int v2]) (rest := []) dX11_text_108 (by omega) cloM rfl rfl (Nat.le_of_ble_eq_true rfl) (Nat.le_of_ble_eq_true rfl) (ok_M_takesPost (by omega) v2 μ9 g1) ?_ rfl
      refine wp_goto 119 dX11_text_111 (by decide) ?_
      refine wp_iload_n (x := v2) dX11_text_119 rfl ?_
      obtain ⟨rfl, rfl⟩ := ret2 h
      exact wp_iret rfl dX11_text_120 ⟨rfl, rfl, rfl⟩
  · rw [if_pos c1] at h
    refine wp_iconst (-1) dX11_text_99 rfl ?_
    obtain ⟨rfl, rfl⟩ := ret2 h
    exact wp_iret rfl dX11_text_100 ⟨rfl, rfl, rfl⟩
theorem ok_M_text_j67 {l : Launch} {d : Nat} (hd : 10 ≤ d) (v1 : Int32)  (s0 : Int32) (μ : Mm) (z2 : Option Value) {r : Int32} {μ' : Mm} (h : M_text_j67 v1 s0 μ = some (r, μ')) : Wp l SM d (0, 0) mX11_text 67 [some (.ref 0), some (.int v1), z2] [.int s0] μ (Qi SM r μ') := by
  unfold M_text_j67 at h
  refine wp_istore_n (L2 := [some (.ref 0), some (.int v1), some (.int s0)]) dX11_text_67 (by decide) rfl rfl ?_
  refine wp_iload_n (x := s0) dX11_text_68 rfl ?_
  refine wp_iconst (-1) dX11_text_69 rfl ?_
  refine wp_icmp_ne 89 dX11_text_70 (by decide) (fun c1 => ?_) (fun c1 => ?_)
  · rw [if_neg c1] at h
    exact ok_M_text_j89 hd v1 s0 μ h
  · rw [if_pos c1] at h
    refine wp_aload_n (x := 0) dX11_text_73 rfl ?_
    refine wp_aload_n (x := 0) dX11_text_74 rfl ?_
    refine wp_getI fl_X11_200 (by decide) rfl (kltM kRootM) kRootM dX11_text_75 ?_
    obtain ⟨μ15, e1, h⟩ := lt_some h
    refine wp_putIe e1 fl_X11_274 (by decide) rfl (kltM kRootM) kRootM dX11_text_78 ?_
    refine wp_aload_n (x := 0) dX11_text_81 rfl ?_
    refine wp_aload_n (x := 0) dX11_text_82 rfl ?_
    refine wp_getI fl_X11_203 (by decide) rfl (kltM kRootM) kRootM dX11_text_83 ?_
    obtain ⟨μ16, e1, h⟩ := lt_some h
    refine wp_putIe e1 fl_X11_67 (by decide) rfl (kltM kRootM) kRootM dX11_text_86 ?_
    exact ok_M_text_j89 hd v1 s0 μ16 h
theorem ok_M_text {l : Launch} {d : Nat} (hd : 10 ≤ d) (v1 : Int32)  (μ : Mm) {r : Int32} {μ' : Mm} (h : M_text v1 μ = some (r, μ')) : Wp l SM d (0, 0) mX11_text 0 [some (.ref 0), some (.int v1), none] [] μ (Qi SM r μ') := by
  unfold M_text at h
  refine wp_aload_n (x := 0) dX11_text_0 rfl ?_
  refine wp_iconst (nI 0) dX11_text_1 rfl ?_
  obtain ⟨μ1, e1, h⟩ := lt_some h
  refine wp_putIe e1 fl_X11_86 (by decide) rfl (kltM kRootM) kRootM dX11_text_2 ?_
  refine wp_aload_n (x := 0) dX11_text_5 rfl ?_
  refine wp_iconst (nI 0) dX11_text_6 rfl ?_
  obtain ⟨μ2, e1, h⟩ := lt_some h
  refine wp_putIe e1 fl_X11_274 (by decide) rfl (kltM kRootM) kRootM dX11_text_7 ?_
  refine wp_aload_n (x := 0) dX11_text_10 rfl ?_
  refine wp_iconst (-1) dX11_text_11 rfl ?_
  obtain ⟨μ3, e1, h⟩ := lt_some h
  refine wp_putIe e1 fl_X11_67 (by decide) rfl (kltM kRootM) kRootM dX11_text_12 ?_
  refine wp_aload_n (x := 0) dX11_text_15 rfl ?_
  refine wp_iconst (nI 0) dX11_text_16 rfl ?_
  obtain ⟨μ4, e1, h⟩ := lt_some h
  refine wp_putIe e1 fl_X11_173 (by decide) rfl (kltM kRootM) kRootM dX11_text_17 ?_
  refine wp_aload_n (x := 0) dX11_text_20 rfl ?_
  refine wp_iconst (nI 0) dX11_text_21 rfl ?_
  obtain ⟨μ5, e1, h⟩ := lt_some h
  refine wp_putIe e1 fl_X11_206 (by decide) rfl (kltM kRootM) kRootM dX11_text_22 ?_
  refine wp_aload_n (x := 0) dX11_text_25 rfl ?_
  refine wp_iconst (nI 0) dX11_text_26 rfl ?_
  obtain ⟨μ6, e1, h⟩ := lt_some h
  refine wp_putIe e1 fl_X11_240 (by decide) rfl (kltM kRootM) kRootM dX11_text_27 ?_
  refine wp_aload_n (x := 0) dX11_text_30 rfl ?_
  refine wp_iload_n (x := v1) dX11_text_31 rfl ?_
  obtain ⟨μ7, e1, h⟩ := lt_some h
  refine wp_putIe e1 fl_X11_209 (by decide) rfl (kltM kRootM) kRootM dX11_text_32 ?_
  refine wp_iconst (-1) dX11_text_35 rfl ?_
  refine wp_istore_n (L2 := [some (.ref 0), some (.int v1), some (.int (-1))]) dX11_text_36 (by decide) rfl rfl ?_
  refine wp_aload_n (x := 0) dX11_text_37 rfl ?_
  refine wp_iload_n (x := v1) dX11_text_38 rfl ?_
  refine wp_iconst (nI 0) dX11_text_39 rfl ?_
  refine wp_iconst (nI 2) dX11_text_40 rfl ?_
  obtain ⟨r8, g1, h⟩ := bnd_some h
  refine wp_cVi (d := d - 1) (o := 0) cv_X11_113 (kltM kRootM) kRootM (as := [.int v1, .int (nI 0), .int (nI 2)]) (rest := []) dX11_text_41 (by omega) cloM rfl rfl (Nat.le_of_ble_eq_true rfl) (Nat.le_of_ble_eq_true rfl) (ok_M_isIn (by omega) v1 (nI 0) (nI 2) μ7 g1) ?_ rfl
  refine wp_if_eq 89 dX11_text_44 (by decide) (fun c1 => ?_) (fun c1 => ?_)
  · rw [if_pos c1] at h
    exact ok_M_text_j89 hd v1 (-1) μ7 h
  · rw [if_neg c1] at h
    refine wp_aload_n (x := 0) dX11_text_47 rfl ?_
    obtain ⟨μ12, g1, h⟩ := bnd_some h
    refine wp_cVv (d := d - 1) (o := 0) cv_X11_221 (kltM kRootM) kRootM (as := []) (rest := []) dX11_text_48 (by omega) cloM rfl rfl (Nat.le_of_ble_eq_true rfl) (Nat.le_of_ble_eq_true rfl) (ok_M_reads (by omega) μ7 g1) ?_ rfl
    refine wp_iload_n (x := v1) dX11_text_51 rfl ?_
    refine wp_iconst (nI 2) dX11_text_52 rfl ?_
    refine wp_icmp_ne 63 dX11_text_53 (by decide) (fun c1 => ?_) (fun c1 => ?_)
    · rw [if_neg c1] at h
      refine wp_aload_n (x := 0) dX11_text_63 rfl ?_
      obtain ⟨r14, μ13, g1, h⟩ := bnd2_some h
      refine wp_cVi (d := d - 1) (o := 0) cv_X11_280 (kltM kRootM) kRootM (as := []) (rest := []) dX11_text_64 (by omega) cloM rfl rfl (Nat.le_of_ble_eq_true rfl) (Nat.le_of_ble_eq_true rfl) (ok_M_readLaw (by omega) μ12 g1) ?_ rfl
      exact ok_M_text_j67 hd v1 r14 μ13 _ h
    · rw [if_pos c1] at h
      refine wp_aload_n (x := 0) dX11_text_56 rfl ?_
      obtain ⟨r18, μ17, g1, h⟩ := bnd2_some h
      refine wp_cVi (d := d - 1) (o := 0) cv_X11_277 (kltM kRootM) kRootM (as := []) (rest := []) dX11_text_57 (by omega) cloM rfl rfl (Nat.le_of_ble_eq_true rfl) (Nat.le_of_ble_eq_true rfl) (ok_M_readPost (by omega) μ12 g1) ?_ rfl
      refine wp_goto 67 dX11_text_60 (by decide) ?_
      exact ok_M_text_j67 hd v1 r18 μ17 _ h
theorem ok_M_fault {l : Launch} {d : Nat} (hd : 1 ≤ d) (v1 : Int32)  (μ : Mm) {r : Int32} {μ' : Mm} (h : M_fault v1 μ = some (r, μ')) : Wp l SM d (0, 0) mX11_fault 0 [some (.ref 0), some (.int v1)] [] μ (Qi SM r μ') := by
  unfold M_fault at h
  refine wp_aload_n (x := 0) dX11_fault_0 rfl ?_
  refine wp_iconst (nI 0) dX11_fault_1 rfl ?_
  obtain ⟨μ1, e1, h⟩ := lt_some h
  refine wp_putIe e1 fl_X11_86 (by decide) rfl (kltM kRootM) kRootM dX11_fault_2 ?_
  refine wp_iload_n (x := v1) dX11_fault_5 rfl ?_
  refine wp_if_ne 16 dX11_fault_6 (by decide) (fun c1 => ?_) (fun c1 => ?_)
  · rw [if_neg c1] at h
    refine wp_iload_n (x := v1) dX11_fault_16 rfl ?_
    refine wp_iconst (nI 1) dX11_fault_17 rfl ?_
    refine wp_icmp_ne 28 dX11_fault_18 (by decide) (fun c1 => ?_) (fun c1 => ?_)
    · rw [if_neg c1] at h
      refine wp_iconst (-1) dX11_fault_28 rfl ?_
      obtain ⟨rfl, rfl⟩ := ret2 h
      exact wp_iret rfl dX11_fault_29 ⟨rfl, rfl, rfl⟩
    · rw [if_pos c1] at h
      refine wp_aload_n (x := 0) dX11_fault_21 rfl ?_
      refine wp_getI fl_X11_67 (by decide) rfl (kltM kRootM) kRootM dX11_fault_22 ?_
      refine wp_goto 29 dX11_fault_25 (by decide) ?_
      obtain ⟨rfl, rfl⟩ := ret2 h
      exact wp_iret rfl dX11_fault_29 ⟨rfl, rfl, rfl⟩
  · rw [if_pos c1] at h
    refine wp_aload_n (x := 0) dX11_fault_9 rfl ?_
    refine wp_getI fl_X11_274 (by decide) rfl (kltM kRootM) kRootM dX11_fault_10 ?_
    refine wp_goto 29 dX11_fault_13 (by decide) ?_
    obtain ⟨rfl, rfl⟩ := ret2 h
    exact wp_iret rfl dX11_fault_29 ⟨rfl, rfl, rfl⟩
theorem ok_M_twoOf {l : Launch} {d : Nat} (hd : 1 ≤ d) (v1 : Int32)  (v2 : Int32)  (v3 : Int32)  (μ : Mm) {r : Int32} (h : M_twoOf v1 v2 v3 = some r) : Wp l SM d (0, 0) mX11_twoOf 0 [some (.ref 0), some (.int v1), some (.int v2), some (.int v3)] [] μ (Qi SM r μ) := by
  unfold M_twoOf at h
  refine wp_iload_n (x := v1) dX11_twoOf_0 rfl ?_
  refine wp_iconst (nI 2) dX11_twoOf_1 rfl ?_
  refine wp_icmp_ne 9 dX11_twoOf_2 (by decide) (fun c1 => ?_) (fun c1 => ?_)
  · rw [if_neg c1] at h
    refine wp_iload_n (x := v1) dX11_twoOf_9 rfl ?_
    refine wp_iconst (nI 3) dX11_twoOf_10 rfl ?_
    refine wp_icmp_ne 18 dX11_twoOf_11 (by decide) (fun c1 => ?_) (fun c1 => ?_)
    · rw [if_neg c1] at h
      refine wp_iload_n (x := v1) dX11_twoOf_18 rfl ?_
      refine wp_iconst (nI 4) dX11_twoOf_19 rfl ?_
      refine wp_icmp_ne 27 dX11_twoOf_20 (by decide) (fun c1 => ?_) (fun c1 => ?_)
      · rw [if_neg c1] at h
        refine wp_iload_n (x := v1) dX11_twoOf_27 rfl ?_
        refine wp_iconst (nI 5) dX11_twoOf_28 rfl ?_
        refine wp_icmp_ne 36 dX11_twoOf_29 (by decide) (fun c1 => ?_) (fun c1 => ?_)
        · rw [if_neg c1] at h
          refine wp_iload_n (x := v1) dX11_twoOf_36 rfl ?_
          refine wp_bipush (nI 6) dX11_twoOf_37 rfl ?_
          refine wp_icmp_ne 53 dX11_twoOf_39 (by decide) (fun c1 => ?_) (fun c1 => ?_)
          · rw [if_neg c1] at h
            refine wp_iload_n (x := v1) dX11_twoOf_53 rfl ?_
            refine wp_bipush (nI 7) dX11_twoOf_54 rfl ?_
            refine wp_icmp_ne 70 dX11_twoOf_56 (by decide) (fun c1 => ?_) (fun c1 => ?_)
            · rw [if_neg c1] at h
              refine wp_iload_n (x := v1) dX11_twoOf_70 rfl ?_
              refine wp_bipush (nI 8) dX11_twoOf_71 rfl ?_
              refine wp_icmp_ne 87 dX11_twoOf_73 (by decide) (fun c1 => ?_) (fun c1 => ?_)
              · rw [if_neg c1] at h
                refine wp_iload_n (x := v1) dX11_twoOf_87 rfl ?_
                refine wp_bipush (nI 10) dX11_twoOf_88 rfl ?_
                refine wp_icmp_ne 99 dX11_twoOf_90 (by decide) (fun c1 => ?_) (fun c1 => ?_)
                · rw [if_neg c1] at h
                  refine wp_iload_n (x := v2) dX11_twoOf_99 rfl ?_
                  refine wp_iload_n (x := v3) dX11_twoOf_100 rfl ?_
                  refine wp_iadd dX11_twoOf_101 ?_
                  refine wp_if_le 109 dX11_twoOf_102 (by decide) (fun c1 => ?_) (fun c1 => ?_)
                  · rw [if_pos c1] at h
                    refine wp_iconst (nI 0) dX11_twoOf_109 rfl ?_
                    obtain rfl := ret1 h
                    exact wp_iret rfl dX11_twoOf_110 ⟨rfl, rfl, rfl⟩
                  · rw [if_neg c1] at h
                    refine wp_iconst (nI 1) dX11_twoOf_105 rfl ?_
                    refine wp_goto 110 dX11_twoOf_106 (by decide) ?_
                    obtain rfl := ret1 h
                    exact wp_iret rfl dX11_twoOf_110 ⟨rfl, rfl, rfl⟩
                · rw [if_pos c1] at h
                  refine wp_iload_n (x := v2) dX11_twoOf_93 rfl ?_
                  refine wp_iload_n (x := v3) dX11_twoOf_94 rfl ?_
                  refine wp_imul dX11_twoOf_95 ?_
                  refine wp_goto 110 dX11_twoOf_96 (by decide) ?_
                  obtain rfl := ret1 h
                  exact wp_iret rfl dX11_twoOf_110 ⟨rfl, rfl, rfl⟩
              · rw [if_pos c1] at h
                refine wp_iload_n (x := v2) dX11_twoOf_76 rfl ?_
                refine wp_iload_n (x := v3) dX11_twoOf_77 rfl ?_
                refine wp_icmp_le 85 dX11_twoOf_78 (by decide) (fun c1 => ?_) (fun c1 => ?_)
                · rw [if_pos c1] at h
                  refine wp_iconst (nI 0) dX11_twoOf_85 rfl ?_
                  obtain rfl := ret1 h
                  exact wp_iret rfl dX11_twoOf_86 ⟨rfl, rfl, rfl⟩
                · rw [if_neg c1] at h
                  refine wp_iconst (nI 1) dX11_twoOf_81 rfl ?_
                  refine wp_goto 86 dX11_twoOf_82 (by decide) ?_
                  obtain rfl := ret1 h
                  exact wp_iret rfl dX11_twoOf_86 ⟨rfl, rfl, rfl⟩
            · rw [if_pos c1] at h
              refine wp_iload_n (x := v2) dX11_twoOf_59 rfl ?_
              refine wp_iload_n (x := v3) dX11_twoOf_60 rfl ?_
              refine wp_icmp_ne 68 dX11_twoOf_61 (by decide) (fun c1 => ?_) (fun c1 => ?_)
              · rw [if_neg c1] at h
                refine wp_iconst (nI 0) dX11_twoOf_68 rfl ?_
                obtain rfl := ret1 h
                exact wp_iret rfl dX11_twoOf_69 ⟨rfl, rfl, rfl⟩
              · rw [if_pos c1] at h
                refine wp_iconst (nI 1) dX11_twoOf_64 rfl ?_
                refine wp_goto 69 dX11_twoOf_65 (by decide) ?_
                obtain rfl := ret1 h
                exact wp_iret rfl dX11_twoOf_69 ⟨rfl, rfl, rfl⟩
          · rw [if_pos c1] at h
            refine wp_iload_n (x := v2) dX11_twoOf_42 rfl ?_
            refine wp_iload_n (x := v3) dX11_twoOf_43 rfl ?_
            refine wp_icmp_ge 51 dX11_twoOf_44 (by decide) (fun c1 => ?_) (fun c1 => ?_)
            · rw [if_pos c1] at h
              refine wp_iconst (nI 0) dX11_twoOf_51 rfl ?_
              obtain rfl := ret1 h
              exact wp_iret rfl dX11_twoOf_52 ⟨rfl, rfl, rfl⟩
            · rw [if_neg c1] at h
              refine wp_iconst (nI 1) dX11_twoOf_47 rfl ?_
              refine wp_goto 52 dX11_twoOf_48 (by decide) ?_
              obtain rfl := ret1 h
              exact wp_iret rfl dX11_twoOf_52 ⟨rfl, rfl, rfl⟩
        · rw [if_pos c1] at h
          refine wp_iload_n (x := v2) dX11_twoOf_32 rfl ?_
          refine wp_iload_n (x := v3) dX11_twoOf_33 rfl ?_
          obtain ⟨c1, h⟩ := chk_some h
          refine wp_idiv dX11_twoOf_34 c1 ?_
          obtain rfl := ret1 h
          exact wp_iret rfl dX11_twoOf_35 ⟨rfl, rfl, rfl⟩
      · rw [if_pos c1] at h
        refine wp_iload_n (x := v2) dX11_twoOf_23 rfl ?_
        refine wp_iload_n (x := v3) dX11_twoOf_24 rfl ?_
        refine wp_imul dX11_twoOf_25 ?_
        obtain rfl := ret1 h
        exact wp_iret rfl dX11_twoOf_26 ⟨rfl, rfl, rfl⟩
    · rw [if_pos c1] at h
      refine wp_iload_n (x := v2) dX11_twoOf_14 rfl ?_
      refine wp_iload_n (x := v3) dX11_twoOf_15 rfl ?_
      refine wp_isub dX11_twoOf_16 ?_
      obtain rfl := ret1 h
      exact wp_iret rfl dX11_twoOf_17 ⟨rfl, rfl, rfl⟩
  · rw [if_pos c1] at h
    refine wp_iload_n (x := v2) dX11_twoOf_5 rfl ?_
    refine wp_iload_n (x := v3) dX11_twoOf_6 rfl ?_
    refine wp_iadd dX11_twoOf_7 ?_
    obtain rfl := ret1 h
    exact wp_iret rfl dX11_twoOf_8 ⟨rfl, rfl, rfl⟩
theorem ok_M_runs_j170 {l : Launch} {d : Nat} (hd : 2 ≤ d) (v1 : Int32)  (v3 : Int32)  (v4 : Int32)  (v5 : Int32)  (μ : Mm) (z2 : Option Value) {Q : Option Value → Sh → Mm → Prop} (K : (Int32 × Int32 × Mm) ⊕ Mm → Prop) (hb : ∀ (s : (Int32 × Int32 × Mm)) (z2 : Option Value), K (Sum.inl s) → Wp l SM d (0, 0) mX11_runs 12 [some (.ref 0), some (.int v1), z2, some (.int v3), some (.int s.1), some (.int s.2.1)] [] s.2.2 Q) (he0 : ∀ (x : Mm) (z1 : Option Value) (z2 : Option Value) (z3 : Option Value) (z4 : Option Value) (z5 : Option Value), K (Sum.inr x) → Wp l SM d (0, 0) mX11_runs 176 [some (.ref 0), z1, z2, z3, z4, z5] [] x Q) {z : (Int32 × Int32 × Mm) ⊕ Mm} (h : M_runs_j170 v1 v3 v4 v5 μ = some z) (hz : K z) : Wp l SM d (0, 0) mX11_runs 170 [some (.ref 0), some (.int v1), z2, some (.int v3), some (.int v4), some (.int v5)] [] μ Q := by
  unfold M_runs_j170 at h
  refine wp_iinc (x := v5) (k0 := (nI 1)) (L2 := [some (.ref 0), some (.int v1), z2, some (.int v3), some (.int v4), some (.int (v5 + (nI 1)))]) dX11_runs_170 rfl rfl (by decide) rfl rfl ?_
  refine wp_goto 12 dX11_runs_173 (by decide) ?_
  obtain rfl := some1 h
  exact hb (v4, (v5 + (nI 1)), μ) _ hz
theorem ok_M_runs_j83 {l : Launch} {d : Nat} (hd : 2 ≤ d) (v1 : Int32)  (v3 : Int32)  (v4 : Int32)  (v5 : Int32)  (s1 : Int32) (s2 : Int32) (μ : Mm) (z2 : Option Value) {Q : Option Value → Sh → Mm → Prop} (K : (Int32 × Int32 × Mm) ⊕ Mm → Prop) (hb : ∀ (s : (Int32 × Int32 × Mm)) (z2 : Option Value), K (Sum.inl s) → Wp l SM d (0, 0) mX11_runs 12 [some (.ref 0), some (.int v1), z2, some (.int v3), some (.int s.1), some (.int s.2.1)] [] s.2.2 Q) (he0 : ∀ (x : Mm) (z1 : Option Value) (z2 : Option Value) (z3 : Option Value) (z4 : Option Value) (z5 : Option Value), K (Sum.inr x) → Wp l SM d (0, 0) mX11_runs 176 [some (.ref 0), z1, z2, z3, z4, z5] [] x Q) {z : (Int32 × Int32 × Mm) ⊕ Mm} (h : M_runs_j83 v1 v3 v4 v5 s1 s2 μ = some z) (hz : K z) : Wp l SM d (0, 0) mX11_runs 83 [some (.ref 0), some (.int v1), z2, some (.int v3), some (.int v4), some (.int v5)] [.int s2, .int s1, .ref 22] μ Q := by
  unfold M_runs_j83 at h
  obtain ⟨c1, h⟩ := chv_some h
  obtain ⟨μ1, e1, h⟩ := lt_some h
  refine wp_iaste e1 (kltM (ly11_45 kRootM).2.1) (ly11_45 kRootM).2.1 (ly11_45 kRootM).2.2 c1 dX11_runs_83 ?_
  refine wp_iload (x := v4) dX11_runs_84 rfl ?_
  refine wp_iconst (nI 1) dX11_runs_86 rfl ?_
  refine wp_iadd dX11_runs_87 ?_
  refine wp_istore (L2 := [some (.ref 0), some (.int v1), z2, some (.int v3), some (.int (v4 + (nI 1))), some (.int v5)]) dX11_runs_88 (by decide) rfl rfl ?_
  refine wp_goto 170 dX11_runs_90 (by decide) ?_
  exact ok_M_runs_j170 hd v1 v3 (v4 + (nI 1)) v5 μ1 _ K hb he0 h hz
theorem ok_M_runs_j45 {l : Launch} {d : Nat} (hd : 2 ≤ d) (v1 : Int32)  (v3 : Int32)  (v4 : Int32)  (v5 : Int32)  (μ : Mm) (z2 : Option Value) {Q : Option Value → Sh → Mm → Prop} (K : (Int32 × Int32 × Mm) ⊕ Mm → Prop) (hb : ∀ (s : (Int32 × Int32 × Mm)) (z2 : Option Value), K (Sum.inl s) → Wp l SM d (0, 0) mX11_runs 12 [some (.ref 0), some (.int v1), z2, some (.int v3), some (.int s.1), some (.int s.2.1)] [] s.2.2 Q) (he0 : ∀ (x : Mm) (z1 : Option Value) (z2 : Option Value) (z3 : Option Value) (z4 : Option Value) (z5 : Option Value), K (Sum.inr x) → Wp l SM d (0, 0) mX11_runs 176 [some (.ref 0), z1, z2, z3, z4, z5] [] x Q) {z : (Int32 × Int32 × Mm) ⊕ Mm} (h : M_runs_j45 v1 v3 v4 v5 μ = some z) (hz : K z) : Wp l SM d (0, 0) mX11_runs 45 [some (.ref 0), some (.int v1), z2, some (.int v3), some (.int v4), some (.int v5)] [] μ Q := by
  unfold M_runs_j45 at h
  refine wp_aload_n (x := 0) dX11_runs_45 rfl ?_
  refine wp_getR 22 fl_X11_77 (by decide) rfl (kltM kRootM) kRootM (ly11_45 kRootM).1 dX11_runs_46 ?_
  refine wp_iload (x := v4) dX11_runs_49 rfl ?_
  refine wp_aload_n (x := 0) dX11_runs_51 rfl ?_
  refine wp_getR 17 fl_X11_58 (by decide) rfl (kltM kRootM) kRootM (ly11_31 kRootM).1 dX11_runs_52 ?_
  refine wp_iload (x := v5) dX11_runs_55 rfl ?_
  obtain ⟨c1, h⟩ := chv_some h
  refine wp_ialde (kltM (ly11_31 kRootM).2.1) (ly11_31 kRootM).2.1 (ly11_31 kRootM).2.2 c1 dX11_runs_57 ?_
  refine wp_if_ne 71 dX11_runs_58 (by decide) (fun c1 => ?_) (fun c1 => ?_)
  · rw [if_neg c1] at h
    refine wp_aload_n (x := 0) dX11_runs_71 rfl ?_
    refine wp_getR 21 fl_X11_74 (by decide) rfl (kltM kRootM) kRootM (ly11_44 kRootM).1 dX11_runs_72 ?_
    refine wp_aload_n (x := 0) dX11_runs_75 rfl ?_
    refine wp_getR 18 fl_X11_61 (by decide) rfl (kltM kRootM) kRootM (ly11_32 kRootM).1 dX11_runs_76 ?_
    refine wp_iload (x := v5) dX11_runs_79 rfl ?_
    obtain ⟨c1, h⟩ := chv_some h
    refine wp_ialde (kltM (ly11_32 kRootM).2.1) (ly11_32 kRootM).2.1 (ly11_32 kRootM).2.2 c1 dX11_runs_81 ?_
    obtain ⟨c1, h⟩ := chv_some h
    refine wp_ialde (kltM (ly11_44 kRootM).2.1) (ly11_44 kRootM).2.1 (ly11_44 kRootM).2.2 c1 dX11_runs_82 ?_
    exact ok_M_runs_j83 hd v1 v3 v4 v5 v4 (μ.1 21 (ix (μ.1 18 (ix v5)))) μ _ K hb he0 h hz
  · rw [if_pos c1] at h
    refine wp_aload_n (x := 0) dX11_runs_61 rfl ?_
    refine wp_getR 18 fl_X11_61 (by decide) rfl (kltM kRootM) kRootM (ly11_32 kRootM).1 dX11_runs_62 ?_
    refine wp_iload (x := v5) dX11_runs_65 rfl ?_
    obtain ⟨c1, h⟩ := chv_some h
    refine wp_ialde (kltM (ly11_32 kRootM).2.1) (ly11_32 kRootM).2.1 (ly11_32 kRootM).2.2 c1 dX11_runs_67 ?_
    refine wp_goto 83 dX11_runs_68 (by decide) ?_
    exact ok_M_runs_j83 hd v1 v3 v4 v5 v4 (μ.1 18 (ix v5)) μ _ K hb he0 h hz
theorem ok_M_runs_l12 {l : Launch} {d : Nat} (hd : 2 ≤ d) (v1 : Int32)  (v3 : Int32)  (v4 : Int32)  (v5 : Int32)  (μ : Mm) (z2 : Option Value) {Q : Option Value → Sh → Mm → Prop} (K : (Int32 × Int32 × Mm) ⊕ Mm → Prop) (hb : ∀ (s : (Int32 × Int32 × Mm)) (z2 : Option Value), K (Sum.inl s) → Wp l SM d (0, 0) mX11_runs 12 [some (.ref 0), some (.int v1), z2, some (.int v3), some (.int s.1), some (.int s.2.1)] [] s.2.2 Q) (he0 : ∀ (x : Mm) (z1 : Option Value) (z2 : Option Value) (z3 : Option Value) (z4 : Option Value) (z5 : Option Value), K (Sum.inr x) → Wp l SM d (0, 0) mX11_runs 176 [some (.ref 0), z1, z2, z3, z4, z5] [] x Q) {z : (Int32 × Int32 × Mm) ⊕ Mm} (h : M_runs_l12 v1 v3 v4 v5 μ = some z) (hz : K z) : Wp l SM d (0, 0) mX11_runs 12 [some (.ref 0), some (.int v1), z2, some (.int v3), some (.int v4), some (.int v5)] [] μ Q := by
  unfold M_runs_l12 at h
  refine wp_iload (x := v5) dX11_runs_12 rfl ?_
  refine wp_sipush (nI 400) dX11_runs_14 rfl ?_
  refine wp_iload_n (x := v1) dX11_runs_17 rfl ?_
  refine wp_imul dX11_runs_18 ?_
  refine wp_iload_n (x := v3) dX11_runs_19 rfl ?_
  refine wp_iadd dX11_runs_20 ?_
  refine wp_icmp_ge 176 dX11_runs_21 (by decide) (fun c1 => ?_) (fun c1 => ?_)
  · rw [if_pos c1] at h
    obtain rfl := some1 h
    exact he0 μ _ _ _ _ _ hz
  · rw [if_neg c1] at h
    refine wp_aload_n (x := 0) dX11_runs_24 rfl ?_
    refine wp_getR 17 fl_X11_58 (by decide) rfl (kltM kRootM) kRootM (ly11_31 kRootM).1 dX11_runs_25 ?_
    refine wp_iload (x := v5) dX11_runs_28 rfl ?_
    obtain ⟨c1, h⟩ := chv_some h
    refine wp_ialde (kltM (ly11_31 kRootM).2.1) (ly11_31 kRootM).2.1 (ly11_31 kRootM).2.2 c1 dX11_runs_30 ?_
    refine wp_if_eq 45 dX11_runs_31 (by decide) (fun c1 => ?_) (fun c1 => ?_)
    · rw [if_pos c1] at h
      exact ok_M_runs_j45 hd v1 v3 v4 v5 μ _ K hb he0 h hz
    · rw [if_neg c1] at h
      refine wp_aload_n (x := 0) dX11_runs_34 rfl ?_
      refine wp_getR 17 fl_X11_58 (by decide) rfl (kltM kRootM) kRootM (ly11_31 kRootM).1 dX11_runs_35 ?_
      refine wp_iload (x := v5) dX11_runs_38 rfl ?_
      obtain ⟨c1, h⟩ := chv_some h
      refine wp_ialde (kltM (ly11_31 kRootM).2.1) (ly11_31 kRootM).2.1 (ly11_31 kRootM).2.2 c1 dX11_runs_40 ?_
      refine wp_iconst (nI 1) dX11_runs_41 rfl ?_
      refine wp_icmp_ne 93 dX11_runs_42 (by decide) (fun c1 => ?_) (fun c1 => ?_)
      · rw [if_neg c1] at h
        refine wp_aload_n (x := 0) dX11_runs_93 rfl ?_
        refine wp_getR 17 fl_X11_58 (by decide) rfl (kltM kRootM) kRootM (ly11_31 kRootM).1 dX11_runs_94 ?_
        refine wp_iload (x := v5) dX11_runs_97 rfl ?_
        obtain ⟨c1, h⟩ := chv_some h
        refine wp_ialde (kltM (ly11_31 kRootM).2.1) (ly11_31 kRootM).2.1 (ly11_31 kRootM).2.2 c1 dX11_runs_99 ?_
        refine wp_bipush (nI 9) dX11_runs_100 rfl ?_
        refine wp_icmp_ne 128 dX11_runs_102 (by decide) (fun c1 => ?_) (fun c1 => ?_)
        · rw [if_neg c1] at h
          refine wp_iload (x := v4) dX11_runs_128 rfl ?_
          refine wp_iconst (nI 1) dX11_runs_130 rfl ?_
          refine wp_isub dX11_runs_131 ?_
          refine wp_istore (L2 := [some (.ref 0), some (.int v1), z2, some (.int v3), some (.int (v4 - (nI 1))), some (.int v5)]) dX11_runs_132 (by decide) rfl rfl ?_
          refine wp_aload_n (x := 0) dX11_runs_134 rfl ?_
          refine wp_getR 22 fl_X11_77 (by decide) rfl (kltM kRootM) kRootM (ly11_45 kRootM).1 dX11_runs_135 ?_
          refine wp_iload (x := (v4 - (nI 1))) dX11_runs_138 rfl ?_
          refine wp_iconst (nI 1) dX11_runs_140 rfl ?_
          refine wp_isub dX11_runs_141 ?_
          refine wp_aload_n (x := 0) dX11_runs_142 rfl ?_
          refine wp_aload_n (x := 0) dX11_runs_143 rfl ?_
          refine wp_getR 17 fl_X11_58 (by decide) rfl (kltM kRootM) kRootM (ly11_31 kRootM).1 dX11_runs_144 ?_
          refine wp_iload (x := v5) dX11_runs_147 rfl ?_
          obtain ⟨c1, h⟩ := chv_some h
          refine wp_ialde (kltM (ly11_31 kRootM).2.1) (ly11_31 kRootM).2.1 (ly11_31 kRootM).2.2 c1 dX11_runs_149 ?_
          refine wp_aload_n (x := 0) dX11_runs_150 rfl ?_
          refine wp_getR 22 fl_X11_77 (by decide) rfl (kltM kRootM) kRootM (ly11_45 kRootM).1 dX11_runs_151 ?_
          refine wp_iload (x := (v4 - (nI 1))) dX11_runs_154 rfl ?_
          refine wp_iconst (nI 1) dX11_runs_156 rfl ?_
          refine wp_isub dX11_runs_157 ?_
          obtain ⟨c1, h⟩ := chv_some h
          refine wp_ialde (kltM (ly11_45 kRootM).2.1) (ly11_45 kRootM).2.1 (ly11_45 kRootM).2.2 c1 dX11_runs_158 ?_
          refine wp_aload_n (x := 0) dX11_runs_159 rfl ?_
          refine wp_getR 22 fl_X11_77 (by decide) rfl (kltM kRootM) kRootM (ly11_45 kRootM).1 dX11_runs_160 ?_
          refine wp_iload (x := (v4 - (nI 1))) dX11_runs_163 rfl ?_
          obtain ⟨c1, h⟩ := chv_some h
          refine wp_ialde (kltM (ly11_45 kRootM).2.1) (ly11_45 kRootM).2.1 (ly11_45 kRootM).2.2 c1 dX11_runs_165 ?_
          obtain ⟨r2, g1, h⟩ := bnd_some h
          refine wp_cVi (d := d - 1) (o := 0) cv_X11_289 (kltM kRootM) kRootM (as := [.int (μ.1 17 (ix v5)), .int (μ.1 22 (ix ((v4 - (nI 1)) - (nI 1)))), .int (μ.1 22 (ix (v4 - (nI 1))))]) (rest := [.int ((v4 - (nI 1)) - (nI 1)), .ref 22]) dX11_runs_166 (by omega) cloM rfl rfl (Nat.le_of_ble_eq_true rfl) (Nat.le_of_ble_eq_true rfl) (ok_M_twoOf (by omega) (μ.1 17 (ix v5)) (μ.1 22 (ix ((v4 - (nI 1)) - (nI 1)))) (μ.1 22 (ix (v4 - (nI 1)))) μ g1) ?_ rfl
          obtain ⟨c1, h⟩ := chv_some h
          obtain ⟨μ3, e1, h⟩ := lt_some h
          refine wp_iaste e1 (kltM (ly11_45 kRootM).2.1) (ly11_45 kRootM).2.1 (ly11_45 kRootM).2.2 c1 dX11_runs_169 ?_
          exact ok_M_runs_j170 hd v1 v3 (v4 - (nI 1)) v5 μ3 _ K hb he0 h hz
        · rw [if_pos c1] at h
          refine wp_aload_n (x := 0) dX11_runs_105 rfl ?_
          refine wp_getR 22 fl_X11_77 (by decide) rfl (kltM kRootM) kRootM (ly11_45 kRootM).1 dX11_runs_106 ?_
          refine wp_iload (x := v4) dX11_runs_109 rfl ?_
          refine wp_iconst (nI 1) dX11_runs_111 rfl ?_
          refine wp_isub dX11_runs_112 ?_
          refine wp_iconst (nI 1) dX11_runs_113 rfl ?_
          refine wp_aload_n (x := 0) dX11_runs_114 rfl ?_
          refine wp_getR 22 fl_X11_77 (by decide) rfl (kltM kRootM) kRootM (ly11_45 kRootM).1 dX11_runs_115 ?_
          refine wp_iload (x := v4) dX11_runs_118 rfl ?_
          refine wp_iconst (nI 1) dX11_runs_120 rfl ?_
          refine wp_isub dX11_runs_121 ?_
          obtain ⟨c1, h⟩ := chv_some h
          refine wp_ialde (kltM (ly11_45 kRootM).2.1) (ly11_45 kRootM).2.1 (ly11_45 kRootM).2.2 c1 dX11_runs_122 ?_
          refine wp_isub dX11_runs_123 ?_
          obtain ⟨c1, h⟩ := chv_some h
          obtain ⟨μ4, e1, h⟩ := lt_some h
          refine wp_iaste e1 (kltM (ly11_45 kRootM).2.1) (ly11_45 kRootM).2.1 (ly11_45 kRootM).2.2 c1 dX11_runs_124 ?_
          refine wp_goto 170 dX11_runs_125 (by decide) ?_
          exact ok_M_runs_j170 hd v1 v3 v4 v5 μ4 _ K hb he0 h hz
      · rw [if_pos c1] at h
        exact ok_M_runs_j45 hd v1 v3 v4 v5 μ _ K hb he0 h hz
theorem okl_M_runs_l12 {l : Launch} {d : Nat} (hd : 2 ≤ d) (v1 : Int32)  (v3 : Int32)  {Q : Option Value → Sh → Mm → Prop} (K : Mm → Prop) (he0 : ∀ (x : Mm) (z1 : Option Value) (z2 : Option Value) (z3 : Option Value) (z4 : Option Value) (z5 : Option Value), K x → Wp l SM d (0, 0) mX11_runs 176 [some (.ref 0), z1, z2, z3, z4, z5] [] x Q) : ∀ (n : Nat) (s : (Int32 × Int32 × Mm)) (y : Mm) (z2 : Option Value) , iter n (fun s => M_runs_l12 v1 v3 s.1 s.2.1 s.2.2) s = some y → K y → Wp l SM d (0, 0) mX11_runs 12 [some (.ref 0), some (.int v1), z2, some (.int v3), some (.int s.1), some (.int s.2.1)] [] s.2.2 Q := by
  intro n
  induction n with
  | zero => intro s y z2 h; cases h
  | succ n ih =>
    intro s y z2 h hK
    obtain ⟨z, hz, hn⟩ := iter_some h
    refine ok_M_runs_l12 hd v1 v3 s.1 s.2.1 s.2.2 _ (fun z => nxt n (fun s => M_runs_l12 v1 v3 s.1 s.2.1 s.2.2) z y) ?_ ?_ hz hn
    · intro s2 z2 h2
      exact ih s2 y _ h2 hK
    · intro x z1 z2 z3 z4 z5 h2
      have h3 : x = y := h2
      subst h3
      exact he0 x _ _ _ _ _ hK
theorem ok_M_runs {l : Launch} {d : Nat} (hd : 2 ≤ d) (v1 : Int32)  (v2 : Int32)  (v3 : Int32)  (μ : Mm) {r : Int32} {μ' : Mm} (h : M_runs v1 v2 v3 μ = some (r, μ')) : Wp l SM d (0, 0) mX11_runs 0 [some (.ref 0), some (.int v1), some (.int v2), some (.int v3), none, none] [] μ (Qi SM r μ') := by
  unfold M_runs at h
  refine wp_iconst (nI 0) dX11_runs_0 rfl ?_
  refine wp_istore (L2 := [some (.ref 0), some (.int v1), some (.int v2), some (.int v3), some (.int (nI 0)), none]) dX11_runs_1 (by decide) rfl rfl ?_
  refine wp_sipush (nI 400) dX11_runs_3 rfl ?_
  refine wp_iload_n (x := v1) dX11_runs_6 rfl ?_
  refine wp_imul dX11_runs_7 ?_
  refine wp_iload_n (x := v2) dX11_runs_8 rfl ?_
  refine wp_iadd dX11_runs_9 ?_
  refine wp_istore (L2 := [some (.ref 0), some (.int v1), some (.int v2), some (.int v3), some (.int (nI 0)), some (.int (((nI 400) * v1) + v2))]) dX11_runs_10 (by decide) rfl rfl ?_
  obtain ⟨x12, hi, h⟩ := bni_some h
  refine okl_M_runs_l12 hd v1 v3 (fun z => z = x12) ?_ 1000000 ((nI 0), (((nI 400) * v1) + v2), μ) x12 _ hi rfl
  · intro y0 z1 z2 z3 z4 z5 e0
    have e0 : y0 = x12 := e0
    subst e0
    refine wp_aload_n (x := 0) dX11_runs_176 rfl ?_
    refine wp_getR 22 fl_X11_77 (by decide) rfl (kltM kRootM) kRootM (ly11_45 kRootM).1 dX11_runs_177 ?_
    refine wp_iconst (nI 0) dX11_runs_180 rfl ?_
    obtain ⟨c1, h⟩ := chv_some h
    refine wp_ialde (kltM (ly11_45 kRootM).2.1) (ly11_45 kRootM).2.1 (ly11_45 kRootM).2.2 c1 dX11_runs_181 ?_
    obtain ⟨rfl, rfl⟩ := ret2 h
    exact wp_iret rfl dX11_runs_182 ⟨rfl, rfl, rfl⟩
theorem ok_M_lineOf_l2 {l : Launch} {d : Nat} (hd : 3 ≤ d) (v1 : Int32)  (v2 : Int32)  (μ : Mm) (z3 : Option Value) {Q : Option Value → Sh → Mm → Prop} (K : (Int32 × Mm) ⊕ ((Int32 × Mm) ⊕ Mm) → Prop) (hb : ∀ (s : (Int32 × Mm)) (z3 : Option Value), K (Sum.inl s) → Wp l SM d (0, 0) mX11_lineOf 2 [some (.ref 0), some (.int v1), some (.int s.1), z3] [] s.2 Q) (he0 : ∀ (x : (Int32 × Mm)) (z1 : Option Value) (z2 : Option Value), K (Sum.inr (Sum.inl x)) → Wp l SM d (0, 0) mX11_lineOf 54 [some (.ref 0), z1, z2, some (.int x.1)] [] x.2 Q) (he1 : ∀ (x : Mm) (z1 : Option Value) (z2 : Option Value) (z3 : Option Value), K (Sum.inr (Sum.inr x)) → Wp l SM d (0, 0) mX11_lineOf 62 [some (.ref 0), z1, z2, z3] [] x Q) {z : (Int32 × Mm) ⊕ ((Int32 × Mm) ⊕ Mm)} (h : M_lineOf_l2 v1 v2 μ = some z) (hz : K z) : Wp l SM d (0, 0) mX11_lineOf 2 [some (.ref 0), some (.int v1), some (.int v2), z3] [] μ Q := by
  unfold M_lineOf_l2 at h
  refine wp_iload_n (x := v2) dX11_lineOf_2 rfl ?_
  refine wp_aload_n (x := 0) dX11_lineOf_3 rfl ?_
  refine wp_getR 13 fl_X11_46 (by decide) rfl (kltM kRootM) kRootM (ly11_27 kRootM).1 dX11_lineOf_4 ?_
  refine wp_iload_n (x := v1) dX11_lineOf_7 rfl ?_
  obtain ⟨c1, h⟩ := chv_some h
  refine wp_ialde (kltM (ly11_27 kRootM).2.1) (ly11_27 kRootM).2.1 (ly11_27 kRootM).2.2 c1 dX11_lineOf_8 ?_
  refine wp_icmp_ge 62 dX11_lineOf_9 (by decide) (fun c1 => ?_) (fun c1 => ?_)
  · rw [if_pos c1] at h
    obtain rfl := some1 h
    exact he1 μ _ _ _ hz
  · rw [if_neg c1] at h
    refine wp_bipush (nI 16) dX11_lineOf_12 rfl ?_
    refine wp_iload_n (x := v1) dX11_lineOf_14 rfl ?_
    refine wp_imul dX11_lineOf_15 ?_
    refine wp_iload_n (x := v2) dX11_lineOf_16 rfl ?_
    refine wp_iadd dX11_lineOf_17 ?_
    refine wp_istore_n (L2 := [some (.ref 0), some (.int v1), some (.int v2), some (.int (((nI 16) * v1) + v2))]) dX11_lineOf_18 (by decide) rfl rfl ?_
    refine wp_aload_n (x := 0) dX11_lineOf_19 rfl ?_
    refine wp_getR 15 fl_X11_52 (by decide) rfl (kltM kRootM) kRootM (ly11_29 kRootM).1 dX11_lineOf_20 ?_
    refine wp_iload_n (x := (((nI 16) * v1) + v2)) dX11_lineOf_23 rfl ?_
    obtain ⟨c1, h⟩ := chv_some h
    refine wp_ialde (kltM (ly11_29 kRootM).2.1) (ly11_29 kRootM).2.1 (ly11_29 kRootM).2.2 c1 dX11_lineOf_24 ?_
    refine wp_aload_n (x := 0) dX11_lineOf_25 rfl ?_
    refine wp_getR 16 fl_X11_55 (by decide) rfl (kltM kRootM) kRootM (ly11_30 kRootM).1 dX11_lineOf_26 ?_
    refine wp_iload_n (x := (((nI 16) * v1) + v2)) dX11_lineOf_29 rfl ?_
    obtain ⟨c1, h⟩ := chv_some h
    refine wp_ialde (kltM (ly11_30 kRootM).2.1) (ly11_30 kRootM).2.1 (ly11_30 kRootM).2.2 c1 dX11_lineOf_30 ?_
    refine wp_icmp_eq 54 dX11_lineOf_31 (by decide) (fun c1 => ?_) (fun c1 => ?_)
    · rw [if_pos c1] at h
      obtain rfl := some1 h
      exact he0 ((((nI 16) * v1) + v2), μ) _ _ hz
    · rw [if_neg c1] at h
      refine wp_aload_n (x := 0) dX11_lineOf_34 rfl ?_
      refine wp_iload_n (x := v1) dX11_lineOf_35 rfl ?_
      refine wp_aload_n (x := 0) dX11_lineOf_36 rfl ?_
      refine wp_getR 15 fl_X11_52 (by decide) rfl (kltM kRootM) kRootM (ly11_29 kRootM).1 dX11_lineOf_37 ?_
      refine wp_iload_n (x := (((nI 16) * v1) + v2)) dX11_lineOf_40 rfl ?_
      obtain ⟨c1, h⟩ := chv_some h
      refine wp_ialde (kltM (ly11_29 kRootM).2.1) (ly11_29 kRootM).2.1 (ly11_29 kRootM).2.2 c1 dX11_lineOf_41 ?_
      refine wp_aload_n (x := 0) dX11_lineOf_42 rfl ?_
      refine wp_getR 16 fl_X11_55 (by decide) rfl (kltM kRootM) kRootM (ly11_30 kRootM).1 dX11_lineOf_43 ?_
      refine wp_iload_n (x := (((nI 16) * v1) + v2)) dX11_lineOf_46 rfl ?_
      obtain ⟨c1, h⟩ := chv_some h
      refine wp_ialde (kltM (ly11_30 kRootM).2.1) (ly11_30 kRootM).2.1 (ly11_30 kRootM).2.2 c1 dX11_lineOf_47 ?_
      obtain ⟨r2, μ1, g1, h⟩ := bnd2_some h
      refine wp_cVi (d := d - 1) (o := 0) cv_X11_293 (kltM kRootM) kRootM (as := [.int v1, .int (μ.1 15 (ix (((nI 16) * v1) + v2))), .int (μ.1 16 (ix (((nI 16) * v1) + v2)))]) (rest := []) dX11_lineOf_48 (by omega) cloM rfl rfl (Nat.le_of_ble_eq_true rfl) (Nat.le_of_ble_eq_true rfl) (ok_M_runs (by omega) v1 (μ.1 15 (ix (((nI 16) * v1) + v2))) (μ.1 16 (ix (((nI 16) * v1) + v2))) μ g1) ?_ rfl
      refine wp_if_eq 56 dX11_lineOf_51 (by decide) (fun c1 => ?_) (fun c1 => ?_)
      · rw [if_pos c1] at h
        refine wp_iinc (x := v2) (k0 := (nI 1)) (L2 := [some (.ref 0), some (.int v1), some (.int (v2 + (nI 1))), some (.int (((nI 16) * v1) + v2))]) dX11_lineOf_56 rfl rfl (by decide) rfl rfl ?_
        refine wp_goto 2 dX11_lineOf_59 (by decide) ?_
        obtain rfl := some1 h
        exact hb ((v2 + (nI 1)), μ1) _ hz
      · rw [if_neg c1] at h
        obtain rfl := some1 h
        exact he0 ((((nI 16) * v1) + v2), μ1) _ _ hz
theorem okl_M_lineOf_l2 {l : Launch} {d : Nat} (hd : 3 ≤ d) (v1 : Int32)  {Q : Option Value → Sh → Mm → Prop} (K : ((Int32 × Mm) ⊕ Mm) → Prop) (he0 : ∀ (x : (Int32 × Mm)) (z1 : Option Value) (z2 : Option Value), K (Sum.inl x) → Wp l SM d (0, 0) mX11_lineOf 54 [some (.ref 0), z1, z2, some (.int x.1)] [] x.2 Q) (he1 : ∀ (x : Mm) (z1 : Option Value) (z2 : Option Value) (z3 : Option Value), K (Sum.inr x) → Wp l SM d (0, 0) mX11_lineOf 62 [some (.ref 0), z1, z2, z3] [] x Q) : ∀ (n : Nat) (s : (Int32 × Mm)) (y : ((Int32 × Mm) ⊕ Mm)) (z3 : Option Value) , iter n (fun s => M_lineOf_l2 v1 s.1 s.2) s = some y → K y → Wp l SM d (0, 0) mX11_lineOf 2 [some (.ref 0), some (.int v1), some (.int s.1), z3] [] s.2 Q := by
  intro n
  induction n with
  | zero => intro s y z3 h; cases h
  | succ n ih =>
    intro s y z3 h hK
    obtain ⟨z, hz, hn⟩ := iter_some h
    refine ok_M_lineOf_l2 hd v1 s.1 s.2 _ (fun z => nxt n (fun s => M_lineOf_l2 v1 s.1 s.2) z y) ?_ ?_ ?_ hz hn
    · intro s2 z3 h2
      exact ih s2 y _ h2 hK
    · intro x z1 z2 h2
      have h3 : (Sum.inl x) = y := h2
      subst h3
      exact he0 x _ _ hK
    · intro x z1 z2 z3 h2
      have h3 : (Sum.inr x) = y := h2
      subst h3
      exact he1 x _ _ _ hK
theorem ok_M_lineOf {l : Launch} {d : Nat} (hd : 3 ≤ d) (v1 : Int32)  (μ : Mm) {r : Int32} {μ' : Mm} (h : M_lineOf v1 μ = some (r, μ')) : Wp l SM d (0, 0) mX11_lineOf 0 [some (.ref 0), some (.int v1), none, none] [] μ (Qi SM r μ') := by
  unfold M_lineOf at h
  refine wp_iconst (nI 0) dX11_lineOf_0 rfl ?_
  refine wp_istore_n (L2 := [some (.ref 0), some (.int v1), some (.int (nI 0)), none]) dX11_lineOf_1 (by decide) rfl rfl ?_
  obtain ⟨x2, hi, h⟩ := bni_some h
  refine okl_M_lineOf_l2 hd v1 (fun z => z = x2) ?_ ?_ 1000000 ((nI 0), μ) x2 _ hi rfl
  · intro x2a z1 z2 e0
    have e0 : (Sum.inl x2a) = x2 := e0
    subst e0
    replace h := eL h
    refine wp_iload_n (x := x2a.1) dX11_lineOf_54 rfl ?_
    obtain ⟨rfl, rfl⟩ := ret2 h
    exact wp_iret rfl dX11_lineOf_55 ⟨rfl, rfl, rfl⟩
  · intro x2b z1 z2 z3 e0
    have e0 : (Sum.inr x2b) = x2 := e0
    subst e0
    replace h := eR h
    refine wp_iconst (-1) dX11_lineOf_62 rfl ?_
    obtain ⟨rfl, rfl⟩ := ret2 h
    exact wp_iret rfl dX11_lineOf_63 ⟨rfl, rfl, rfl⟩
theorem ok_M_asksBoth {l : Launch} {d : Nat} (hd : 2 ≤ d) (v1 : Int32)  (v2 : Int32)  (μ : Mm) {μ' : Mm} (h : M_asksBoth v1 v2 μ = some μ') : Wp l SM d (0, 0) mX11_asksBoth 0 [some (.ref 0), some (.int v1), some (.int v2), none] [] μ (Qv SM μ') := by
  unfold M_asksBoth at h
  refine wp_aload_n (x := 0) dX11_asksBoth_0 rfl ?_
  refine wp_iload_n (x := v1) dX11_asksBoth_1 rfl ?_
  refine wp_iload_n (x := v2) dX11_asksBoth_2 rfl ?_
  obtain ⟨r1, g1, h⟩ := bnd_some h
  refine wp_cVi (d := d - 1) (o := 0) cv_X11_144 (kltM kRootM) kRootM (as := [.int v1, .int v2]) (rest := []) dX11_asksBoth_3 (by omega) cloM rfl rfl (Nat.le_of_ble_eq_true rfl) (Nat.le_of_ble_eq_true rfl) (ok_M_letterAt (by omega) v1 v2 μ g1) ?_ rfl
  refine wp_istore_n (L2 := [some (.ref 0), some (.int v1), some (.int v2), some (.int r1)]) dX11_asksBoth_6 (by decide) rfl rfl ?_
  refine wp_aload_n (x := 0) dX11_asksBoth_7 rfl ?_
  refine wp_getR 21 fl_X11_74 (by decide) rfl (kltM kRootM) kRootM (ly11_44 kRootM).1 dX11_asksBoth_8 ?_
  refine wp_iconst (nI 0) dX11_asksBoth_11 rfl ?_
  refine wp_aload_n (x := 0) dX11_asksBoth_12 rfl ?_
  refine wp_getR 1 fl_X11_7 (by decide) rfl (kltM kRootM) kRootM (ly11_1 kRootM).1 dX11_asksBoth_13 ?_
  refine wp_bipush (nI 7) dX11_asksBoth_16 rfl ?_
  refine wp_aload_n (x := 0) dX11_asksBoth_18 rfl ?_
  refine wp_getR 1 fl_X11_7 (by decide) rfl (kltM kRootM) kRootM (ly11_1 kRootM).1 dX11_asksBoth_19 ?_
  refine wp_iload_n (x := r1) dX11_asksBoth_22 rfl ?_
  refine wp_iconst (nI 0) dX11_asksBoth_23 rfl ?_
  refine wp_iadd dX11_asksBoth_24 ?_
  obtain ⟨c1, h⟩ := chv_some h
  refine wp_ialde (kltM (ly11_1 kRootM).2.1) (ly11_1 kRootM).2.1 (ly11_1 kRootM).2.2 c1 dX11_asksBoth_25 ?_
  refine wp_iadd dX11_asksBoth_26 ?_
  obtain ⟨c1, h⟩ := chv_some h
  refine wp_ialde (kltM (ly11_1 kRootM).2.1) (ly11_1 kRootM).2.1 (ly11_1 kRootM).2.2 c1 dX11_asksBoth_27 ?_
  obtain ⟨c1, h⟩ := chv_some h
  obtain ⟨μ2, e1, h⟩ := lt_some h
  refine wp_iaste e1 (kltM (ly11_44 kRootM).2.1) (ly11_44 kRootM).2.1 (ly11_44 kRootM).2.2 c1 dX11_asksBoth_28 ?_
  refine wp_aload_n (x := 0) dX11_asksBoth_29 rfl ?_
  refine wp_getR 21 fl_X11_74 (by decide) rfl (kltM kRootM) kRootM (ly11_44 kRootM).1 dX11_asksBoth_30 ?_
  refine wp_iconst (nI 1) dX11_asksBoth_33 rfl ?_
  refine wp_aload_n (x := 0) dX11_asksBoth_34 rfl ?_
  refine wp_getR 1 fl_X11_7 (by decide) rfl (kltM kRootM) kRootM (ly11_1 kRootM).1 dX11_asksBoth_35 ?_
  refine wp_iload_n (x := r1) dX11_asksBoth_38 rfl ?_
  refine wp_iconst (nI 3) dX11_asksBoth_39 rfl ?_
  refine wp_iadd dX11_asksBoth_40 ?_
  obtain ⟨c1, h⟩ := chv_some h
  refine wp_ialde (kltM (ly11_1 kRootM).2.1) (ly11_1 kRootM).2.1 (ly11_1 kRootM).2.2 c1 dX11_asksBoth_41 ?_
  obtain ⟨c1, h⟩ := chv_some h
  obtain ⟨μ3, e1, h⟩ := lt_some h
  refine wp_iaste e1 (kltM (ly11_44 kRootM).2.1) (ly11_44 kRootM).2.1 (ly11_44 kRootM).2.2 c1 dX11_asksBoth_42 ?_
  refine wp_aload_n (x := 0) dX11_asksBoth_43 rfl ?_
  refine wp_getR 21 fl_X11_74 (by decide) rfl (kltM kRootM) kRootM (ly11_44 kRootM).1 dX11_asksBoth_44 ?_
  refine wp_iconst (nI 2) dX11_asksBoth_47 rfl ?_
  refine wp_aload_n (x := 0) dX11_asksBoth_48 rfl ?_
  refine wp_getR 5 fl_X11_22 (by decide) rfl (kltM kRootM) kRootM (ly11_8 kRootM).1 dX11_asksBoth_49 ?_
  refine wp_iload_n (x := v1) dX11_asksBoth_52 rfl ?_
  obtain ⟨c1, h⟩ := chv_some h
  refine wp_ialde (kltM (ly11_8 kRootM).2.1) (ly11_8 kRootM).2.1 (ly11_8 kRootM).2.2 c1 dX11_asksBoth_53 ?_
  obtain ⟨c1, h⟩ := chv_some h
  obtain ⟨μ4, e1, h⟩ := lt_some h
  refine wp_iaste e1 (kltM (ly11_44 kRootM).2.1) (ly11_44 kRootM).2.1 (ly11_44 kRootM).2.2 c1 dX11_asksBoth_54 ?_
  refine wp_aload_n (x := 0) dX11_asksBoth_55 rfl ?_
  refine wp_getR 21 fl_X11_74 (by decide) rfl (kltM kRootM) kRootM (ly11_44 kRootM).1 dX11_asksBoth_56 ?_
  refine wp_iconst (nI 3) dX11_asksBoth_59 rfl ?_
  refine wp_aload_n (x := 0) dX11_asksBoth_60 rfl ?_
  refine wp_getR 6 fl_X11_25 (by decide) rfl (kltM kRootM) kRootM (ly11_9 kRootM).1 dX11_asksBoth_61 ?_
  refine wp_iload_n (x := v1) dX11_asksBoth_64 rfl ?_
  obtain ⟨c1, h⟩ := chv_some h
  refine wp_ialde (kltM (ly11_9 kRootM).2.1) (ly11_9 kRootM).2.1 (ly11_9 kRootM).2.2 c1 dX11_asksBoth_65 ?_
  obtain ⟨c1, h⟩ := chv_some h
  obtain ⟨μ5, e1, h⟩ := lt_some h
  refine wp_iaste e1 (kltM (ly11_44 kRootM).2.1) (ly11_44 kRootM).2.1 (ly11_44 kRootM).2.2 c1 dX11_asksBoth_66 ?_
  refine wp_aload_n (x := 0) dX11_asksBoth_67 rfl ?_
  refine wp_getR 21 fl_X11_74 (by decide) rfl (kltM kRootM) kRootM (ly11_44 kRootM).1 dX11_asksBoth_68 ?_
  refine wp_iconst (nI 4) dX11_asksBoth_71 rfl ?_
  refine wp_aload_n (x := 0) dX11_asksBoth_72 rfl ?_
  refine wp_getR 1 fl_X11_7 (by decide) rfl (kltM kRootM) kRootM (ly11_1 kRootM).1 dX11_asksBoth_73 ?_
  refine wp_sipush (nI 199) dX11_asksBoth_76 rfl ?_
  refine wp_iload_n (x := v1) dX11_asksBoth_79 rfl ?_
  refine wp_iadd dX11_asksBoth_80 ?_
  obtain ⟨c1, h⟩ := chv_some h
  refine wp_ialde (kltM (ly11_1 kRootM).2.1) (ly11_1 kRootM).2.1 (ly11_1 kRootM).2.2 c1 dX11_asksBoth_81 ?_
  obtain ⟨c1, h⟩ := chv_some h
  obtain ⟨μ6, e1, h⟩ := lt_some h
  refine wp_iaste e1 (kltM (ly11_44 kRootM).2.1) (ly11_44 kRootM).2.1 (ly11_44 kRootM).2.2 c1 dX11_asksBoth_82 ?_
  refine wp_aload_n (x := 0) dX11_asksBoth_83 rfl ?_
  refine wp_getR 21 fl_X11_74 (by decide) rfl (kltM kRootM) kRootM (ly11_44 kRootM).1 dX11_asksBoth_84 ?_
  refine wp_iconst (nI 5) dX11_asksBoth_87 rfl ?_
  refine wp_iload_n (x := v1) dX11_asksBoth_88 rfl ?_
  obtain ⟨c1, h⟩ := chv_some h
  obtain ⟨μ7, e1, h⟩ := lt_some h
  refine wp_iaste e1 (kltM (ly11_44 kRootM).2.1) (ly11_44 kRootM).2.1 (ly11_44 kRootM).2.2 c1 dX11_asksBoth_89 ?_
  refine wp_aload_n (x := 0) dX11_asksBoth_90 rfl ?_
  refine wp_getR 21 fl_X11_74 (by decide) rfl (kltM kRootM) kRootM (ly11_44 kRootM).1 dX11_asksBoth_91 ?_
  refine wp_bipush (nI 6) dX11_asksBoth_94 rfl ?_
  refine wp_aload_n (x := 0) dX11_asksBoth_96 rfl ?_
  refine wp_getR 1 fl_X11_7 (by decide) rfl (kltM kRootM) kRootM (ly11_1 kRootM).1 dX11_asksBoth_97 ?_
  refine wp_iconst (nI 0) dX11_asksBoth_100 rfl ?_
  obtain ⟨c1, h⟩ := chv_some h
  refine wp_ialde (kltM (ly11_1 kRootM).2.1) (ly11_1 kRootM).2.1 (ly11_1 kRootM).2.2 c1 dX11_asksBoth_101 ?_
  obtain ⟨c1, h⟩ := chv_some h
  obtain ⟨μ8, e1, h⟩ := lt_some h
  refine wp_iaste e1 (kltM (ly11_44 kRootM).2.1) (ly11_44 kRootM).2.1 (ly11_44 kRootM).2.2 c1 dX11_asksBoth_102 ?_
  obtain rfl := ret1 h
  exact wp_vret rfl dX11_asksBoth_103 ⟨rfl, rfl, rfl⟩
theorem ok_M_held {l : Launch} {d : Nat} (hd : 1 ≤ d) (v1 : Int32)  (v2 : Int32)  (v3 : Int32)  (μ : Mm) {r : Int32} (h : M_held v1 v2 v3 = some r) : Wp l SM d (0, 0) mX11_held 0 [some (.ref 0), some (.int v1), some (.int v2), some (.int v3)] [] μ (Qi SM r μ) := by
  unfold M_held at h
  refine wp_iload_n (x := v1) dX11_held_0 rfl ?_
  refine wp_iload_n (x := v2) dX11_held_1 rfl ?_
  refine wp_icmp_ge 9 dX11_held_2 (by decide) (fun c1 => ?_) (fun c1 => ?_)
  · rw [if_pos c1] at h
    refine wp_iload_n (x := v1) dX11_held_9 rfl ?_
    refine wp_iload_n (x := v3) dX11_held_10 rfl ?_
    refine wp_icmp_le 18 dX11_held_11 (by decide) (fun c1 => ?_) (fun c1 => ?_)
    · rw [if_pos c1] at h
      refine wp_iload_n (x := v1) dX11_held_18 rfl ?_
      obtain rfl := ret1 h
      exact wp_iret rfl dX11_held_19 ⟨rfl, rfl, rfl⟩
    · rw [if_neg c1] at h
      refine wp_iload_n (x := v3) dX11_held_14 rfl ?_
      refine wp_goto 19 dX11_held_15 (by decide) ?_
      obtain rfl := ret1 h
      exact wp_iret rfl dX11_held_19 ⟨rfl, rfl, rfl⟩
  · rw [if_neg c1] at h
    refine wp_iload_n (x := v2) dX11_held_5 rfl ?_
    refine wp_goto 19 dX11_held_6 (by decide) ?_
    obtain rfl := ret1 h
    exact wp_iret rfl dX11_held_19 ⟨rfl, rfl, rfl⟩
theorem ok_M_writeOf {l : Launch} {d : Nat} (hd : 4 ≤ d) (v1 : Int32)  (v2 : Int32)  (μ : Mm) {r : Int32} {μ' : Mm} (h : M_writeOf v1 v2 μ = some (r, μ')) : Wp l SM d (0, 0) mX11_writeOf 0 [some (.ref 0), some (.int v1), some (.int v2), none, none] [] μ (Qi SM r μ') := by
  unfold M_writeOf at h
  refine wp_aload_n (x := 0) dX11_writeOf_0 rfl ?_
  refine wp_iload_n (x := v1) dX11_writeOf_1 rfl ?_
  refine wp_iload_n (x := v2) dX11_writeOf_2 rfl ?_
  obtain ⟨μ1, g1, h⟩ := bnd_some h
  refine wp_cVv (d := d - 1) (o := 0) cv_X11_296 (kltM kRootM) kRootM (as := [.int v1, .int v2]) (rest := []) dX11_writeOf_3 (by omega) cloM rfl rfl (Nat.le_of_ble_eq_true rfl) (Nat.le_of_ble_eq_true rfl) (ok_M_asksBoth (by omega) v1 v2 μ g1) ?_ rfl
  refine wp_aload_n (x := 0) dX11_writeOf_6 rfl ?_
  refine wp_iload_n (x := v1) dX11_writeOf_7 rfl ?_
  refine wp_iload_n (x := v2) dX11_writeOf_8 rfl ?_
  obtain ⟨r2, g1, h⟩ := bnd_some h
  refine wp_cVi (d := d - 1) (o := 0) cv_X11_144 (kltM kRootM) kRootM (as := [.int v1, .int v2]) (rest := []) dX11_writeOf_9 (by omega) cloM rfl rfl (Nat.le_of_ble_eq_true rfl) (Nat.le_of_ble_eq_true rfl) (ok_M_letterAt (by omega) v1 v2 μ1 g1) ?_ rfl
  refine wp_istore_n (L2 := [some (.ref 0), some (.int v1), some (.int v2), some (.int r2), none]) dX11_writeOf_12 (by decide) rfl rfl ?_
  refine wp_aload_n (x := 0) dX11_writeOf_13 rfl ?_
  refine wp_getR 21 fl_X11_74 (by decide) rfl (kltM kRootM) kRootM (ly11_44 kRootM).1 dX11_writeOf_14 ?_
  refine wp_bipush (nI 7) dX11_writeOf_17 rfl ?_
  refine wp_aload_n (x := 0) dX11_writeOf_19 rfl ?_
  refine wp_getR 1 fl_X11_7 (by decide) rfl (kltM kRootM) kRootM (ly11_1 kRootM).1 dX11_writeOf_20 ?_
  refine wp_iload_n (x := r2) dX11_writeOf_23 rfl ?_
  refine wp_iconst (nI 2) dX11_writeOf_24 rfl ?_
  refine wp_iadd dX11_writeOf_25 ?_
  obtain ⟨c1, h⟩ := chv_some h
  refine wp_ialde (kltM (ly11_1 kRootM).2.1) (ly11_1 kRootM).2.1 (ly11_1 kRootM).2.2 c1 dX11_writeOf_26 ?_
  refine wp_aload_n (x := 0) dX11_writeOf_27 rfl ?_
  refine wp_getR 1 fl_X11_7 (by decide) rfl (kltM kRootM) kRootM (ly11_1 kRootM).1 dX11_writeOf_28 ?_
  refine wp_iconst (nI 0) dX11_writeOf_31 rfl ?_
  obtain ⟨c1, h⟩ := chv_some h
  refine wp_ialde (kltM (ly11_1 kRootM).2.1) (ly11_1 kRootM).2.1 (ly11_1 kRootM).2.2 c1 dX11_writeOf_32 ?_
  refine wp_isub dX11_writeOf_33 ?_
  obtain ⟨c1, h⟩ := chv_some h
  obtain ⟨μ3, e1, h⟩ := lt_some h
  refine wp_iaste e1 (kltM (ly11_44 kRootM).2.1) (ly11_44 kRootM).2.1 (ly11_44 kRootM).2.2 c1 dX11_writeOf_34 ?_
  refine wp_aload_n (x := 0) dX11_writeOf_35 rfl ?_
  refine wp_getR 21 fl_X11_74 (by decide) rfl (kltM kRootM) kRootM (ly11_44 kRootM).1 dX11_writeOf_36 ?_
  refine wp_bipush (nI 8) dX11_writeOf_39 rfl ?_
  refine wp_aload_n (x := 0) dX11_writeOf_41 rfl ?_
  refine wp_getR 1 fl_X11_7 (by decide) rfl (kltM kRootM) kRootM (ly11_1 kRootM).1 dX11_writeOf_42 ?_
  refine wp_sipush (nI 183) dX11_writeOf_45 rfl ?_
  refine wp_iload_n (x := v1) dX11_writeOf_48 rfl ?_
  refine wp_iadd dX11_writeOf_49 ?_
  obtain ⟨c1, h⟩ := chv_some h
  refine wp_ialde (kltM (ly11_1 kRootM).2.1) (ly11_1 kRootM).2.1 (ly11_1 kRootM).2.2 c1 dX11_writeOf_50 ?_
  obtain ⟨c1, h⟩ := chv_some h
  obtain ⟨μ4, e1, h⟩ := lt_some h
  refine wp_iaste e1 (kltM (ly11_44 kRootM).2.1) (ly11_44 kRootM).2.1 (ly11_44 kRootM).2.2 c1 dX11_writeOf_51 ?_
  refine wp_aload_n (x := 0) dX11_writeOf_52 rfl ?_
  refine wp_getR 21 fl_X11_74 (by decide) rfl (kltM kRootM) kRootM (ly11_44 kRootM).1 dX11_writeOf_53 ?_
  refine wp_bipush (nI 9) dX11_writeOf_56 rfl ?_
  refine wp_aload_n (x := 0) dX11_writeOf_58 rfl ?_
  refine wp_getR 1 fl_X11_7 (by decide) rfl (kltM kRootM) kRootM (ly11_1 kRootM).1 dX11_writeOf_59 ?_
  refine wp_sipush (nI 263) dX11_writeOf_62 rfl ?_
  refine wp_iload_n (x := v1) dX11_writeOf_65 rfl ?_
  refine wp_iadd dX11_writeOf_66 ?_
  obtain ⟨c1, h⟩ := chv_some h
  refine wp_ialde (kltM (ly11_1 kRootM).2.1) (ly11_1 kRootM).2.1 (ly11_1 kRootM).2.2 c1 dX11_writeOf_67 ?_
  obtain ⟨c1, h⟩ := chv_some h
  obtain ⟨μ5, e1, h⟩ := lt_some h
  refine wp_iaste e1 (kltM (ly11_44 kRootM).2.1) (ly11_44 kRootM).2.1 (ly11_44 kRootM).2.2 c1 dX11_writeOf_68 ?_
  refine wp_aload_n (x := 0) dX11_writeOf_69 rfl ?_
  refine wp_getR 21 fl_X11_74 (by decide) rfl (kltM kRootM) kRootM (ly11_44 kRootM).1 dX11_writeOf_70 ?_
  refine wp_bipush (nI 10) dX11_writeOf_73 rfl ?_
  refine wp_aload_n (x := 0) dX11_writeOf_75 rfl ?_
  refine wp_aload_n (x := 0) dX11_writeOf_76 rfl ?_
  refine wp_getR 1 fl_X11_7 (by decide) rfl (kltM kRootM) kRootM (ly11_1 kRootM).1 dX11_writeOf_77 ?_
  refine wp_bipush (nI 47) dX11_writeOf_80 rfl ?_
  refine wp_aload_n (x := 0) dX11_writeOf_82 rfl ?_
  refine wp_getR 1 fl_X11_7 (by decide) rfl (kltM kRootM) kRootM (ly11_1 kRootM).1 dX11_writeOf_83 ?_
  refine wp_iload_n (x := r2) dX11_writeOf_86 rfl ?_
  refine wp_iconst (nI 0) dX11_writeOf_87 rfl ?_
  refine wp_iadd dX11_writeOf_88 ?_
  obtain ⟨c1, h⟩ := chv_some h
  refine wp_ialde (kltM (ly11_1 kRootM).2.1) (ly11_1 kRootM).2.1 (ly11_1 kRootM).2.2 c1 dX11_writeOf_89 ?_
  refine wp_iadd dX11_writeOf_90 ?_
  obtain ⟨c1, h⟩ := chv_some h
  refine wp_ialde (kltM (ly11_1 kRootM).2.1) (ly11_1 kRootM).2.1 (ly11_1 kRootM).2.2 c1 dX11_writeOf_91 ?_
  obtain ⟨r6, g1, h⟩ := bnd_some h
  refine wp_cVi (d := d - 1) (o := 0) cv_X11_299 (kltM kRootM) kRootM (as := [.int (μ5.1 1 (ix ((nI 47) + (μ5.1 1 (ix (r2 + (nI 0)))))))]) (rest := [.int (nI 10), .ref 21]) dX11_writeOf_92 (by omega) cloM rfl rfl (Nat.le_of_ble_eq_true rfl) (Nat.le_of_ble_eq_true rfl) (ok_M_ones (by omega) (μ5.1 1 (ix ((nI 47) + (μ5.1 1 (ix (r2 + (nI 0))))))) μ5 g1) ?_ rfl
  obtain ⟨c1, h⟩ := chv_some h
  obtain ⟨μ7, e1, h⟩ := lt_some h
  refine wp_iaste e1 (kltM (ly11_44 kRootM).2.1) (ly11_44 kRootM).2.1 (ly11_44 kRootM).2.2 c1 dX11_writeOf_95 ?_
  refine wp_aload_n (x := 0) dX11_writeOf_96 rfl ?_
  refine wp_iconst (nI 0) dX11_writeOf_97 rfl ?_
  obtain ⟨r9, μ8, g1, h⟩ := bnd2_some h
  refine wp_cVi (d := d - 1) (o := 0) cv_X11_302 (kltM kRootM) kRootM (as := [.int (nI 0)]) (rest := []) dX11_writeOf_98 (by omega) cloM rfl rfl (Nat.le_of_ble_eq_true rfl) (Nat.le_of_ble_eq_true rfl) (ok_M_lineOf (by omega) (nI 0) μ7 g1) ?_ rfl
  refine wp_istore (L2 := [some (.ref 0), some (.int v1), some (.int v2), some (.int r2), some (.int r9)]) dX11_writeOf_101 (by decide) rfl rfl ?_
  refine wp_iload (x := r9) dX11_writeOf_103 rfl ?_
  refine wp_iconst (-1) dX11_writeOf_105 rfl ?_
  refine wp_icmp_ne 113 dX11_writeOf_106 (by decide) (fun c1 => ?_) (fun c1 => ?_)
  · rw [if_neg c1] at h
    refine wp_aload_n (x := 0) dX11_writeOf_113 rfl ?_
    refine wp_aload_n (x := 0) dX11_writeOf_114 rfl ?_
    refine wp_iconst (nI 0) dX11_writeOf_115 rfl ?_
    refine wp_aload_n (x := 0) dX11_writeOf_116 rfl ?_
    refine wp_getR 14 fl_X11_49 (by decide) rfl (kltM kRootM) kRootM (ly11_28 kRootM).1 dX11_writeOf_117 ?_
    refine wp_iload (x := r9) dX11_writeOf_120 rfl ?_
    obtain ⟨c1, h⟩ := chv_some h
    refine wp_ialde (kltM (ly11_28 kRootM).2.1) (ly11_28 kRootM).2.1 (ly11_28 kRootM).2.2 c1 dX11_writeOf_122 ?_
    refine wp_aload_n (x := 0) dX11_writeOf_123 rfl ?_
    refine wp_getR 15 fl_X11_52 (by decide) rfl (kltM kRootM) kRootM (ly11_29 kRootM).1 dX11_writeOf_124 ?_
    refine wp_iload (x := r9) dX11_writeOf_127 rfl ?_
    obtain ⟨c1, h⟩ := chv_some h
    refine wp_ialde (kltM (ly11_29 kRootM).2.1) (ly11_29 kRootM).2.1 (ly11_29 kRootM).2.2 c1 dX11_writeOf_129 ?_
    obtain ⟨r11, μ10, g1, h⟩ := bnd2_some h
    refine wp_cVi (d := d - 1) (o := 0) cv_X11_293 (kltM kRootM) kRootM (as := [.int (nI 0), .int (μ8.1 14 (ix r9)), .int (μ8.1 15 (ix r9))]) (rest := [.ref 0]) dX11_writeOf_130 (by omega) cloM rfl rfl (Nat.le_of_ble_eq_true rfl) (Nat.le_of_ble_eq_true rfl) (ok_M_runs (by omega) (nI 0) (μ8.1 14 (ix r9)) (μ8.1 15 (ix r9)) μ8 g1) ?_ rfl
    refine wp_iconst (nI 0) dX11_writeOf_133 rfl ?_
    refine wp_bipush (nI 9) dX11_writeOf_134 rfl ?_
    obtain ⟨r12, g1, h⟩ := bnd_some h
    refine wp_cVi (d := d - 1) (o := 0) cv_X11_305 (kltM kRootM) kRootM (as := [.int r11, .int (nI 0), .int (nI 9)]) (rest := []) dX11_writeOf_136 (by omega) cloM rfl rfl (Nat.le_of_ble_eq_true rfl) (Nat.le_of_ble_eq_true rfl) (ok_M_held (by omega) r11 (nI 0) (nI 9) μ10 g1) ?_ rfl
    obtain ⟨rfl, rfl⟩ := ret2 h
    exact wp_iret rfl dX11_writeOf_139 ⟨rfl, rfl, rfl⟩
  · rw [if_pos c1] at h
    refine wp_iconst (nI 1) dX11_writeOf_109 rfl ?_
    refine wp_goto 139 dX11_writeOf_110 (by decide) ?_
    obtain ⟨rfl, rfl⟩ := ret2 h
    exact wp_iret rfl dX11_writeOf_139 ⟨rfl, rfl, rfl⟩
theorem ok_M_illOf_j51 {l : Launch} {d : Nat} (hd : 4 ≤ d) (s1 : Int32) (μ : Mm) (z1 : Option Value) (z2 : Option Value) (z3 : Option Value) {r : Int32} {μ' : Mm} (h : M_illOf_j51 s1 μ = some (r, μ')) : Wp l SM d (0, 0) mX11_illOf 51 [some (.ref 0), z1, z2, z3] [.int s1, .ref 0] μ (Qi SM r μ') := by
  unfold M_illOf_j51 at h
  refine wp_iconst (nI 0) dX11_illOf_51 rfl ?_
  refine wp_sipush (nI 999) dX11_illOf_52 rfl ?_
  obtain ⟨r6, g1, h⟩ := bnd_some h
  refine wp_cVi (d := d - 1) (o := 0) cv_X11_305 (kltM kRootM) kRootM (as := [.int s1, .int (nI 0), .int (nI 999)]) (rest := []) dX11_illOf_55 (by omega) cloM rfl rfl (Nat.le_of_ble_eq_true rfl) (Nat.le_of_ble_eq_true rfl) (ok_M_held (by omega) s1 (nI 0) (nI 999) μ g1) ?_ rfl
  obtain ⟨rfl, rfl⟩ := ret2 h
  exact wp_iret rfl dX11_illOf_58 ⟨rfl, rfl, rfl⟩
theorem ok_M_illOf {l : Launch} {d : Nat} (hd : 4 ≤ d) (v1 : Int32)  (v2 : Int32)  (μ : Mm) {r : Int32} {μ' : Mm} (h : M_illOf v1 v2 μ = some (r, μ')) : Wp l SM d (0, 0) mX11_illOf 0 [some (.ref 0), some (.int v1), some (.int v2), none] [] μ (Qi SM r μ') := by
  unfold M_illOf at h
  refine wp_aload_n (x := 0) dX11_illOf_0 rfl ?_
  refine wp_iload_n (x := v1) dX11_illOf_1 rfl ?_
  refine wp_iload_n (x := v2) dX11_illOf_2 rfl ?_
  obtain ⟨μ1, g1, h⟩ := bnd_some h
  refine wp_cVv (d := d - 1) (o := 0) cv_X11_296 (kltM kRootM) kRootM (as := [.int v1, .int v2]) (rest := []) dX11_illOf_3 (by omega) cloM rfl rfl (Nat.le_of_ble_eq_true rfl) (Nat.le_of_ble_eq_true rfl) (ok_M_asksBoth (by omega) v1 v2 μ g1) ?_ rfl
  refine wp_aload_n (x := 0) dX11_illOf_6 rfl ?_
  refine wp_iconst (nI 1) dX11_illOf_7 rfl ?_
  obtain ⟨r3, μ2, g1, h⟩ := bnd2_some h
  refine wp_cVi (d := d - 1) (o := 0) cv_X11_302 (kltM kRootM) kRootM (as := [.int (nI 1)]) (rest := []) dX11_illOf_8 (by omega) cloM rfl rfl (Nat.le_of_ble_eq_true rfl) (Nat.le_of_ble_eq_true rfl) (ok_M_lineOf (by omega) (nI 1) μ1 g1) ?_ rfl
  refine wp_istore_n (L2 := [some (.ref 0), some (.int v1), some (.int v2), some (.int r3)]) dX11_illOf_11 (by decide) rfl rfl ?_
  refine wp_aload_n (x := 0) dX11_illOf_12 rfl ?_
  refine wp_iload_n (x := r3) dX11_illOf_13 rfl ?_
  refine wp_iconst (-1) dX11_illOf_14 rfl ?_
  refine wp_icmp_ne 34 dX11_illOf_15 (by decide) (fun c1 => ?_) (fun c1 => ?_)
  · rw [if_neg c1] at h
    refine wp_aload_n (x := 0) dX11_illOf_34 rfl ?_
    refine wp_iconst (nI 1) dX11_illOf_35 rfl ?_
    refine wp_aload_n (x := 0) dX11_illOf_36 rfl ?_
    refine wp_getR 14 fl_X11_49 (by decide) rfl (kltM kRootM) kRootM (ly11_28 kRootM).1 dX11_illOf_37 ?_
    refine wp_iload_n (x := r3) dX11_illOf_40 rfl ?_
    obtain ⟨c1, h⟩ := chv_some h
    refine wp_ialde (kltM (ly11_28 kRootM).2.1) (ly11_28 kRootM).2.1 (ly11_28 kRootM).2.2 c1 dX11_illOf_41 ?_
    refine wp_aload_n (x := 0) dX11_illOf_42 rfl ?_
    refine wp_getR 15 fl_X11_52 (by decide) rfl (kltM kRootM) kRootM (ly11_29 kRootM).1 dX11_illOf_43 ?_
    refine wp_iload_n (x := r3) dX11_illOf_46 rfl ?_
    obtain ⟨c1, h⟩ := chv_some h
    refine wp_ialde (kltM (ly11_29 kRootM).2.1) (ly11_29 kRootM).2.1 (ly11_29 kRootM).2.2 c1 dX11_illOf_47 ?_
    obtain ⟨r5, μ4, g1, h⟩ := bnd2_some h
    refine wp_cVi (d := d - 1) (o := 0) cv_X11_293 (kltM kRootM) kRootM (as := [.int (nI 1), .int (μ2.1 14 (ix r3)), .int (μ2.1 15 (ix r3))]) (rest := [.ref 0]) dX11_illOf_48 (by omega) cloM rfl rfl (Nat.le_of_ble_eq_true rfl) (Nat.le_of_ble_eq_true rfl) (ok_M_runs (by omega) (nI 1) (μ2.1 14 (ix r3)) (μ2.1 15 (ix r3)) μ2 g1) ?_ rfl
    exact ok_M_illOf_j51 hd r5 μ4 _ _ _ h
  · rw [if_pos c1] at h
    refine wp_aload_n (x := 0) dX11_illOf_18 rfl ?_
    refine wp_getR 21 fl_X11_74 (by decide) rfl (kltM kRootM) kRootM (ly11_44 kRootM).1 dX11_illOf_19 ?_
    refine wp_iconst (nI 0) dX11_illOf_22 rfl ?_
    obtain ⟨c1, h⟩ := chv_some h
    refine wp_ialde (kltM (ly11_44 kRootM).2.1) (ly11_44 kRootM).2.1 (ly11_44 kRootM).2.2 c1 dX11_illOf_23 ?_
    refine wp_aload_n (x := 0) dX11_illOf_24 rfl ?_
    refine wp_getR 21 fl_X11_74 (by decide) rfl (kltM kRootM) kRootM (ly11_44 kRootM).1 dX11_illOf_25 ?_
    refine wp_iconst (nI 1) dX11_illOf_28 rfl ?_
    obtain ⟨c1, h⟩ := chv_some h
    refine wp_ialde (kltM (ly11_44 kRootM).2.1) (ly11_44 kRootM).2.1 (ly11_44 kRootM).2.2 c1 dX11_illOf_29 ?_
    refine wp_imul dX11_illOf_30 ?_
    refine wp_goto 51 dX11_illOf_31 (by decide) ?_
    exact ok_M_illOf_j51 hd ((μ2.1 21 (ix (nI 0))) * (μ2.1 21 (ix (nI 1)))) μ2 _ _ _ h
theorem ok_M_notes {l : Launch} {d : Nat} (hd : 1 ≤ d) (v1 : Int32)  (v2 : Int32)  (v3 : Int32)  (v4 : Int32)  (μ : Mm) {μ' : Mm} (h : M_notes v1 v2 v3 v4 μ = some μ') : Wp l SM d (0, 0) mX11_notes 0 [some (.ref 0), some (.int v1), some (.int v2), some (.int v3), some (.int v4), none] [] μ (Qv SM μ') := by
  unfold M_notes at h
  refine wp_aload_n (x := 0) dX11_notes_0 rfl ?_
  refine wp_getI fl_X11_98 (by decide) rfl (kltM kRootM) kRootM dX11_notes_1 ?_
  refine wp_if_ne 19 dX11_notes_4 (by decide) (fun c1 => ?_) (fun c1 => ?_)
  · rw [if_neg c1] at h
    obtain rfl := ret1 h
    exact wp_vret rfl dX11_notes_19 ⟨rfl, rfl, rfl⟩
  · rw [if_pos c1] at h
    refine wp_aload_n (x := 0) dX11_notes_7 rfl ?_
    refine wp_getR 1 fl_X11_7 (by decide) rfl (kltM kRootM) kRootM (ly11_1 kRootM).1 dX11_notes_8 ?_
    refine wp_iconst (nI 2) dX11_notes_11 rfl ?_
    obtain ⟨c1, h⟩ := chv_some h
    refine wp_ialde (kltM (ly11_1 kRootM).2.1) (ly11_1 kRootM).2.1 (ly11_1 kRootM).2.2 c1 dX11_notes_12 ?_
    refine wp_sipush (nI 200) dX11_notes_13 rfl ?_
    refine wp_icmp_ne 20 dX11_notes_16 (by decide) (fun c1 => ?_) (fun c1 => ?_)
    · rw [if_neg c1] at h
      refine wp_iconst (nI 5) dX11_notes_20 rfl ?_
      refine wp_aload_n (x := 0) dX11_notes_21 rfl ?_
      refine wp_getR 1 fl_X11_7 (by decide) rfl (kltM kRootM) kRootM (ly11_1 kRootM).1 dX11_notes_22 ?_
      refine wp_iconst (nI 2) dX11_notes_25 rfl ?_
      obtain ⟨c1, h⟩ := chv_some h
      refine wp_ialde (kltM (ly11_1 kRootM).2.1) (ly11_1 kRootM).2.1 (ly11_1 kRootM).2.2 c1 dX11_notes_26 ?_
      refine wp_imul dX11_notes_27 ?_
      refine wp_istore (L2 := [some (.ref 0), some (.int v1), some (.int v2), some (.int v3), some (.int v4), some (.int ((nI 5) * (μ.1 1 (ix (nI 2)))))]) dX11_notes_28 (by decide) rfl rfl ?_
      refine wp_aload_n (x := 0) dX11_notes_30 rfl ?_
      refine wp_getR 10 fl_X11_37 (by decide) rfl (kltM kRootM) kRootM (ly11_19 kRootM).1 dX11_notes_31 ?_
      refine wp_iload (x := ((nI 5) * (μ.1 1 (ix (nI 2))))) dX11_notes_34 rfl ?_
      refine wp_aload_n (x := 0) dX11_notes_36 rfl ?_
      refine wp_getR 1 fl_X11_7 (by decide) rfl (kltM kRootM) kRootM (ly11_1 kRootM).1 dX11_notes_37 ?_
      refine wp_iconst (nI 0) dX11_notes_40 rfl ?_
      obtain ⟨c1, h⟩ := chv_some h
      refine wp_ialde (kltM (ly11_1 kRootM).2.1) (ly11_1 kRootM).2.1 (ly11_1 kRootM).2.2 c1 dX11_notes_41 ?_
      obtain ⟨c1, h⟩ := chv_some h
      obtain ⟨μ1, e1, h⟩ := lt_some h
      refine wp_iaste e1 (kltM (ly11_19 kRootM).2.1) (ly11_19 kRootM).2.1 (ly11_19 kRootM).2.2 c1 dX11_notes_42 ?_
      refine wp_aload_n (x := 0) dX11_notes_43 rfl ?_
      refine wp_getR 10 fl_X11_37 (by decide) rfl (kltM kRootM) kRootM (ly11_19 kRootM).1 dX11_notes_44 ?_
      refine wp_iload (x := ((nI 5) * (μ.1 1 (ix (nI 2))))) dX11_notes_47 rfl ?_
      refine wp_iconst (nI 1) dX11_notes_49 rfl ?_
      refine wp_iadd dX11_notes_50 ?_
      refine wp_iload_n (x := v1) dX11_notes_51 rfl ?_
      obtain ⟨c1, h⟩ := chv_some h
      obtain ⟨μ2, e1, h⟩ := lt_some h
      refine wp_iaste e1 (kltM (ly11_19 kRootM).2.1) (ly11_19 kRootM).2.1 (ly11_19 kRootM).2.2 c1 dX11_notes_52 ?_
      refine wp_aload_n (x := 0) dX11_notes_53 rfl ?_
      refine wp_getR 10 fl_X11_37 (by decide) rfl (kltM kRootM) kRootM (ly11_19 kRootM).1 dX11_notes_54 ?_
      refine wp_iload (x := ((nI 5) * (μ.1 1 (ix (nI 2))))) dX11_notes_57 rfl ?_
      refine wp_iconst (nI 2) dX11_notes_59 rfl ?_
      refine wp_iadd dX11_notes_60 ?_
      refine wp_iload_n (x := v2) dX11_notes_61 rfl ?_
      obtain ⟨c1, h⟩ := chv_some h
      obtain ⟨μ3, e1, h⟩ := lt_some h
      refine wp_iaste e1 (kltM (ly11_19 kRootM).2.1) (ly11_19 kRootM).2.1 (ly11_19 kRootM).2.2 c1 dX11_notes_62 ?_
      refine wp_aload_n (x := 0) dX11_notes_63 rfl ?_
      refine wp_getR 10 fl_X11_37 (by decide) rfl (kltM kRootM) kRootM (ly11_19 kRootM).1 dX11_notes_64 ?_
      refine wp_iload (x := ((nI 5) * (μ.1 1 (ix (nI 2))))) dX11_notes_67 rfl ?_
      refine wp_iconst (nI 3) dX11_notes_69 rfl ?_
      refine wp_iadd dX11_notes_70 ?_
      refine wp_iload_n (x := v3) dX11_notes_71 rfl ?_
      obtain ⟨c1, h⟩ := chv_some h
      obtain ⟨μ4, e1, h⟩ := lt_some h
      refine wp_iaste e1 (kltM (ly11_19 kRootM).2.1) (ly11_19 kRootM).2.1 (ly11_19 kRootM).2.2 c1 dX11_notes_72 ?_
      refine wp_aload_n (x := 0) dX11_notes_73 rfl ?_
      refine wp_getR 10 fl_X11_37 (by decide) rfl (kltM kRootM) kRootM (ly11_19 kRootM).1 dX11_notes_74 ?_
      refine wp_iload (x := ((nI 5) * (μ.1 1 (ix (nI 2))))) dX11_notes_77 rfl ?_
      refine wp_iconst (nI 4) dX11_notes_79 rfl ?_
      refine wp_iadd dX11_notes_80 ?_
      refine wp_iload (x := v4) dX11_notes_81 rfl ?_
      obtain ⟨c1, h⟩ := chv_some h
      obtain ⟨μ5, e1, h⟩ := lt_some h
      refine wp_iaste e1 (kltM (ly11_19 kRootM).2.1) (ly11_19 kRootM).2.1 (ly11_19 kRootM).2.2 c1 dX11_notes_83 ?_
      refine wp_aload_n (x := 0) dX11_notes_84 rfl ?_
      refine wp_getR 1 fl_X11_7 (by decide) rfl (kltM kRootM) kRootM (ly11_1 kRootM).1 dX11_notes_85 ?_
      refine wp_iconst (nI 2) dX11_notes_88 rfl ?_
      refine wp_aload_n (x := 0) dX11_notes_89 rfl ?_
      refine wp_getR 1 fl_X11_7 (by decide) rfl (kltM kRootM) kRootM (ly11_1 kRootM).1 dX11_notes_90 ?_
      refine wp_iconst (nI 2) dX11_notes_93 rfl ?_
      obtain ⟨c1, h⟩ := chv_some h
      refine wp_ialde (kltM (ly11_1 kRootM).2.1) (ly11_1 kRootM).2.1 (ly11_1 kRootM).2.2 c1 dX11_notes_94 ?_
      refine wp_iconst (nI 1) dX11_notes_95 rfl ?_
      refine wp_iadd dX11_notes_96 ?_
      obtain ⟨c1, h⟩ := chv_some h
      obtain ⟨μ6, e1, h⟩ := lt_some h
      refine wp_iaste e1 (kltM (ly11_1 kRootM).2.1) (ly11_1 kRootM).2.1 (ly11_1 kRootM).2.2 c1 dX11_notes_97 ?_
      obtain rfl := ret1 h
      exact wp_vret rfl dX11_notes_98 ⟨rfl, rfl, rfl⟩
    · rw [if_pos c1] at h
      obtain rfl := ret1 h
      exact wp_vret rfl dX11_notes_19 ⟨rfl, rfl, rfl⟩
theorem ok_M_comesTo {l : Launch} {d : Nat} (hd : 3 ≤ d) (v1 : Int32)  (v2 : Int32)  (v3 : Int32)  (μ : Mm) {r : Int32} {μ' : Mm} (h : M_comesTo v1 v2 v3 μ = some (r, μ')) : Wp l SM d (0, 0) mX11_comesTo 0 [some (.ref 0), some (.int v1), some (.int v2), some (.int v3)] [] μ (Qi SM r μ') := by
  unfold M_comesTo at h
  refine wp_aload_n (x := 0) dX11_comesTo_0 rfl ?_
  refine wp_getR 5 fl_X11_22 (by decide) rfl (kltM kRootM) kRootM (ly11_8 kRootM).1 dX11_comesTo_1 ?_
  refine wp_iload_n (x := v3) dX11_comesTo_4 rfl ?_
  obtain ⟨c1, h⟩ := chv_some h
  refine wp_ialde (kltM (ly11_8 kRootM).2.1) (ly11_8 kRootM).2.1 (ly11_8 kRootM).2.2 c1 dX11_comesTo_5 ?_
  refine wp_iconst (nI 1) dX11_comesTo_6 rfl ?_
  refine wp_icmp_ne 12 dX11_comesTo_7 (by decide) (fun c1 => ?_) (fun c1 => ?_)
  · rw [if_neg c1] at h
    refine wp_aload_n (x := 0) dX11_comesTo_12 rfl ?_
    refine wp_getR 1 fl_X11_7 (by decide) rfl (kltM kRootM) kRootM (ly11_1 kRootM).1 dX11_comesTo_13 ?_
    refine wp_sipush (nI 247) dX11_comesTo_16 rfl ?_
    refine wp_iload_n (x := v3) dX11_comesTo_19 rfl ?_
    refine wp_iadd dX11_comesTo_20 ?_
    obtain ⟨c1, h⟩ := chv_some h
    refine wp_ialde (kltM (ly11_1 kRootM).2.1) (ly11_1 kRootM).2.1 (ly11_1 kRootM).2.2 c1 dX11_comesTo_21 ?_
    refine wp_iload_n (x := v2) dX11_comesTo_22 rfl ?_
    refine wp_ishr dX11_comesTo_23 ?_
    refine wp_iconst (nI 1) dX11_comesTo_24 rfl ?_
    refine wp_iand dX11_comesTo_25 ?_
    refine wp_iconst (nI 1) dX11_comesTo_26 rfl ?_
    refine wp_icmp_ne 32 dX11_comesTo_27 (by decide) (fun c1 => ?_) (fun c1 => ?_)
    · rw [if_neg c1] at h
      refine wp_aload_n (x := 0) dX11_comesTo_32 rfl ?_
      refine wp_getR 1 fl_X11_7 (by decide) rfl (kltM kRootM) kRootM (ly11_1 kRootM).1 dX11_comesTo_33 ?_
      refine wp_sipush (nI 263) dX11_comesTo_36 rfl ?_
      refine wp_iload_n (x := v3) dX11_comesTo_39 rfl ?_
      refine wp_iadd dX11_comesTo_40 ?_
      obtain ⟨c1, h⟩ := chv_some h
      refine wp_ialde (kltM (ly11_1 kRootM).2.1) (ly11_1 kRootM).2.1 (ly11_1 kRootM).2.2 c1 dX11_comesTo_41 ?_
      refine wp_iconst (nI 3) dX11_comesTo_42 rfl ?_
      refine wp_icmp_ne 62 dX11_comesTo_43 (by decide) (fun c1 => ?_) (fun c1 => ?_)
      · rw [if_neg c1] at h
        refine wp_aload_n (x := 0) dX11_comesTo_62 rfl ?_
        refine wp_iload_n (x := v3) dX11_comesTo_63 rfl ?_
        refine wp_iload_n (x := v1) dX11_comesTo_64 rfl ?_
        refine wp_iload_n (x := v2) dX11_comesTo_65 rfl ?_
        obtain ⟨μ1, g1, h⟩ := bnd_some h
        refine wp_cVv (d := d - 1) (o := 0) cv_X11_154 (kltM kRootM) kRootM (as := [.int v3, .int v1, .int v2]) (rest := []) dX11_comesTo_66 (by omega) cloM rfl rfl (Nat.le_of_ble_eq_true rfl) (Nat.le_of_ble_eq_true rfl) (ok_M_holds (by omega) v3 v1 v2 μ g1) ?_ rfl
        refine wp_iconst (nI 0) dX11_comesTo_69 rfl ?_
        obtain ⟨rfl, rfl⟩ := ret2 h
        exact wp_iret rfl dX11_comesTo_70 ⟨rfl, rfl, rfl⟩
      · rw [if_pos c1] at h
        refine wp_aload_n (x := 0) dX11_comesTo_46 rfl ?_
        refine wp_getR 1 fl_X11_7 (by decide) rfl (kltM kRootM) kRootM (ly11_1 kRootM).1 dX11_comesTo_47 ?_
        refine wp_iconst (nI 5) dX11_comesTo_50 rfl ?_
        refine wp_aload_n (x := 0) dX11_comesTo_51 rfl ?_
        refine wp_getR 1 fl_X11_7 (by decide) rfl (kltM kRootM) kRootM (ly11_1 kRootM).1 dX11_comesTo_52 ?_
        refine wp_iconst (nI 5) dX11_comesTo_55 rfl ?_
        obtain ⟨c1, h⟩ := chv_some h
        refine wp_ialde (kltM (ly11_1 kRootM).2.1) (ly11_1 kRootM).2.1 (ly11_1 kRootM).2.2 c1 dX11_comesTo_56 ?_
        refine wp_iconst (nI 1) dX11_comesTo_57 rfl ?_
        refine wp_iadd dX11_comesTo_58 ?_
        obtain ⟨c1, h⟩ := chv_some h
        obtain ⟨μ2, e1, h⟩ := lt_some h
        refine wp_iaste e1 (kltM (ly11_1 kRootM).2.1) (ly11_1 kRootM).2.1 (ly11_1 kRootM).2.2 c1 dX11_comesTo_59 ?_
        refine wp_iconst (nI 3) dX11_comesTo_60 rfl ?_
        obtain ⟨rfl, rfl⟩ := ret2 h
        exact wp_iret rfl dX11_comesTo_61 ⟨rfl, rfl, rfl⟩
    · rw [if_pos c1] at h
      refine wp_iconst (nI 2) dX11_comesTo_30 rfl ?_
      obtain ⟨rfl, rfl⟩ := ret2 h
      exact wp_iret rfl dX11_comesTo_31 ⟨rfl, rfl, rfl⟩
  · rw [if_pos c1] at h
    refine wp_iconst (nI 1) dX11_comesTo_10 rfl ?_
    obtain ⟨rfl, rfl⟩ := ret2 h
    exact wp_iret rfl dX11_comesTo_11 ⟨rfl, rfl, rfl⟩
theorem ok_M_arrives_j167 {l : Launch} {d : Nat} (hd : 4 ≤ d) (v1 : Int32)  (v2 : Int32)  (v3 : Int32)  (μ : Mm) (z4 : Option Value) (z5 : Option Value) {Q : Option Value → Sh → Mm → Prop} (K : (Int32 × Int32 × Int32 × Mm) ⊕ (Int32 × Int32 × Mm) → Prop) (hb : ∀ (s : (Int32 × Int32 × Int32 × Mm)) (z4 : Option Value) (z5 : Option Value), K (Sum.inl s) → Wp l SM d (0, 0) mX11_arrives 6 [some (.ref 0), some (.int s.1), some (.int s.2.1), some (.int s.2.2.1), z4, z5] [] s.2.2.2 Q) (he0 : ∀ (x : (Int32 × Int32 × Mm)) (z3 : Option Value) (z4 : Option Value) (z5 : Option Value), K (Sum.inr x) → Wp l SM d (0, 0) mX11_arrives 173 [some (.ref 0), some (.int x.1), some (.int x.2.1), z3, z4, z5] [] x.2.2 Q) {z : (Int32 × Int32 × Int32 × Mm) ⊕ (Int32 × Int32 × Mm)} (h : M_arrives_j167 v1 v2 v3 μ = some z) (hz : K z) : Wp l SM d (0, 0) mX11_arrives 167 [some (.ref 0), some (.int v1), some (.int v2), some (.int v3), z4, z5] [] μ Q := by
  unfold M_arrives_j167 at h
  refine wp_iinc (x := v3) (k0 := (nI 1)) (L2 := [some (.ref 0), some (.int v1), some (.int v2), some (.int (v3 + (nI 1))), z4, z5]) dX11_arrives_167 rfl rfl (by decide) rfl rfl ?_
  refine wp_goto 6 dX11_arrives_170 (by decide) ?_
  obtain rfl := some1 h
  exact hb (v1, v2, (v3 + (nI 1)), μ) _ _ hz
theorem ok_M_arrives_l48 {l : Launch} {d : Nat} (hd : 4 ≤ d) (v1 : Int32)  (v2 : Int32)  (v3 : Int32)  (v4 : Int32)  (v5 : Int32)  (μ : Mm) {Q : Option Value → Sh → Mm → Prop} (K : (Int32 × Mm) ⊕ Mm → Prop) (hb : ∀ (s : (Int32 × Mm)), K (Sum.inl s) → Wp l SM d (0, 0) mX11_arrives 48 [some (.ref 0), some (.int v1), some (.int v2), some (.int v3), some (.int v4), some (.int s.1)] [] s.2 Q) (he0 : ∀ (x : Mm) (z4 : Option Value) (z5 : Option Value), K (Sum.inr x) → Wp l SM d (0, 0) mX11_arrives 85 [some (.ref 0), some (.int v1), some (.int v2), some (.int v3), z4, z5] [] x Q) {z : (Int32 × Mm) ⊕ Mm} (h : M_arrives_l48 v1 v2 v3 v4 v5 μ = some z) (hz : K z) : Wp l SM d (0, 0) mX11_arrives 48 [some (.ref 0), some (.int v1), some (.int v2), some (.int v3), some (.int v4), some (.int v5)] [] μ Q := by
  unfold M_arrives_l48 at h
  refine wp_iload (x := v5) dX11_arrives_48 rfl ?_
  refine wp_iconst (nI 4) dX11_arrives_50 rfl ?_
  refine wp_icmp_ge 85 dX11_arrives_51 (by decide) (fun c1 => ?_) (fun c1 => ?_)
  · rw [if_pos c1] at h
    obtain rfl := some1 h
    exact he0 μ _ _ hz
  · rw [if_neg c1] at h
    refine wp_aload_n (x := 0) dX11_arrives_54 rfl ?_
    refine wp_getR 1 fl_X11_7 (by decide) rfl (kltM kRootM) kRootM (ly11_1 kRootM).1 dX11_arrives_55 ?_
    refine wp_sipush (nI 472) dX11_arrives_58 rfl ?_
    refine wp_iconst (nI 4) dX11_arrives_61 rfl ?_
    refine wp_iload_n (x := v2) dX11_arrives_62 rfl ?_
    refine wp_imul dX11_arrives_63 ?_
    refine wp_iadd dX11_arrives_64 ?_
    refine wp_iload (x := v5) dX11_arrives_65 rfl ?_
    refine wp_iadd dX11_arrives_67 ?_
    refine wp_aload_n (x := 0) dX11_arrives_68 rfl ?_
    refine wp_getR 1 fl_X11_7 (by decide) rfl (kltM kRootM) kRootM (ly11_1 kRootM).1 dX11_arrives_69 ?_
    refine wp_iload (x := v4) dX11_arrives_72 rfl ?_
    refine wp_iload (x := v5) dX11_arrives_74 rfl ?_
    refine wp_iadd dX11_arrives_76 ?_
    obtain ⟨c1, h⟩ := chv_some h
    refine wp_ialde (kltM (ly11_1 kRootM).2.1) (ly11_1 kRootM).2.1 (ly11_1 kRootM).2.2 c1 dX11_arrives_77 ?_
    obtain ⟨c1, h⟩ := chv_some h
    obtain ⟨μ4, e1, h⟩ := lt_some h
    refine wp_iaste e1 (kltM (ly11_1 kRootM).2.1) (ly11_1 kRootM).2.1 (ly11_1 kRootM).2.2 c1 dX11_arrives_78 ?_
    refine wp_iinc (x := v5) (k0 := (nI 1)) (L2 := [some (.ref 0), some (.int v1), some (.int v2), some (.int v3), some (.int v4), some (.int (v5 + (nI 1)))]) dX11_arrives_79 rfl rfl (by decide) rfl rfl ?_
    refine wp_goto 48 dX11_arrives_82 (by decide) ?_
    obtain rfl := some1 h
    exact hb ((v5 + (nI 1)), μ4) hz
theorem okl_M_arrives_l48 {l : Launch} {d : Nat} (hd : 4 ≤ d) (v1 : Int32)  (v2 : Int32)  (v3 : Int32)  (v4 : Int32)  {Q : Option Value → Sh → Mm → Prop} (K : Mm → Prop) (he0 : ∀ (x : Mm) (z4 : Option Value) (z5 : Option Value), K x → Wp l SM d (0, 0) mX11_arrives 85 [some (.ref 0), some (.int v1), some (.int v2), some (.int v3), z4, z5] [] x Q) : ∀ (n : Nat) (s : (Int32 × Mm)) (y : Mm) , iter n (fun s => M_arrives_l48 v1 v2 v3 v4 s.1 s.2) s = some y → K y → Wp l SM d (0, 0) mX11_arrives 48 [some (.ref 0), some (.int v1), some (.int v2), some (.int v3), some (.int v4), some (.int s.1)] [] s.2 Q := by
  intro n
  induction n with
  | zero => intro s y  h; cases h
  | succ n ih =>
    intro s y  h hK
    obtain ⟨z, hz, hn⟩ := iter_some h
    refine ok_M_arrives_l48 hd v1 v2 v3 v4 s.1 s.2 (fun z => nxt n (fun s => M_arrives_l48 v1 v2 v3 v4 s.1 s.2) z y) ?_ ?_ hz hn
    · intro s2  h2
      exact ih s2 y h2 hK
    · intro x z4 z5 h2
      have h3 : x = y := h2
      subst h3
      exact he0 x _ _ hK
theorem ok_M_arrives_l6 {l : Launch} {d : Nat} (hd : 4 ≤ d) (v1 : Int32)  (v2 : Int32)  (v3 : Int32)  (μ : Mm) (z4 : Option Value) (z5 : Option Value) {Q : Option Value → Sh → Mm → Prop} (K : (Int32 × Int32 × Int32 × Mm) ⊕ (Int32 × Int32 × Mm) → Prop) (hb : ∀ (s : (Int32 × Int32 × Int32 × Mm)) (z4 : Option Value) (z5 : Option Value), K (Sum.inl s) → Wp l SM d (0, 0) mX11_arrives 6 [some (.ref 0), some (.int s.1), some (.int s.2.1), some (.int s.2.2.1), z4, z5] [] s.2.2.2 Q) (he0 : ∀ (x : (Int32 × Int32 × Mm)) (z3 : Option Value) (z4 : Option Value) (z5 : Option Value), K (Sum.inr x) → Wp l SM d (0, 0) mX11_arrives 173 [some (.ref 0), some (.int x.1), some (.int x.2.1), z3, z4, z5] [] x.2.2 Q) {z : (Int32 × Int32 × Int32 × Mm) ⊕ (Int32 × Int32 × Mm)} (h : M_arrives_l6 v1 v2 v3 μ = some z) (hz : K z) : Wp l SM d (0, 0) mX11_arrives 6 [some (.ref 0), some (.int v1), some (.int v2), some (.int v3), z4, z5] [] μ Q := by
  unfold M_arrives_l6 at h
  refine wp_iload_n (x := v3) dX11_arrives_6 rfl ?_
  refine wp_aload_n (x := 0) dX11_arrives_7 rfl ?_
  refine wp_getR 1 fl_X11_7 (by decide) rfl (kltM kRootM) kRootM (ly11_1 kRootM).1 dX11_arrives_8 ?_
  refine wp_sipush (nI 471) dX11_arrives_11 rfl ?_
  obtain ⟨c1, h⟩ := chv_some h
  refine wp_ialde (kltM (ly11_1 kRootM).2.1) (ly11_1 kRootM).2.1 (ly11_1 kRootM).2.2 c1 dX11_arrives_14 ?_
  refine wp_icmp_ge 173 dX11_arrives_15 (by decide) (fun c1 => ?_) (fun c1 => ?_)
  · rw [if_pos c1] at h
    obtain rfl := some1 h
    exact he0 (v1, v2, μ) _ _ _ hz
  · rw [if_neg c1] at h
    refine wp_sipush (nI 472) dX11_arrives_18 rfl ?_
    refine wp_iconst (nI 4) dX11_arrives_21 rfl ?_
    refine wp_iload_n (x := v3) dX11_arrives_22 rfl ?_
    refine wp_imul dX11_arrives_23 ?_
    refine wp_iadd dX11_arrives_24 ?_
    refine wp_istore (L2 := [some (.ref 0), some (.int v1), some (.int v2), some (.int v3), some (.int ((nI 472) + ((nI 4) * v3))), z5]) dX11_arrives_25 (by decide) rfl rfl ?_
    refine wp_aload_n (x := 0) dX11_arrives_27 rfl ?_
    refine wp_getR 1 fl_X11_7 (by decide) rfl (kltM kRootM) kRootM (ly11_1 kRootM).1 dX11_arrives_28 ?_
    refine wp_iload (x := ((nI 472) + ((nI 4) * v3))) dX11_arrives_31 rfl ?_
    refine wp_iconst (nI 3) dX11_arrives_33 rfl ?_
    refine wp_iadd dX11_arrives_34 ?_
    obtain ⟨c1, h⟩ := chv_some h
    refine wp_ialde (kltM (ly11_1 kRootM).2.1) (ly11_1 kRootM).2.1 (ly11_1 kRootM).2.2 c1 dX11_arrives_35 ?_
    refine wp_aload_n (x := 0) dX11_arrives_36 rfl ?_
    refine wp_getR 1 fl_X11_7 (by decide) rfl (kltM kRootM) kRootM (ly11_1 kRootM).1 dX11_arrives_37 ?_
    refine wp_iconst (nI 0) dX11_arrives_40 rfl ?_
    obtain ⟨c1, h⟩ := chv_some h
    refine wp_ialde (kltM (ly11_1 kRootM).2.1) (ly11_1 kRootM).2.1 (ly11_1 kRootM).2.2 c1 dX11_arrives_41 ?_
    refine wp_icmp_le 92 dX11_arrives_42 (by decide) (fun c1 => ?_) (fun c1 => ?_)
    · rw [if_pos c1] at h
      refine wp_aload_n (x := 0) dX11_arrives_92 rfl ?_
      refine wp_aload_n (x := 0) dX11_arrives_93 rfl ?_
      refine wp_getR 1 fl_X11_7 (by decide) rfl (kltM kRootM) kRootM (ly11_1 kRootM).1 dX11_arrives_94 ?_
      refine wp_iload (x := ((nI 472) + ((nI 4) * v3))) dX11_arrives_97 rfl ?_
      refine wp_iconst (nI 0) dX11_arrives_99 rfl ?_
      refine wp_iadd dX11_arrives_100 ?_
      obtain ⟨c1, h⟩ := chv_some h
      refine wp_ialde (kltM (ly11_1 kRootM).2.1) (ly11_1 kRootM).2.1 (ly11_1 kRootM).2.2 c1 dX11_arrives_101 ?_
      refine wp_aload_n (x := 0) dX11_arrives_102 rfl ?_
      refine wp_getR 1 fl_X11_7 (by decide) rfl (kltM kRootM) kRootM (ly11_1 kRootM).1 dX11_arrives_103 ?_
      refine wp_iload (x := ((nI 472) + ((nI 4) * v3))) dX11_arrives_106 rfl ?_
      refine wp_iconst (nI 1) dX11_arrives_108 rfl ?_
      refine wp_iadd dX11_arrives_109 ?_
      obtain ⟨c1, h⟩ := chv_some h
      refine wp_ialde (kltM (ly11_1 kRootM).2.1) (ly11_1 kRootM).2.1 (ly11_1 kRootM).2.2 c1 dX11_arrives_110 ?_
      refine wp_aload_n (x := 0) dX11_arrives_111 rfl ?_
      refine wp_getR 1 fl_X11_7 (by decide) rfl (kltM kRootM) kRootM (ly11_1 kRootM).1 dX11_arrives_112 ?_
      refine wp_iload (x := ((nI 472) + ((nI 4) * v3))) dX11_arrives_115 rfl ?_
      refine wp_iconst (nI 2) dX11_arrives_117 rfl ?_
      refine wp_iadd dX11_arrives_118 ?_
      obtain ⟨c1, h⟩ := chv_some h
      refine wp_ialde (kltM (ly11_1 kRootM).2.1) (ly11_1 kRootM).2.1 (ly11_1 kRootM).2.2 c1 dX11_arrives_119 ?_
      obtain ⟨r2, μ1, g1, h⟩ := bnd2_some h
      refine wp_cVi (d := d - 1) (o := 0) cv_X11_308 (kltM kRootM) kRootM (as := [.int (μ.1 1 (ix (((nI 472) + ((nI 4) * v3)) + (nI 0)))), .int (μ.1 1 (ix (((nI 472) + ((nI 4) * v3)) + (nI 1)))), .int (μ.1 1 (ix (((nI 472) + ((nI 4) * v3)) + (nI 2))))]) (rest := []) dX11_arrives_120 (by omega) cloM rfl rfl (Nat.le_of_ble_eq_true rfl) (Nat.le_of_ble_eq_true rfl) (ok_M_comesTo (by omega) (μ.1 1 (ix (((nI 472) + ((nI 4) * v3)) + (nI 0)))) (μ.1 1 (ix (((nI 472) + ((nI 4) * v3)) + (nI 1)))) (μ.1 1 (ix (((nI 472) + ((nI 4) * v3)) + (nI 2)))) μ g1) ?_ rfl
      refine wp_istore (L2 := [some (.ref 0), some (.int v1), some (.int v2), some (.int v3), some (.int ((nI 472) + ((nI 4) * v3))), some (.int r2)]) dX11_arrives_123 (by decide) rfl rfl ?_
      refine wp_aload_n (x := 0) dX11_arrives_125 rfl ?_
      refine wp_aload_n (x := 0) dX11_arrives_126 rfl ?_
      refine wp_getR 1 fl_X11_7 (by decide) rfl (kltM kRootM) kRootM (ly11_1 kRootM).1 dX11_arrives_127 ?_
      refine wp_iload (x := ((nI 472) + ((nI 4) * v3))) dX11_arrives_130 rfl ?_
      refine wp_iconst (nI 0) dX11_arrives_132 rfl ?_
      refine wp_iadd dX11_arrives_133 ?_
      obtain ⟨c1, h⟩ := chv_some h
      refine wp_ialde (kltM (ly11_1 kRootM).2.1) (ly11_1 kRootM).2.1 (ly11_1 kRootM).2.2 c1 dX11_arrives_134 ?_
      refine wp_aload_n (x := 0) dX11_arrives_135 rfl ?_
      refine wp_getR 1 fl_X11_7 (by decide) rfl (kltM kRootM) kRootM (ly11_1 kRootM).1 dX11_arrives_136 ?_
      refine wp_iload (x := ((nI 472) + ((nI 4) * v3))) dX11_arrives_139 rfl ?_
      refine wp_iconst (nI 1) dX11_arrives_141 rfl ?_
      refine wp_iadd dX11_arrives_142 ?_
      obtain ⟨c1, h⟩ := chv_some h
      refine wp_ialde (kltM (ly11_1 kRootM).2.1) (ly11_1 kRootM).2.1 (ly11_1 kRootM).2.2 c1 dX11_arrives_143 ?_
      refine wp_aload_n (x := 0) dX11_arrives_144 rfl ?_
      refine wp_getR 1 fl_X11_7 (by decide) rfl (kltM kRootM) kRootM (ly11_1 kRootM).1 dX11_arrives_145 ?_
      refine wp_iload (x := ((nI 472) + ((nI 4) * v3))) dX11_arrives_148 rfl ?_
      refine wp_iconst (nI 2) dX11_arrives_150 rfl ?_
      refine wp_iadd dX11_arrives_151 ?_
      obtain ⟨c1, h⟩ := chv_some h
      refine wp_ialde (kltM (ly11_1 kRootM).2.1) (ly11_1 kRootM).2.1 (ly11_1 kRootM).2.2 c1 dX11_arrives_152 ?_
      refine wp_iload (x := r2) dX11_arrives_153 rfl ?_
      obtain ⟨μ3, g1, h⟩ := bnd_some h
      refine wp_cVv (d := d - 1) (o := 0) cv_X11_311 (kltM kRootM) kRootM (as := [.int (μ1.1 1 (ix (((nI 472) + ((nI 4) * v3)) + (nI 0)))), .int (μ1.1 1 (ix (((nI 472) + ((nI 4) * v3)) + (nI 1)))), .int (μ1.1 1 (ix (((nI 472) + ((nI 4) * v3)) + (nI 2)))), .int r2]) (rest := []) dX11_arrives_155 (by omega) cloM rfl rfl (Nat.le_of_ble_eq_true rfl) (Nat.le_of_ble_eq_true rfl) (ok_M_notes (by omega) (μ1.1 1 (ix (((nI 472) + ((nI 4) * v3)) + (nI 0)))) (μ1.1 1 (ix (((nI 472) + ((nI 4) * v3)) + (nI 1)))) (μ1.1 1 (ix (((nI 472) + ((nI 4) * v3)) + (nI 2)))) r2 μ1 g1) ?_ rfl
      refine wp_iload (x := r2) dX11_arrives_158 rfl ?_
      refine wp_if_ne 167 dX11_arrives_160 (by decide) (fun c1 => ?_) (fun c1 => ?_)
      · rw [if_neg c1] at h
        exact ok_M_arrives_j167 hd v1 v2 v3 μ3 _ _ K hb he0 h hz
      · rw [if_pos c1] at h
        refine wp_iload_n (x := v1) dX11_arrives_163 rfl ?_
        refine wp_iconst (nI 1) dX11_arrives_164 rfl ?_
        refine wp_iadd dX11_arrives_165 ?_
        refine wp_istore_n (L2 := [some (.ref 0), some (.int (v1 + (nI 1))), some (.int v2), some (.int v3), some (.int ((nI 472) + ((nI 4) * v3))), some (.int r2)]) dX11_arrives_166 (by decide) rfl rfl ?_
        exact ok_M_arrives_j167 hd (v1 + (nI 1)) v2 v3 μ3 _ _ K hb he0 h hz
    · rw [if_neg c1] at h
      refine wp_iconst (nI 0) dX11_arrives_45 rfl ?_
      refine wp_istore (L2 := [some (.ref 0), some (.int v1), some (.int v2), some (.int v3), some (.int ((nI 472) + ((nI 4) * v3))), some (.int (nI 0))]) dX11_arrives_46 (by decide) rfl rfl ?_
      obtain ⟨x48, hi, h⟩ := bni_some h
      refine okl_M_arrives_l48 hd v1 v2 v3 ((nI 472) + ((nI 4) * v3)) (fun z => z = x48) ?_ 1000000 ((nI 0), μ) x48 hi rfl
      · intro y0 z4 z5 e0
        have e0 : y0 = x48 := e0
        subst e0
        refine wp_iload_n (x := v2) dX11_arrives_85 rfl ?_
        refine wp_iconst (nI 1) dX11_arrives_86 rfl ?_
        refine wp_iadd dX11_arrives_87 ?_
        refine wp_istore_n (L2 := [some (.ref 0), some (.int v1), some (.int (v2 + (nI 1))), some (.int v3), z4, z5]) dX11_arrives_88 (by decide) rfl rfl ?_
        refine wp_goto 167 dX11_arrives_89 (by decide) ?_
        exact ok_M_arrives_j167 hd v1 (v2 + (nI 1)) v3 y0 _ _ K hb he0 h hz
theorem okl_M_arrives_l6 {l : Launch} {d : Nat} (hd : 4 ≤ d) {Q : Option Value → Sh → Mm → Prop} (K : (Int32 × Int32 × Mm) → Prop) (he0 : ∀ (x : (Int32 × Int32 × Mm)) (z3 : Option Value) (z4 : Option Value) (z5 : Option Value), K x → Wp l SM d (0, 0) mX11_arrives 173 [some (.ref 0), some (.int x.1), some (.int x.2.1), z3, z4, z5] [] x.2.2 Q) : ∀ (n : Nat) (s : (Int32 × Int32 × Int32 × Mm)) (y : (Int32 × Int32 × Mm)) (z4 : Option Value) (z5 : Option Value) , iter n (fun s => M_arrives_l6 s.1 s.2.1 s.2.2.1 s.2.2.2) s = some y → K y → Wp l SM d (0, 0) mX11_arrives 6 [some (.ref 0), some (.int s.1), some (.int s.2.1), some (.int s.2.2.1), z4, z5] [] s.2.2.2 Q := by
  intro n
  induction n with
  | zero => intro s y z4 z5 h; cases h
  | succ n ih =>
    intro s y z4 z5 h hK
    obtain ⟨z, hz, hn⟩ := iter_some h
    refine ok_M_arrives_l6 hd s.1 s.2.1 s.2.2.1 s.2.2.2 _ _ (fun z => nxt n (fun s => M_arrives_l6 s.1 s.2.1 s.2.2.1 s.2.2.2) z y) ?_ ?_ hz hn
    · intro s2 z4 z5 h2
      exact ih s2 y _ _ h2 hK
    · intro x z3 z4 z5 h2
      have h3 : x = y := h2
      subst h3
      exact he0 x _ _ _ hK
theorem ok_M_arrives {l : Launch} {d : Nat} (hd : 4 ≤ d) (μ : Mm) {r : Int32} {μ' : Mm} (h : M_arrives μ = some (r, μ')) : Wp l SM d (0, 0) mX11_arrives 0 [some (.ref 0), none, none, none, none, none] [] μ (Qi SM r μ') := by
  unfold M_arrives at h
  refine wp_iconst (nI 0) dX11_arrives_0 rfl ?_
  refine wp_istore_n (L2 := [some (.ref 0), some (.int (nI 0)), none, none, none, none]) dX11_arrives_1 (by decide) rfl rfl ?_
  refine wp_iconst (nI 0) dX11_arrives_2 rfl ?_
  refine wp_istore_n (L2 := [some (.ref 0), some (.int (nI 0)), some (.int (nI 0)), none, none, none]) dX11_arrives_3 (by decide) rfl rfl ?_
  refine wp_iconst (nI 0) dX11_arrives_4 rfl ?_
  refine wp_istore_n (L2 := [some (.ref 0), some (.int (nI 0)), some (.int (nI 0)), some (.int (nI 0)), none, none]) dX11_arrives_5 (by decide) rfl rfl ?_
  obtain ⟨x6, hi, h⟩ := bni_some h
  refine okl_M_arrives_l6 hd  (fun z => z = x6) ?_ 1000000 ((nI 0), (nI 0), (nI 0), μ) x6 _ _ hi rfl
  · intro y0 z3 z4 z5 e0
    have e0 : y0 = x6 := e0
    subst e0
    refine wp_aload_n (x := 0) dX11_arrives_173 rfl ?_
    refine wp_getR 1 fl_X11_7 (by decide) rfl (kltM kRootM) kRootM (ly11_1 kRootM).1 dX11_arrives_174 ?_
    refine wp_sipush (nI 471) dX11_arrives_177 rfl ?_
    refine wp_iload_n (x := y0.2.1) dX11_arrives_180 rfl ?_
    obtain ⟨c1, h⟩ := chv_some h
    obtain ⟨μ5, e1, h⟩ := lt_some h
    refine wp_iaste e1 (kltM (ly11_1 kRootM).2.1) (ly11_1 kRootM).2.1 (ly11_1 kRootM).2.2 c1 dX11_arrives_181 ?_
    refine wp_iload_n (x := y0.1) dX11_arrives_182 rfl ?_
    obtain ⟨rfl, rfl⟩ := ret2 h
    exact wp_iret rfl dX11_arrives_183 ⟨rfl, rfl, rfl⟩
theorem ok_M_postOf {l : Launch} {d : Nat} (hd : 1 ≤ d) (v1 : Int32)  (v2 : Int32)  (μ : Mm) {r : Int32} (h : M_postOf v1 v2 μ = some r) : Wp l SM d (0, 0) mX11_postOf 0 [some (.ref 0), some (.int v1), some (.int v2)] [] μ (Qi SM r μ) := by
  unfold M_postOf at h
  refine wp_aload_n (x := 0) dX11_postOf_0 rfl ?_
  refine wp_getR 20 fl_X11_71 (by decide) rfl (kltM kRootM) kRootM (ly11_42 kRootM).1 dX11_postOf_1 ?_
  refine wp_bipush (nI 6) dX11_postOf_4 rfl ?_
  refine wp_iload_n (x := v1) dX11_postOf_6 rfl ?_
  refine wp_imul dX11_postOf_7 ?_
  refine wp_iload_n (x := v2) dX11_postOf_8 rfl ?_
  refine wp_iadd dX11_postOf_9 ?_
  obtain ⟨c1, h⟩ := chv_some h
  refine wp_ialde (kltM (ly11_42 kRootM).2.1) (ly11_42 kRootM).2.1 (ly11_42 kRootM).2.2 c1 dX11_postOf_10 ?_
  refine wp_iconst (nI 1) dX11_postOf_11 rfl ?_
  refine wp_iadd dX11_postOf_12 ?_
  obtain rfl := ret1 h
  exact wp_iret rfl dX11_postOf_13 ⟨rfl, rfl, rfl⟩
theorem ok_M_copyOf_j80 {l : Launch} {d : Nat} (hd : 2 ≤ d) (v1 : Int32)  (v2 : Int32)  (v3 : Int32)  (s0 : Int32) (μ : Mm) (z4 : Option Value) {r : Int32} {μ' : Mm} (h : M_copyOf_j80 v1 v2 v3 s0 μ = some (r, μ')) : Wp l SM d (0, 0) mX11_copyOf 80 [some (.ref 0), some (.int v1), some (.int v2), some (.int v3), z4] [.int s0] μ (Qi SM r μ') := by
  unfold M_copyOf_j80 at h
  refine wp_istore (L2 := [some (.ref 0), some (.int v1), some (.int v2), some (.int v3), some (.int s0)]) dX11_copyOf_80 (by decide) rfl rfl ?_
  refine wp_aload_n (x := 0) dX11_copyOf_82 rfl ?_
  refine wp_iload (x := s0) dX11_copyOf_83 rfl ?_
  refine wp_aload_n (x := 0) dX11_copyOf_85 rfl ?_
  refine wp_getR 1 fl_X11_7 (by decide) rfl (kltM kRootM) kRootM (ly11_1 kRootM).1 dX11_copyOf_86 ?_
  refine wp_bipush (nI 47) dX11_copyOf_89 rfl ?_
  refine wp_iload_n (x := v1) dX11_copyOf_91 rfl ?_
  refine wp_iadd dX11_copyOf_92 ?_
  obtain ⟨c1, h⟩ := chv_some h
  refine wp_ialde (kltM (ly11_1 kRootM).2.1) (ly11_1 kRootM).2.1 (ly11_1 kRootM).2.2 c1 dX11_copyOf_93 ?_
  refine wp_iconst (nI 1) dX11_copyOf_94 rfl ?_
  refine wp_iload_n (x := v3) dX11_copyOf_95 rfl ?_
  refine wp_ishl dX11_copyOf_96 ?_
  refine wp_ixor dX11_copyOf_97 ?_
  refine wp_iload_n (x := v1) dX11_copyOf_98 rfl ?_
  refine wp_iload_n (x := v2) dX11_copyOf_99 rfl ?_
  obtain ⟨r6, μ5, g1, h⟩ := bnd2_some h
  refine wp_cVi (d := d - 1) (o := 0) cv_X11_140 (kltM kRootM) kRootM (as := [.int s0, .int ((μ.1 1 (ix ((nI 47) + v1))) ^^^ ((nI 1) <<< (v3 &&& 31))), .int v1, .int v2]) (rest := []) dX11_copyOf_100 (by omega) cloM rfl rfl (Nat.le_of_ble_eq_true rfl) (Nat.le_of_ble_eq_true rfl) (ok_M_comesVersion (by omega) s0 ((μ.1 1 (ix ((nI 47) + v1))) ^^^ ((nI 1) <<< (v3 &&& 31))) v1 v2 μ g1) ?_ rfl
  obtain ⟨rfl, rfl⟩ := ret2 h
  exact wp_iret rfl dX11_copyOf_103 ⟨rfl, rfl, rfl⟩
theorem ok_M_copyOf_j78 {l : Launch} {d : Nat} (hd : 2 ≤ d) (v1 : Int32)  (v2 : Int32)  (v3 : Int32)  (v4 : Int32)  (μ : Mm) {r : Int32} {μ' : Mm} (h : M_copyOf_j78 v1 v2 v3 v4 μ = some (r, μ')) : Wp l SM d (0, 0) mX11_copyOf 78 [some (.ref 0), some (.int v1), some (.int v2), some (.int v3), some (.int v4)] [] μ (Qi SM r μ') := by
  unfold M_copyOf_j78 at h
  refine wp_iload (x := v4) dX11_copyOf_78 rfl ?_
  exact ok_M_copyOf_j80 hd v1 v2 v3 v4 μ _ h
theorem ok_M_copyOf {l : Launch} {d : Nat} (hd : 2 ≤ d) (v1 : Int32)  (v2 : Int32)  (μ : Mm) {r : Int32} {μ' : Mm} (h : M_copyOf v1 v2 μ = some (r, μ')) : Wp l SM d (0, 0) mX11_copyOf 0 [some (.ref 0), some (.int v1), some (.int v2), none, none] [] μ (Qi SM r μ') := by
  unfold M_copyOf at h
  refine wp_aload_n (x := 0) dX11_copyOf_0 rfl ?_
  refine wp_getI fl_X11_98 (by decide) rfl (kltM kRootM) kRootM dX11_copyOf_1 ?_
  refine wp_if_ne 28 dX11_copyOf_4 (by decide) (fun c1 => ?_) (fun c1 => ?_)
  · rw [if_neg c1] at h
    refine wp_iload_n (x := v1) dX11_copyOf_28 rfl ?_
    obtain ⟨rfl, rfl⟩ := ret2 h
    exact wp_iret rfl dX11_copyOf_29 ⟨rfl, rfl, rfl⟩
  · rw [if_pos c1] at h
    refine wp_aload_n (x := 0) dX11_copyOf_7 rfl ?_
    refine wp_getI fl_X11_134 (by decide) rfl (kltM kRootM) kRootM dX11_copyOf_8 ?_
    refine wp_if_eq 28 dX11_copyOf_11 (by decide) (fun c1 => ?_) (fun c1 => ?_)
    · rw [if_pos c1] at h
      refine wp_iload_n (x := v1) dX11_copyOf_28 rfl ?_
      obtain ⟨rfl, rfl⟩ := ret2 h
      exact wp_iret rfl dX11_copyOf_29 ⟨rfl, rfl, rfl⟩
    · rw [if_neg c1] at h
      refine wp_aload_n (x := 0) dX11_copyOf_14 rfl ?_
      refine wp_sipush (nI 1000) dX11_copyOf_15 rfl ?_
      obtain ⟨r2, μ1, g1, h⟩ := bnd2_some h
      refine wp_cVi (d := d - 1) (o := 0) cv_X11_315 (kltM kRootM) kRootM (as := [.int (nI 1000)]) (rest := []) dX11_copyOf_18 (by omega) cloM rfl rfl (Nat.le_of_ble_eq_true rfl) (Nat.le_of_ble_eq_true rfl) (ok_M_draw (by omega) (nI 1000) μ g1) ?_ rfl
      refine wp_aload_n (x := 0) dX11_copyOf_21 rfl ?_
      refine wp_getI fl_X11_134 (by decide) rfl (kltM kRootM) kRootM dX11_copyOf_22 ?_
      refine wp_icmp_lt 30 dX11_copyOf_25 (by decide) (fun c1 => ?_) (fun c1 => ?_)
      · rw [if_pos c1] at h
        refine wp_aload_n (x := 0) dX11_copyOf_30 rfl ?_
        refine wp_bipush (nI 10) dX11_copyOf_31 rfl ?_
        obtain ⟨r4, μ3, g1, h⟩ := bnd2_some h
        refine wp_cVi (d := d - 1) (o := 0) cv_X11_315 (kltM kRootM) kRootM (as := [.int (nI 10)]) (rest := []) dX11_copyOf_33 (by omega) cloM rfl rfl (Nat.le_of_ble_eq_true rfl) (Nat.le_of_ble_eq_true rfl) (ok_M_draw (by omega) (nI 10) μ1 g1) ?_ rfl
        refine wp_istore_n (L2 := [some (.ref 0), some (.int v1), some (.int v2), some (.int r4), none]) dX11_copyOf_36 (by decide) rfl rfl ?_
        refine wp_aload_n (x := 0) dX11_copyOf_37 rfl ?_
        refine wp_getR 1 fl_X11_7 (by decide) rfl (kltM kRootM) kRootM (ly11_1 kRootM).1 dX11_copyOf_38 ?_
        refine wp_bipush (nI 6) dX11_copyOf_41 rfl ?_
        obtain ⟨c1, h⟩ := chv_some h
        refine wp_ialde (kltM (ly11_1 kRootM).2.1) (ly11_1 kRootM).2.1 (ly11_1 kRootM).2.2 c1 dX11_copyOf_43 ?_
        refine wp_bipush (nI 40) dX11_copyOf_44 rfl ?_
        refine wp_icmp_ne 51 dX11_copyOf_46 (by decide) (fun c1 => ?_) (fun c1 => ?_)
        · rw [if_neg c1] at h
          refine wp_aload_n (x := 0) dX11_copyOf_51 rfl ?_
          refine wp_getR 1 fl_X11_7 (by decide) rfl (kltM kRootM) kRootM (ly11_1 kRootM).1 dX11_copyOf_52 ?_
          refine wp_bipush (nI 7) dX11_copyOf_55 rfl ?_
          refine wp_iload_n (x := v1) dX11_copyOf_57 rfl ?_
          refine wp_iadd dX11_copyOf_58 ?_
          obtain ⟨c1, h⟩ := chv_some h
          refine wp_ialde (kltM (ly11_1 kRootM).2.1) (ly11_1 kRootM).2.1 (ly11_1 kRootM).2.2 c1 dX11_copyOf_59 ?_
          refine wp_istore (L2 := [some (.ref 0), some (.int v1), some (.int v2), some (.int r4), some (.int (μ3.1 1 (ix ((nI 7) + v1))))]) dX11_copyOf_60 (by decide) rfl rfl ?_
          refine wp_iload_n (x := r4) dX11_copyOf_62 rfl ?_
          refine wp_if_ne 78 dX11_copyOf_63 (by decide) (fun c1 => ?_) (fun c1 => ?_)
          · rw [if_neg c1] at h
            exact ok_M_copyOf_j78 hd v1 v2 r4 (μ3.1 1 (ix ((nI 7) + v1))) μ3 h
          · rw [if_pos c1] at h
            refine wp_iload (x := (μ3.1 1 (ix ((nI 7) + v1)))) dX11_copyOf_66 rfl ?_
            refine wp_if_le 78 dX11_copyOf_68 (by decide) (fun c1 => ?_) (fun c1 => ?_)
            · rw [if_pos c1] at h
              exact ok_M_copyOf_j78 hd v1 v2 r4 (μ3.1 1 (ix ((nI 7) + v1))) μ3 h
            · rw [if_neg c1] at h
              refine wp_iload (x := (μ3.1 1 (ix ((nI 7) + v1)))) dX11_copyOf_71 rfl ?_
              refine wp_iconst (nI 1) dX11_copyOf_73 rfl ?_
              refine wp_isub dX11_copyOf_74 ?_
              refine wp_goto 80 dX11_copyOf_75 (by decide) ?_
              exact ok_M_copyOf_j80 hd v1 v2 r4 ((μ3.1 1 (ix ((nI 7) + v1))) - (nI 1)) μ3 _ h
        · rw [if_pos c1] at h
          refine wp_iload_n (x := v1) dX11_copyOf_49 rfl ?_
          obtain ⟨rfl, rfl⟩ := ret2 h
          exact wp_iret rfl dX11_copyOf_50 ⟨rfl, rfl, rfl⟩
      · rw [if_neg c1] at h
        refine wp_iload_n (x := v1) dX11_copyOf_28 rfl ?_
        obtain ⟨rfl, rfl⟩ := ret2 h
        exact wp_iret rfl dX11_copyOf_29 ⟨rfl, rfl, rfl⟩
theorem ok_M_posts {l : Launch} {d : Nat} (hd : 2 ≤ d) (v1 : Int32)  (v2 : Int32)  (v3 : Int32)  (μ : Mm) {μ' : Mm} (h : M_posts v1 v2 v3 μ = some μ') : Wp l SM d (0, 0) mX11_posts 0 [some (.ref 0), some (.int v1), some (.int v2), some (.int v3), none] [] μ (Qv SM μ') := by
  unfold M_posts at h
  refine wp_aload_n (x := 0) dX11_posts_0 rfl ?_
  refine wp_getR 1 fl_X11_7 (by decide) rfl (kltM kRootM) kRootM (ly11_1 kRootM).1 dX11_posts_1 ?_
  refine wp_sipush (nI 471) dX11_posts_4 rfl ?_
  obtain ⟨c1, h⟩ := chv_some h
  refine wp_ialde (kltM (ly11_1 kRootM).2.1) (ly11_1 kRootM).2.1 (ly11_1 kRootM).2.2 c1 dX11_posts_7 ?_
  refine wp_bipush (nI 60) dX11_posts_8 rfl ?_
  refine wp_icmp_ne 28 dX11_posts_10 (by decide) (fun c1 => ?_) (fun c1 => ?_)
  · rw [if_neg c1] at h
    refine wp_sipush (nI 472) dX11_posts_28 rfl ?_
    refine wp_iconst (nI 4) dX11_posts_31 rfl ?_
    refine wp_aload_n (x := 0) dX11_posts_32 rfl ?_
    refine wp_getR 1 fl_X11_7 (by decide) rfl (kltM kRootM) kRootM (ly11_1 kRootM).1 dX11_posts_33 ?_
    refine wp_sipush (nI 471) dX11_posts_36 rfl ?_
    obtain ⟨c1, h⟩ := chv_some h
    refine wp_ialde (kltM (ly11_1 kRootM).2.1) (ly11_1 kRootM).2.1 (ly11_1 kRootM).2.2 c1 dX11_posts_39 ?_
    refine wp_imul dX11_posts_40 ?_
    refine wp_iadd dX11_posts_41 ?_
    obtain ⟨u1, e1, h⟩ := lt_some h
    rw [← e1]
    refine wp_istore (L2 := [some (.ref 0), some (.int v1), some (.int v2), some (.int v3), some (.int u1)]) dX11_posts_42 (by decide) rfl rfl ?_
    refine wp_aload_n (x := 0) dX11_posts_44 rfl ?_
    refine wp_getR 1 fl_X11_7 (by decide) rfl (kltM kRootM) kRootM (ly11_1 kRootM).1 dX11_posts_45 ?_
    refine wp_iload (x := u1) dX11_posts_48 rfl ?_
    refine wp_iconst (nI 0) dX11_posts_50 rfl ?_
    refine wp_iadd dX11_posts_51 ?_
    refine wp_iload_n (x := v1) dX11_posts_52 rfl ?_
    obtain ⟨c1, h⟩ := chv_some h
    obtain ⟨μ2, e1, h⟩ := lt_some h
    refine wp_iaste e1 (kltM (ly11_1 kRootM).2.1) (ly11_1 kRootM).2.1 (ly11_1 kRootM).2.2 c1 dX11_posts_53 ?_
    refine wp_aload_n (x := 0) dX11_posts_54 rfl ?_
    refine wp_getR 1 fl_X11_7 (by decide) rfl (kltM kRootM) kRootM (ly11_1 kRootM).1 dX11_posts_55 ?_
    refine wp_iload (x := u1) dX11_posts_58 rfl ?_
    refine wp_iconst (nI 1) dX11_posts_60 rfl ?_
    refine wp_iadd dX11_posts_61 ?_
    refine wp_iload_n (x := v2) dX11_posts_62 rfl ?_
    obtain ⟨c1, h⟩ := chv_some h
    obtain ⟨μ3, e1, h⟩ := lt_some h
    refine wp_iaste e1 (kltM (ly11_1 kRootM).2.1) (ly11_1 kRootM).2.1 (ly11_1 kRootM).2.2 c1 dX11_posts_63 ?_
    refine wp_aload_n (x := 0) dX11_posts_64 rfl ?_
    refine wp_getR 1 fl_X11_7 (by decide) rfl (kltM kRootM) kRootM (ly11_1 kRootM).1 dX11_posts_65 ?_
    refine wp_iload (x := u1) dX11_posts_68 rfl ?_
    refine wp_iconst (nI 2) dX11_posts_70 rfl ?_
    refine wp_iadd dX11_posts_71 ?_
    refine wp_iload_n (x := v3) dX11_posts_72 rfl ?_
    obtain ⟨c1, h⟩ := chv_some h
    obtain ⟨μ4, e1, h⟩ := lt_some h
    refine wp_iaste e1 (kltM (ly11_1 kRootM).2.1) (ly11_1 kRootM).2.1 (ly11_1 kRootM).2.2 c1 dX11_posts_73 ?_
    refine wp_aload_n (x := 0) dX11_posts_74 rfl ?_
    refine wp_getR 1 fl_X11_7 (by decide) rfl (kltM kRootM) kRootM (ly11_1 kRootM).1 dX11_posts_75 ?_
    refine wp_iload (x := u1) dX11_posts_78 rfl ?_
    refine wp_iconst (nI 3) dX11_posts_80 rfl ?_
    refine wp_iadd dX11_posts_81 ?_
    refine wp_aload_n (x := 0) dX11_posts_82 rfl ?_
    refine wp_getR 1 fl_X11_7 (by decide) rfl (kltM kRootM) kRootM (ly11_1 kRootM).1 dX11_posts_83 ?_
    refine wp_iconst (nI 0) dX11_posts_86 rfl ?_
    obtain ⟨c1, h⟩ := chv_some h
    refine wp_ialde (kltM (ly11_1 kRootM).2.1) (ly11_1 kRootM).2.1 (ly11_1 kRootM).2.2 c1 dX11_posts_87 ?_
    refine wp_aload_n (x := 0) dX11_posts_88 rfl ?_
    refine wp_aload_n (x := 0) dX11_posts_89 rfl ?_
    refine wp_getR 4 fl_X11_19 (by decide) rfl (kltM kRootM) kRootM (ly11_7 kRootM).1 dX11_posts_90 ?_
    refine wp_iload_n (x := v2) dX11_posts_93 rfl ?_
    obtain ⟨c1, h⟩ := chv_some h
    refine wp_ialde (kltM (ly11_7 kRootM).2.1) (ly11_7 kRootM).2.1 (ly11_7 kRootM).2.2 c1 dX11_posts_94 ?_
    refine wp_aload_n (x := 0) dX11_posts_95 rfl ?_
    refine wp_getR 4 fl_X11_19 (by decide) rfl (kltM kRootM) kRootM (ly11_7 kRootM).1 dX11_posts_96 ?_
    refine wp_iload_n (x := v3) dX11_posts_99 rfl ?_
    obtain ⟨c1, h⟩ := chv_some h
    refine wp_ialde (kltM (ly11_7 kRootM).2.1) (ly11_7 kRootM).2.1 (ly11_7 kRootM).2.2 c1 dX11_posts_100 ?_
    obtain ⟨r5, g1, h⟩ := bnd_some h
    refine wp_cVi (d := d - 1) (o := 0) cv_X11_318 (kltM kRootM) kRootM (as := [.int (μ4.1 4 (ix v2)), .int (μ4.1 4 (ix v3))]) (rest := [.int (μ4.1 1 (ix (nI 0))), .int (u1 + (nI 3)), .ref 1]) dX11_posts_101 (by omega) cloM rfl rfl (Nat.le_of_ble_eq_true rfl) (Nat.le_of_ble_eq_true rfl) (ok_M_postOf (by omega) (μ4.1 4 (ix v2)) (μ4.1 4 (ix v3)) μ4 g1) ?_ rfl
    refine wp_iadd dX11_posts_104 ?_
    obtain ⟨c1, h⟩ := chv_some h
    obtain ⟨μ6, e1, h⟩ := lt_some h
    refine wp_iaste e1 (kltM (ly11_1 kRootM).2.1) (ly11_1 kRootM).2.1 (ly11_1 kRootM).2.2 c1 dX11_posts_105 ?_
    refine wp_aload_n (x := 0) dX11_posts_106 rfl ?_
    refine wp_getR 1 fl_X11_7 (by decide) rfl (kltM kRootM) kRootM (ly11_1 kRootM).1 dX11_posts_107 ?_
    refine wp_sipush (nI 471) dX11_posts_110 rfl ?_
    refine wp_aload_n (x := 0) dX11_posts_113 rfl ?_
    refine wp_getR 1 fl_X11_7 (by decide) rfl (kltM kRootM) kRootM (ly11_1 kRootM).1 dX11_posts_114 ?_
    refine wp_sipush (nI 471) dX11_posts_117 rfl ?_
    obtain ⟨c1, h⟩ := chv_some h
    refine wp_ialde (kltM (ly11_1 kRootM).2.1) (ly11_1 kRootM).2.1 (ly11_1 kRootM).2.2 c1 dX11_posts_120 ?_
    refine wp_iconst (nI 1) dX11_posts_121 rfl ?_
    refine wp_iadd dX11_posts_122 ?_
    obtain ⟨c1, h⟩ := chv_some h
    obtain ⟨μ7, e1, h⟩ := lt_some h
    refine wp_iaste e1 (kltM (ly11_1 kRootM).2.1) (ly11_1 kRootM).2.1 (ly11_1 kRootM).2.2 c1 dX11_posts_123 ?_
    obtain rfl := ret1 h
    exact wp_vret rfl dX11_posts_124 ⟨rfl, rfl, rfl⟩
  · rw [if_pos c1] at h
    refine wp_aload_n (x := 0) dX11_posts_13 rfl ?_
    refine wp_getR 1 fl_X11_7 (by decide) rfl (kltM kRootM) kRootM (ly11_1 kRootM).1 dX11_posts_14 ?_
    refine wp_iconst (nI 5) dX11_posts_17 rfl ?_
    refine wp_aload_n (x := 0) dX11_posts_18 rfl ?_
    refine wp_getR 1 fl_X11_7 (by decide) rfl (kltM kRootM) kRootM (ly11_1 kRootM).1 dX11_posts_19 ?_
    refine wp_iconst (nI 5) dX11_posts_22 rfl ?_
    obtain ⟨c1, h⟩ := chv_some h
    refine wp_ialde (kltM (ly11_1 kRootM).2.1) (ly11_1 kRootM).2.1 (ly11_1 kRootM).2.2 c1 dX11_posts_23 ?_
    refine wp_iconst (nI 1) dX11_posts_24 rfl ?_
    refine wp_iadd dX11_posts_25 ?_
    obtain ⟨c1, h⟩ := chv_some h
    obtain ⟨μ8, e1, h⟩ := lt_some h
    refine wp_iaste e1 (kltM (ly11_1 kRootM).2.1) (ly11_1 kRootM).2.1 (ly11_1 kRootM).2.2 c1 dX11_posts_26 ?_
    obtain rfl := ret1 h
    exact wp_vret rfl dX11_posts_27 ⟨rfl, rfl, rfl⟩
theorem ok_M_writesOne {l : Launch} {d : Nat} (hd : 3 ≤ d) (v1 : Int32)  (v2 : Int32)  (μ : Mm) {μ' : Mm} (h : M_writesOne v1 v2 μ = some μ') : Wp l SM d (0, 0) mX11_writesOne 0 [some (.ref 0), some (.int v1), some (.int v2), none, none] [] μ (Qv SM μ') := by
  unfold M_writesOne at h
  refine wp_aload_n (x := 0) dX11_writesOne_0 rfl ?_
  refine wp_iload_n (x := v2) dX11_writesOne_1 rfl ?_
  refine wp_iload_n (x := v1) dX11_writesOne_2 rfl ?_
  obtain ⟨r2, μ1, g1, h⟩ := bnd2_some h
  refine wp_cVi (d := d - 1) (o := 0) cv_X11_321 (kltM kRootM) kRootM (as := [.int v2, .int v1]) (rest := []) dX11_writesOne_3 (by omega) cloM rfl rfl (Nat.le_of_ble_eq_true rfl) (Nat.le_of_ble_eq_true rfl) (ok_M_copyOf (by omega) v2 v1 μ g1) ?_ rfl
  refine wp_istore_n (L2 := [some (.ref 0), some (.int v1), some (.int v2), some (.int r2), none]) dX11_writesOne_6 (by decide) rfl rfl ?_
  refine wp_aload_n (x := 0) dX11_writesOne_7 rfl ?_
  refine wp_getR 8 fl_X11_31 (by decide) rfl (kltM kRootM) kRootM (ly11_12 kRootM).1 dX11_writesOne_8 ?_
  refine wp_bipush (nI 9) dX11_writesOne_11 rfl ?_
  refine wp_iload_n (x := v1) dX11_writesOne_13 rfl ?_
  refine wp_imul dX11_writesOne_14 ?_
  refine wp_aload_n (x := 0) dX11_writesOne_15 rfl ?_
  refine wp_getR 1 fl_X11_7 (by decide) rfl (kltM kRootM) kRootM (ly11_1 kRootM).1 dX11_writesOne_16 ?_
  refine wp_sipush (nI 167) dX11_writesOne_19 rfl ?_
  refine wp_iload_n (x := v1) dX11_writesOne_22 rfl ?_
  refine wp_iadd dX11_writesOne_23 ?_
  obtain ⟨c1, h⟩ := chv_some h
  refine wp_ialde (kltM (ly11_1 kRootM).2.1) (ly11_1 kRootM).2.1 (ly11_1 kRootM).2.2 c1 dX11_writesOne_24 ?_
  refine wp_iadd dX11_writesOne_25 ?_
  obtain ⟨c1, h⟩ := chv_some h
  refine wp_ialde (kltM (ly11_12 kRootM).2.1) (ly11_12 kRootM).2.1 (ly11_12 kRootM).2.2 c1 dX11_writesOne_26 ?_
  obtain ⟨u3, e1, h⟩ := lt_some h
  rw [← e1]
  refine wp_istore (L2 := [some (.ref 0), some (.int v1), some (.int v2), some (.int r2), some (.int u3)]) dX11_writesOne_27 (by decide) rfl rfl ?_
  refine wp_aload_n (x := 0) dX11_writesOne_29 rfl ?_
  refine wp_iload_n (x := r2) dX11_writesOne_30 rfl ?_
  refine wp_iload_n (x := v1) dX11_writesOne_31 rfl ?_
  refine wp_iload (x := u3) dX11_writesOne_32 rfl ?_
  obtain ⟨μ4, g1, h⟩ := bnd_some h
  refine wp_cVv (d := d - 1) (o := 0) cv_X11_324 (kltM kRootM) kRootM (as := [.int r2, .int v1, .int u3]) (rest := []) dX11_writesOne_34 (by omega) cloM rfl rfl (Nat.le_of_ble_eq_true rfl) (Nat.le_of_ble_eq_true rfl) (ok_M_posts (by omega) r2 v1 u3 μ1 g1) ?_ rfl
  refine wp_aload_n (x := 0) dX11_writesOne_37 rfl ?_
  refine wp_getR 1 fl_X11_7 (by decide) rfl (kltM kRootM) kRootM (ly11_1 kRootM).1 dX11_writesOne_38 ?_
  refine wp_sipush (nI 247) dX11_writesOne_41 rfl ?_
  refine wp_iload_n (x := v1) dX11_writesOne_44 rfl ?_
  refine wp_iadd dX11_writesOne_45 ?_
  refine wp_aload_n (x := 0) dX11_writesOne_46 rfl ?_
  refine wp_getR 1 fl_X11_7 (by decide) rfl (kltM kRootM) kRootM (ly11_1 kRootM).1 dX11_writesOne_47 ?_
  refine wp_sipush (nI 247) dX11_writesOne_50 rfl ?_
  refine wp_iload_n (x := v1) dX11_writesOne_53 rfl ?_
  refine wp_iadd dX11_writesOne_54 ?_
  obtain ⟨c1, h⟩ := chv_some h
  refine wp_ialde (kltM (ly11_1 kRootM).2.1) (ly11_1 kRootM).2.1 (ly11_1 kRootM).2.2 c1 dX11_writesOne_55 ?_
  refine wp_iconst (nI 1) dX11_writesOne_56 rfl ?_
  refine wp_iload (x := u3) dX11_writesOne_57 rfl ?_
  refine wp_ishl dX11_writesOne_59 ?_
  refine wp_ior dX11_writesOne_60 ?_
  obtain ⟨c1, h⟩ := chv_some h
  obtain ⟨μ5, e1, h⟩ := lt_some h
  refine wp_iaste e1 (kltM (ly11_1 kRootM).2.1) (ly11_1 kRootM).2.1 (ly11_1 kRootM).2.2 c1 dX11_writesOne_61 ?_
  refine wp_aload_n (x := 0) dX11_writesOne_62 rfl ?_
  refine wp_getR 1 fl_X11_7 (by decide) rfl (kltM kRootM) kRootM (ly11_1 kRootM).1 dX11_writesOne_63 ?_
  refine wp_sipush (nI 167) dX11_writesOne_66 rfl ?_
  refine wp_iload_n (x := v1) dX11_writesOne_69 rfl ?_
  refine wp_iadd dX11_writesOne_70 ?_
  refine wp_aload_n (x := 0) dX11_writesOne_71 rfl ?_
  refine wp_getR 1 fl_X11_7 (by decide) rfl (kltM kRootM) kRootM (ly11_1 kRootM).1 dX11_writesOne_72 ?_
  refine wp_sipush (nI 167) dX11_writesOne_75 rfl ?_
  refine wp_iload_n (x := v1) dX11_writesOne_78 rfl ?_
  refine wp_iadd dX11_writesOne_79 ?_
  obtain ⟨c1, h⟩ := chv_some h
  refine wp_ialde (kltM (ly11_1 kRootM).2.1) (ly11_1 kRootM).2.1 (ly11_1 kRootM).2.2 c1 dX11_writesOne_80 ?_
  refine wp_iconst (nI 1) dX11_writesOne_81 rfl ?_
  refine wp_iadd dX11_writesOne_82 ?_
  refine wp_aload_n (x := 0) dX11_writesOne_83 rfl ?_
  refine wp_getR 7 fl_X11_28 (by decide) rfl (kltM kRootM) kRootM (ly11_11 kRootM).1 dX11_writesOne_84 ?_
  refine wp_iload_n (x := v1) dX11_writesOne_87 rfl ?_
  obtain ⟨c1, h⟩ := chv_some h
  refine wp_ialde (kltM (ly11_11 kRootM).2.1) (ly11_11 kRootM).2.1 (ly11_11 kRootM).2.2 c1 dX11_writesOne_88 ?_
  obtain ⟨c1, h⟩ := chk_some h
  refine wp_irem dX11_writesOne_89 c1 ?_
  obtain ⟨c1, h⟩ := chv_some h
  obtain ⟨μ6, e1, h⟩ := lt_some h
  refine wp_iaste e1 (kltM (ly11_1 kRootM).2.1) (ly11_1 kRootM).2.1 (ly11_1 kRootM).2.2 c1 dX11_writesOne_90 ?_
  refine wp_aload_n (x := 0) dX11_writesOne_91 rfl ?_
  refine wp_getR 1 fl_X11_7 (by decide) rfl (kltM kRootM) kRootM (ly11_1 kRootM).1 dX11_writesOne_92 ?_
  refine wp_sipush (nI 183) dX11_writesOne_95 rfl ?_
  refine wp_iload_n (x := v1) dX11_writesOne_98 rfl ?_
  refine wp_iadd dX11_writesOne_99 ?_
  refine wp_aload_n (x := 0) dX11_writesOne_100 rfl ?_
  refine wp_getR 1 fl_X11_7 (by decide) rfl (kltM kRootM) kRootM (ly11_1 kRootM).1 dX11_writesOne_101 ?_
  refine wp_sipush (nI 183) dX11_writesOne_104 rfl ?_
  refine wp_iload_n (x := v1) dX11_writesOne_107 rfl ?_
  refine wp_iadd dX11_writesOne_108 ?_
  obtain ⟨c1, h⟩ := chv_some h
  refine wp_ialde (kltM (ly11_1 kRootM).2.1) (ly11_1 kRootM).2.1 (ly11_1 kRootM).2.2 c1 dX11_writesOne_109 ?_
  refine wp_iconst (nI 1) dX11_writesOne_110 rfl ?_
  refine wp_isub dX11_writesOne_111 ?_
  obtain ⟨c1, h⟩ := chv_some h
  obtain ⟨μ7, e1, h⟩ := lt_some h
  refine wp_iaste e1 (kltM (ly11_1 kRootM).2.1) (ly11_1 kRootM).2.1 (ly11_1 kRootM).2.2 c1 dX11_writesOne_112 ?_
  obtain rfl := ret1 h
  exact wp_vret rfl dX11_writesOne_113 ⟨rfl, rfl, rfl⟩
theorem ok_M_least {l : Launch} {d : Nat} (hd : 1 ≤ d) (v1 : Int32)  (v2 : Int32)  (μ : Mm) {r : Int32} (h : M_least v1 v2 = some r) : Wp l SM d (0, 0) mX11_least 0 [some (.ref 0), some (.int v1), some (.int v2)] [] μ (Qi SM r μ) := by
  unfold M_least at h
  refine wp_iload_n (x := v1) dX11_least_0 rfl ?_
  refine wp_iload_n (x := v2) dX11_least_1 rfl ?_
  refine wp_icmp_ge 9 dX11_least_2 (by decide) (fun c1 => ?_) (fun c1 => ?_)
  · rw [if_pos c1] at h
    refine wp_iload_n (x := v2) dX11_least_9 rfl ?_
    obtain rfl := ret1 h
    exact wp_iret rfl dX11_least_10 ⟨rfl, rfl, rfl⟩
  · rw [if_neg c1] at h
    refine wp_iload_n (x := v1) dX11_least_5 rfl ?_
    refine wp_goto 10 dX11_least_6 (by decide) ?_
    obtain rfl := ret1 h
    exact wp_iret rfl dX11_least_10 ⟨rfl, rfl, rfl⟩
theorem ok_M_writes_l41 {l : Launch} {d : Nat} (hd : 5 ≤ d) (v1 : Int32)  (v2 : Int32)  (v3 : Int32)  (v4 : Int32)  (μ : Mm) {Q : Option Value → Sh → Mm → Prop} (K : (Int32 × Mm) ⊕ Mm → Prop) (hb : ∀ (s : (Int32 × Mm)), K (Sum.inl s) → Wp l SM d (0, 0) mX11_writes 41 [some (.ref 0), some (.int v1), some (.int v2), some (.int v3), some (.int s.1)] [] s.2 Q) (he0 : ∀ (x : Mm) (z3 : Option Value) (z4 : Option Value), K (Sum.inr x) → Wp l SM d (0, 0) mX11_writes 99 [some (.ref 0), some (.int v1), some (.int v2), z3, z4] [] x Q) {z : (Int32 × Mm) ⊕ Mm} (h : M_writes_l41 v1 v2 v3 v4 μ = some z) (hz : K z) : Wp l SM d (0, 0) mX11_writes 41 [some (.ref 0), some (.int v1), some (.int v2), some (.int v3), some (.int v4)] [] μ Q := by
  unfold M_writes_l41 at h
  refine wp_iload (x := v4) dX11_writes_41 rfl ?_
  refine wp_iload_n (x := v3) dX11_writes_43 rfl ?_
  refine wp_icmp_ge 99 dX11_writes_44 (by decide) (fun c1 => ?_) (fun c1 => ?_)
  · rw [if_pos c1] at h
    obtain rfl := some1 h
    exact he0 μ _ _ hz
  · rw [if_neg c1] at h
    refine wp_aload_n (x := 0) dX11_writes_47 rfl ?_
    refine wp_iload_n (x := v1) dX11_writes_48 rfl ?_
    refine wp_aload_n (x := 0) dX11_writes_49 rfl ?_
    refine wp_getR 1 fl_X11_7 (by decide) rfl (kltM kRootM) kRootM (ly11_1 kRootM).1 dX11_writes_50 ?_
    refine wp_aload_n (x := 0) dX11_writes_53 rfl ?_
    refine wp_iload_n (x := v1) dX11_writes_54 rfl ?_
    refine wp_iload_n (x := v2) dX11_writes_55 rfl ?_
    obtain ⟨r6, g1, h⟩ := bnd_some h
    refine wp_cVi (d := d - 1) (o := 0) cv_X11_144 (kltM kRootM) kRootM (as := [.int v1, .int v2]) (rest := [.ref 1, .int v1, .ref 0]) dX11_writes_56 (by omega) cloM rfl rfl (Nat.le_of_ble_eq_true rfl) (Nat.le_of_ble_eq_true rfl) (ok_M_letterAt (by omega) v1 v2 μ g1) ?_ rfl
    refine wp_iconst (nI 0) dX11_writes_59 rfl ?_
    refine wp_iadd dX11_writes_60 ?_
    obtain ⟨c1, h⟩ := chv_some h
    refine wp_ialde (kltM (ly11_1 kRootM).2.1) (ly11_1 kRootM).2.1 (ly11_1 kRootM).2.2 c1 dX11_writes_61 ?_
    obtain ⟨μ7, g1, h⟩ := bnd_some h
    refine wp_cVv (d := d - 1) (o := 0) cv_X11_333 (kltM kRootM) kRootM (as := [.int v1, .int (μ.1 1 (ix (r6 + (nI 0))))]) (rest := []) dX11_writes_62 (by omega) cloM rfl rfl (Nat.le_of_ble_eq_true rfl) (Nat.le_of_ble_eq_true rfl) (ok_M_writesOne (by omega) v1 (μ.1 1 (ix (r6 + (nI 0)))) μ g1) ?_ rfl
    refine wp_aload_n (x := 0) dX11_writes_65 rfl ?_
    refine wp_getR 1 fl_X11_7 (by decide) rfl (kltM kRootM) kRootM (ly11_1 kRootM).1 dX11_writes_66 ?_
    refine wp_aload_n (x := 0) dX11_writes_69 rfl ?_
    refine wp_iload_n (x := v1) dX11_writes_70 rfl ?_
    refine wp_iload_n (x := v2) dX11_writes_71 rfl ?_
    obtain ⟨r8, g1, h⟩ := bnd_some h
    refine wp_cVi (d := d - 1) (o := 0) cv_X11_144 (kltM kRootM) kRootM (as := [.int v1, .int v2]) (rest := [.ref 1]) dX11_writes_72 (by omega) cloM rfl rfl (Nat.le_of_ble_eq_true rfl) (Nat.le_of_ble_eq_true rfl) (ok_M_letterAt (by omega) v1 v2 μ7 g1) ?_ rfl
    refine wp_iconst (nI 3) dX11_writes_75 rfl ?_
    refine wp_iadd dX11_writes_76 ?_
    refine wp_aload_n (x := 0) dX11_writes_77 rfl ?_
    refine wp_getR 1 fl_X11_7 (by decide) rfl (kltM kRootM) kRootM (ly11_1 kRootM).1 dX11_writes_78 ?_
    refine wp_aload_n (x := 0) dX11_writes_81 rfl ?_
    refine wp_iload_n (x := v1) dX11_writes_82 rfl ?_
    refine wp_iload_n (x := v2) dX11_writes_83 rfl ?_
    obtain ⟨r9, g1, h⟩ := bnd_some h
    refine wp_cVi (d := d - 1) (o := 0) cv_X11_144 (kltM kRootM) kRootM (as := [.int v1, .int v2]) (rest := [.ref 1, .int (r8 + (nI 3)), .ref 1]) dX11_writes_84 (by omega) cloM rfl rfl (Nat.le_of_ble_eq_true rfl) (Nat.le_of_ble_eq_true rfl) (ok_M_letterAt (by omega) v1 v2 μ7 g1) ?_ rfl
    refine wp_iconst (nI 3) dX11_writes_87 rfl ?_
    refine wp_iadd dX11_writes_88 ?_
    obtain ⟨c1, h⟩ := chv_some h
    refine wp_ialde (kltM (ly11_1 kRootM).2.1) (ly11_1 kRootM).2.1 (ly11_1 kRootM).2.2 c1 dX11_writes_89 ?_
    refine wp_iconst (nI 1) dX11_writes_90 rfl ?_
    refine wp_isub dX11_writes_91 ?_
    obtain ⟨c1, h⟩ := chv_some h
    obtain ⟨μ10, e1, h⟩ := lt_some h
    refine wp_iaste e1 (kltM (ly11_1 kRootM).2.1) (ly11_1 kRootM).2.1 (ly11_1 kRootM).2.2 c1 dX11_writes_92 ?_
    refine wp_iinc (x := v4) (k0 := (nI 1)) (L2 := [some (.ref 0), some (.int v1), some (.int v2), some (.int v3), some (.int (v4 + (nI 1)))]) dX11_writes_93 rfl rfl (by decide) rfl rfl ?_
    refine wp_goto 41 dX11_writes_96 (by decide) ?_
    obtain rfl := some1 h
    exact hb ((v4 + (nI 1)), μ10) hz
theorem okl_M_writes_l41 {l : Launch} {d : Nat} (hd : 5 ≤ d) (v1 : Int32)  (v2 : Int32)  (v3 : Int32)  {Q : Option Value → Sh → Mm → Prop} (K : Mm → Prop) (he0 : ∀ (x : Mm) (z3 : Option Value) (z4 : Option Value), K x → Wp l SM d (0, 0) mX11_writes 99 [some (.ref 0), some (.int v1), some (.int v2), z3, z4] [] x Q) : ∀ (n : Nat) (s : (Int32 × Mm)) (y : Mm) , iter n (fun s => M_writes_l41 v1 v2 v3 s.1 s.2) s = some y → K y → Wp l SM d (0, 0) mX11_writes 41 [some (.ref 0), some (.int v1), some (.int v2), some (.int v3), some (.int s.1)] [] s.2 Q := by
  intro n
  induction n with
  | zero => intro s y  h; cases h
  | succ n ih =>
    intro s y  h hK
    obtain ⟨z, hz, hn⟩ := iter_some h
    refine ok_M_writes_l41 hd v1 v2 v3 s.1 s.2 (fun z => nxt n (fun s => M_writes_l41 v1 v2 v3 s.1 s.2) z y) ?_ ?_ hz hn
    · intro s2  h2
      exact ih s2 y h2 hK
    · intro x z3 z4 h2
      have h3 : x = y := h2
      subst h3
      exact he0 x _ _ hK
theorem ok_M_writes {l : Launch} {d : Nat} (hd : 5 ≤ d) (v1 : Int32)  (v2 : Int32)  (μ : Mm) {r : Int32} {μ' : Mm} (h : M_writes v1 v2 μ = some (r, μ')) : Wp l SM d (0, 0) mX11_writes 0 [some (.ref 0), some (.int v1), some (.int v2), none, none] [] μ (Qi SM r μ') := by
  unfold M_writes at h
  refine wp_aload_n (x := 0) dX11_writes_0 rfl ?_
  refine wp_aload_n (x := 0) dX11_writes_1 rfl ?_
  refine wp_iload_n (x := v1) dX11_writes_2 rfl ?_
  refine wp_iload_n (x := v2) dX11_writes_3 rfl ?_
  obtain ⟨r2, μ1, g1, h⟩ := bnd2_some h
  refine wp_cVi (d := d - 1) (o := 0) cv_X11_327 (kltM kRootM) kRootM (as := [.int v1, .int v2]) (rest := [.ref 0]) dX11_writes_4 (by omega) cloM rfl rfl (Nat.le_of_ble_eq_true rfl) (Nat.le_of_ble_eq_true rfl) (ok_M_writeOf (by omega) v1 v2 μ g1) ?_ rfl
  refine wp_aload_n (x := 0) dX11_writes_7 rfl ?_
  refine wp_aload_n (x := 0) dX11_writes_8 rfl ?_
  refine wp_getR 1 fl_X11_7 (by decide) rfl (kltM kRootM) kRootM (ly11_1 kRootM).1 dX11_writes_9 ?_
  refine wp_aload_n (x := 0) dX11_writes_12 rfl ?_
  refine wp_iload_n (x := v1) dX11_writes_13 rfl ?_
  refine wp_iload_n (x := v2) dX11_writes_14 rfl ?_
  obtain ⟨r3, g1, h⟩ := bnd_some h
  refine wp_cVi (d := d - 1) (o := 0) cv_X11_144 (kltM kRootM) kRootM (as := [.int v1, .int v2]) (rest := [.ref 1, .ref 0, .int r2, .ref 0]) dX11_writes_15 (by omega) cloM rfl rfl (Nat.le_of_ble_eq_true rfl) (Nat.le_of_ble_eq_true rfl) (ok_M_letterAt (by omega) v1 v2 μ1 g1) ?_ rfl
  refine wp_iconst (nI 3) dX11_writes_18 rfl ?_
  refine wp_iadd dX11_writes_19 ?_
  obtain ⟨c1, h⟩ := chv_some h
  refine wp_ialde (kltM (ly11_1 kRootM).2.1) (ly11_1 kRootM).2.1 (ly11_1 kRootM).2.2 c1 dX11_writes_20 ?_
  refine wp_aload_n (x := 0) dX11_writes_21 rfl ?_
  refine wp_getR 1 fl_X11_7 (by decide) rfl (kltM kRootM) kRootM (ly11_1 kRootM).1 dX11_writes_22 ?_
  refine wp_sipush (nI 183) dX11_writes_25 rfl ?_
  refine wp_iload_n (x := v1) dX11_writes_28 rfl ?_
  refine wp_iadd dX11_writes_29 ?_
  obtain ⟨c1, h⟩ := chv_some h
  refine wp_ialde (kltM (ly11_1 kRootM).2.1) (ly11_1 kRootM).2.1 (ly11_1 kRootM).2.2 c1 dX11_writes_30 ?_
  obtain ⟨r4, g1, h⟩ := bnd_some h
  refine wp_cVi (d := d - 1) (o := 0) cv_X11_330 (kltM kRootM) kRootM (as := [.int (μ1.1 1 (ix (r3 + (nI 3)))), .int (μ1.1 1 (ix ((nI 183) + v1)))]) (rest := [.int r2, .ref 0]) dX11_writes_31 (by omega) cloM rfl rfl (Nat.le_of_ble_eq_true rfl) (Nat.le_of_ble_eq_true rfl) (ok_M_least (by omega) (μ1.1 1 (ix (r3 + (nI 3)))) (μ1.1 1 (ix ((nI 183) + v1))) μ1 g1) ?_ rfl
  obtain ⟨r5, g1, h⟩ := bnd_some h
  refine wp_cVi (d := d - 1) (o := 0) cv_X11_330 (kltM kRootM) kRootM (as := [.int r2, .int r4]) (rest := []) dX11_writes_34 (by omega) cloM rfl rfl (Nat.le_of_ble_eq_true rfl) (Nat.le_of_ble_eq_true rfl) (ok_M_least (by omega) r2 r4 μ1 g1) ?_ rfl
  refine wp_istore_n (L2 := [some (.ref 0), some (.int v1), some (.int v2), some (.int r5), none]) dX11_writes_37 (by decide) rfl rfl ?_
  refine wp_iconst (nI 0) dX11_writes_38 rfl ?_
  refine wp_istore (L2 := [some (.ref 0), some (.int v1), some (.int v2), some (.int r5), some (.int (nI 0))]) dX11_writes_39 (by decide) rfl rfl ?_
  obtain ⟨x41, hi, h⟩ := bni_some h
  refine okl_M_writes_l41 hd v1 v2 r5 (fun z => z = x41) ?_ 1000000 ((nI 0), μ1) x41 hi rfl
  · intro y0 z3 z4 e0
    have e0 : y0 = x41 := e0
    subst e0
    refine wp_aload_n (x := 0) dX11_writes_99 rfl ?_
    refine wp_getR 1 fl_X11_7 (by decide) rfl (kltM kRootM) kRootM (ly11_1 kRootM).1 dX11_writes_100 ?_
    refine wp_aload_n (x := 0) dX11_writes_103 rfl ?_
    refine wp_iload_n (x := v1) dX11_writes_104 rfl ?_
    refine wp_iload_n (x := v2) dX11_writes_105 rfl ?_
    obtain ⟨r11, g1, h⟩ := bnd_some h
    refine wp_cVi (d := d - 1) (o := 0) cv_X11_144 (kltM kRootM) kRootM (as := [.int v1, .int v2]) (rest := [.ref 1]) dX11_writes_106 (by omega) cloM rfl rfl (Nat.le_of_ble_eq_true rfl) (Nat.le_of_ble_eq_true rfl) (ok_M_letterAt (by omega) v1 v2 y0 g1) ?_ rfl
    refine wp_iconst (nI 3) dX11_writes_109 rfl ?_
    refine wp_iadd dX11_writes_110 ?_
    obtain ⟨c1, h⟩ := chv_some h
    refine wp_ialde (kltM (ly11_1 kRootM).2.1) (ly11_1 kRootM).2.1 (ly11_1 kRootM).2.2 c1 dX11_writes_111 ?_
    refine wp_if_le 117 dX11_writes_112 (by decide) (fun c1 => ?_) (fun c1 => ?_)
    · rw [if_pos c1] at h
      refine wp_aload_n (x := 0) dX11_writes_117 rfl ?_
      refine wp_iload_n (x := v1) dX11_writes_118 rfl ?_
      refine wp_iload_n (x := v2) dX11_writes_119 rfl ?_
      obtain ⟨μ12, g1, h⟩ := bnd_some h
      refine wp_cVv (d := d - 1) (o := 0) cv_X11_162 (kltM kRootM) kRootM (as := [.int v1, .int v2]) (rest := []) dX11_writes_120 (by omega) cloM rfl rfl (Nat.le_of_ble_eq_true rfl) (Nat.le_of_ble_eq_true rfl) (ok_M_loses (by omega) v1 v2 y0 g1) ?_ rfl
      refine wp_aload_n (x := 0) dX11_writes_123 rfl ?_
      refine wp_getR 1 fl_X11_7 (by decide) rfl (kltM kRootM) kRootM (ly11_1 kRootM).1 dX11_writes_124 ?_
      refine wp_iconst (nI 3) dX11_writes_127 rfl ?_
      refine wp_aload_n (x := 0) dX11_writes_128 rfl ?_
      refine wp_getR 1 fl_X11_7 (by decide) rfl (kltM kRootM) kRootM (ly11_1 kRootM).1 dX11_writes_129 ?_
      refine wp_iconst (nI 3) dX11_writes_132 rfl ?_
      obtain ⟨c1, h⟩ := chv_some h
      refine wp_ialde (kltM (ly11_1 kRootM).2.1) (ly11_1 kRootM).2.1 (ly11_1 kRootM).2.2 c1 dX11_writes_133 ?_
      refine wp_iconst (nI 1) dX11_writes_134 rfl ?_
      refine wp_iadd dX11_writes_135 ?_
      obtain ⟨c1, h⟩ := chv_some h
      obtain ⟨μ13, e1, h⟩ := lt_some h
      refine wp_iaste e1 (kltM (ly11_1 kRootM).2.1) (ly11_1 kRootM).2.1 (ly11_1 kRootM).2.2 c1 dX11_writes_136 ?_
      refine wp_iconst (nI 1) dX11_writes_137 rfl ?_
      obtain ⟨rfl, rfl⟩ := ret2 h
      exact wp_zret rfl (Or.inr rfl) dX11_writes_138 ⟨rfl, rfl, rfl⟩
    · rw [if_neg c1] at h
      refine wp_iconst (nI 0) dX11_writes_115 rfl ?_
      obtain ⟨rfl, rfl⟩ := ret2 h
      exact wp_zret rfl (Or.inl rfl) dX11_writes_116 ⟨rfl, rfl, rfl⟩
theorem ok_M_allWrite_j72 {l : Launch} {d : Nat} (hd : 6 ≤ d) (v1 : Int32)  (μ : Mm) (z2 : Option Value) {Q : Option Value → Sh → Mm → Prop} (K : (Int32 × Mm) ⊕ Mm → Prop) (hb : ∀ (s : (Int32 × Mm)) (z2 : Option Value), K (Sum.inl s) → Wp l SM d (0, 0) mX11_allWrite 2 [some (.ref 0), some (.int s.1), z2] [] s.2 Q) (he0 : ∀ (x : Mm) (z1 : Option Value) (z2 : Option Value), K (Sum.inr x) → Wp l SM d (0, 0) mX11_allWrite 78 [some (.ref 0), z1, z2] [] x Q) {z : (Int32 × Mm) ⊕ Mm} (h : M_allWrite_j72 v1 μ = some z) (hz : K z) : Wp l SM d (0, 0) mX11_allWrite 72 [some (.ref 0), some (.int v1), z2] [] μ Q := by
  unfold M_allWrite_j72 at h
  refine wp_iinc (x := v1) (k0 := (nI 1)) (L2 := [some (.ref 0), some (.int (v1 + (nI 1))), z2]) dX11_allWrite_72 rfl rfl (by decide) rfl rfl ?_
  refine wp_goto 2 dX11_allWrite_75 (by decide) ?_
  obtain rfl := some1 h
  exact hb ((v1 + (nI 1)), μ) _ hz
theorem ok_M_allWrite_l42 {l : Launch} {d : Nat} (hd : 6 ≤ d) (v1 : Int32)  (v2 : Int32)  (μ : Mm) {Q : Option Value → Sh → Mm → Prop} (K : (Int32 × Mm) ⊕ Mm → Prop) (hb : ∀ (s : (Int32 × Mm)), K (Sum.inl s) → Wp l SM d (0, 0) mX11_allWrite 42 [some (.ref 0), some (.int v1), some (.int s.1)] [] s.2 Q) (he0 : ∀ (x : Mm) (z2 : Option Value), K (Sum.inr x) → Wp l SM d (0, 0) mX11_allWrite 72 [some (.ref 0), some (.int v1), z2] [] x Q) {z : (Int32 × Mm) ⊕ Mm} (h : M_allWrite_l42 v1 v2 μ = some z) (hz : K z) : Wp l SM d (0, 0) mX11_allWrite 42 [some (.ref 0), some (.int v1), some (.int v2)] [] μ Q := by
  unfold M_allWrite_l42 at h
  refine wp_iload_n (x := v2) dX11_allWrite_42 rfl ?_
  refine wp_aload_n (x := 0) dX11_allWrite_43 rfl ?_
  refine wp_getR 1 fl_X11_7 (by decide) rfl (kltM kRootM) kRootM (ly11_1 kRootM).1 dX11_allWrite_44 ?_
  refine wp_sipush (nI 263) dX11_allWrite_47 rfl ?_
  refine wp_iload_n (x := v1) dX11_allWrite_50 rfl ?_
  refine wp_iadd dX11_allWrite_51 ?_
  obtain ⟨c1, h⟩ := chv_some h
  refine wp_ialde (kltM (ly11_1 kRootM).2.1) (ly11_1 kRootM).2.1 (ly11_1 kRootM).2.2 c1 dX11_allWrite_52 ?_
  refine wp_icmp_ge 72 dX11_allWrite_53 (by decide) (fun c1 => ?_) (fun c1 => ?_)
  · rw [if_pos c1] at h
    obtain rfl := some1 h
    exact he0 μ _ hz
  · rw [if_neg c1] at h
    refine wp_aload_n (x := 0) dX11_allWrite_56 rfl ?_
    refine wp_iload_n (x := v1) dX11_allWrite_57 rfl ?_
    refine wp_iload_n (x := v2) dX11_allWrite_58 rfl ?_
    obtain ⟨r3, μ2, g1, h⟩ := bnd2_some h
    refine wp_cVi (d := d - 1) (o := 0) cv_X11_339 (kltM kRootM) kRootM (as := [.int v1, .int v2]) (rest := []) dX11_allWrite_59 (by omega) cloM rfl rfl (Nat.le_of_ble_eq_true rfl) (Nat.le_of_ble_eq_true rfl) (ok_M_writes (by omega) v1 v2 μ g1) ?_ rfl
    refine wp_if_ne 42 dX11_allWrite_62 (by decide) (fun c1 => ?_) (fun c1 => ?_)
    · rw [if_neg c1] at h
      obtain rfl := some1 h
      exact hb (v2, μ2) hz
    · rw [if_pos c1] at h
      refine wp_iload_n (x := v2) dX11_allWrite_65 rfl ?_
      refine wp_iconst (nI 1) dX11_allWrite_66 rfl ?_
      refine wp_iadd dX11_allWrite_67 ?_
      refine wp_istore_n (L2 := [some (.ref 0), some (.int v1), some (.int (v2 + (nI 1)))]) dX11_allWrite_68 (by decide) rfl rfl ?_
      refine wp_goto 42 dX11_allWrite_69 (by decide) ?_
      obtain rfl := some1 h
      exact hb ((v2 + (nI 1)), μ2) hz
theorem okl_M_allWrite_l42 {l : Launch} {d : Nat} (hd : 6 ≤ d) (v1 : Int32)  {Q : Option Value → Sh → Mm → Prop} (K : Mm → Prop) (he0 : ∀ (x : Mm) (z2 : Option Value), K x → Wp l SM d (0, 0) mX11_allWrite 72 [some (.ref 0), some (.int v1), z2] [] x Q) : ∀ (n : Nat) (s : (Int32 × Mm)) (y : Mm) , iter n (fun s => M_allWrite_l42 v1 s.1 s.2) s = some y → K y → Wp l SM d (0, 0) mX11_allWrite 42 [some (.ref 0), some (.int v1), some (.int s.1)] [] s.2 Q := by
  intro n
  induction n with
  | zero => intro s y  h; cases h
  | succ n ih =>
    intro s y  h hK
    obtain ⟨z, hz, hn⟩ := iter_some h
    refine ok_M_allWrite_l42 hd v1 s.1 s.2 (fun z => nxt n (fun s => M_allWrite_l42 v1 s.1 s.2) z y) ?_ ?_ hz hn
    · intro s2  h2
      exact ih s2 y h2 hK
    · intro x z2 h2
      have h3 : x = y := h2
      subst h3
      exact he0 x _ hK
theorem ok_M_allWrite_l2 {l : Launch} {d : Nat} (hd : 6 ≤ d) (v1 : Int32)  (μ : Mm) (z2 : Option Value) {Q : Option Value → Sh → Mm → Prop} (K : (Int32 × Mm) ⊕ Mm → Prop) (hb : ∀ (s : (Int32 × Mm)) (z2 : Option Value), K (Sum.inl s) → Wp l SM d (0, 0) mX11_allWrite 2 [some (.ref 0), some (.int s.1), z2] [] s.2 Q) (he0 : ∀ (x : Mm) (z1 : Option Value) (z2 : Option Value), K (Sum.inr x) → Wp l SM d (0, 0) mX11_allWrite 78 [some (.ref 0), z1, z2] [] x Q) {z : (Int32 × Mm) ⊕ Mm} (h : M_allWrite_l2 v1 μ = some z) (hz : K z) : Wp l SM d (0, 0) mX11_allWrite 2 [some (.ref 0), some (.int v1), z2] [] μ Q := by
  unfold M_allWrite_l2 at h
  refine wp_iload_n (x := v1) dX11_allWrite_2 rfl ?_
  refine wp_aload_n (x := 0) dX11_allWrite_3 rfl ?_
  refine wp_getI fl_X11_107 (by decide) rfl (kltM kRootM) kRootM dX11_allWrite_4 ?_
  refine wp_icmp_ge 78 dX11_allWrite_7 (by decide) (fun c1 => ?_) (fun c1 => ?_)
  · rw [if_pos c1] at h
    obtain rfl := some1 h
    exact he0 μ _ _ hz
  · rw [if_neg c1] at h
    refine wp_aload_n (x := 0) dX11_allWrite_10 rfl ?_
    refine wp_getR 5 fl_X11_22 (by decide) rfl (kltM kRootM) kRootM (ly11_8 kRootM).1 dX11_allWrite_11 ?_
    refine wp_iload_n (x := v1) dX11_allWrite_14 rfl ?_
    obtain ⟨c1, h⟩ := chv_some h
    refine wp_ialde (kltM (ly11_8 kRootM).2.1) (ly11_8 kRootM).2.1 (ly11_8 kRootM).2.2 c1 dX11_allWrite_15 ?_
    refine wp_iconst (nI 2) dX11_allWrite_16 rfl ?_
    refine wp_icmp_eq 72 dX11_allWrite_17 (by decide) (fun c1 => ?_) (fun c1 => ?_)
    · rw [if_pos c1] at h
      exact ok_M_allWrite_j72 hd v1 μ _ K hb he0 h hz
    · rw [if_neg c1] at h
      refine wp_aload_n (x := 0) dX11_allWrite_20 rfl ?_
      refine wp_iload_n (x := v1) dX11_allWrite_21 rfl ?_
      obtain ⟨r1, g1, h⟩ := bnd_some h
      refine wp_cVi (d := d - 1) (o := 0) cv_X11_336 (kltM kRootM) kRootM (as := [.int v1]) (rest := []) dX11_allWrite_22 (by omega) cloM rfl rfl (Nat.le_of_ble_eq_true rfl) (Nat.le_of_ble_eq_true rfl) (ok_M_isStopped (by omega) v1 μ g1) ?_ rfl
      refine wp_if_ne 72 dX11_allWrite_25 (by decide) (fun c1 => ?_) (fun c1 => ?_)
      · rw [if_neg c1] at h
        exact ok_M_allWrite_j72 hd v1 μ _ K hb he0 h hz
      · rw [if_pos c1] at h
        refine wp_aload_n (x := 0) dX11_allWrite_28 rfl ?_
        refine wp_getR 7 fl_X11_28 (by decide) rfl (kltM kRootM) kRootM (ly11_11 kRootM).1 dX11_allWrite_29 ?_
        refine wp_iload_n (x := v1) dX11_allWrite_32 rfl ?_
        obtain ⟨c1, h⟩ := chv_some h
        refine wp_ialde (kltM (ly11_11 kRootM).2.1) (ly11_11 kRootM).2.1 (ly11_11 kRootM).2.2 c1 dX11_allWrite_33 ?_
        refine wp_if_ne 40 dX11_allWrite_34 (by decide) (fun c1 => ?_) (fun c1 => ?_)
        · rw [if_neg c1] at h
          refine wp_iconst (nI 0) dX11_allWrite_40 rfl ?_
          refine wp_istore_n (L2 := [some (.ref 0), some (.int v1), some (.int (nI 0))]) dX11_allWrite_41 (by decide) rfl rfl ?_
          obtain ⟨x42, hi, h⟩ := bni_some h
          refine okl_M_allWrite_l42 hd v1 (fun z => z = x42) ?_ 1000000 ((nI 0), μ) x42 hi rfl
          · intro y0 z2 e0
            have e0 : y0 = x42 := e0
            subst e0
            exact ok_M_allWrite_j72 hd v1 y0 _ K hb he0 h hz
        · rw [if_pos c1] at h
          refine wp_goto 72 dX11_allWrite_37 (by decide) ?_
          exact ok_M_allWrite_j72 hd v1 μ _ K hb he0 h hz
theorem okl_M_allWrite_l2 {l : Launch} {d : Nat} (hd : 6 ≤ d) {Q : Option Value → Sh → Mm → Prop} (K : Mm → Prop) (he0 : ∀ (x : Mm) (z1 : Option Value) (z2 : Option Value), K x → Wp l SM d (0, 0) mX11_allWrite 78 [some (.ref 0), z1, z2] [] x Q) : ∀ (n : Nat) (s : (Int32 × Mm)) (y : Mm) (z2 : Option Value) , iter n (fun s => M_allWrite_l2 s.1 s.2) s = some y → K y → Wp l SM d (0, 0) mX11_allWrite 2 [some (.ref 0), some (.int s.1), z2] [] s.2 Q := by
  intro n
  induction n with
  | zero => intro s y z2 h; cases h
  | succ n ih =>
    intro s y z2 h hK
    obtain ⟨z, hz, hn⟩ := iter_some h
    refine ok_M_allWrite_l2 hd s.1 s.2 _ (fun z => nxt n (fun s => M_allWrite_l2 s.1 s.2) z y) ?_ ?_ hz hn
    · intro s2 z2 h2
      exact ih s2 y _ h2 hK
    · intro x z1 z2 h2
      have h3 : x = y := h2
      subst h3
      exact he0 x _ _ hK
theorem ok_M_allWrite {l : Launch} {d : Nat} (hd : 6 ≤ d) (μ : Mm) {μ' : Mm} (h : M_allWrite μ = some μ') : Wp l SM d (0, 0) mX11_allWrite 0 [some (.ref 0), none, none] [] μ (Qv SM μ') := by
  unfold M_allWrite at h
  refine wp_iconst (nI 0) dX11_allWrite_0 rfl ?_
  refine wp_istore_n (L2 := [some (.ref 0), some (.int (nI 0)), none]) dX11_allWrite_1 (by decide) rfl rfl ?_
  obtain ⟨x2, hi, h⟩ := bni_some h
  refine okl_M_allWrite_l2 hd  (fun z => z = x2) ?_ 1000000 ((nI 0), μ) x2 _ hi rfl
  · intro y0 z1 z2 e0
    have e0 : y0 = x2 := e0
    subst e0
    obtain rfl := ret1 h
    exact wp_vret rfl dX11_allWrite_78 ⟨rfl, rfl, rfl⟩
theorem ok_M_cursesOne_j36 {l : Launch} {d : Nat} (hd : 5 ≤ d) (v1 : Int32)  (v2 : Int32)  (s1 : Int32) (s2 : Int32) (μ : Mm) (z3 : Option Value) {μ' : Mm} (h : M_cursesOne_j36 v1 v2 s1 s2 μ = some μ') : Wp l SM d (0, 0) mX11_cursesOne 36 [some (.ref 0), some (.int v1), some (.int v2), z3] [.int s2, .int s1, .ref 1] μ (Qv SM μ') := by
  unfold M_cursesOne_j36 at h
  obtain ⟨c1, h⟩ := chv_some h
  obtain ⟨μ3, e1, h⟩ := lt_some h
  refine wp_iaste e1 (kltM (ly11_1 kRootM).2.1) (ly11_1 kRootM).2.1 (ly11_1 kRootM).2.2 c1 dX11_cursesOne_36 ?_
  refine wp_aload_n (x := 0) dX11_cursesOne_37 rfl ?_
  refine wp_getR 1 fl_X11_7 (by decide) rfl (kltM kRootM) kRootM (ly11_1 kRootM).1 dX11_cursesOne_38 ?_
  refine wp_iconst (nI 4) dX11_cursesOne_41 rfl ?_
  refine wp_aload_n (x := 0) dX11_cursesOne_42 rfl ?_
  refine wp_getR 1 fl_X11_7 (by decide) rfl (kltM kRootM) kRootM (ly11_1 kRootM).1 dX11_cursesOne_43 ?_
  refine wp_iconst (nI 4) dX11_cursesOne_46 rfl ?_
  obtain ⟨c1, h⟩ := chv_some h
  refine wp_ialde (kltM (ly11_1 kRootM).2.1) (ly11_1 kRootM).2.1 (ly11_1 kRootM).2.2 c1 dX11_cursesOne_47 ?_
  refine wp_iconst (nI 1) dX11_cursesOne_48 rfl ?_
  refine wp_iadd dX11_cursesOne_49 ?_
  obtain ⟨c1, h⟩ := chv_some h
  obtain ⟨μ4, e1, h⟩ := lt_some h
  refine wp_iaste e1 (kltM (ly11_1 kRootM).2.1) (ly11_1 kRootM).2.1 (ly11_1 kRootM).2.2 c1 dX11_cursesOne_50 ?_
  refine wp_aload_n (x := 0) dX11_cursesOne_51 rfl ?_
  refine wp_iload_n (x := v1) dX11_cursesOne_52 rfl ?_
  refine wp_iload_n (x := v2) dX11_cursesOne_53 rfl ?_
  obtain ⟨μ5, g1, h⟩ := bnd_some h
  refine wp_cVv (d := d - 1) (o := 0) cv_X11_162 (kltM kRootM) kRootM (as := [.int v1, .int v2]) (rest := []) dX11_cursesOne_54 (by omega) cloM rfl rfl (Nat.le_of_ble_eq_true rfl) (Nat.le_of_ble_eq_true rfl) (ok_M_loses (by omega) v1 v2 μ4 g1) ?_ rfl
  obtain rfl := ret1 h
  exact wp_vret rfl dX11_cursesOne_57 ⟨rfl, rfl, rfl⟩
theorem ok_M_cursesOne {l : Launch} {d : Nat} (hd : 5 ≤ d) (v1 : Int32)  (v2 : Int32)  (μ : Mm) {μ' : Mm} (h : M_cursesOne v1 v2 μ = some μ') : Wp l SM d (0, 0) mX11_cursesOne 0 [some (.ref 0), some (.int v1), some (.int v2), none] [] μ (Qv SM μ') := by
  unfold M_cursesOne at h
  refine wp_aload_n (x := 0) dX11_cursesOne_0 rfl ?_
  refine wp_getR 1 fl_X11_7 (by decide) rfl (kltM kRootM) kRootM (ly11_1 kRootM).1 dX11_cursesOne_1 ?_
  refine wp_sipush (nI 199) dX11_cursesOne_4 rfl ?_
  refine wp_iload_n (x := v1) dX11_cursesOne_7 rfl ?_
  refine wp_iadd dX11_cursesOne_8 ?_
  obtain ⟨c1, h⟩ := chv_some h
  refine wp_ialde (kltM (ly11_1 kRootM).2.1) (ly11_1 kRootM).2.1 (ly11_1 kRootM).2.2 c1 dX11_cursesOne_9 ?_
  refine wp_aload_n (x := 0) dX11_cursesOne_10 rfl ?_
  refine wp_iload_n (x := v1) dX11_cursesOne_11 rfl ?_
  refine wp_iload_n (x := v2) dX11_cursesOne_12 rfl ?_
  obtain ⟨r2, μ1, g1, h⟩ := bnd2_some h
  refine wp_cVi (d := d - 1) (o := 0) cv_X11_342 (kltM kRootM) kRootM (as := [.int v1, .int v2]) (rest := [.int (μ.1 1 (ix ((nI 199) + v1)))]) dX11_cursesOne_13 (by omega) cloM rfl rfl (Nat.le_of_ble_eq_true rfl) (Nat.le_of_ble_eq_true rfl) (ok_M_illOf (by omega) v1 v2 μ g1) ?_ rfl
  refine wp_isub dX11_cursesOne_16 ?_
  refine wp_istore_n (L2 := [some (.ref 0), some (.int v1), some (.int v2), some (.int ((μ.1 1 (ix ((nI 199) + v1))) - r2))]) dX11_cursesOne_17 (by decide) rfl rfl ?_
  refine wp_aload_n (x := 0) dX11_cursesOne_18 rfl ?_
  refine wp_getR 1 fl_X11_7 (by decide) rfl (kltM kRootM) kRootM (ly11_1 kRootM).1 dX11_cursesOne_19 ?_
  refine wp_sipush (nI 199) dX11_cursesOne_22 rfl ?_
  refine wp_iload_n (x := v1) dX11_cursesOne_25 rfl ?_
  refine wp_iadd dX11_cursesOne_26 ?_
  refine wp_iload_n (x := ((μ.1 1 (ix ((nI 199) + v1))) - r2)) dX11_cursesOne_27 rfl ?_
  refine wp_if_ge 35 dX11_cursesOne_28 (by decide) (fun c1 => ?_) (fun c1 => ?_)
  · rw [if_pos c1] at h
    refine wp_iload_n (x := ((μ.1 1 (ix ((nI 199) + v1))) - r2)) dX11_cursesOne_35 rfl ?_
    exact ok_M_cursesOne_j36 hd v1 v2 ((nI 199) + v1) ((μ.1 1 (ix ((nI 199) + v1))) - r2) μ1 _ h
  · rw [if_neg c1] at h
    refine wp_iconst (nI 0) dX11_cursesOne_31 rfl ?_
    refine wp_goto 36 dX11_cursesOne_32 (by decide) ?_
    exact ok_M_cursesOne_j36 hd v1 v2 ((nI 199) + v1) (nI 0) μ1 _ h
