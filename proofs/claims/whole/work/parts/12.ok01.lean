theorem ok_Reader_findTokens_j122 {l : Launch} {d : Nat} (hd : 11 ≤ d) (v0 : Nat) (t0 : sK SC v0 = 6) (v2 : Int32)  (v3 : Int32)  (μ : Mm) (z1 : Option Value) {Q : Option Value → Sh → Mm → Prop} (K : (Int32 × Int32 × Mm) ⊕ Mm → Prop) (hb : ∀ (s : (Int32 × Int32 × Mm)) (z3 : Option Value), K (Sum.inl s) → Wp l SC d (0, 0) mX6_findTokens 9 [some (.ref v0), some (.int s.1), some (.int s.2.1), z3] [] s.2.2 Q) (he0 : ∀ (x : Mm) (z1 : Option Value) (z2 : Option Value) (z3 : Option Value), K (Sum.inr x) → Wp l SC d (0, 0) mX6_findTokens 130 [some (.ref v0), z1, z2, z3] [] x Q) {z : (Int32 × Int32 × Mm) ⊕ Mm} (h : Reader_findTokens_j122 v0 v2 v3 μ = some z) (hz : K z) : Wp l SC d (0, 0) mX6_findTokens 122 [some (.ref v0), z1, some (.int v2), some (.int v3)] [] μ Q := by
  unfold Reader_findTokens_j122 at h
  refine wp_iload_n (x := v3) dX6_findTokens_122 rfl ?_
  refine wp_istore_n (L2 := [some (.ref v0), some (.int v3), some (.int v2), some (.int v3)]) dX6_findTokens_123 (by decide) rfl rfl ?_
  refine wp_iinc (x := v2) (k0 := (nI 1)) (L2 := [some (.ref v0), some (.int v3), some (.int (v2 + (nI 1))), some (.int v3)]) dX6_findTokens_124 rfl rfl (by decide) rfl rfl ?_
  refine wp_goto 9 dX6_findTokens_127 (by decide) ?_
  obtain rfl := some1 h
  exact hb (v3, (v2 + (nI 1)), μ) _ hz
theorem ok_Reader_findTokens_j101 {l : Launch} {d : Nat} (hd : 11 ≤ d) (v0 : Nat) (t0 : sK SC v0 = 6) (v1 : Int32)  (v2 : Int32)  (v3 : Int32)  (s0 : Nat) (ts0 : sK SC s0 = 12) (s1 : Int32) (s2 : Int32) (μ : Mm) {Q : Option Value → Sh → Mm → Prop} (K : (Int32 × Int32 × Mm) ⊕ Mm → Prop) (hb : ∀ (s : (Int32 × Int32 × Mm)) (z3 : Option Value), K (Sum.inl s) → Wp l SC d (0, 0) mX6_findTokens 9 [some (.ref v0), some (.int s.1), some (.int s.2.1), z3] [] s.2.2 Q) (he0 : ∀ (x : Mm) (z1 : Option Value) (z2 : Option Value) (z3 : Option Value), K (Sum.inr x) → Wp l SC d (0, 0) mX6_findTokens 130 [some (.ref v0), z1, z2, z3] [] x Q) {z : (Int32 × Int32 × Mm) ⊕ Mm} (h : Reader_findTokens_j101 v0 v1 v2 v3 s0 s1 s2 μ = some z) (hz : K z) : Wp l SC d (0, 0) mX6_findTokens 101 [some (.ref v0), some (.int v1), some (.int v2), some (.int v3)] [.int s2, .int s1, .ref s0] μ Q := by
  unfold Reader_findTokens_j101 at h
  obtain ⟨c1, h⟩ := chv_some h
  obtain ⟨μ5, e1, h⟩ := lt_some h
  refine wp_iaste e1 (kltC ts0) ts0 rfl c1 dX6_findTokens_101 ?_
  refine wp_aload_n (x := v0) dX6_findTokens_102 rfl ?_
  refine wp_getR (v0 + 4) fl_X6_25 (by decide) rfl (kltC t0) t0 (ly6_6 t0).1 dX6_findTokens_103 ?_
  refine wp_aload_n (x := v0) dX6_findTokens_106 rfl ?_
  refine wp_getI fl_X6_58 (by decide) rfl (kltC t0) t0 dX6_findTokens_107 ?_
  refine wp_iload_n (x := v1) dX6_findTokens_110 rfl ?_
  obtain ⟨c1, h⟩ := chv_some h
  obtain ⟨μ6, e1, h⟩ := lt_some h
  refine wp_iaste e1 (kltC (ly6_6 t0).2.1) (ly6_6 t0).2.1 (ly6_6 t0).2.2 c1 dX6_findTokens_111 ?_
  refine wp_aload_n (x := v0) dX6_findTokens_112 rfl ?_
  refine wp_dup dX6_findTokens_113 rfl ?_
  refine wp_getI fl_X6_58 (by decide) rfl (kltC t0) t0 dX6_findTokens_114 ?_
  refine wp_iconst (nI 1) dX6_findTokens_117 rfl ?_
  refine wp_iadd dX6_findTokens_118 ?_
  obtain ⟨μ7, e1, h⟩ := lt_some h
  refine wp_putIe e1 fl_X6_58 (by decide) rfl (kltC t0) t0 dX6_findTokens_119 ?_
  exact ok_Reader_findTokens_j122 hd v0 t0 v2 v3 μ7 _ K hb he0 h hz
theorem ok_Reader_findTokens_l9 {l : Launch} {d : Nat} (hd : 11 ≤ d) (v0 : Nat) (t0 : sK SC v0 = 6) (v1 : Int32)  (v2 : Int32)  (μ : Mm) (z3 : Option Value) {Q : Option Value → Sh → Mm → Prop} (K : (Int32 × Int32 × Mm) ⊕ Mm → Prop) (hb : ∀ (s : (Int32 × Int32 × Mm)) (z3 : Option Value), K (Sum.inl s) → Wp l SC d (0, 0) mX6_findTokens 9 [some (.ref v0), some (.int s.1), some (.int s.2.1), z3] [] s.2.2 Q) (he0 : ∀ (x : Mm) (z1 : Option Value) (z2 : Option Value) (z3 : Option Value), K (Sum.inr x) → Wp l SC d (0, 0) mX6_findTokens 130 [some (.ref v0), z1, z2, z3] [] x Q) {z : (Int32 × Int32 × Mm) ⊕ Mm} (h : Reader_findTokens_l9 v0 v1 v2 μ = some z) (hz : K z) : Wp l SC d (0, 0) mX6_findTokens 9 [some (.ref v0), some (.int v1), some (.int v2), z3] [] μ Q := by
  unfold Reader_findTokens_l9 at h
  refine wp_iload_n (x := v2) dX6_findTokens_9 rfl ?_
  refine wp_aload_n (x := v0) dX6_findTokens_10 rfl ?_
  refine wp_getI fl_X6_42 (by decide) rfl (kltC t0) t0 dX6_findTokens_11 ?_
  refine wp_icmp_ge 130 dX6_findTokens_14 (by decide) (fun c1 => ?_) (fun c1 => ?_)
  · rw [if_pos c1] at h
    obtain rfl := some1 h
    exact he0 μ _ _ _ hz
  · rw [if_neg c1] at h
    refine wp_iload_n (x := v1) dX6_findTokens_17 rfl ?_
    refine wp_aload_n (x := v0) dX6_findTokens_18 rfl ?_
    refine wp_getI fl_X6_42 (by decide) rfl (kltC t0) t0 dX6_findTokens_19 ?_
    refine wp_icmp_ge 130 dX6_findTokens_22 (by decide) (fun c1 => ?_) (fun c1 => ?_)
    · rw [if_pos c1] at h
      obtain rfl := some1 h
      exact he0 μ _ _ _ hz
    · rw [if_neg c1] at h
      refine wp_aload_n (x := v0) dX6_findTokens_25 rfl ?_
      refine wp_iload_n (x := v1) dX6_findTokens_26 rfl ?_
      obtain ⟨r2, g1, h⟩ := bnd_some h
      refine wp_cVi (d := d - 1) (o := v0) cv_X6_61 (kltC t0) t0 (as := [.int v1]) (rest := []) dX6_findTokens_27 (by omega) cloC rfl rfl (Nat.le_of_ble_eq_true rfl) (Nat.le_of_ble_eq_true rfl) (ok_Reader_endOfToken (by omega) v0 t0 v1 μ g1) ?_ rfl
      refine wp_istore_n (L2 := [some (.ref v0), some (.int v1), some (.int v2), some (.int r2)]) dX6_findTokens_30 (by decide) rfl rfl ?_
      refine wp_aload_n (x := v0) dX6_findTokens_31 rfl ?_
      refine wp_getR (v0 + 1) fl_X6_9 (by decide) rfl (kltC t0) t0 (ly6_0 t0).1 dX6_findTokens_32 ?_
      refine wp_iload_n (x := v1) dX6_findTokens_35 rfl ?_
      obtain ⟨c1, h⟩ := chv_some h
      refine wp_ialde (kltC (ly6_0 t0).2.1) (ly6_0 t0).2.1 (ly6_0 t0).2.2 c1 dX6_findTokens_36 ?_
      refine wp_bipush (nI 32) dX6_findTokens_37 rfl ?_
      refine wp_icmp_eq 122 dX6_findTokens_39 (by decide) (fun c1 => ?_) (fun c1 => ?_)
      · rw [if_pos c1] at h
        exact ok_Reader_findTokens_j122 hd v0 t0 v2 r2 μ _ K hb he0 h hz
      · rw [if_neg c1] at h
        refine wp_aload_n (x := v0) dX6_findTokens_42 rfl ?_
        refine wp_getR (v0 + 1) fl_X6_9 (by decide) rfl (kltC t0) t0 (ly6_0 t0).1 dX6_findTokens_43 ?_
        refine wp_iload_n (x := v1) dX6_findTokens_46 rfl ?_
        obtain ⟨c1, h⟩ := chv_some h
        refine wp_ialde (kltC (ly6_0 t0).2.1) (ly6_0 t0).2.1 (ly6_0 t0).2.2 c1 dX6_findTokens_47 ?_
        refine wp_bipush (nI 10) dX6_findTokens_48 rfl ?_
        refine wp_icmp_eq 122 dX6_findTokens_50 (by decide) (fun c1 => ?_) (fun c1 => ?_)
        · rw [if_pos c1] at h
          exact ok_Reader_findTokens_j122 hd v0 t0 v2 r2 μ _ K hb he0 h hz
        · rw [if_neg c1] at h
          refine wp_aload_n (x := v0) dX6_findTokens_53 rfl ?_
          refine wp_getR (v0 + 2) fl_X6_19 (by decide) rfl (kltC t0) t0 (ly6_4 t0).1 dX6_findTokens_54 ?_
          refine wp_aload_n (x := v0) dX6_findTokens_57 rfl ?_
          refine wp_getI fl_X6_58 (by decide) rfl (kltC t0) t0 dX6_findTokens_58 ?_
          refine wp_aload_n (x := v0) dX6_findTokens_61 rfl ?_
          refine wp_iload_n (x := v1) dX6_findTokens_62 rfl ?_
          refine wp_iload_n (x := r2) dX6_findTokens_63 rfl ?_
          obtain ⟨r3, g1, h⟩ := bnd_some h
          refine wp_cVi (d := d - 1) (o := v0) cv_X6_65 (kltC t0) t0 (as := [.int v1, .int r2]) (rest := [.int (μ.1 v0 7), .ref (v0 + 2)]) dX6_findTokens_64 (by omega) cloC rfl rfl (Nat.le_of_ble_eq_true rfl) (Nat.le_of_ble_eq_true rfl) (ok_Reader_kindOfToken (by omega) v0 t0 v1 r2 μ g1) ?_ rfl
          obtain ⟨c1, h⟩ := chv_some h
          obtain ⟨μ4, e1, h⟩ := lt_some h
          refine wp_iaste e1 (kltC (ly6_4 t0).2.1) (ly6_4 t0).2.1 (ly6_4 t0).2.2 c1 dX6_findTokens_67 ?_
          refine wp_aload_n (x := v0) dX6_findTokens_68 rfl ?_
          refine wp_getR (v0 + 3) fl_X6_22 (by decide) rfl (kltC t0) t0 (ly6_5 t0).1 dX6_findTokens_69 ?_
          refine wp_aload_n (x := v0) dX6_findTokens_72 rfl ?_
          refine wp_getI fl_X6_58 (by decide) rfl (kltC t0) t0 dX6_findTokens_73 ?_
          refine wp_aload_n (x := v0) dX6_findTokens_76 rfl ?_
          refine wp_getR (v0 + 2) fl_X6_19 (by decide) rfl (kltC t0) t0 (ly6_4 t0).1 dX6_findTokens_77 ?_
          refine wp_aload_n (x := v0) dX6_findTokens_80 rfl ?_
          refine wp_getI fl_X6_58 (by decide) rfl (kltC t0) t0 dX6_findTokens_81 ?_
          obtain ⟨c1, h⟩ := chv_some h
          refine wp_ialde (kltC (ly6_4 t0).2.1) (ly6_4 t0).2.1 (ly6_4 t0).2.2 c1 dX6_findTokens_84 ?_
          refine wp_sipush (nI 257) dX6_findTokens_85 rfl ?_
          refine wp_icmp_ne 100 dX6_findTokens_88 (by decide) (fun c1 => ?_) (fun c1 => ?_)
          · rw [if_neg c1] at h
            refine wp_iconst (nI 0) dX6_findTokens_100 rfl ?_
            exact ok_Reader_findTokens_j101 hd v0 t0 v1 v2 r2 (v0 + 3) ((ly6_5 t0).2.1) (μ4.1 v0 7) (nI 0) μ4 K hb he0 h hz
          · rw [if_pos c1] at h
            refine wp_aload_n (x := v0) dX6_findTokens_91 rfl ?_
            refine wp_iload_n (x := v1) dX6_findTokens_92 rfl ?_
            refine wp_iload_n (x := r2) dX6_findTokens_93 rfl ?_
            obtain ⟨r8, g1, h⟩ := bnd_some h
            refine wp_cVi (d := d - 1) (o := v0) cv_X6_69 (kltC t0) t0 (as := [.int v1, .int r2]) (rest := [.int (μ4.1 v0 7), .ref (v0 + 3)]) dX6_findTokens_94 (by omega) cloC rfl rfl (Nat.le_of_ble_eq_true rfl) (Nat.le_of_ble_eq_true rfl) (ok_Reader_valueOfDigits (by omega) v0 t0 v1 r2 μ4 g1) ?_ rfl
            refine wp_goto 101 dX6_findTokens_97 (by decide) ?_
            exact ok_Reader_findTokens_j101 hd v0 t0 v1 v2 r2 (v0 + 3) ((ly6_5 t0).2.1) (μ4.1 v0 7) r8 μ4 K hb he0 h hz
theorem okl_Reader_findTokens_l9 {l : Launch} {d : Nat} (hd : 11 ≤ d) (v0 : Nat) (t0 : sK SC v0 = 6) {Q : Option Value → Sh → Mm → Prop} (K : Mm → Prop) (he0 : ∀ (x : Mm) (z1 : Option Value) (z2 : Option Value) (z3 : Option Value), K x → Wp l SC d (0, 0) mX6_findTokens 130 [some (.ref v0), z1, z2, z3] [] x Q) : ∀ (n : Nat) (s : (Int32 × Int32 × Mm)) (y : Mm) (z3 : Option Value) , iter n (fun s => Reader_findTokens_l9 v0 s.1 s.2.1 s.2.2) s = some y → K y → Wp l SC d (0, 0) mX6_findTokens 9 [some (.ref v0), some (.int s.1), some (.int s.2.1), z3] [] s.2.2 Q := by
  intro n
  induction n with
  | zero => intro s y z3 h; cases h
  | succ n ih =>
    intro s y z3 h hK
    obtain ⟨z, hz, hn⟩ := iter_some h
    refine ok_Reader_findTokens_l9 hd v0 t0 s.1 s.2.1 s.2.2 _ (fun z => nxt n (fun s => Reader_findTokens_l9 v0 s.1 s.2.1 s.2.2) z y) ?_ ?_ hz hn
    · intro s2 z3 h2
      exact ih s2 y _ h2 hK
    · intro x z1 z2 z3 h2
      have h3 : x = y := h2
      subst h3
      exact he0 x _ _ _ hK
theorem ok_Reader_findTokens_j130 {l : Launch} {d : Nat} (hd : 11 ≤ d) (v0 : Nat) (t0 : sK SC v0 = 6) (μ : Mm) (z1 : Option Value) (z2 : Option Value) (z3 : Option Value) {μ' : Mm} (h : Reader_findTokens_j130 v0 μ = some μ') : Wp l SC d (0, 0) mX6_findTokens 130 [some (.ref v0), z1, z2, z3] [] μ (Qv SC μ') := by
  unfold Reader_findTokens_j130 at h
  refine wp_aload_n (x := v0) dX6_findTokens_130 rfl ?_
  refine wp_getR (v0 + 2) fl_X6_19 (by decide) rfl (kltC t0) t0 (ly6_4 t0).1 dX6_findTokens_131 ?_
  refine wp_aload_n (x := v0) dX6_findTokens_134 rfl ?_
  refine wp_getI fl_X6_58 (by decide) rfl (kltC t0) t0 dX6_findTokens_135 ?_
  refine wp_sipush (nI 256) dX6_findTokens_138 rfl ?_
  obtain ⟨c1, h⟩ := chv_some h
  obtain ⟨μ9, e1, h⟩ := lt_some h
  refine wp_iaste e1 (kltC (ly6_4 t0).2.1) (ly6_4 t0).2.1 (ly6_4 t0).2.2 c1 dX6_findTokens_141 ?_
  refine wp_aload_n (x := v0) dX6_findTokens_142 rfl ?_
  refine wp_getR (v0 + 3) fl_X6_22 (by decide) rfl (kltC t0) t0 (ly6_5 t0).1 dX6_findTokens_143 ?_
  refine wp_aload_n (x := v0) dX6_findTokens_146 rfl ?_
  refine wp_getI fl_X6_58 (by decide) rfl (kltC t0) t0 dX6_findTokens_147 ?_
  refine wp_iconst (nI 0) dX6_findTokens_150 rfl ?_
  obtain ⟨c1, h⟩ := chv_some h
  obtain ⟨μ10, e1, h⟩ := lt_some h
  refine wp_iaste e1 (kltC (ly6_5 t0).2.1) (ly6_5 t0).2.1 (ly6_5 t0).2.2 c1 dX6_findTokens_151 ?_
  refine wp_aload_n (x := v0) dX6_findTokens_152 rfl ?_
  refine wp_getR (v0 + 4) fl_X6_25 (by decide) rfl (kltC t0) t0 (ly6_6 t0).1 dX6_findTokens_153 ?_
  refine wp_aload_n (x := v0) dX6_findTokens_156 rfl ?_
  refine wp_getI fl_X6_58 (by decide) rfl (kltC t0) t0 dX6_findTokens_157 ?_
  refine wp_aload_n (x := v0) dX6_findTokens_160 rfl ?_
  refine wp_getI fl_X6_42 (by decide) rfl (kltC t0) t0 dX6_findTokens_161 ?_
  obtain ⟨c1, h⟩ := chv_some h
  obtain ⟨μ11, e1, h⟩ := lt_some h
  refine wp_iaste e1 (kltC (ly6_6 t0).2.1) (ly6_6 t0).2.1 (ly6_6 t0).2.2 c1 dX6_findTokens_164 ?_
  refine wp_aload_n (x := v0) dX6_findTokens_165 rfl ?_
  refine wp_dup dX6_findTokens_166 rfl ?_
  refine wp_getI fl_X6_58 (by decide) rfl (kltC t0) t0 dX6_findTokens_167 ?_
  refine wp_iconst (nI 1) dX6_findTokens_170 rfl ?_
  refine wp_iadd dX6_findTokens_171 ?_
  obtain ⟨μ12, e1, h⟩ := lt_some h
  refine wp_putIe e1 fl_X6_58 (by decide) rfl (kltC t0) t0 dX6_findTokens_172 ?_
  obtain rfl := ret1 h
  exact wp_vret rfl dX6_findTokens_175 ⟨rfl, rfl, rfl⟩
theorem ok_Reader_findTokens {l : Launch} {d : Nat} (hd : 11 ≤ d) (v0 : Nat) (t0 : sK SC v0 = 6) (μ : Mm) {μ' : Mm} (h : Reader_findTokens v0 μ = some μ') : Wp l SC d (0, 0) mX6_findTokens 0 [some (.ref v0), none, none, none] [] μ (Qv SC μ') := by
  unfold Reader_findTokens at h
  refine wp_aload_n (x := v0) dX6_findTokens_0 rfl ?_
  refine wp_iconst (nI 0) dX6_findTokens_1 rfl ?_
  obtain ⟨μ1, e1, h⟩ := lt_some h
  refine wp_putIe e1 fl_X6_58 (by decide) rfl (kltC t0) t0 dX6_findTokens_2 ?_
  refine wp_iconst (nI 0) dX6_findTokens_5 rfl ?_
  refine wp_istore_n (L2 := [some (.ref v0), some (.int (nI 0)), none, none]) dX6_findTokens_6 (by decide) rfl rfl ?_
  refine wp_iconst (nI 0) dX6_findTokens_7 rfl ?_
  refine wp_istore_n (L2 := [some (.ref v0), some (.int (nI 0)), some (.int (nI 0)), none]) dX6_findTokens_8 (by decide) rfl rfl ?_
  obtain ⟨x9, hi, h⟩ := bni_some h
  refine okl_Reader_findTokens_l9 hd v0 t0 (fun z => z = x9) ?_ 1000000 ((nI 0), (nI 0), μ1) x9 _ hi rfl
  · intro y0 z1 z2 z3 e0
    have e0 : y0 = x9 := e0
    subst e0
    exact ok_Reader_findTokens_j130 hd v0 t0 y0 _ _ _ h
theorem ok_Reader_begin {l : Launch} {d : Nat} (hd : 12 ≤ d) (v0 : Nat) (t0 : sK SC v0 = 6) (μ : Mm) {μ' : Mm} (h : Reader_begin v0 μ = some μ') : Wp l SC d (0, 0) mX6_begin 0 [some (.ref v0)] [] μ (Qv SC μ') := by
  unfold Reader_begin at h
  refine wp_aload_n (x := v0) dX6_begin_0 rfl ?_
  refine wp_iconst (nI 0) dX6_begin_1 rfl ?_
  obtain ⟨μ1, e1, h⟩ := lt_some h
  refine wp_putIe e1 fl_X6_49 (by decide) rfl (kltC t0) t0 dX6_begin_2 ?_
  refine wp_aload_n (x := v0) dX6_begin_5 rfl ?_
  refine wp_iconst (-1) dX6_begin_6 rfl ?_
  obtain ⟨μ2, e1, h⟩ := lt_some h
  refine wp_putIe e1 fl_X6_15 (by decide) rfl (kltC t0) t0 dX6_begin_7 ?_
  refine wp_aload_n (x := v0) dX6_begin_10 rfl ?_
  refine wp_iconst (nI 0) dX6_begin_11 rfl ?_
  obtain ⟨μ3, e1, h⟩ := lt_some h
  refine wp_putIe e1 fl_X6_52 (by decide) rfl (kltC t0) t0 dX6_begin_12 ?_
  refine wp_aload_n (x := v0) dX6_begin_15 rfl ?_
  obtain ⟨μ4, g1, h⟩ := bnd_some h
  refine wp_cVv (d := d - 1) (o := v0) cv_X6_55 (kltC t0) t0 (as := []) (rest := []) dX6_begin_16 (by omega) cloC rfl rfl (Nat.le_of_ble_eq_true rfl) (Nat.le_of_ble_eq_true rfl) (ok_Reader_findTokens (by omega) v0 t0 μ3 g1) ?_ rfl
  obtain rfl := ret1 h
  exact wp_vret rfl dX6_begin_19 ⟨rfl, rfl, rfl⟩
theorem ok_Reader_fail {l : Launch} {d : Nat} (hd : 1 ≤ d) (v0 : Nat) (t0 : sK SC v0 = 6) (v1 : Int32)  (μ : Mm) {μ' : Mm} (h : Reader_fail v0 v1 μ = some μ') : Wp l SC d (0, 0) mX6_fail 0 [some (.ref v0), some (.int v1)] [] μ (Qv SC μ') := by
  unfold Reader_fail at h
  refine wp_aload_n (x := v0) dX6_fail_0 rfl ?_
  refine wp_getI fl_X6_49 (by decide) rfl (kltC t0) t0 dX6_fail_1 ?_
  refine wp_if_ne 25 dX6_fail_4 (by decide) (fun c1 => ?_) (fun c1 => ?_)
  · rw [if_neg c1] at h
    obtain rfl := ret1 h
    exact wp_vret rfl dX6_fail_25 ⟨rfl, rfl, rfl⟩
  · rw [if_pos c1] at h
    refine wp_aload_n (x := v0) dX6_fail_7 rfl ?_
    refine wp_iload_n (x := v1) dX6_fail_8 rfl ?_
    obtain ⟨μ1, e1, h⟩ := lt_some h
    refine wp_putIe e1 fl_X6_49 (by decide) rfl (kltC t0) t0 dX6_fail_9 ?_
    refine wp_aload_n (x := v0) dX6_fail_12 rfl ?_
    refine wp_aload_n (x := v0) dX6_fail_13 rfl ?_
    refine wp_getR (v0 + 4) fl_X6_25 (by decide) rfl (kltC t0) t0 (ly6_6 t0).1 dX6_fail_14 ?_
    refine wp_aload_n (x := v0) dX6_fail_17 rfl ?_
    refine wp_getI fl_X6_52 (by decide) rfl (kltC t0) t0 dX6_fail_18 ?_
    obtain ⟨c1, h⟩ := chv_some h
    refine wp_ialde (kltC (ly6_6 t0).2.1) (ly6_6 t0).2.1 (ly6_6 t0).2.2 c1 dX6_fail_21 ?_
    obtain ⟨μ2, e1, h⟩ := lt_some h
    refine wp_putIe e1 fl_X6_15 (by decide) rfl (kltC t0) t0 dX6_fail_22 ?_
    obtain rfl := ret1 h
    exact wp_vret rfl dX6_fail_25 ⟨rfl, rfl, rfl⟩
theorem ok_Reader_takes {l : Launch} {d : Nat} (hd : 1 ≤ d) (v0 : Nat) (t0 : sK SC v0 = 6) (v1 : Int32)  (μ : Mm) {r : Int32} {μ' : Mm} (h : Reader_takes v0 v1 μ = some (r, μ')) : Wp l SC d (0, 0) mX6_takes 0 [some (.ref v0), some (.int v1)] [] μ (Qi SC r μ') := by
  unfold Reader_takes at h
  refine wp_aload_n (x := v0) dX6_takes_0 rfl ?_
  refine wp_getI fl_X6_49 (by decide) rfl (kltC t0) t0 dX6_takes_1 ?_
  refine wp_if_ne 20 dX6_takes_4 (by decide) (fun c1 => ?_) (fun c1 => ?_)
  · rw [if_neg c1] at h
    refine wp_iconst (nI 0) dX6_takes_20 rfl ?_
    obtain ⟨rfl, rfl⟩ := ret2 h
    exact wp_zret rfl (Or.inl rfl) dX6_takes_21 ⟨rfl, rfl, rfl⟩
  · rw [if_pos c1] at h
    refine wp_aload_n (x := v0) dX6_takes_7 rfl ?_
    refine wp_getR (v0 + 2) fl_X6_19 (by decide) rfl (kltC t0) t0 (ly6_4 t0).1 dX6_takes_8 ?_
    refine wp_aload_n (x := v0) dX6_takes_11 rfl ?_
    refine wp_getI fl_X6_52 (by decide) rfl (kltC t0) t0 dX6_takes_12 ?_
    obtain ⟨c1, h⟩ := chv_some h
    refine wp_ialde (kltC (ly6_4 t0).2.1) (ly6_4 t0).2.1 (ly6_4 t0).2.2 c1 dX6_takes_15 ?_
    refine wp_iload_n (x := v1) dX6_takes_16 rfl ?_
    refine wp_icmp_eq 22 dX6_takes_17 (by decide) (fun c1 => ?_) (fun c1 => ?_)
    · rw [if_pos c1] at h
      refine wp_aload_n (x := v0) dX6_takes_22 rfl ?_
      refine wp_dup dX6_takes_23 rfl ?_
      refine wp_getI fl_X6_52 (by decide) rfl (kltC t0) t0 dX6_takes_24 ?_
      refine wp_iconst (nI 1) dX6_takes_27 rfl ?_
      refine wp_iadd dX6_takes_28 ?_
      obtain ⟨μ1, e1, h⟩ := lt_some h
      refine wp_putIe e1 fl_X6_52 (by decide) rfl (kltC t0) t0 dX6_takes_29 ?_
      refine wp_iconst (nI 1) dX6_takes_32 rfl ?_
      obtain ⟨rfl, rfl⟩ := ret2 h
      exact wp_zret rfl (Or.inr rfl) dX6_takes_33 ⟨rfl, rfl, rfl⟩
    · rw [if_neg c1] at h
      refine wp_iconst (nI 0) dX6_takes_20 rfl ?_
      obtain ⟨rfl, rfl⟩ := ret2 h
      exact wp_zret rfl (Or.inl rfl) dX6_takes_21 ⟨rfl, rfl, rfl⟩
theorem ok_Reader_take {l : Launch} {d : Nat} (hd : 2 ≤ d) (v0 : Nat) (t0 : sK SC v0 = 6) (v1 : Int32)  (μ : Mm) {μ' : Mm} (h : Reader_take v0 v1 μ = some μ') : Wp l SC d (0, 0) mX6_take 0 [some (.ref v0), some (.int v1)] [] μ (Qv SC μ') := by
  unfold Reader_take at h
  refine wp_aload_n (x := v0) dX6_take_0 rfl ?_
  refine wp_iload_n (x := v1) dX6_take_1 rfl ?_
  obtain ⟨r2, μ1, g1, h⟩ := bnd2_some h
  refine wp_cVi (d := d - 1) (o := v0) cv_X6_117 (kltC t0) t0 (as := [.int v1]) (rest := []) dX6_take_2 (by omega) cloC rfl rfl (Nat.le_of_ble_eq_true rfl) (Nat.le_of_ble_eq_true rfl) (ok_Reader_takes (by omega) v0 t0 v1 μ g1) ?_ rfl
  refine wp_if_ne 13 dX6_take_5 (by decide) (fun c1 => ?_) (fun c1 => ?_)
  · rw [if_neg c1] at h
    obtain rfl := ret1 h
    exact wp_vret rfl dX6_take_13 ⟨rfl, rfl, rfl⟩
  · rw [if_pos c1] at h
    refine wp_aload_n (x := v0) dX6_take_8 rfl ?_
    refine wp_iconst (nI 1) dX6_take_9 rfl ?_
    obtain ⟨μ3, g1, h⟩ := bnd_some h
    refine wp_cVv (d := d - 1) (o := v0) cv_X6_107 (kltC t0) t0 (as := [.int (nI 1)]) (rest := []) dX6_take_10 (by omega) cloC rfl rfl (Nat.le_of_ble_eq_true rfl) (Nat.le_of_ble_eq_true rfl) (ok_Reader_fail (by omega) v0 t0 (nI 1) μ1 g1) ?_ rfl
    obtain rfl := ret1 h
    exact wp_vret rfl dX6_take_13 ⟨rfl, rfl, rfl⟩
theorem ok_Reader_readUnit_j103 {l : Launch} {d : Nat} (hd : 2 ≤ d) (v0 : Nat) (t0 : sK SC v0 = 6) (μ : Mm) (z1 : Option Value) {μ' : Mm} (h : Reader_readUnit_j103 v0 μ = some μ') : Wp l SC d (0, 0) mX6_readUnit 103 [some (.ref v0), z1] [] μ (Qv SC μ') := by
  unfold Reader_readUnit_j103 at h
  refine wp_aload_n (x := v0) dX6_readUnit_103 rfl ?_
  refine wp_iconst (nI 1) dX6_readUnit_104 rfl ?_
  obtain ⟨μ1, g1, h⟩ := bnd_some h
  refine wp_cVv (d := d - 1) (o := v0) cv_X6_107 (kltC t0) t0 (as := [.int (nI 1)]) (rest := []) dX6_readUnit_105 (by omega) cloC rfl rfl (Nat.le_of_ble_eq_true rfl) (Nat.le_of_ble_eq_true rfl) (ok_Reader_fail (by omega) v0 t0 (nI 1) μ g1) ?_ rfl
  obtain rfl := ret1 h
  exact wp_vret rfl dX6_readUnit_108 ⟨rfl, rfl, rfl⟩
theorem ok_Reader_readUnit {l : Launch} {d : Nat} (hd : 2 ≤ d) (v0 : Nat) (t0 : sK SC v0 = 6) (μ : Mm) {μ' : Mm} (h : Reader_readUnit v0 μ = some μ') : Wp l SC d (0, 0) mX6_readUnit 0 [some (.ref v0), none] [] μ (Qv SC μ') := by
  unfold Reader_readUnit at h
  refine wp_aload_n (x := v0) dX6_readUnit_0 rfl ?_
  refine wp_getR (v0 + 2) fl_X6_19 (by decide) rfl (kltC t0) t0 (ly6_4 t0).1 dX6_readUnit_1 ?_
  refine wp_aload_n (x := v0) dX6_readUnit_4 rfl ?_
  refine wp_getI fl_X6_52 (by decide) rfl (kltC t0) t0 dX6_readUnit_5 ?_
  obtain ⟨c1, h⟩ := chv_some h
  refine wp_ialde (kltC (ly6_4 t0).2.1) (ly6_4 t0).2.1 (ly6_4 t0).2.2 c1 dX6_readUnit_8 ?_
  refine wp_sipush (nI 309) dX6_readUnit_9 rfl ?_
  refine wp_isub dX6_readUnit_12 ?_
  refine wp_istore_n (L2 := [some (.ref v0), some (.int ((μ.1 (v0 + 2) (ix (μ.1 v0 8))) - (nI 309)))]) dX6_readUnit_13 (by decide) rfl rfl ?_
  refine wp_aload_n (x := v0) dX6_readUnit_14 rfl ?_
  refine wp_getI fl_X6_49 (by decide) rfl (kltC t0) t0 dX6_readUnit_15 ?_
  refine wp_if_eq 22 dX6_readUnit_18 (by decide) (fun c1 => ?_) (fun c1 => ?_)
  · rw [if_pos c1] at h
    refine wp_aload_n (x := v0) dX6_readUnit_22 rfl ?_
    refine wp_getR (v0 + 2) fl_X6_19 (by decide) rfl (kltC t0) t0 (ly6_4 t0).1 dX6_readUnit_23 ?_
    refine wp_aload_n (x := v0) dX6_readUnit_26 rfl ?_
    refine wp_getI fl_X6_52 (by decide) rfl (kltC t0) t0 dX6_readUnit_27 ?_
    obtain ⟨c1, h⟩ := chv_some h
    refine wp_ialde (kltC (ly6_4 t0).2.1) (ly6_4 t0).2.1 (ly6_4 t0).2.2 c1 dX6_readUnit_30 ?_
    refine wp_sipush (nI 257) dX6_readUnit_31 rfl ?_
    refine wp_icmp_ne 66 dX6_readUnit_34 (by decide) (fun c1 => ?_) (fun c1 => ?_)
    · rw [if_neg c1] at h
      refine wp_iload_n (x := ((μ.1 (v0 + 2) (ix (μ.1 v0 8))) - (nI 309))) dX6_readUnit_66 rfl ?_
      refine wp_if_lt 103 dX6_readUnit_67 (by decide) (fun c1 => ?_) (fun c1 => ?_)
      · rw [if_pos c1] at h
        exact ok_Reader_readUnit_j103 hd v0 t0 μ _ h
      · rw [if_neg c1] at h
        refine wp_iload_n (x := ((μ.1 (v0 + 2) (ix (μ.1 v0 8))) - (nI 309))) dX6_readUnit_70 rfl ?_
        refine wp_aload_n (x := v0) dX6_readUnit_71 rfl ?_
        refine wp_getI fl_X6_101 (by decide) rfl (kltC t0) t0 dX6_readUnit_72 ?_
        refine wp_icmp_ge 103 dX6_readUnit_75 (by decide) (fun c1 => ?_) (fun c1 => ?_)
        · rw [if_pos c1] at h
          exact ok_Reader_readUnit_j103 hd v0 t0 μ _ h
        · rw [if_neg c1] at h
          refine wp_aload_n (x := v0) dX6_readUnit_78 rfl ?_
          refine wp_getR (v0 + 5) fl_X6_31 (by decide) rfl (kltC t0) t0 (ly6_9 t0).1 dX6_readUnit_79 ?_
          refine wp_sipush (nI 10000) dX6_readUnit_82 rfl ?_
          refine wp_iload_n (x := ((μ.1 (v0 + 2) (ix (μ.1 v0 8))) - (nI 309))) dX6_readUnit_85 rfl ?_
          refine wp_iadd dX6_readUnit_86 ?_
          obtain ⟨μ2, g1, h⟩ := bnd_some h
          refine wp_cVv (d := d - 1) (o := (v0 + 5)) cv_X6_155 (kltC (ly6_9 t0).2.1) (ly6_9 t0).2.1 (as := [.int ((nI 10000) + ((μ.1 (v0 + 2) (ix (μ.1 v0 8))) - (nI 309)))]) (rest := []) dX6_readUnit_87 (by omega) cloC rfl rfl (Nat.le_of_ble_eq_true rfl) (Nat.le_of_ble_eq_true rfl) (ok_Law_add (by omega) (v0 + 5) ((ly6_9 t0).2.1) ((nI 10000) + ((μ.1 (v0 + 2) (ix (μ.1 v0 8))) - (nI 309))) μ g1) ?_ rfl
          refine wp_aload_n (x := v0) dX6_readUnit_90 rfl ?_
          refine wp_dup dX6_readUnit_91 rfl ?_
          refine wp_getI fl_X6_52 (by decide) rfl (kltC t0) t0 dX6_readUnit_92 ?_
          refine wp_iconst (nI 1) dX6_readUnit_95 rfl ?_
          refine wp_iadd dX6_readUnit_96 ?_
          obtain ⟨μ3, e1, h⟩ := lt_some h
          refine wp_putIe e1 fl_X6_52 (by decide) rfl (kltC t0) t0 dX6_readUnit_97 ?_
          refine wp_goto 108 dX6_readUnit_100 (by decide) ?_
          obtain rfl := ret1 h
          exact wp_vret rfl dX6_readUnit_108 ⟨rfl, rfl, rfl⟩
    · rw [if_pos c1] at h
      refine wp_aload_n (x := v0) dX6_readUnit_37 rfl ?_
      refine wp_getR (v0 + 5) fl_X6_31 (by decide) rfl (kltC t0) t0 (ly6_9 t0).1 dX6_readUnit_38 ?_
      refine wp_aload_n (x := v0) dX6_readUnit_41 rfl ?_
      refine wp_getR (v0 + 3) fl_X6_22 (by decide) rfl (kltC t0) t0 (ly6_5 t0).1 dX6_readUnit_42 ?_
      refine wp_aload_n (x := v0) dX6_readUnit_45 rfl ?_
      refine wp_getI fl_X6_52 (by decide) rfl (kltC t0) t0 dX6_readUnit_46 ?_
      obtain ⟨c1, h⟩ := chv_some h
      refine wp_ialde (kltC (ly6_5 t0).2.1) (ly6_5 t0).2.1 (ly6_5 t0).2.2 c1 dX6_readUnit_49 ?_
      obtain ⟨μ4, g1, h⟩ := bnd_some h
      refine wp_cVv (d := d - 1) (o := (v0 + 5)) cv_X6_155 (kltC (ly6_9 t0).2.1) (ly6_9 t0).2.1 (as := [.int (μ.1 (v0 + 3) (ix (μ.1 v0 8)))]) (rest := []) dX6_readUnit_50 (by omega) cloC rfl rfl (Nat.le_of_ble_eq_true rfl) (Nat.le_of_ble_eq_true rfl) (ok_Law_add (by omega) (v0 + 5) ((ly6_9 t0).2.1) (μ.1 (v0 + 3) (ix (μ.1 v0 8))) μ g1) ?_ rfl
      refine wp_aload_n (x := v0) dX6_readUnit_53 rfl ?_
      refine wp_dup dX6_readUnit_54 rfl ?_
      refine wp_getI fl_X6_52 (by decide) rfl (kltC t0) t0 dX6_readUnit_55 ?_
      refine wp_iconst (nI 1) dX6_readUnit_58 rfl ?_
      refine wp_iadd dX6_readUnit_59 ?_
      obtain ⟨μ5, e1, h⟩ := lt_some h
      refine wp_putIe e1 fl_X6_52 (by decide) rfl (kltC t0) t0 dX6_readUnit_60 ?_
      refine wp_goto 108 dX6_readUnit_63 (by decide) ?_
      obtain rfl := ret1 h
      exact wp_vret rfl dX6_readUnit_108 ⟨rfl, rfl, rfl⟩
  · rw [if_neg c1] at h
    obtain rfl := ret1 h
    exact wp_vret rfl dX6_readUnit_21 ⟨rfl, rfl, rfl⟩
theorem ok_Reader_addOperation {l : Launch} {d : Nat} (hd : 2 ≤ d) (v0 : Nat) (t0 : sK SC v0 = 6) (v1 : Int32)  (μ : Mm) {μ' : Mm} (h : Reader_addOperation v0 v1 μ = some μ') : Wp l SC d (0, 0) mX6_addOperation 0 [some (.ref v0), some (.int v1)] [] μ (Qv SC μ') := by
  unfold Reader_addOperation at h
  refine wp_aload_n (x := v0) dX6_addOperation_0 rfl ?_
  refine wp_getR (v0 + 5) fl_X6_31 (by decide) rfl (kltC t0) t0 (ly6_9 t0).1 dX6_addOperation_1 ?_
  refine wp_sipush (nI 20000) dX6_addOperation_4 rfl ?_
  refine wp_iload_n (x := v1) dX6_addOperation_7 rfl ?_
  refine wp_iadd dX6_addOperation_8 ?_
  obtain ⟨μ1, g1, h⟩ := bnd_some h
  refine wp_cVv (d := d - 1) (o := (v0 + 5)) cv_X6_155 (kltC (ly6_9 t0).2.1) (ly6_9 t0).2.1 (as := [.int ((nI 20000) + v1)]) (rest := []) dX6_addOperation_9 (by omega) cloC rfl rfl (Nat.le_of_ble_eq_true rfl) (Nat.le_of_ble_eq_true rfl) (ok_Law_add (by omega) (v0 + 5) ((ly6_9 t0).2.1) ((nI 20000) + v1) μ g1) ?_ rfl
  obtain rfl := ret1 h
  exact wp_vret rfl dX6_addOperation_12 ⟨rfl, rfl, rfl⟩
theorem ok_Reader_takeNumber_j37 {l : Launch} {d : Nat} (hd : 2 ≤ d) (v0 : Nat) (t0 : sK SC v0 = 6) (v1 : Int32)  (μ : Mm) (z2 : Option Value) (z3 : Option Value) {r : Int32} {μ' : Mm} (h : Reader_takeNumber_j37 v0 v1 μ = some (r, μ')) : Wp l SC d (0, 0) mX6_takeNumber 37 [some (.ref v0), some (.int v1), z2, z3] [] μ (Qi SC r μ') := by
  unfold Reader_takeNumber_j37 at h
  refine wp_aload_n (x := v0) dX6_takeNumber_37 rfl ?_
  refine wp_dup dX6_takeNumber_38 rfl ?_
  refine wp_getI fl_X6_52 (by decide) rfl (kltC t0) t0 dX6_takeNumber_39 ?_
  refine wp_iconst (nI 1) dX6_takeNumber_42 rfl ?_
  refine wp_isub dX6_takeNumber_43 ?_
  obtain ⟨μ3, e1, h⟩ := lt_some h
  refine wp_putIe e1 fl_X6_52 (by decide) rfl (kltC t0) t0 dX6_takeNumber_44 ?_
  refine wp_aload_n (x := v0) dX6_takeNumber_47 rfl ?_
  refine wp_iconst (nI 2) dX6_takeNumber_48 rfl ?_
  obtain ⟨μ4, g1, h⟩ := bnd_some h
  refine wp_cVv (d := d - 1) (o := v0) cv_X6_107 (kltC t0) t0 (as := [.int (nI 2)]) (rest := []) dX6_takeNumber_49 (by omega) cloC rfl rfl (Nat.le_of_ble_eq_true rfl) (Nat.le_of_ble_eq_true rfl) (ok_Reader_fail (by omega) v0 t0 (nI 2) μ3 g1) ?_ rfl
  refine wp_iload_n (x := v1) dX6_takeNumber_52 rfl ?_
  obtain ⟨rfl, rfl⟩ := ret2 h
  exact wp_iret rfl dX6_takeNumber_53 ⟨rfl, rfl, rfl⟩
theorem ok_Reader_takeNumber {l : Launch} {d : Nat} (hd : 2 ≤ d) (v0 : Nat) (t0 : sK SC v0 = 6) (v1 : Int32)  (v2 : Int32)  (μ : Mm) {r : Int32} {μ' : Mm} (h : Reader_takeNumber v0 v1 v2 μ = some (r, μ')) : Wp l SC d (0, 0) mX6_takeNumber 0 [some (.ref v0), some (.int v1), some (.int v2), none] [] μ (Qi SC r μ') := by
  unfold Reader_takeNumber at h
  refine wp_aload_n (x := v0) dX6_takeNumber_0 rfl ?_
  refine wp_getR (v0 + 3) fl_X6_22 (by decide) rfl (kltC t0) t0 (ly6_5 t0).1 dX6_takeNumber_1 ?_
  refine wp_aload_n (x := v0) dX6_takeNumber_4 rfl ?_
  refine wp_getI fl_X6_52 (by decide) rfl (kltC t0) t0 dX6_takeNumber_5 ?_
  obtain ⟨c1, h⟩ := chv_some h
  refine wp_ialde (kltC (ly6_5 t0).2.1) (ly6_5 t0).2.1 (ly6_5 t0).2.2 c1 dX6_takeNumber_8 ?_
  refine wp_istore_n (L2 := [some (.ref v0), some (.int v1), some (.int v2), some (.int (μ.1 (v0 + 3) (ix (μ.1 v0 8))))]) dX6_takeNumber_9 (by decide) rfl rfl ?_
  refine wp_aload_n (x := v0) dX6_takeNumber_10 rfl ?_
  refine wp_sipush (nI 257) dX6_takeNumber_11 rfl ?_
  obtain ⟨r2, μ1, g1, h⟩ := bnd2_some h
  refine wp_cVi (d := d - 1) (o := v0) cv_X6_117 (kltC t0) t0 (as := [.int (nI 257)]) (rest := []) dX6_takeNumber_14 (by omega) cloC rfl rfl (Nat.le_of_ble_eq_true rfl) (Nat.le_of_ble_eq_true rfl) (ok_Reader_takes (by omega) v0 t0 (nI 257) μ g1) ?_ rfl
  refine wp_if_ne 27 dX6_takeNumber_17 (by decide) (fun c1 => ?_) (fun c1 => ?_)
  · rw [if_neg c1] at h
    refine wp_iload_n (x := (μ.1 (v0 + 3) (ix (μ.1 v0 8)))) dX6_takeNumber_27 rfl ?_
    refine wp_iload_n (x := v1) dX6_takeNumber_28 rfl ?_
    refine wp_icmp_lt 37 dX6_takeNumber_29 (by decide) (fun c1 => ?_) (fun c1 => ?_)
    · rw [if_pos c1] at h
      exact ok_Reader_takeNumber_j37 hd v0 t0 v1 μ1 _ _ h
    · rw [if_neg c1] at h
      refine wp_iload_n (x := (μ.1 (v0 + 3) (ix (μ.1 v0 8)))) dX6_takeNumber_32 rfl ?_
      refine wp_iload_n (x := v2) dX6_takeNumber_33 rfl ?_
      refine wp_icmp_le 54 dX6_takeNumber_34 (by decide) (fun c1 => ?_) (fun c1 => ?_)
      · rw [if_pos c1] at h
        refine wp_iload_n (x := (μ.1 (v0 + 3) (ix (μ.1 v0 8)))) dX6_takeNumber_54 rfl ?_
        obtain ⟨rfl, rfl⟩ := ret2 h
        exact wp_iret rfl dX6_takeNumber_55 ⟨rfl, rfl, rfl⟩
      · rw [if_neg c1] at h
        exact ok_Reader_takeNumber_j37 hd v0 t0 v1 μ1 _ _ h
  · rw [if_pos c1] at h
    refine wp_aload_n (x := v0) dX6_takeNumber_20 rfl ?_
    refine wp_iconst (nI 1) dX6_takeNumber_21 rfl ?_
    obtain ⟨μ5, g1, h⟩ := bnd_some h
    refine wp_cVv (d := d - 1) (o := v0) cv_X6_107 (kltC t0) t0 (as := [.int (nI 1)]) (rest := []) dX6_takeNumber_22 (by omega) cloC rfl rfl (Nat.le_of_ble_eq_true rfl) (Nat.le_of_ble_eq_true rfl) (ok_Reader_fail (by omega) v0 t0 (nI 1) μ1 g1) ?_ rfl
    refine wp_iload_n (x := v1) dX6_takeNumber_25 rfl ?_
    obtain ⟨rfl, rfl⟩ := ret2 h
    exact wp_iret rfl dX6_takeNumber_26 ⟨rfl, rfl, rfl⟩
theorem ok_Reader_readProduct_j101 {l : Launch} {d : Nat} (hd : 3 ≤ d) (v0 : Nat) (t0 : sK SC v0 = 6) (v1 : Int32)  (μ : Mm) {Q : Option Value → Sh → Mm → Prop} (K : (Int32 × Mm) ⊕ Mm → Prop) (hb : ∀ (s : (Int32 × Mm)), K (Sum.inl s) → Wp l SC d (0, 0) mX6_readProduct 6 [some (.ref v0), some (.int s.1)] [] s.2 Q) (he0 : ∀ (x : Mm) (z0 : Option Value) (z1 : Option Value), K (Sum.inr x) → Wp l SC d (0, 0) mX6_readProduct 107 [z0, z1] [] x Q) {z : (Int32 × Mm) ⊕ Mm} (h : Reader_readProduct_j101 v0 v1 μ = some z) (hz : K z) : Wp l SC d (0, 0) mX6_readProduct 101 [some (.ref v0), some (.int v1)] [] μ Q := by
  unfold Reader_readProduct_j101 at h
  refine wp_iinc (x := v1) (k0 := (nI 1)) (L2 := [some (.ref v0), some (.int (v1 + (nI 1)))]) dX6_readProduct_101 rfl rfl (by decide) rfl rfl ?_
  refine wp_goto 6 dX6_readProduct_104 (by decide) ?_
  obtain rfl := some1 h
  exact hb ((v1 + (nI 1)), μ) hz
theorem ok_Reader_readProduct_j49 {l : Launch} {d : Nat} (hd : 3 ≤ d) (v0 : Nat) (t0 : sK SC v0 = 6) (v1 : Int32)  (μ : Mm) {Q : Option Value → Sh → Mm → Prop} (K : (Int32 × Mm) ⊕ Mm → Prop) (hb : ∀ (s : (Int32 × Mm)), K (Sum.inl s) → Wp l SC d (0, 0) mX6_readProduct 6 [some (.ref v0), some (.int s.1)] [] s.2 Q) (he0 : ∀ (x : Mm) (z0 : Option Value) (z1 : Option Value), K (Sum.inr x) → Wp l SC d (0, 0) mX6_readProduct 107 [z0, z1] [] x Q) {z : (Int32 × Mm) ⊕ Mm} (h : Reader_readProduct_j49 v0 v1 μ = some z) (hz : K z) : Wp l SC d (0, 0) mX6_readProduct 49 [some (.ref v0), some (.int v1)] [] μ Q := by
  unfold Reader_readProduct_j49 at h
  refine wp_aload_n (x := v0) dX6_readProduct_49 rfl ?_
  refine wp_bipush (nI 42) dX6_readProduct_50 rfl ?_
  obtain ⟨r3, μ2, g1, h⟩ := bnd2_some h
  refine wp_cVi (d := d - 1) (o := v0) cv_X6_117 (kltC t0) t0 (as := [.int (nI 42)]) (rest := []) dX6_readProduct_52 (by omega) cloC rfl rfl (Nat.le_of_ble_eq_true rfl) (Nat.le_of_ble_eq_true rfl) (ok_Reader_takes (by omega) v0 t0 (nI 42) μ g1) ?_ rfl
  refine wp_if_eq 71 dX6_readProduct_55 (by decide) (fun c1 => ?_) (fun c1 => ?_)
  · rw [if_pos c1] at h
    refine wp_aload_n (x := v0) dX6_readProduct_71 rfl ?_
    refine wp_bipush (nI 47) dX6_readProduct_72 rfl ?_
    obtain ⟨r5, μ4, g1, h⟩ := bnd2_some h
    refine wp_cVi (d := d - 1) (o := v0) cv_X6_117 (kltC t0) t0 (as := [.int (nI 47)]) (rest := []) dX6_readProduct_74 (by omega) cloC rfl rfl (Nat.le_of_ble_eq_true rfl) (Nat.le_of_ble_eq_true rfl) (ok_Reader_takes (by omega) v0 t0 (nI 47) μ2 g1) ?_ rfl
    refine wp_if_eq 101 dX6_readProduct_77 (by decide) (fun c1 => ?_) (fun c1 => ?_)
    · rw [if_pos c1] at h
      exact ok_Reader_readProduct_j101 hd v0 t0 v1 μ4 K hb he0 h hz
    · rw [if_neg c1] at h
      refine wp_aload_n (x := v0) dX6_readProduct_80 rfl ?_
      refine wp_getR (v0 + 5) fl_X6_31 (by decide) rfl (kltC t0) t0 (ly6_9 t0).1 dX6_readProduct_81 ?_
      refine wp_aload_n (x := v0) dX6_readProduct_84 rfl ?_
      refine wp_iconst (nI 1) dX6_readProduct_85 rfl ?_
      refine wp_sipush (nI 9999) dX6_readProduct_86 rfl ?_
      obtain ⟨r7, μ6, g1, h⟩ := bnd2_some h
      refine wp_cVi (d := d - 1) (o := v0) cv_X6_132 (kltC t0) t0 (as := [.int (nI 1), .int (nI 9999)]) (rest := [.ref (v0 + 5)]) dX6_readProduct_89 (by omega) cloC rfl rfl (Nat.le_of_ble_eq_true rfl) (Nat.le_of_ble_eq_true rfl) (ok_Reader_takeNumber (by omega) v0 t0 (nI 1) (nI 9999) μ4 g1) ?_ rfl
      obtain ⟨μ8, g1, h⟩ := bnd_some h
      refine wp_cVv (d := d - 1) (o := (v0 + 5)) cv_X6_155 (kltC (ly6_9 t0).2.1) (ly6_9 t0).2.1 (as := [.int r7]) (rest := []) dX6_readProduct_92 (by omega) cloC rfl rfl (Nat.le_of_ble_eq_true rfl) (Nat.le_of_ble_eq_true rfl) (ok_Law_add (by omega) (v0 + 5) ((ly6_9 t0).2.1) r7 μ6 g1) ?_ rfl
      refine wp_aload_n (x := v0) dX6_readProduct_95 rfl ?_
      refine wp_bipush (nI 47) dX6_readProduct_96 rfl ?_
      obtain ⟨μ9, g1, h⟩ := bnd_some h
      refine wp_cVv (d := d - 1) (o := v0) cv_X6_146 (kltC t0) t0 (as := [.int (nI 47)]) (rest := []) dX6_readProduct_98 (by omega) cloC rfl rfl (Nat.le_of_ble_eq_true rfl) (Nat.le_of_ble_eq_true rfl) (ok_Reader_addOperation (by omega) v0 t0 (nI 47) μ8 g1) ?_ rfl
      exact ok_Reader_readProduct_j101 hd v0 t0 v1 μ9 K hb he0 h hz
  · rw [if_neg c1] at h
    refine wp_aload_n (x := v0) dX6_readProduct_58 rfl ?_
    obtain ⟨μ10, g1, h⟩ := bnd_some h
    refine wp_cVv (d := d - 1) (o := v0) cv_X6_152 (kltC t0) t0 (as := []) (rest := []) dX6_readProduct_59 (by omega) cloC rfl rfl (Nat.le_of_ble_eq_true rfl) (Nat.le_of_ble_eq_true rfl) (ok_Reader_readUnit (by omega) v0 t0 μ2 g1) ?_ rfl
    refine wp_aload_n (x := v0) dX6_readProduct_62 rfl ?_
    refine wp_bipush (nI 42) dX6_readProduct_63 rfl ?_
    obtain ⟨μ11, g1, h⟩ := bnd_some h
    refine wp_cVv (d := d - 1) (o := v0) cv_X6_146 (kltC t0) t0 (as := [.int (nI 42)]) (rest := []) dX6_readProduct_65 (by omega) cloC rfl rfl (Nat.le_of_ble_eq_true rfl) (Nat.le_of_ble_eq_true rfl) (ok_Reader_addOperation (by omega) v0 t0 (nI 42) μ10 g1) ?_ rfl
    refine wp_goto 101 dX6_readProduct_68 (by decide) ?_
    exact ok_Reader_readProduct_j101 hd v0 t0 v1 μ11 K hb he0 h hz
theorem ok_Reader_readProduct_l6 {l : Launch} {d : Nat} (hd : 3 ≤ d) (v0 : Nat) (t0 : sK SC v0 = 6) (v1 : Int32)  (μ : Mm) {Q : Option Value → Sh → Mm → Prop} (K : (Int32 × Mm) ⊕ Mm → Prop) (hb : ∀ (s : (Int32 × Mm)), K (Sum.inl s) → Wp l SC d (0, 0) mX6_readProduct 6 [some (.ref v0), some (.int s.1)] [] s.2 Q) (he0 : ∀ (x : Mm) (z0 : Option Value) (z1 : Option Value), K (Sum.inr x) → Wp l SC d (0, 0) mX6_readProduct 107 [z0, z1] [] x Q) {z : (Int32 × Mm) ⊕ Mm} (h : Reader_readProduct_l6 v0 v1 μ = some z) (hz : K z) : Wp l SC d (0, 0) mX6_readProduct 6 [some (.ref v0), some (.int v1)] [] μ Q := by
  unfold Reader_readProduct_l6 at h
  refine wp_iload_n (x := v1) dX6_readProduct_6 rfl ?_
  refine wp_aload_n (x := v0) dX6_readProduct_7 rfl ?_
  refine wp_getI fl_X6_58 (by decide) rfl (kltC t0) t0 dX6_readProduct_8 ?_
  refine wp_icmp_ge 107 dX6_readProduct_11 (by decide) (fun c1 => ?_) (fun c1 => ?_)
  · rw [if_pos c1] at h
    obtain rfl := some1 h
    exact he0 μ _ _ hz
  · rw [if_neg c1] at h
    refine wp_aload_n (x := v0) dX6_readProduct_14 rfl ?_
    refine wp_getI fl_X6_49 (by decide) rfl (kltC t0) t0 dX6_readProduct_15 ?_
    refine wp_if_ne 107 dX6_readProduct_18 (by decide) (fun c1 => ?_) (fun c1 => ?_)
    · rw [if_neg c1] at h
      obtain rfl := some1 h
      exact he0 μ _ _ hz
    · rw [if_pos c1] at h
      refine wp_aload_n (x := v0) dX6_readProduct_21 rfl ?_
      refine wp_getR (v0 + 2) fl_X6_19 (by decide) rfl (kltC t0) t0 (ly6_4 t0).1 dX6_readProduct_22 ?_
      refine wp_aload_n (x := v0) dX6_readProduct_25 rfl ?_
      refine wp_getI fl_X6_52 (by decide) rfl (kltC t0) t0 dX6_readProduct_26 ?_
      obtain ⟨c1, h⟩ := chv_some h
      refine wp_ialde (kltC (ly6_4 t0).2.1) (ly6_4 t0).2.1 (ly6_4 t0).2.2 c1 dX6_readProduct_29 ?_
      refine wp_bipush (nI 42) dX6_readProduct_30 rfl ?_
      refine wp_icmp_eq 49 dX6_readProduct_32 (by decide) (fun c1 => ?_) (fun c1 => ?_)
      · rw [if_pos c1] at h
        exact ok_Reader_readProduct_j49 hd v0 t0 v1 μ K hb he0 h hz
      · rw [if_neg c1] at h
        refine wp_aload_n (x := v0) dX6_readProduct_35 rfl ?_
        refine wp_getR (v0 + 2) fl_X6_19 (by decide) rfl (kltC t0) t0 (ly6_4 t0).1 dX6_readProduct_36 ?_
        refine wp_aload_n (x := v0) dX6_readProduct_39 rfl ?_
        refine wp_getI fl_X6_52 (by decide) rfl (kltC t0) t0 dX6_readProduct_40 ?_
        obtain ⟨c1, h⟩ := chv_some h
        refine wp_ialde (kltC (ly6_4 t0).2.1) (ly6_4 t0).2.1 (ly6_4 t0).2.2 c1 dX6_readProduct_43 ?_
        refine wp_bipush (nI 47) dX6_readProduct_44 rfl ?_
        refine wp_icmp_ne 107 dX6_readProduct_46 (by decide) (fun c1 => ?_) (fun c1 => ?_)
        · rw [if_neg c1] at h
          obtain rfl := some1 h
          exact he0 μ _ _ hz
        · rw [if_pos c1] at h
          exact ok_Reader_readProduct_j49 hd v0 t0 v1 μ K hb he0 h hz
theorem okl_Reader_readProduct_l6 {l : Launch} {d : Nat} (hd : 3 ≤ d) (v0 : Nat) (t0 : sK SC v0 = 6) {Q : Option Value → Sh → Mm → Prop} (K : Mm → Prop) (he0 : ∀ (x : Mm) (z0 : Option Value) (z1 : Option Value), K x → Wp l SC d (0, 0) mX6_readProduct 107 [z0, z1] [] x Q) : ∀ (n : Nat) (s : (Int32 × Mm)) (y : Mm) , iter n (fun s => Reader_readProduct_l6 v0 s.1 s.2) s = some y → K y → Wp l SC d (0, 0) mX6_readProduct 6 [some (.ref v0), some (.int s.1)] [] s.2 Q := by
  intro n
  induction n with
  | zero => intro s y  h; cases h
  | succ n ih =>
    intro s y  h hK
    obtain ⟨z, hz, hn⟩ := iter_some h
    refine ok_Reader_readProduct_l6 hd v0 t0 s.1 s.2 (fun z => nxt n (fun s => Reader_readProduct_l6 v0 s.1 s.2) z y) ?_ ?_ hz hn
    · intro s2  h2
      exact ih s2 y h2 hK
    · intro x z0 z1 h2
      have h3 : x = y := h2
      subst h3
      exact he0 x _ _ hK
theorem ok_Reader_readProduct {l : Launch} {d : Nat} (hd : 3 ≤ d) (v0 : Nat) (t0 : sK SC v0 = 6) (μ : Mm) {μ' : Mm} (h : Reader_readProduct v0 μ = some μ') : Wp l SC d (0, 0) mX6_readProduct 0 [some (.ref v0), none] [] μ (Qv SC μ') := by
  unfold Reader_readProduct at h
  refine wp_aload_n (x := v0) dX6_readProduct_0 rfl ?_
  obtain ⟨μ1, g1, h⟩ := bnd_some h
  refine wp_cVv (d := d - 1) (o := v0) cv_X6_152 (kltC t0) t0 (as := []) (rest := []) dX6_readProduct_1 (by omega) cloC rfl rfl (Nat.le_of_ble_eq_true rfl) (Nat.le_of_ble_eq_true rfl) (ok_Reader_readUnit (by omega) v0 t0 μ g1) ?_ rfl
  refine wp_iconst (nI 0) dX6_readProduct_4 rfl ?_
  refine wp_istore_n (L2 := [some (.ref v0), some (.int (nI 0))]) dX6_readProduct_5 (by decide) rfl rfl ?_
  obtain ⟨x6, hi, h⟩ := bni_some h
  refine okl_Reader_readProduct_l6 hd v0 t0 (fun z => z = x6) ?_ 1000000 ((nI 0), μ1) x6 hi rfl
  · intro y0 z0 z1 e0
    have e0 : y0 = x6 := e0
    subst e0
    obtain rfl := ret1 h
    exact wp_vret rfl dX6_readProduct_107 ⟨rfl, rfl, rfl⟩
theorem ok_Reader_readSum_j49 {l : Launch} {d : Nat} (hd : 4 ≤ d) (v0 : Nat) (t0 : sK SC v0 = 6) (v1 : Int32)  (μ : Mm) (z2 : Option Value) {Q : Option Value → Sh → Mm → Prop} (K : (Int32 × Mm) ⊕ Mm → Prop) (hb : ∀ (s : (Int32 × Mm)) (z2 : Option Value), K (Sum.inl s) → Wp l SC d (0, 0) mX6_readSum 6 [some (.ref v0), some (.int s.1), z2] [] s.2 Q) (he0 : ∀ (x : Mm) (z0 : Option Value) (z1 : Option Value) (z2 : Option Value), K (Sum.inr x) → Wp l SC d (0, 0) mX6_readSum 84 [z0, z1, z2] [] x Q) {z : (Int32 × Mm) ⊕ Mm} (h : Reader_readSum_j49 v0 v1 μ = some z) (hz : K z) : Wp l SC d (0, 0) mX6_readSum 49 [some (.ref v0), some (.int v1), z2] [] μ Q := by
  unfold Reader_readSum_j49 at h
  refine wp_aload_n (x := v0) dX6_readSum_49 rfl ?_
  refine wp_getR (v0 + 2) fl_X6_19 (by decide) rfl (kltC t0) t0 (ly6_4 t0).1 dX6_readSum_50 ?_
  refine wp_aload_n (x := v0) dX6_readSum_53 rfl ?_
  refine wp_getI fl_X6_52 (by decide) rfl (kltC t0) t0 dX6_readSum_54 ?_
  obtain ⟨c1, h⟩ := chv_some h
  refine wp_ialde (kltC (ly6_4 t0).2.1) (ly6_4 t0).2.1 (ly6_4 t0).2.2 c1 dX6_readSum_57 ?_
  refine wp_istore_n (L2 := [some (.ref v0), some (.int v1), some (.int (μ.1 (v0 + 2) (ix (μ.1 v0 8))))]) dX6_readSum_58 (by decide) rfl rfl ?_
  refine wp_aload_n (x := v0) dX6_readSum_59 rfl ?_
  refine wp_dup dX6_readSum_60 rfl ?_
  refine wp_getI fl_X6_52 (by decide) rfl (kltC t0) t0 dX6_readSum_61 ?_
  refine wp_iconst (nI 1) dX6_readSum_64 rfl ?_
  refine wp_iadd dX6_readSum_65 ?_
  obtain ⟨μ2, e1, h⟩ := lt_some h
  refine wp_putIe e1 fl_X6_52 (by decide) rfl (kltC t0) t0 dX6_readSum_66 ?_
  refine wp_aload_n (x := v0) dX6_readSum_69 rfl ?_
  obtain ⟨μ3, g1, h⟩ := bnd_some h
  refine wp_cVv (d := d - 1) (o := v0) cv_X6_149 (kltC t0) t0 (as := []) (rest := []) dX6_readSum_70 (by omega) cloC rfl rfl (Nat.le_of_ble_eq_true rfl) (Nat.le_of_ble_eq_true rfl) (ok_Reader_readProduct (by omega) v0 t0 μ2 g1) ?_ rfl
  refine wp_aload_n (x := v0) dX6_readSum_73 rfl ?_
  refine wp_iload_n (x := (μ.1 (v0 + 2) (ix (μ.1 v0 8)))) dX6_readSum_74 rfl ?_
  obtain ⟨μ4, g1, h⟩ := bnd_some h
  refine wp_cVv (d := d - 1) (o := v0) cv_X6_146 (kltC t0) t0 (as := [.int (μ.1 (v0 + 2) (ix (μ.1 v0 8)))]) (rest := []) dX6_readSum_75 (by omega) cloC rfl rfl (Nat.le_of_ble_eq_true rfl) (Nat.le_of_ble_eq_true rfl) (ok_Reader_addOperation (by omega) v0 t0 (μ.1 (v0 + 2) (ix (μ.1 v0 8))) μ3 g1) ?_ rfl
  refine wp_iinc (x := v1) (k0 := (nI 1)) (L2 := [some (.ref v0), some (.int (v1 + (nI 1))), some (.int (μ.1 (v0 + 2) (ix (μ.1 v0 8))))]) dX6_readSum_78 rfl rfl (by decide) rfl rfl ?_
  refine wp_goto 6 dX6_readSum_81 (by decide) ?_
  obtain rfl := some1 h
  exact hb ((v1 + (nI 1)), μ4) _ hz
theorem ok_Reader_readSum_l6 {l : Launch} {d : Nat} (hd : 4 ≤ d) (v0 : Nat) (t0 : sK SC v0 = 6) (v1 : Int32)  (μ : Mm) (z2 : Option Value) {Q : Option Value → Sh → Mm → Prop} (K : (Int32 × Mm) ⊕ Mm → Prop) (hb : ∀ (s : (Int32 × Mm)) (z2 : Option Value), K (Sum.inl s) → Wp l SC d (0, 0) mX6_readSum 6 [some (.ref v0), some (.int s.1), z2] [] s.2 Q) (he0 : ∀ (x : Mm) (z0 : Option Value) (z1 : Option Value) (z2 : Option Value), K (Sum.inr x) → Wp l SC d (0, 0) mX6_readSum 84 [z0, z1, z2] [] x Q) {z : (Int32 × Mm) ⊕ Mm} (h : Reader_readSum_l6 v0 v1 μ = some z) (hz : K z) : Wp l SC d (0, 0) mX6_readSum 6 [some (.ref v0), some (.int v1), z2] [] μ Q := by
  unfold Reader_readSum_l6 at h
  refine wp_iload_n (x := v1) dX6_readSum_6 rfl ?_
  refine wp_aload_n (x := v0) dX6_readSum_7 rfl ?_
  refine wp_getI fl_X6_58 (by decide) rfl (kltC t0) t0 dX6_readSum_8 ?_
  refine wp_icmp_ge 84 dX6_readSum_11 (by decide) (fun c1 => ?_) (fun c1 => ?_)
  · rw [if_pos c1] at h
    obtain rfl := some1 h
    exact he0 μ _ _ _ hz
  · rw [if_neg c1] at h
    refine wp_aload_n (x := v0) dX6_readSum_14 rfl ?_
    refine wp_getI fl_X6_49 (by decide) rfl (kltC t0) t0 dX6_readSum_15 ?_
    refine wp_if_ne 84 dX6_readSum_18 (by decide) (fun c1 => ?_) (fun c1 => ?_)
    · rw [if_neg c1] at h
      obtain rfl := some1 h
      exact he0 μ _ _ _ hz
    · rw [if_pos c1] at h
      refine wp_aload_n (x := v0) dX6_readSum_21 rfl ?_
      refine wp_getR (v0 + 2) fl_X6_19 (by decide) rfl (kltC t0) t0 (ly6_4 t0).1 dX6_readSum_22 ?_
      refine wp_aload_n (x := v0) dX6_readSum_25 rfl ?_
      refine wp_getI fl_X6_52 (by decide) rfl (kltC t0) t0 dX6_readSum_26 ?_
      obtain ⟨c1, h⟩ := chv_some h
      refine wp_ialde (kltC (ly6_4 t0).2.1) (ly6_4 t0).2.1 (ly6_4 t0).2.2 c1 dX6_readSum_29 ?_
      refine wp_bipush (nI 43) dX6_readSum_30 rfl ?_
      refine wp_icmp_eq 49 dX6_readSum_32 (by decide) (fun c1 => ?_) (fun c1 => ?_)
      · rw [if_pos c1] at h
        exact ok_Reader_readSum_j49 hd v0 t0 v1 μ _ K hb he0 h hz
      · rw [if_neg c1] at h
        refine wp_aload_n (x := v0) dX6_readSum_35 rfl ?_
        refine wp_getR (v0 + 2) fl_X6_19 (by decide) rfl (kltC t0) t0 (ly6_4 t0).1 dX6_readSum_36 ?_
        refine wp_aload_n (x := v0) dX6_readSum_39 rfl ?_
        refine wp_getI fl_X6_52 (by decide) rfl (kltC t0) t0 dX6_readSum_40 ?_
        obtain ⟨c1, h⟩ := chv_some h
        refine wp_ialde (kltC (ly6_4 t0).2.1) (ly6_4 t0).2.1 (ly6_4 t0).2.2 c1 dX6_readSum_43 ?_
        refine wp_bipush (nI 45) dX6_readSum_44 rfl ?_
        refine wp_icmp_ne 84 dX6_readSum_46 (by decide) (fun c1 => ?_) (fun c1 => ?_)
        · rw [if_neg c1] at h
          obtain rfl := some1 h
          exact he0 μ _ _ _ hz
        · rw [if_pos c1] at h
          exact ok_Reader_readSum_j49 hd v0 t0 v1 μ _ K hb he0 h hz
theorem okl_Reader_readSum_l6 {l : Launch} {d : Nat} (hd : 4 ≤ d) (v0 : Nat) (t0 : sK SC v0 = 6) {Q : Option Value → Sh → Mm → Prop} (K : Mm → Prop) (he0 : ∀ (x : Mm) (z0 : Option Value) (z1 : Option Value) (z2 : Option Value), K x → Wp l SC d (0, 0) mX6_readSum 84 [z0, z1, z2] [] x Q) : ∀ (n : Nat) (s : (Int32 × Mm)) (y : Mm) (z2 : Option Value) , iter n (fun s => Reader_readSum_l6 v0 s.1 s.2) s = some y → K y → Wp l SC d (0, 0) mX6_readSum 6 [some (.ref v0), some (.int s.1), z2] [] s.2 Q := by
  intro n
  induction n with
  | zero => intro s y z2 h; cases h
  | succ n ih =>
    intro s y z2 h hK
    obtain ⟨z, hz, hn⟩ := iter_some h
    refine ok_Reader_readSum_l6 hd v0 t0 s.1 s.2 _ (fun z => nxt n (fun s => Reader_readSum_l6 v0 s.1 s.2) z y) ?_ ?_ hz hn
    · intro s2 z2 h2
      exact ih s2 y _ h2 hK
    · intro x z0 z1 z2 h2
      have h3 : x = y := h2
      subst h3
      exact he0 x _ _ _ hK
theorem ok_Reader_readSum {l : Launch} {d : Nat} (hd : 4 ≤ d) (v0 : Nat) (t0 : sK SC v0 = 6) (μ : Mm) {μ' : Mm} (h : Reader_readSum v0 μ = some μ') : Wp l SC d (0, 0) mX6_readSum 0 [some (.ref v0), none, none] [] μ (Qv SC μ') := by
  unfold Reader_readSum at h
  refine wp_aload_n (x := v0) dX6_readSum_0 rfl ?_
  obtain ⟨μ1, g1, h⟩ := bnd_some h
  refine wp_cVv (d := d - 1) (o := v0) cv_X6_149 (kltC t0) t0 (as := []) (rest := []) dX6_readSum_1 (by omega) cloC rfl rfl (Nat.le_of_ble_eq_true rfl) (Nat.le_of_ble_eq_true rfl) (ok_Reader_readProduct (by omega) v0 t0 μ g1) ?_ rfl
  refine wp_iconst (nI 0) dX6_readSum_4 rfl ?_
  refine wp_istore_n (L2 := [some (.ref v0), some (.int (nI 0)), none]) dX6_readSum_5 (by decide) rfl rfl ?_
  obtain ⟨x6, hi, h⟩ := bni_some h
  refine okl_Reader_readSum_l6 hd v0 t0 (fun z => z = x6) ?_ 1000000 ((nI 0), μ1) x6 _ hi rfl
  · intro y0 z0 z1 z2 e0
    have e0 : y0 = x6 := e0
    subst e0
    obtain rfl := ret1 h
    exact wp_vret rfl dX6_readSum_84 ⟨rfl, rfl, rfl⟩
theorem ok_Reader_readTest_j158 {l : Launch} {d : Nat} {dT : Nat} {rT rC : Nat → Int32 → Mm → Option Mm} (hT : ∀ (o : Nat) (x : Int32) (m m2 : Mm), sK SC o = 6 → rT o x m = some m2 → Wp l SC dT (0, 0) mX6_readTest 0 [some (.ref o), some (.int x), none, none] [] m (Qv SC m2)) (hC : ∀ (o : Nat) (x : Int32) (m m2 : Mm), sK SC o = 6 → rC o x m = some m2 → Wp l SC dT (0, 0) mX6_readChoice 0 [some (.ref o), some (.int x), none, none] [] m (Qv SC m2)) (hdT : dT + 1 ≤ d) (hd : 5 ≤ d) (v0 : Nat) (t0 : sK SC v0 = 6) (v3 : Int32)  (μ : Mm) (z1 : Option Value) (z2 : Option Value) {μ' : Mm} (h : Reader_readTest_j158 rT rC v0 v3 μ = some μ') : Wp l SC d (0, 0) mX6_readTest 158 [some (.ref v0), z1, z2, some (.int v3)] [] μ (Qv SC μ') := by
  unfold Reader_readTest_j158 at h
  refine wp_aload_n (x := v0) dX6_readTest_158 rfl ?_
  obtain ⟨μ8, g1, h⟩ := bnd_some h
  refine wp_cVv (d := d - 1) (o := v0) cv_X6_114 (kltC t0) t0 (as := []) (rest := []) dX6_readTest_159 (by omega) cloC rfl rfl (Nat.le_of_ble_eq_true rfl) (Nat.le_of_ble_eq_true rfl) (ok_Reader_readSum (by omega) v0 t0 μ g1) ?_ rfl
  refine wp_aload_n (x := v0) dX6_readTest_162 rfl ?_
  refine wp_iload_n (x := v3) dX6_readTest_163 rfl ?_
  obtain ⟨μ9, g1, h⟩ := bnd_some h
  refine wp_cVv (d := d - 1) (o := v0) cv_X6_146 (kltC t0) t0 (as := [.int v3]) (rest := []) dX6_readTest_164 (by omega) cloC rfl rfl (Nat.le_of_ble_eq_true rfl) (Nat.le_of_ble_eq_true rfl) (ok_Reader_addOperation (by omega) v0 t0 v3 μ8 g1) ?_ rfl
  obtain rfl := ret1 h
  exact wp_vret rfl dX6_readTest_167 ⟨rfl, rfl, rfl⟩
theorem ok_Reader_readTest_j60 {l : Launch} {d : Nat} {dT : Nat} {rT rC : Nat → Int32 → Mm → Option Mm} (hT : ∀ (o : Nat) (x : Int32) (m m2 : Mm), sK SC o = 6 → rT o x m = some m2 → Wp l SC dT (0, 0) mX6_readTest 0 [some (.ref o), some (.int x), none, none] [] m (Qv SC m2)) (hC : ∀ (o : Nat) (x : Int32) (m m2 : Mm), sK SC o = 6 → rC o x m = some m2 → Wp l SC dT (0, 0) mX6_readChoice 0 [some (.ref o), some (.int x), none, none] [] m (Qv SC m2)) (hdT : dT + 1 ≤ d) (hd : 5 ≤ d) (v0 : Nat) (t0 : sK SC v0 = 6) (v1 : Int32)  (μ : Mm) (z2 : Option Value) (z3 : Option Value) {μ' : Mm} (h : Reader_readTest_j60 rT rC v0 v1 μ = some μ') : Wp l SC d (0, 0) mX6_readTest 60 [some (.ref v0), some (.int v1), z2, z3] [] μ (Qv SC μ') := by
  unfold Reader_readTest_j60 at h
  refine wp_aload_n (x := v0) dX6_readTest_60 rfl ?_
  refine wp_sipush (nI 305) dX6_readTest_61 rfl ?_
  obtain ⟨r2, μ1, g1, h⟩ := bnd2_some h
  refine wp_cVi (d := d - 1) (o := v0) cv_X6_117 (kltC t0) t0 (as := [.int (nI 305)]) (rest := []) dX6_readTest_64 (by omega) cloC rfl rfl (Nat.le_of_ble_eq_true rfl) (Nat.le_of_ble_eq_true rfl) (ok_Reader_takes (by omega) v0 t0 (nI 305) μ g1) ?_ rfl
  refine wp_if_eq 87 dX6_readTest_67 (by decide) (fun c1 => ?_) (fun c1 => ?_)
  · rw [if_pos c1] at h
    refine wp_aload_n (x := v0) dX6_readTest_87 rfl ?_
    refine wp_bipush (nI 40) dX6_readTest_88 rfl ?_
    obtain ⟨r4, μ3, g1, h⟩ := bnd2_some h
    refine wp_cVi (d := d - 1) (o := v0) cv_X6_117 (kltC t0) t0 (as := [.int (nI 40)]) (rest := []) dX6_readTest_90 (by omega) cloC rfl rfl (Nat.le_of_ble_eq_true rfl) (Nat.le_of_ble_eq_true rfl) (ok_Reader_takes (by omega) v0 t0 (nI 40) μ1 g1) ?_ rfl
    refine wp_if_eq 112 dX6_readTest_93 (by decide) (fun c1 => ?_) (fun c1 => ?_)
    · rw [if_pos c1] at h
      refine wp_aload_n (x := v0) dX6_readTest_112 rfl ?_
      obtain ⟨μ5, g1, h⟩ := bnd_some h
      refine wp_cVv (d := d - 1) (o := v0) cv_X6_114 (kltC t0) t0 (as := []) (rest := []) dX6_readTest_113 (by omega) cloC rfl rfl (Nat.le_of_ble_eq_true rfl) (Nat.le_of_ble_eq_true rfl) (ok_Reader_readSum (by omega) v0 t0 μ3 g1) ?_ rfl
      refine wp_aload_n (x := v0) dX6_readTest_116 rfl ?_
      refine wp_getR (v0 + 2) fl_X6_19 (by decide) rfl (kltC t0) t0 (ly6_4 t0).1 dX6_readTest_117 ?_
      refine wp_aload_n (x := v0) dX6_readTest_120 rfl ?_
      refine wp_getI fl_X6_52 (by decide) rfl (kltC t0) t0 dX6_readTest_121 ?_
      obtain ⟨c1, h⟩ := chv_some h
      refine wp_ialde (kltC (ly6_4 t0).2.1) (ly6_4 t0).2.1 (ly6_4 t0).2.2 c1 dX6_readTest_124 ?_
      refine wp_istore_nF (L2 := [some (.ref v0), some (.int v1), none, some (.int (μ5.1 (v0 + 2) (ix (μ5.1 v0 8))))]) dX6_readTest_125 (by decide) rfl ?_
      refine wp_aload_n (x := v0) dX6_readTest_126 rfl ?_
      refine wp_bipush (nI 60) dX6_readTest_127 rfl ?_
      obtain ⟨r7, μ6, g1, h⟩ := bnd2_some h
      refine wp_cVi (d := d - 1) (o := v0) cv_X6_117 (kltC t0) t0 (as := [.int (nI 60)]) (rest := []) dX6_readTest_129 (by omega) cloC rfl rfl (Nat.le_of_ble_eq_true rfl) (Nat.le_of_ble_eq_true rfl) (ok_Reader_takes (by omega) v0 t0 (nI 60) μ5 g1) ?_ rfl
      refine wp_if_ne 158 dX6_readTest_132 (by decide) (fun c1 => ?_) (fun c1 => ?_)
      · rw [if_neg c1] at h
        exact ok_Reader_readTest_j158 hT hC hdT hd v0 t0 (μ5.1 (v0 + 2) (ix (μ5.1 v0 8))) μ6 _ _ h
      · rw [if_pos c1] at h
        refine wp_aload_n (x := v0) dX6_readTest_135 rfl ?_
        refine wp_bipush (nI 61) dX6_readTest_136 rfl ?_
        obtain ⟨r11, μ10, g1, h⟩ := bnd2_some h
        refine wp_cVi (d := d - 1) (o := v0) cv_X6_117 (kltC t0) t0 (as := [.int (nI 61)]) (rest := []) dX6_readTest_138 (by omega) cloC rfl rfl (Nat.le_of_ble_eq_true rfl) (Nat.le_of_ble_eq_true rfl) (ok_Reader_takes (by omega) v0 t0 (nI 61) μ6 g1) ?_ rfl
        refine wp_if_ne 158 dX6_readTest_141 (by decide) (fun c1 => ?_) (fun c1 => ?_)
        · rw [if_neg c1] at h
          exact ok_Reader_readTest_j158 hT hC hdT hd v0 t0 (μ5.1 (v0 + 2) (ix (μ5.1 v0 8))) μ10 _ _ h
        · rw [if_pos c1] at h
          refine wp_aload_n (x := v0) dX6_readTest_144 rfl ?_
          refine wp_bipush (nI 62) dX6_readTest_145 rfl ?_
          obtain ⟨r13, μ12, g1, h⟩ := bnd2_some h
          refine wp_cVi (d := d - 1) (o := v0) cv_X6_117 (kltC t0) t0 (as := [.int (nI 62)]) (rest := []) dX6_readTest_147 (by omega) cloC rfl rfl (Nat.le_of_ble_eq_true rfl) (Nat.le_of_ble_eq_true rfl) (ok_Reader_takes (by omega) v0 t0 (nI 62) μ10 g1) ?_ rfl
          refine wp_if_ne 158 dX6_readTest_150 (by decide) (fun c1 => ?_) (fun c1 => ?_)
          · rw [if_neg c1] at h
            exact ok_Reader_readTest_j158 hT hC hdT hd v0 t0 (μ5.1 (v0 + 2) (ix (μ5.1 v0 8))) μ12 _ _ h
          · rw [if_pos c1] at h
            refine wp_aload_n (x := v0) dX6_readTest_153 rfl ?_
            refine wp_iconst (nI 1) dX6_readTest_154 rfl ?_
            obtain ⟨μ14, g1, h⟩ := bnd_some h
            refine wp_cVv (d := d - 1) (o := v0) cv_X6_107 (kltC t0) t0 (as := [.int (nI 1)]) (rest := []) dX6_readTest_155 (by omega) cloC rfl rfl (Nat.le_of_ble_eq_true rfl) (Nat.le_of_ble_eq_true rfl) (ok_Reader_fail (by omega) v0 t0 (nI 1) μ12 g1) ?_ rfl
            exact ok_Reader_readTest_j158 hT hC hdT hd v0 t0 (μ5.1 (v0 + 2) (ix (μ5.1 v0 8))) μ14 _ _ h
    · rw [if_neg c1] at h
      refine wp_aload_n (x := v0) dX6_readTest_96 rfl ?_
      refine wp_iload_n (x := v1) dX6_readTest_97 rfl ?_
      refine wp_iconst (nI 1) dX6_readTest_98 rfl ?_
      refine wp_iadd dX6_readTest_99 ?_
      obtain ⟨μ15, g1, h⟩ := bnd_some h
      refine wp_cVv (d := dT) (o := v0) cv_X6_120 (kltC t0) t0 (as := [.int (v1 + (nI 1))]) (rest := []) dX6_readTest_100 (by omega) cloC rfl rfl (Nat.le_of_ble_eq_true rfl) (Nat.le_of_ble_eq_true rfl) (hC v0 (v1 + (nI 1)) μ3 _ t0 g1) ?_ rfl
      refine wp_aload_n (x := v0) dX6_readTest_103 rfl ?_
      refine wp_bipush (nI 41) dX6_readTest_104 rfl ?_
      obtain ⟨μ16, g1, h⟩ := bnd_some h
      refine wp_cVv (d := d - 1) (o := v0) cv_X6_110 (kltC t0) t0 (as := [.int (nI 41)]) (rest := []) dX6_readTest_106 (by omega) cloC rfl rfl (Nat.le_of_ble_eq_true rfl) (Nat.le_of_ble_eq_true rfl) (ok_Reader_take (by omega) v0 t0 (nI 41) μ15 g1) ?_ rfl
      refine wp_goto 167 dX6_readTest_109 (by decide) ?_
      obtain rfl := ret1 h
      exact wp_vret rfl dX6_readTest_167 ⟨rfl, rfl, rfl⟩
  · rw [if_neg c1] at h
    refine wp_aload_n (x := v0) dX6_readTest_70 rfl ?_
    refine wp_iload_n (x := v1) dX6_readTest_71 rfl ?_
    refine wp_iconst (nI 1) dX6_readTest_72 rfl ?_
    refine wp_iadd dX6_readTest_73 ?_
    obtain ⟨μ17, g1, h⟩ := bnd_some h
    refine wp_cVv (d := dT) (o := v0) cv_X6_143 (kltC t0) t0 (as := [.int (v1 + (nI 1))]) (rest := []) dX6_readTest_74 (by omega) cloC rfl rfl (Nat.le_of_ble_eq_true rfl) (Nat.le_of_ble_eq_true rfl) (hT v0 (v1 + (nI 1)) μ1 _ t0 g1) ?_ rfl
    refine wp_aload_n (x := v0) dX6_readTest_77 rfl ?_
    refine wp_sipush (nI 305) dX6_readTest_78 rfl ?_
    obtain ⟨μ18, g1, h⟩ := bnd_some h
    refine wp_cVv (d := d - 1) (o := v0) cv_X6_146 (kltC t0) t0 (as := [.int (nI 305)]) (rest := []) dX6_readTest_81 (by omega) cloC rfl rfl (Nat.le_of_ble_eq_true rfl) (Nat.le_of_ble_eq_true rfl) (ok_Reader_addOperation (by omega) v0 t0 (nI 305) μ17 g1) ?_ rfl
    refine wp_goto 167 dX6_readTest_84 (by decide) ?_
    obtain rfl := ret1 h
    exact wp_vret rfl dX6_readTest_167 ⟨rfl, rfl, rfl⟩
theorem ok_Reader_readTest_j41 {l : Launch} {d : Nat} {dT : Nat} {rT rC : Nat → Int32 → Mm → Option Mm} (hT : ∀ (o : Nat) (x : Int32) (m m2 : Mm), sK SC o = 6 → rT o x m = some m2 → Wp l SC dT (0, 0) mX6_readTest 0 [some (.ref o), some (.int x), none, none] [] m (Qv SC m2)) (hC : ∀ (o : Nat) (x : Int32) (m m2 : Mm), sK SC o = 6 → rC o x m = some m2 → Wp l SC dT (0, 0) mX6_readChoice 0 [some (.ref o), some (.int x), none, none] [] m (Qv SC m2)) (hdT : dT + 1 ≤ d) (hd : 5 ≤ d) (v0 : Nat) (t0 : sK SC v0 = 6) (v1 : Int32)  (s0 : Int32) (μ : Mm) (z2 : Option Value) (z3 : Option Value) {μ' : Mm} (h : Reader_readTest_j41 rT rC v0 v1 s0 μ = some μ') : Wp l SC d (0, 0) mX6_readTest 41 [some (.ref v0), some (.int v1), z2, z3] [.int s0] μ (Qv SC μ') := by
  unfold Reader_readTest_j41 at h
  refine wp_istore_n (L2 := [some (.ref v0), some (.int v1), some (.int s0), z3]) dX6_readTest_41 (by decide) rfl rfl ?_
  refine wp_iload_n (x := s0) dX6_readTest_42 rfl ?_
  refine wp_if_eq 60 dX6_readTest_43 (by decide) (fun c1 => ?_) (fun c1 => ?_)
  · rw [if_pos c1] at h
    exact ok_Reader_readTest_j60 hT hC hdT hd v0 t0 v1 μ _ _ h
  · rw [if_neg c1] at h
    refine wp_iload_n (x := v1) dX6_readTest_46 rfl ?_
    refine wp_bipush (nI 8) dX6_readTest_47 rfl ?_
    refine wp_icmp_lt 60 dX6_readTest_49 (by decide) (fun c1 => ?_) (fun c1 => ?_)
    · rw [if_pos c1] at h
      exact ok_Reader_readTest_j60 hT hC hdT hd v0 t0 v1 μ _ _ h
    · rw [if_neg c1] at h
      refine wp_aload_n (x := v0) dX6_readTest_52 rfl ?_
      refine wp_iconst (nI 3) dX6_readTest_53 rfl ?_
      obtain ⟨μ19, g1, h⟩ := bnd_some h
      refine wp_cVv (d := d - 1) (o := v0) cv_X6_107 (kltC t0) t0 (as := [.int (nI 3)]) (rest := []) dX6_readTest_54 (by omega) cloC rfl rfl (Nat.le_of_ble_eq_true rfl) (Nat.le_of_ble_eq_true rfl) (ok_Reader_fail (by omega) v0 t0 (nI 3) μ g1) ?_ rfl
      refine wp_goto 167 dX6_readTest_57 (by decide) ?_
      obtain rfl := ret1 h
      exact wp_vret rfl dX6_readTest_167 ⟨rfl, rfl, rfl⟩
theorem ok_Reader_readTest_j40 {l : Launch} {d : Nat} {dT : Nat} {rT rC : Nat → Int32 → Mm → Option Mm} (hT : ∀ (o : Nat) (x : Int32) (m m2 : Mm), sK SC o = 6 → rT o x m = some m2 → Wp l SC dT (0, 0) mX6_readTest 0 [some (.ref o), some (.int x), none, none] [] m (Qv SC m2)) (hC : ∀ (o : Nat) (x : Int32) (m m2 : Mm), sK SC o = 6 → rC o x m = some m2 → Wp l SC dT (0, 0) mX6_readChoice 0 [some (.ref o), some (.int x), none, none] [] m (Qv SC m2)) (hdT : dT + 1 ≤ d) (hd : 5 ≤ d) (v0 : Nat) (t0 : sK SC v0 = 6) (v1 : Int32)  (μ : Mm) (z2 : Option Value) (z3 : Option Value) {μ' : Mm} (h : Reader_readTest_j40 rT rC v0 v1 μ = some μ') : Wp l SC d (0, 0) mX6_readTest 40 [some (.ref v0), some (.int v1), z2, z3] [] μ (Qv SC μ') := by
  unfold Reader_readTest_j40 at h
  refine wp_iconst (nI 0) dX6_readTest_40 rfl ?_
  exact ok_Reader_readTest_j41 hT hC hdT hd v0 t0 v1 (nI 0) μ _ _ h
theorem ok_Reader_readTest_j36 {l : Launch} {d : Nat} {dT : Nat} {rT rC : Nat → Int32 → Mm → Option Mm} (hT : ∀ (o : Nat) (x : Int32) (m m2 : Mm), sK SC o = 6 → rT o x m = some m2 → Wp l SC dT (0, 0) mX6_readTest 0 [some (.ref o), some (.int x), none, none] [] m (Qv SC m2)) (hC : ∀ (o : Nat) (x : Int32) (m m2 : Mm), sK SC o = 6 → rC o x m = some m2 → Wp l SC dT (0, 0) mX6_readChoice 0 [some (.ref o), some (.int x), none, none] [] m (Qv SC m2)) (hdT : dT + 1 ≤ d) (hd : 5 ≤ d) (v0 : Nat) (t0 : sK SC v0 = 6) (v1 : Int32)  (μ : Mm) (z2 : Option Value) (z3 : Option Value) {μ' : Mm} (h : Reader_readTest_j36 rT rC v0 v1 μ = some μ') : Wp l SC d (0, 0) mX6_readTest 36 [some (.ref v0), some (.int v1), z2, z3] [] μ (Qv SC μ') := by
  unfold Reader_readTest_j36 at h
  refine wp_iconst (nI 1) dX6_readTest_36 rfl ?_
  refine wp_goto 41 dX6_readTest_37 (by decide) ?_
  exact ok_Reader_readTest_j41 hT hC hdT hd v0 t0 v1 (nI 1) μ _ _ h
theorem ok_Reader_readTest_ {l : Launch} {d : Nat} {dT : Nat} {rT rC : Nat → Int32 → Mm → Option Mm} (hT : ∀ (o : Nat) (x : Int32) (m m2 : Mm), sK SC o = 6 → rT o x m = some m2 → Wp l SC dT (0, 0) mX6_readTest 0 [some (.ref o), some (.int x), none, none] [] m (Qv SC m2)) (hC : ∀ (o : Nat) (x : Int32) (m m2 : Mm), sK SC o = 6 → rC o x m = some m2 → Wp l SC dT (0, 0) mX6_readChoice 0 [some (.ref o), some (.int x), none, none] [] m (Qv SC m2)) (hdT : dT + 1 ≤ d) (hd : 5 ≤ d) (v0 : Nat) (t0 : sK SC v0 = 6) (v1 : Int32)  (μ : Mm) {μ' : Mm} (h : Reader_readTest_ rT rC v0 v1 μ = some μ') : Wp l SC d (0, 0) mX6_readTest 0 [some (.ref v0), some (.int v1), none, none] [] μ (Qv SC μ') := by
  unfold Reader_readTest_ at h
  refine wp_aload_n (x := v0) dX6_readTest_0 rfl ?_
  refine wp_getI fl_X6_49 (by decide) rfl (kltC t0) t0 dX6_readTest_1 ?_
  refine wp_if_ne 40 dX6_readTest_4 (by decide) (fun c1 => ?_) (fun c1 => ?_)
  · rw [if_neg c1] at h
    exact ok_Reader_readTest_j40 hT hC hdT hd v0 t0 v1 μ _ _ h
  · rw [if_pos c1] at h
    refine wp_aload_n (x := v0) dX6_readTest_7 rfl ?_
    refine wp_getR (v0 + 2) fl_X6_19 (by decide) rfl (kltC t0) t0 (ly6_4 t0).1 dX6_readTest_8 ?_
    refine wp_aload_n (x := v0) dX6_readTest_11 rfl ?_
    refine wp_getI fl_X6_52 (by decide) rfl (kltC t0) t0 dX6_readTest_12 ?_
    obtain ⟨c1, h⟩ := chv_some h
    refine wp_ialde (kltC (ly6_4 t0).2.1) (ly6_4 t0).2.1 (ly6_4 t0).2.2 c1 dX6_readTest_15 ?_
    refine wp_sipush (nI 305) dX6_readTest_16 rfl ?_
    refine wp_icmp_eq 36 dX6_readTest_19 (by decide) (fun c1 => ?_) (fun c1 => ?_)
    · rw [if_pos c1] at h
      exact ok_Reader_readTest_j36 hT hC hdT hd v0 t0 v1 μ _ _ h
    · rw [if_neg c1] at h
      refine wp_aload_n (x := v0) dX6_readTest_22 rfl ?_
      refine wp_getR (v0 + 2) fl_X6_19 (by decide) rfl (kltC t0) t0 (ly6_4 t0).1 dX6_readTest_23 ?_
      refine wp_aload_n (x := v0) dX6_readTest_26 rfl ?_
      refine wp_getI fl_X6_52 (by decide) rfl (kltC t0) t0 dX6_readTest_27 ?_
      obtain ⟨c1, h⟩ := chv_some h
      refine wp_ialde (kltC (ly6_4 t0).2.1) (ly6_4 t0).2.1 (ly6_4 t0).2.2 c1 dX6_readTest_30 ?_
      refine wp_bipush (nI 40) dX6_readTest_31 rfl ?_
      refine wp_icmp_ne 40 dX6_readTest_33 (by decide) (fun c1 => ?_) (fun c1 => ?_)
      · rw [if_neg c1] at h
        exact ok_Reader_readTest_j40 hT hC hdT hd v0 t0 v1 μ _ _ h
      · rw [if_pos c1] at h
        exact ok_Reader_readTest_j36 hT hC hdT hd v0 t0 v1 μ _ _ h
theorem ok_Reader_readChoice_j107 {l : Launch} {d : Nat} {dT : Nat} {rT rC : Nat → Int32 → Mm → Option Mm} (hT : ∀ (o : Nat) (x : Int32) (m m2 : Mm), sK SC o = 6 → rT o x m = some m2 → Wp l SC dT (0, 0) mX6_readTest 0 [some (.ref o), some (.int x), none, none] [] m (Qv SC m2)) (hC : ∀ (o : Nat) (x : Int32) (m m2 : Mm), sK SC o = 6 → rC o x m = some m2 → Wp l SC dT (0, 0) mX6_readChoice 0 [some (.ref o), some (.int x), none, none] [] m (Qv SC m2)) (hdT : dT + 1 ≤ d) (hd : 3 ≤ d) (v0 : Nat) (t0 : sK SC v0 = 6) (v1 : Int32)  (v2 : Int32)  (v3 : Int32)  (μ : Mm) {Q : Option Value → Sh → Mm → Prop} (K : (Int32 × Int32 × Mm) ⊕ (Int32 × Mm) → Prop) (hb : ∀ (s : (Int32 × Int32 × Mm)), K (Sum.inl s) → Wp l SC d (0, 0) mX6_readChoice 9 [some (.ref v0), some (.int v1), some (.int s.1), some (.int s.2.1)] [] s.2.2 Q) (he0 : ∀ (x : (Int32 × Mm)) (z1 : Option Value) (z3 : Option Value), K (Sum.inr x) → Wp l SC d (0, 0) mX6_readChoice 113 [some (.ref v0), z1, some (.int x.1), z3] [] x.2 Q) {z : (Int32 × Int32 × Mm) ⊕ (Int32 × Mm)} (h : Reader_readChoice_j107 rT rC v0 v1 v2 v3 μ = some z) (hz : K z) : Wp l SC d (0, 0) mX6_readChoice 107 [some (.ref v0), some (.int v1), some (.int v2), some (.int v3)] [] μ Q := by
  unfold Reader_readChoice_j107 at h
  refine wp_iinc (x := v3) (k0 := (nI 1)) (L2 := [some (.ref v0), some (.int v1), some (.int v2), some (.int (v3 + (nI 1)))]) dX6_readChoice_107 rfl rfl (by decide) rfl rfl ?_
  refine wp_goto 9 dX6_readChoice_110 (by decide) ?_
  obtain rfl := some1 h
  exact hb (v2, (v3 + (nI 1)), μ) hz
theorem ok_Reader_readChoice_j100 {l : Launch} {d : Nat} {dT : Nat} {rT rC : Nat → Int32 → Mm → Option Mm} (hT : ∀ (o : Nat) (x : Int32) (m m2 : Mm), sK SC o = 6 → rT o x m = some m2 → Wp l SC dT (0, 0) mX6_readTest 0 [some (.ref o), some (.int x), none, none] [] m (Qv SC m2)) (hC : ∀ (o : Nat) (x : Int32) (m m2 : Mm), sK SC o = 6 → rC o x m = some m2 → Wp l SC dT (0, 0) mX6_readChoice 0 [some (.ref o), some (.int x), none, none] [] m (Qv SC m2)) (hdT : dT + 1 ≤ d) (hd : 3 ≤ d) (v0 : Nat) (t0 : sK SC v0 = 6) (v1 : Int32)  (v3 : Int32)  (μ : Mm) (z2 : Option Value) {Q : Option Value → Sh → Mm → Prop} (K : (Int32 × Int32 × Mm) ⊕ (Int32 × Mm) → Prop) (hb : ∀ (s : (Int32 × Int32 × Mm)), K (Sum.inl s) → Wp l SC d (0, 0) mX6_readChoice 9 [some (.ref v0), some (.int v1), some (.int s.1), some (.int s.2.1)] [] s.2.2 Q) (he0 : ∀ (x : (Int32 × Mm)) (z1 : Option Value) (z3 : Option Value), K (Sum.inr x) → Wp l SC d (0, 0) mX6_readChoice 113 [some (.ref v0), z1, some (.int x.1), z3] [] x.2 Q) {z : (Int32 × Int32 × Mm) ⊕ (Int32 × Mm)} (h : Reader_readChoice_j100 rT rC v0 v1 v3 μ = some z) (hz : K z) : Wp l SC d (0, 0) mX6_readChoice 100 [some (.ref v0), some (.int v1), z2, some (.int v3)] [] μ Q := by
  unfold Reader_readChoice_j100 at h
  refine wp_iconst (nI 1) dX6_readChoice_100 rfl ?_
  refine wp_istore_n (L2 := [some (.ref v0), some (.int v1), some (.int (nI 1)), some (.int v3)]) dX6_readChoice_101 (by decide) rfl rfl ?_
  refine wp_aload_n (x := v0) dX6_readChoice_102 rfl ?_
  refine wp_iload_n (x := v1) dX6_readChoice_103 rfl ?_
  obtain ⟨μ6, g1, h⟩ := bnd_some h
  refine wp_cVv (d := dT) (o := v0) cv_X6_143 (kltC t0) t0 (as := [.int v1]) (rest := []) dX6_readChoice_104 (by omega) cloC rfl rfl (Nat.le_of_ble_eq_true rfl) (Nat.le_of_ble_eq_true rfl) (hT v0 v1 μ _ t0 g1) ?_ rfl
  exact ok_Reader_readChoice_j107 hT hC hdT hd v0 t0 v1 (nI 1) v3 μ6 K hb he0 h hz
theorem ok_Reader_readChoice_j54 {l : Launch} {d : Nat} {dT : Nat} {rT rC : Nat → Int32 → Mm → Option Mm} (hT : ∀ (o : Nat) (x : Int32) (m m2 : Mm), sK SC o = 6 → rT o x m = some m2 → Wp l SC dT (0, 0) mX6_readTest 0 [some (.ref o), some (.int x), none, none] [] m (Qv SC m2)) (hC : ∀ (o : Nat) (x : Int32) (m m2 : Mm), sK SC o = 6 → rC o x m = some m2 → Wp l SC dT (0, 0) mX6_readChoice 0 [some (.ref o), some (.int x), none, none] [] m (Qv SC m2)) (hdT : dT + 1 ≤ d) (hd : 3 ≤ d) (v0 : Nat) (t0 : sK SC v0 = 6) (v1 : Int32)  (v2 : Int32)  (v3 : Int32)  (μ : Mm) {Q : Option Value → Sh → Mm → Prop} (K : (Int32 × Int32 × Mm) ⊕ (Int32 × Mm) → Prop) (hb : ∀ (s : (Int32 × Int32 × Mm)), K (Sum.inl s) → Wp l SC d (0, 0) mX6_readChoice 9 [some (.ref v0), some (.int v1), some (.int s.1), some (.int s.2.1)] [] s.2.2 Q) (he0 : ∀ (x : (Int32 × Mm)) (z1 : Option Value) (z3 : Option Value), K (Sum.inr x) → Wp l SC d (0, 0) mX6_readChoice 113 [some (.ref v0), z1, some (.int x.1), z3] [] x.2 Q) {z : (Int32 × Int32 × Mm) ⊕ (Int32 × Mm)} (h : Reader_readChoice_j54 rT rC v0 v1 v2 v3 μ = some z) (hz : K z) : Wp l SC d (0, 0) mX6_readChoice 54 [some (.ref v0), some (.int v1), some (.int v2), some (.int v3)] [] μ Q := by
  unfold Reader_readChoice_j54 at h
  refine wp_aload_n (x := v0) dX6_readChoice_54 rfl ?_
  refine wp_sipush (nI 304) dX6_readChoice_55 rfl ?_
  obtain ⟨r3, μ2, g1, h⟩ := bnd2_some h
  refine wp_cVi (d := d - 1) (o := v0) cv_X6_117 (kltC t0) t0 (as := [.int (nI 304)]) (rest := []) dX6_readChoice_58 (by omega) cloC rfl rfl (Nat.le_of_ble_eq_true rfl) (Nat.le_of_ble_eq_true rfl) (ok_Reader_takes (by omega) v0 t0 (nI 304) μ g1) ?_ rfl
  refine wp_if_eq 79 dX6_readChoice_61 (by decide) (fun c1 => ?_) (fun c1 => ?_)
  · rw [if_pos c1] at h
    refine wp_aload_n (x := v0) dX6_readChoice_79 rfl ?_
    refine wp_sipush (nI 303) dX6_readChoice_80 rfl ?_
    obtain ⟨r5, μ4, g1, h⟩ := bnd2_some h
    refine wp_cVi (d := d - 1) (o := v0) cv_X6_117 (kltC t0) t0 (as := [.int (nI 303)]) (rest := []) dX6_readChoice_83 (by omega) cloC rfl rfl (Nat.le_of_ble_eq_true rfl) (Nat.le_of_ble_eq_true rfl) (ok_Reader_takes (by omega) v0 t0 (nI 303) μ2 g1) ?_ rfl
    refine wp_if_eq 107 dX6_readChoice_86 (by decide) (fun c1 => ?_) (fun c1 => ?_)
    · rw [if_pos c1] at h
      exact ok_Reader_readChoice_j107 hT hC hdT hd v0 t0 v1 v2 v3 μ4 K hb he0 h hz
    · rw [if_neg c1] at h
      refine wp_iload_n (x := v2) dX6_readChoice_89 rfl ?_
      refine wp_if_eq 100 dX6_readChoice_90 (by decide) (fun c1 => ?_) (fun c1 => ?_)
      · rw [if_pos c1] at h
        exact ok_Reader_readChoice_j100 hT hC hdT hd v0 t0 v1 v3 μ4 _ K hb he0 h hz
      · rw [if_neg c1] at h
        refine wp_aload_n (x := v0) dX6_readChoice_93 rfl ?_
        refine wp_sipush (nI 303) dX6_readChoice_94 rfl ?_
        obtain ⟨μ7, g1, h⟩ := bnd_some h
        refine wp_cVv (d := d - 1) (o := v0) cv_X6_146 (kltC t0) t0 (as := [.int (nI 303)]) (rest := []) dX6_readChoice_97 (by omega) cloC rfl rfl (Nat.le_of_ble_eq_true rfl) (Nat.le_of_ble_eq_true rfl) (ok_Reader_addOperation (by omega) v0 t0 (nI 303) μ4 g1) ?_ rfl
        exact ok_Reader_readChoice_j100 hT hC hdT hd v0 t0 v1 v3 μ7 _ K hb he0 h hz
  · rw [if_neg c1] at h
    refine wp_aload_n (x := v0) dX6_readChoice_64 rfl ?_
    refine wp_iload_n (x := v1) dX6_readChoice_65 rfl ?_
    obtain ⟨μ8, g1, h⟩ := bnd_some h
    refine wp_cVv (d := dT) (o := v0) cv_X6_143 (kltC t0) t0 (as := [.int v1]) (rest := []) dX6_readChoice_66 (by omega) cloC rfl rfl (Nat.le_of_ble_eq_true rfl) (Nat.le_of_ble_eq_true rfl) (hT v0 v1 μ2 _ t0 g1) ?_ rfl
    refine wp_aload_n (x := v0) dX6_readChoice_69 rfl ?_
    refine wp_sipush (nI 304) dX6_readChoice_70 rfl ?_
    obtain ⟨μ9, g1, h⟩ := bnd_some h
    refine wp_cVv (d := d - 1) (o := v0) cv_X6_146 (kltC t0) t0 (as := [.int (nI 304)]) (rest := []) dX6_readChoice_73 (by omega) cloC rfl rfl (Nat.le_of_ble_eq_true rfl) (Nat.le_of_ble_eq_true rfl) (ok_Reader_addOperation (by omega) v0 t0 (nI 304) μ8 g1) ?_ rfl
    refine wp_goto 107 dX6_readChoice_76 (by decide) ?_
    exact ok_Reader_readChoice_j107 hT hC hdT hd v0 t0 v1 v2 v3 μ9 K hb he0 h hz
theorem ok_Reader_readChoice_l9 {l : Launch} {d : Nat} {dT : Nat} {rT rC : Nat → Int32 → Mm → Option Mm} (hT : ∀ (o : Nat) (x : Int32) (m m2 : Mm), sK SC o = 6 → rT o x m = some m2 → Wp l SC dT (0, 0) mX6_readTest 0 [some (.ref o), some (.int x), none, none] [] m (Qv SC m2)) (hC : ∀ (o : Nat) (x : Int32) (m m2 : Mm), sK SC o = 6 → rC o x m = some m2 → Wp l SC dT (0, 0) mX6_readChoice 0 [some (.ref o), some (.int x), none, none] [] m (Qv SC m2)) (hdT : dT + 1 ≤ d) (hd : 3 ≤ d) (v0 : Nat) (t0 : sK SC v0 = 6) (v1 : Int32)  (v2 : Int32)  (v3 : Int32)  (μ : Mm) {Q : Option Value → Sh → Mm → Prop} (K : (Int32 × Int32 × Mm) ⊕ (Int32 × Mm) → Prop) (hb : ∀ (s : (Int32 × Int32 × Mm)), K (Sum.inl s) → Wp l SC d (0, 0) mX6_readChoice 9 [some (.ref v0), some (.int v1), some (.int s.1), some (.int s.2.1)] [] s.2.2 Q) (he0 : ∀ (x : (Int32 × Mm)) (z1 : Option Value) (z3 : Option Value), K (Sum.inr x) → Wp l SC d (0, 0) mX6_readChoice 113 [some (.ref v0), z1, some (.int x.1), z3] [] x.2 Q) {z : (Int32 × Int32 × Mm) ⊕ (Int32 × Mm)} (h : Reader_readChoice_l9 rT rC v0 v1 v2 v3 μ = some z) (hz : K z) : Wp l SC d (0, 0) mX6_readChoice 9 [some (.ref v0), some (.int v1), some (.int v2), some (.int v3)] [] μ Q := by
  unfold Reader_readChoice_l9 at h
  refine wp_iload_n (x := v3) dX6_readChoice_9 rfl ?_
  refine wp_aload_n (x := v0) dX6_readChoice_10 rfl ?_
  refine wp_getI fl_X6_58 (by decide) rfl (kltC t0) t0 dX6_readChoice_11 ?_
  refine wp_icmp_ge 113 dX6_readChoice_14 (by decide) (fun c1 => ?_) (fun c1 => ?_)
  · rw [if_pos c1] at h
    obtain rfl := some1 h
    exact he0 (v2, μ) _ _ hz
  · rw [if_neg c1] at h
    refine wp_aload_n (x := v0) dX6_readChoice_17 rfl ?_
    refine wp_getI fl_X6_49 (by decide) rfl (kltC t0) t0 dX6_readChoice_18 ?_
    refine wp_if_ne 113 dX6_readChoice_21 (by decide) (fun c1 => ?_) (fun c1 => ?_)
    · rw [if_neg c1] at h
      obtain rfl := some1 h
      exact he0 (v2, μ) _ _ hz
    · rw [if_pos c1] at h
      refine wp_aload_n (x := v0) dX6_readChoice_24 rfl ?_
      refine wp_getR (v0 + 2) fl_X6_19 (by decide) rfl (kltC t0) t0 (ly6_4 t0).1 dX6_readChoice_25 ?_
      refine wp_aload_n (x := v0) dX6_readChoice_28 rfl ?_
      refine wp_getI fl_X6_52 (by decide) rfl (kltC t0) t0 dX6_readChoice_29 ?_
      obtain ⟨c1, h⟩ := chv_some h
      refine wp_ialde (kltC (ly6_4 t0).2.1) (ly6_4 t0).2.1 (ly6_4 t0).2.2 c1 dX6_readChoice_32 ?_
      refine wp_sipush (nI 303) dX6_readChoice_33 rfl ?_
      refine wp_icmp_eq 54 dX6_readChoice_36 (by decide) (fun c1 => ?_) (fun c1 => ?_)
      · rw [if_pos c1] at h
        exact ok_Reader_readChoice_j54 hT hC hdT hd v0 t0 v1 v2 v3 μ K hb he0 h hz
      · rw [if_neg c1] at h
        refine wp_aload_n (x := v0) dX6_readChoice_39 rfl ?_
        refine wp_getR (v0 + 2) fl_X6_19 (by decide) rfl (kltC t0) t0 (ly6_4 t0).1 dX6_readChoice_40 ?_
        refine wp_aload_n (x := v0) dX6_readChoice_43 rfl ?_
        refine wp_getI fl_X6_52 (by decide) rfl (kltC t0) t0 dX6_readChoice_44 ?_
        obtain ⟨c1, h⟩ := chv_some h
        refine wp_ialde (kltC (ly6_4 t0).2.1) (ly6_4 t0).2.1 (ly6_4 t0).2.2 c1 dX6_readChoice_47 ?_
        refine wp_sipush (nI 304) dX6_readChoice_48 rfl ?_
        refine wp_icmp_ne 113 dX6_readChoice_51 (by decide) (fun c1 => ?_) (fun c1 => ?_)
        · rw [if_neg c1] at h
          obtain rfl := some1 h
          exact he0 (v2, μ) _ _ hz
        · rw [if_pos c1] at h
          exact ok_Reader_readChoice_j54 hT hC hdT hd v0 t0 v1 v2 v3 μ K hb he0 h hz
theorem okl_Reader_readChoice_l9 {l : Launch} {d : Nat} {dT : Nat} {rT rC : Nat → Int32 → Mm → Option Mm} (hT : ∀ (o : Nat) (x : Int32) (m m2 : Mm), sK SC o = 6 → rT o x m = some m2 → Wp l SC dT (0, 0) mX6_readTest 0 [some (.ref o), some (.int x), none, none] [] m (Qv SC m2)) (hC : ∀ (o : Nat) (x : Int32) (m m2 : Mm), sK SC o = 6 → rC o x m = some m2 → Wp l SC dT (0, 0) mX6_readChoice 0 [some (.ref o), some (.int x), none, none] [] m (Qv SC m2)) (hdT : dT + 1 ≤ d) (hd : 3 ≤ d) (v0 : Nat) (t0 : sK SC v0 = 6) (v1 : Int32)  {Q : Option Value → Sh → Mm → Prop} (K : (Int32 × Mm) → Prop) (he0 : ∀ (x : (Int32 × Mm)) (z1 : Option Value) (z3 : Option Value), K x → Wp l SC d (0, 0) mX6_readChoice 113 [some (.ref v0), z1, some (.int x.1), z3] [] x.2 Q) : ∀ (n : Nat) (s : (Int32 × Int32 × Mm)) (y : (Int32 × Mm)) , iter n (fun s => Reader_readChoice_l9 rT rC v0 v1 s.1 s.2.1 s.2.2) s = some y → K y → Wp l SC d (0, 0) mX6_readChoice 9 [some (.ref v0), some (.int v1), some (.int s.1), some (.int s.2.1)] [] s.2.2 Q := by
  intro n
  induction n with
  | zero => intro s y  h; cases h
  | succ n ih =>
    intro s y  h hK
    obtain ⟨z, hz, hn⟩ := iter_some h
    refine ok_Reader_readChoice_l9 hT hC hdT hd v0 t0 v1 s.1 s.2.1 s.2.2 (fun z => nxt n (fun s => Reader_readChoice_l9 rT rC v0 v1 s.1 s.2.1 s.2.2) z y) ?_ ?_ hz hn
    · intro s2  h2
      exact ih s2 y h2 hK
    · intro x z1 z3 h2
      have h3 : x = y := h2
      subst h3
      exact he0 x _ _ hK
theorem ok_Reader_readChoice_j113 {l : Launch} {d : Nat} {dT : Nat} {rT rC : Nat → Int32 → Mm → Option Mm} (hT : ∀ (o : Nat) (x : Int32) (m m2 : Mm), sK SC o = 6 → rT o x m = some m2 → Wp l SC dT (0, 0) mX6_readTest 0 [some (.ref o), some (.int x), none, none] [] m (Qv SC m2)) (hC : ∀ (o : Nat) (x : Int32) (m m2 : Mm), sK SC o = 6 → rC o x m = some m2 → Wp l SC dT (0, 0) mX6_readChoice 0 [some (.ref o), some (.int x), none, none] [] m (Qv SC m2)) (hdT : dT + 1 ≤ d) (hd : 3 ≤ d) (v0 : Nat) (t0 : sK SC v0 = 6) (v2 : Int32)  (μ : Mm) (z1 : Option Value) (z3 : Option Value) {μ' : Mm} (h : Reader_readChoice_j113 rT rC v0 v2 μ = some μ') : Wp l SC d (0, 0) mX6_readChoice 113 [some (.ref v0), z1, some (.int v2), z3] [] μ (Qv SC μ') := by
  unfold Reader_readChoice_j113 at h
  refine wp_iload_n (x := v2) dX6_readChoice_113 rfl ?_
  refine wp_if_eq 124 dX6_readChoice_114 (by decide) (fun c1 => ?_) (fun c1 => ?_)
  · rw [if_pos c1] at h
    obtain rfl := ret1 h
    exact wp_vret rfl dX6_readChoice_124 ⟨rfl, rfl, rfl⟩
  · rw [if_neg c1] at h
    refine wp_aload_n (x := v0) dX6_readChoice_117 rfl ?_
    refine wp_sipush (nI 303) dX6_readChoice_118 rfl ?_
    obtain ⟨μ10, g1, h⟩ := bnd_some h
    refine wp_cVv (d := d - 1) (o := v0) cv_X6_146 (kltC t0) t0 (as := [.int (nI 303)]) (rest := []) dX6_readChoice_121 (by omega) cloC rfl rfl (Nat.le_of_ble_eq_true rfl) (Nat.le_of_ble_eq_true rfl) (ok_Reader_addOperation (by omega) v0 t0 (nI 303) μ g1) ?_ rfl
    obtain rfl := ret1 h
    exact wp_vret rfl dX6_readChoice_124 ⟨rfl, rfl, rfl⟩
theorem ok_Reader_readChoice_ {l : Launch} {d : Nat} {dT : Nat} {rT rC : Nat → Int32 → Mm → Option Mm} (hT : ∀ (o : Nat) (x : Int32) (m m2 : Mm), sK SC o = 6 → rT o x m = some m2 → Wp l SC dT (0, 0) mX6_readTest 0 [some (.ref o), some (.int x), none, none] [] m (Qv SC m2)) (hC : ∀ (o : Nat) (x : Int32) (m m2 : Mm), sK SC o = 6 → rC o x m = some m2 → Wp l SC dT (0, 0) mX6_readChoice 0 [some (.ref o), some (.int x), none, none] [] m (Qv SC m2)) (hdT : dT + 1 ≤ d) (hd : 3 ≤ d) (v0 : Nat) (t0 : sK SC v0 = 6) (v1 : Int32)  (μ : Mm) {μ' : Mm} (h : Reader_readChoice_ rT rC v0 v1 μ = some μ') : Wp l SC d (0, 0) mX6_readChoice 0 [some (.ref v0), some (.int v1), none, none] [] μ (Qv SC μ') := by
  unfold Reader_readChoice_ at h
  refine wp_aload_n (x := v0) dX6_readChoice_0 rfl ?_
  refine wp_iload_n (x := v1) dX6_readChoice_1 rfl ?_
  obtain ⟨μ1, g1, h⟩ := bnd_some h
  refine wp_cVv (d := dT) (o := v0) cv_X6_143 (kltC t0) t0 (as := [.int v1]) (rest := []) dX6_readChoice_2 (by omega) cloC rfl rfl (Nat.le_of_ble_eq_true rfl) (Nat.le_of_ble_eq_true rfl) (hT v0 v1 μ _ t0 g1) ?_ rfl
  refine wp_iconst (nI 0) dX6_readChoice_5 rfl ?_
  refine wp_istore_n (L2 := [some (.ref v0), some (.int v1), some (.int (nI 0)), none]) dX6_readChoice_6 (by decide) rfl rfl ?_
  refine wp_iconst (nI 0) dX6_readChoice_7 rfl ?_
  refine wp_istore_n (L2 := [some (.ref v0), some (.int v1), some (.int (nI 0)), some (.int (nI 0))]) dX6_readChoice_8 (by decide) rfl rfl ?_
  obtain ⟨x9, hi, h⟩ := bni_some h
  refine okl_Reader_readChoice_l9 hT hC hdT hd v0 t0 v1 (fun z => z = x9) ?_ 1000000 ((nI 0), (nI 0), μ1) x9 hi rfl
  · intro y0 z1 z3 e0
    have e0 : y0 = x9 := e0
    subst e0
    exact ok_Reader_readChoice_j113 hT hC hdT hd v0 t0 y0.1 y0.2 _ _ h
theorem ok_Reader_TC {l : Launch} : ∀ (n d : Nat), 5 + n ≤ d → (∀ (o : Nat) (x : Int32) (m m2 : Mm), sK SC o = 6 → (Reader_TC n).1 o x m = some m2 → Wp l SC d (0, 0) mX6_readTest 0 [some (.ref o), some (.int x), none, none] [] m (Qv SC m2)) ∧ (∀ (o : Nat) (x : Int32) (m m2 : Mm), sK SC o = 6 → (Reader_TC n).2 o x m = some m2 → Wp l SC d (0, 0) mX6_readChoice 0 [some (.ref o), some (.int x), none, none] [] m (Qv SC m2)) := by
  intro n
  induction n with
  | zero => exact fun d hd => ⟨fun o x m m2 ho h => (by cases h), fun o x m m2 ho h => (by cases h)⟩
  | succ n ih =>
    intro d hd
    have hh := ih (d - 1) (by omega)
    exact ⟨fun o x m m2 ho h => ok_Reader_readTest_ hh.1 hh.2 (by omega) (by omega) o ho x m h, fun o x m m2 ho h => ok_Reader_readChoice_ hh.1 hh.2 (by omega) (by omega) o ho x m h⟩
theorem ok_Reader_readChoiceF {l : Launch} {n d : Nat} (hd : 5 + n ≤ d) (v0 : Nat) (t0 : sK SC v0 = 6) (v1 : Int32) (μ : Mm) {μ' : Mm} (h : Reader_readChoiceF n v0 v1 μ = some μ') : Wp l SC d (0, 0) mX6_readChoice 0 [some (.ref v0), some (.int v1), none, none] [] μ (Qv SC μ') := (ok_Reader_TC n d hd).2 v0 v1 μ μ' t0 h
theorem ok_Reader_readLaw_j118 {l : Launch} {d : Nat} (hd : 46 ≤ d) (v0 : Nat) (t0 : sK SC v0 = 6) (v1 : Nat) (t1 : sK SC v1 = 1) (v2 : Int32)  (v4 : Int32)  (v5 : Int32)  (v6 : Int32)  (μ : Mm) (z3 : Option Value) {Q : Option Value → Sh → Mm → Prop} (K : (Int32 × Mm) ⊕ Mm → Prop) (hb : ∀ (s : (Int32 × Mm)) (z3 : Option Value) (z5 : Option Value) (z6 : Option Value), K (Sum.inl s) → Wp l SC d (0, 0) mX6_readLaw 15 [some (.ref v0), some (.ref v1), some (.int v2), z3, some (.int s.1), z5, z6] [] s.2 Q) (he0 : ∀ (x : Mm) (z2 : Option Value) (z3 : Option Value) (z4 : Option Value) (z5 : Option Value) (z6 : Option Value), K (Sum.inr x) → Wp l SC d (0, 0) mX6_readLaw 141 [some (.ref v0), some (.ref v1), z2, z3, z4, z5, z6] [] x Q) {z : (Int32 × Mm) ⊕ Mm} (h : Reader_readLaw_j118 v0 v1 v2 v4 v5 v6 μ = some z) (hz : K z) : Wp l SC d (0, 0) mX6_readLaw 118 [some (.ref v0), some (.ref v1), some (.int v2), z3, some (.int v4), some (.int v5), some (.int v6)] [] μ Q := by
  unfold Reader_readLaw_j118 at h
  refine wp_aload_n (x := v0) dX6_readLaw_118 rfl ?_
  refine wp_bipush (nI 59) dX6_readLaw_119 rfl ?_
  obtain ⟨μ7, g1, h⟩ := bnd_some h
  refine wp_cVv (d := d - 1) (o := v0) cv_X6_110 (kltC t0) t0 (as := [.int (nI 59)]) (rest := []) dX6_readLaw_121 (by omega) cloC rfl rfl (Nat.le_of_ble_eq_true rfl) (Nat.le_of_ble_eq_true rfl) (ok_Reader_take (by omega) v0 t0 (nI 59) μ g1) ?_ rfl
  refine wp_aload_n (x := v0) dX6_readLaw_124 rfl ?_
  refine wp_getR (v0 + 5) fl_X6_31 (by decide) rfl (kltC t0) t0 (ly6_9 t0).1 dX6_readLaw_125 ?_
  refine wp_iload (x := v5) dX6_readLaw_128 rfl ?_
  refine wp_iload (x := v6) dX6_readLaw_130 rfl ?_
  obtain ⟨μ8, g1, h⟩ := bnd_some h
  refine wp_cVv (d := d - 1) (o := (v0 + 5)) cv_X6_123 (kltC (ly6_9 t0).2.1) (ly6_9 t0).2.1 (as := [.int v5, .int v6]) (rest := []) dX6_readLaw_132 (by omega) cloC rfl rfl (Nat.le_of_ble_eq_true rfl) (Nat.le_of_ble_eq_true rfl) (ok_Law_addLine (by omega) (v0 + 5) ((ly6_9 t0).2.1) v5 v6 μ7 g1) ?_ rfl
  refine wp_iincF (x := v4) (k0 := (nI 1)) (L2 := [some (.ref v0), some (.ref v1), some (.int v2), none, some (.int (v4 + (nI 1))), some (.int v5), some (.int v6)]) dX6_readLaw_135 rfl rfl (by decide) rfl ?_
  refine wp_goto 15 dX6_readLaw_138 (by decide) ?_
  obtain rfl := some1 h
  exact hb ((v4 + (nI 1)), μ8) _ _ _ hz
theorem ok_Reader_readLaw_j76 {l : Launch} {d : Nat} (hd : 46 ≤ d) (v0 : Nat) (t0 : sK SC v0 = 6) (v1 : Nat) (t1 : sK SC v1 = 1) (v2 : Int32)  (v4 : Int32)  (μ : Mm) (z3 : Option Value) (z5 : Option Value) (z6 : Option Value) {Q : Option Value → Sh → Mm → Prop} (K : (Int32 × Mm) ⊕ Mm → Prop) (hb : ∀ (s : (Int32 × Mm)) (z3 : Option Value) (z5 : Option Value) (z6 : Option Value), K (Sum.inl s) → Wp l SC d (0, 0) mX6_readLaw 15 [some (.ref v0), some (.ref v1), some (.int v2), z3, some (.int s.1), z5, z6] [] s.2 Q) (he0 : ∀ (x : Mm) (z2 : Option Value) (z3 : Option Value) (z4 : Option Value) (z5 : Option Value) (z6 : Option Value), K (Sum.inr x) → Wp l SC d (0, 0) mX6_readLaw 141 [some (.ref v0), some (.ref v1), z2, z3, z4, z5, z6] [] x Q) {z : (Int32 × Mm) ⊕ Mm} (h : Reader_readLaw_j76 v0 v1 v2 v4 μ = some z) (hz : K z) : Wp l SC d (0, 0) mX6_readLaw 76 [some (.ref v0), some (.ref v1), some (.int v2), z3, some (.int v4), z5, z6] [] μ Q := by
  unfold Reader_readLaw_j76 at h
  refine wp_aload_n (x := v0) dX6_readLaw_76 rfl ?_
  refine wp_iload_n (x := v2) dX6_readLaw_77 rfl ?_
  obtain ⟨μ3, g1, h⟩ := bnd_some h
  refine wp_cVv (d := d - 1) (o := v0) cv_X6_110 (kltC t0) t0 (as := [.int v2]) (rest := []) dX6_readLaw_78 (by omega) cloC rfl rfl (Nat.le_of_ble_eq_true rfl) (Nat.le_of_ble_eq_true rfl) (ok_Reader_take (by omega) v0 t0 v2 μ g1) ?_ rfl
  refine wp_aload_n (x := v0) dX6_readLaw_81 rfl ?_
  refine wp_getR (v0 + 5) fl_X6_31 (by decide) rfl (kltC t0) t0 (ly6_9 t0).1 dX6_readLaw_82 ?_
  refine wp_getI fl_X6_113 (by decide) rfl (kltC (ly6_9 t0).2.1) (ly6_9 t0).2.1 dX6_readLaw_85 ?_
  refine wp_istore (L2 := [some (.ref v0), some (.ref v1), some (.int v2), z3, some (.int v4), some (.int (μ3.1 (v0 + 5) 5)), z6]) dX6_readLaw_88 (by decide) rfl rfl ?_
  refine wp_aload_n (x := v0) dX6_readLaw_90 rfl ?_
  obtain ⟨μ4, g1, h⟩ := bnd_some h
  refine wp_cVv (d := d - 1) (o := v0) cv_X6_114 (kltC t0) t0 (as := []) (rest := []) dX6_readLaw_91 (by omega) cloC rfl rfl (Nat.le_of_ble_eq_true rfl) (Nat.le_of_ble_eq_true rfl) (ok_Reader_readSum (by omega) v0 t0 μ3 g1) ?_ rfl
  refine wp_aload_n (x := v0) dX6_readLaw_94 rfl ?_
  refine wp_getR (v0 + 5) fl_X6_31 (by decide) rfl (kltC t0) t0 (ly6_9 t0).1 dX6_readLaw_95 ?_
  refine wp_getI fl_X6_113 (by decide) rfl (kltC (ly6_9 t0).2.1) (ly6_9 t0).2.1 dX6_readLaw_98 ?_
  refine wp_istore (L2 := [some (.ref v0), some (.ref v1), some (.int v2), z3, some (.int v4), some (.int (μ3.1 (v0 + 5) 5)), some (.int (μ4.1 (v0 + 5) 5))]) dX6_readLaw_101 (by decide) rfl rfl ?_
  refine wp_aload_n (x := v0) dX6_readLaw_103 rfl ?_
  refine wp_sipush (nI 302) dX6_readLaw_104 rfl ?_
  obtain ⟨r6, μ5, g1, h⟩ := bnd2_some h
  refine wp_cVi (d := d - 1) (o := v0) cv_X6_117 (kltC t0) t0 (as := [.int (nI 302)]) (rest := []) dX6_readLaw_107 (by omega) cloC rfl rfl (Nat.le_of_ble_eq_true rfl) (Nat.le_of_ble_eq_true rfl) (ok_Reader_takes (by omega) v0 t0 (nI 302) μ4 g1) ?_ rfl
  refine wp_if_eq 118 dX6_readLaw_110 (by decide) (fun c1 => ?_) (fun c1 => ?_)
  · rw [if_pos c1] at h
    exact ok_Reader_readLaw_j118 hd v0 t0 v1 t1 v2 v4 (μ3.1 (v0 + 5) 5) (μ4.1 (v0 + 5) 5) μ5 _ K hb he0 h hz
  · rw [if_neg c1] at h
    refine wp_aload_n (x := v0) dX6_readLaw_113 rfl ?_
    refine wp_iconst (nI 0) dX6_readLaw_114 rfl ?_
    obtain ⟨μ9, g1, h⟩ := bnd_some h
    refine wp_cVv (d := d - 1) (o := v0) cv_X6_120 (kltC t0) t0 (as := [.int (nI 0)]) (rest := []) dX6_readLaw_115 (by omega) cloC rfl rfl (Nat.le_of_ble_eq_true rfl) (Nat.le_of_ble_eq_true rfl) (ok_Reader_readChoiceF (by omega) v0 t0 (nI 0) μ5 g1) ?_ rfl
    exact ok_Reader_readLaw_j118 hd v0 t0 v1 t1 v2 v4 (μ3.1 (v0 + 5) 5) (μ4.1 (v0 + 5) 5) μ9 _ K hb he0 h hz
theorem ok_Reader_readLaw_l15 {l : Launch} {d : Nat} (hd : 46 ≤ d) (v0 : Nat) (t0 : sK SC v0 = 6) (v1 : Nat) (t1 : sK SC v1 = 1) (v2 : Int32)  (v4 : Int32)  (μ : Mm) (z3 : Option Value) (z5 : Option Value) (z6 : Option Value) {Q : Option Value → Sh → Mm → Prop} (K : (Int32 × Mm) ⊕ Mm → Prop) (hb : ∀ (s : (Int32 × Mm)) (z3 : Option Value) (z5 : Option Value) (z6 : Option Value), K (Sum.inl s) → Wp l SC d (0, 0) mX6_readLaw 15 [some (.ref v0), some (.ref v1), some (.int v2), z3, some (.int s.1), z5, z6] [] s.2 Q) (he0 : ∀ (x : Mm) (z2 : Option Value) (z3 : Option Value) (z4 : Option Value) (z5 : Option Value) (z6 : Option Value), K (Sum.inr x) → Wp l SC d (0, 0) mX6_readLaw 141 [some (.ref v0), some (.ref v1), z2, z3, z4, z5, z6] [] x Q) {z : (Int32 × Mm) ⊕ Mm} (h : Reader_readLaw_l15 v0 v1 v2 v4 μ = some z) (hz : K z) : Wp l SC d (0, 0) mX6_readLaw 15 [some (.ref v0), some (.ref v1), some (.int v2), z3, some (.int v4), z5, z6] [] μ Q := by
  unfold Reader_readLaw_l15 at h
  refine wp_iload (x := v4) dX6_readLaw_15 rfl ?_
  refine wp_aload_n (x := v0) dX6_readLaw_17 rfl ?_
  refine wp_getI fl_X6_58 (by decide) rfl (kltC t0) t0 dX6_readLaw_18 ?_
  refine wp_icmp_ge 141 dX6_readLaw_21 (by decide) (fun c1 => ?_) (fun c1 => ?_)
  · rw [if_pos c1] at h
    obtain rfl := some1 h
    exact he0 μ _ _ _ _ _ hz
  · rw [if_neg c1] at h
    refine wp_aload_n (x := v0) dX6_readLaw_24 rfl ?_
    refine wp_getI fl_X6_49 (by decide) rfl (kltC t0) t0 dX6_readLaw_25 ?_
    refine wp_if_ne 141 dX6_readLaw_28 (by decide) (fun c1 => ?_) (fun c1 => ?_)
    · rw [if_neg c1] at h
      obtain rfl := some1 h
      exact he0 μ _ _ _ _ _ hz
    · rw [if_pos c1] at h
      refine wp_aload_n (x := v0) dX6_readLaw_31 rfl ?_
      refine wp_getR (v0 + 2) fl_X6_19 (by decide) rfl (kltC t0) t0 (ly6_4 t0).1 dX6_readLaw_32 ?_
      refine wp_aload_n (x := v0) dX6_readLaw_35 rfl ?_
      refine wp_getI fl_X6_52 (by decide) rfl (kltC t0) t0 dX6_readLaw_36 ?_
      obtain ⟨c1, h⟩ := chv_some h
      refine wp_ialde (kltC (ly6_4 t0).2.1) (ly6_4 t0).2.1 (ly6_4 t0).2.2 c1 dX6_readLaw_39 ?_
      refine wp_sipush (nI 256) dX6_readLaw_40 rfl ?_
      refine wp_icmp_eq 141 dX6_readLaw_43 (by decide) (fun c1 => ?_) (fun c1 => ?_)
      · rw [if_pos c1] at h
        obtain rfl := some1 h
        exact he0 μ _ _ _ _ _ hz
      · rw [if_neg c1] at h
        refine wp_aload_n (x := v0) dX6_readLaw_46 rfl ?_
        refine wp_getR (v0 + 2) fl_X6_19 (by decide) rfl (kltC t0) t0 (ly6_4 t0).1 dX6_readLaw_47 ?_
        refine wp_aload_n (x := v0) dX6_readLaw_50 rfl ?_
        refine wp_getI fl_X6_52 (by decide) rfl (kltC t0) t0 dX6_readLaw_51 ?_
        obtain ⟨c1, h⟩ := chv_some h
        refine wp_ialde (kltC (ly6_4 t0).2.1) (ly6_4 t0).2.1 (ly6_4 t0).2.2 c1 dX6_readLaw_54 ?_
        refine wp_iload_n (x := v2) dX6_readLaw_55 rfl ?_
        refine wp_icmp_ne 76 dX6_readLaw_56 (by decide) (fun c1 => ?_) (fun c1 => ?_)
        · rw [if_neg c1] at h
          exact ok_Reader_readLaw_j76 hd v0 t0 v1 t1 v2 v4 μ _ _ _ K hb he0 h hz
        · rw [if_pos c1] at h
          refine wp_aload_n (x := v0) dX6_readLaw_59 rfl ?_
          refine wp_getR (v0 + 5) fl_X6_31 (by decide) rfl (kltC t0) t0 (ly6_9 t0).1 dX6_readLaw_60 ?_
          refine wp_getI fl_X6_104 (by decide) rfl (kltC (ly6_9 t0).2.1) (ly6_9 t0).2.1 dX6_readLaw_63 ?_
          refine wp_bipush (nI 16) dX6_readLaw_66 rfl ?_
          refine wp_icmp_ne 76 dX6_readLaw_68 (by decide) (fun c1 => ?_) (fun c1 => ?_)
          · rw [if_neg c1] at h
            exact ok_Reader_readLaw_j76 hd v0 t0 v1 t1 v2 v4 μ _ _ _ K hb he0 h hz
          · rw [if_pos c1] at h
            refine wp_aload_n (x := v0) dX6_readLaw_71 rfl ?_
            refine wp_iconst (nI 3) dX6_readLaw_72 rfl ?_
            obtain ⟨μ10, g1, h⟩ := bnd_some h
            refine wp_cVv (d := d - 1) (o := v0) cv_X6_107 (kltC t0) t0 (as := [.int (nI 3)]) (rest := []) dX6_readLaw_73 (by omega) cloC rfl rfl (Nat.le_of_ble_eq_true rfl) (Nat.le_of_ble_eq_true rfl) (ok_Reader_fail (by omega) v0 t0 (nI 3) μ g1) ?_ rfl
            exact ok_Reader_readLaw_j76 hd v0 t0 v1 t1 v2 v4 μ10 _ _ _ K hb he0 h hz
theorem okl_Reader_readLaw_l15 {l : Launch} {d : Nat} (hd : 46 ≤ d) (v0 : Nat) (t0 : sK SC v0 = 6) (v1 : Nat) (t1 : sK SC v1 = 1) (v2 : Int32)  {Q : Option Value → Sh → Mm → Prop} (K : Mm → Prop) (he0 : ∀ (x : Mm) (z2 : Option Value) (z3 : Option Value) (z4 : Option Value) (z5 : Option Value) (z6 : Option Value), K x → Wp l SC d (0, 0) mX6_readLaw 141 [some (.ref v0), some (.ref v1), z2, z3, z4, z5, z6] [] x Q) : ∀ (n : Nat) (s : (Int32 × Mm)) (y : Mm) (z3 : Option Value) (z5 : Option Value) (z6 : Option Value) , iter n (fun s => Reader_readLaw_l15 v0 v1 v2 s.1 s.2) s = some y → K y → Wp l SC d (0, 0) mX6_readLaw 15 [some (.ref v0), some (.ref v1), some (.int v2), z3, some (.int s.1), z5, z6] [] s.2 Q := by
  intro n
  induction n with
  | zero => intro s y z3 z5 z6 h; cases h
  | succ n ih =>
    intro s y z3 z5 z6 h hK
    obtain ⟨z, hz, hn⟩ := iter_some h
    refine ok_Reader_readLaw_l15 hd v0 t0 v1 t1 v2 s.1 s.2 _ _ _ (fun z => nxt n (fun s => Reader_readLaw_l15 v0 v1 v2 s.1 s.2) z y) ?_ ?_ hz hn
    · intro s2 z3 z5 z6 h2
      exact ih s2 y _ _ _ h2 hK
    · intro x z2 z3 z4 z5 z6 h2
      have h3 : x = y := h2
      subst h3
      exact he0 x _ _ _ _ _ hK
theorem ok_Reader_readLaw_j141 {l : Launch} {d : Nat} (hd : 46 ≤ d) (v0 : Nat) (t0 : sK SC v0 = 6) (v1 : Nat) (t1 : sK SC v1 = 1) (μ : Mm) (z2 : Option Value) (z3 : Option Value) (z4 : Option Value) (z5 : Option Value) (z6 : Option Value) {r : Int32} {μ' : Mm} (h : Reader_readLaw_j141 v0 v1 μ = some (r, μ')) : Wp l SC d (0, 0) mX6_readLaw 141 [some (.ref v0), some (.ref v1), z2, z3, z4, z5, z6] [] μ (Qi SC r μ') := by
  unfold Reader_readLaw_j141 at h
  refine wp_aload_n (x := v0) dX6_readLaw_141 rfl ?_
  refine wp_getI fl_X6_49 (by decide) rfl (kltC t0) t0 dX6_readLaw_142 ?_
  refine wp_if_eq 150 dX6_readLaw_145 (by decide) (fun c1 => ?_) (fun c1 => ?_)
  · rw [if_pos c1] at h
    refine wp_aload_n (x := v1) dX6_readLaw_150 rfl ?_
    refine wp_aload_n (x := v0) dX6_readLaw_151 rfl ?_
    refine wp_getR (v0 + 5) fl_X6_31 (by decide) rfl (kltC t0) t0 (ly6_9 t0).1 dX6_readLaw_152 ?_
    obtain ⟨μ11, g1, h⟩ := bnd_some h
    refine wp_cVv (d := d - 1) (o := v1) cv_X6_127 (kltC t1) t1 (as := [.ref (v0 + 5)]) (rest := []) dX6_readLaw_155 (by omega) cloC rfl rfl (Nat.le_of_ble_eq_true rfl) (Nat.le_of_ble_eq_true rfl) (ok_Law_copyFrom (by omega) v1 t1 (v0 + 5) ((ly6_9 t0).2.1) μ g1) ?_ rfl
    refine wp_aload_n (x := v1) dX6_readLaw_158 rfl ?_
    refine wp_getI fl_X6_104 (by decide) rfl (kltC t1) t1 dX6_readLaw_159 ?_
    obtain ⟨rfl, rfl⟩ := ret2 h
    exact wp_iret rfl dX6_readLaw_162 ⟨rfl, rfl, rfl⟩
  · rw [if_neg c1] at h
    refine wp_iconst (-1) dX6_readLaw_148 rfl ?_
    obtain ⟨rfl, rfl⟩ := ret2 h
    exact wp_iret rfl dX6_readLaw_149 ⟨rfl, rfl, rfl⟩
theorem ok_Reader_readLaw {l : Launch} {d : Nat} (hd : 46 ≤ d) (v0 : Nat) (t0 : sK SC v0 = 6) (v1 : Nat) (t1 : sK SC v1 = 1) (v2 : Int32)  (v3 : Int32)  (μ : Mm) {r : Int32} {μ' : Mm} (h : Reader_readLaw v0 v1 v2 v3 μ = some (r, μ')) : Wp l SC d (0, 0) mX6_readLaw 0 [some (.ref v0), some (.ref v1), some (.int v2), some (.int v3), none, none, none] [] μ (Qi SC r μ') := by
  unfold Reader_readLaw at h
  refine wp_aload_n (x := v0) dX6_readLaw_0 rfl ?_
  refine wp_getR (v0 + 5) fl_X6_31 (by decide) rfl (kltC t0) t0 (ly6_9 t0).1 dX6_readLaw_1 ?_
  obtain ⟨μ1, g1, h⟩ := bnd_some h
  refine wp_cVv (d := d - 1) (o := (v0 + 5)) cv_X6_98 (kltC (ly6_9 t0).2.1) (ly6_9 t0).2.1 (as := []) (rest := []) dX6_readLaw_4 (by omega) cloC rfl rfl (Nat.le_of_ble_eq_true rfl) (Nat.le_of_ble_eq_true rfl) (ok_Law_clear (by omega) (v0 + 5) ((ly6_9 t0).2.1) μ g1) ?_ rfl
  refine wp_aload_n (x := v0) dX6_readLaw_7 rfl ?_
  refine wp_iload_n (x := v3) dX6_readLaw_8 rfl ?_
  obtain ⟨μ2, e1, h⟩ := lt_some h
  refine wp_putIe e1 fl_X6_101 (by decide) rfl (kltC t0) t0 dX6_readLaw_9 ?_
  refine wp_iconst (nI 0) dX6_readLaw_12 rfl ?_
  refine wp_istore (L2 := [some (.ref v0), some (.ref v1), some (.int v2), some (.int v3), some (.int (nI 0)), none, none]) dX6_readLaw_13 (by decide) rfl rfl ?_
  obtain ⟨x15, hi, h⟩ := bni_some h
  refine okl_Reader_readLaw_l15 hd v0 t0 v1 t1 v2 (fun z => z = x15) ?_ 1000000 ((nI 0), μ2) x15 _ _ _ hi rfl
  · intro y0 z2 z3 z4 z5 z6 e0
    have e0 : y0 = x15 := e0
    subst e0
    exact ok_Reader_readLaw_j141 hd v0 t0 v1 t1 y0 _ _ _ _ _ h
theorem ok_Reader_readPost_l9 {l : Launch} {d : Nat} (hd : 3 ≤ d) (v0 : Nat) (t0 : sK SC v0 = 6) (v1 : Nat) (t1 : sK SC v1 = 5) (v2 : Int32)  (μ : Mm) (z3 : Option Value) (z4 : Option Value) (z5 : Option Value) {Q : Option Value → Sh → Mm → Prop} (K : (Int32 × Mm) ⊕ Mm → Prop) (hb : ∀ (s : (Int32 × Mm)) (z3 : Option Value) (z4 : Option Value) (z5 : Option Value), K (Sum.inl s) → Wp l SC d (0, 0) mX6_readPost 9 [some (.ref v0), some (.ref v1), some (.int s.1), z3, z4, z5] [] s.2 Q) (he0 : ∀ (x : Mm) (z2 : Option Value) (z3 : Option Value) (z4 : Option Value) (z5 : Option Value), K (Sum.inr x) → Wp l SC d (0, 0) mX6_readPost 108 [some (.ref v0), some (.ref v1), z2, z3, z4, z5] [] x Q) {z : (Int32 × Mm) ⊕ Mm} (h : Reader_readPost_l9 v0 v1 v2 μ = some z) (hz : K z) : Wp l SC d (0, 0) mX6_readPost 9 [some (.ref v0), some (.ref v1), some (.int v2), z3, z4, z5] [] μ Q := by
  unfold Reader_readPost_l9 at h
  refine wp_iload_n (x := v2) dX6_readPost_9 rfl ?_
  refine wp_aload_n (x := v0) dX6_readPost_10 rfl ?_
  refine wp_getI fl_X6_58 (by decide) rfl (kltC t0) t0 dX6_readPost_11 ?_
  refine wp_icmp_ge 108 dX6_readPost_14 (by decide) (fun c1 => ?_) (fun c1 => ?_)
  · rw [if_pos c1] at h
    obtain rfl := some1 h
    exact he0 μ _ _ _ _ hz
  · rw [if_neg c1] at h
    refine wp_aload_n (x := v0) dX6_readPost_17 rfl ?_
    refine wp_getI fl_X6_49 (by decide) rfl (kltC t0) t0 dX6_readPost_18 ?_
    refine wp_if_ne 108 dX6_readPost_21 (by decide) (fun c1 => ?_) (fun c1 => ?_)
    · rw [if_neg c1] at h
      obtain rfl := some1 h
      exact he0 μ _ _ _ _ hz
    · rw [if_pos c1] at h
      refine wp_aload_n (x := v0) dX6_readPost_24 rfl ?_
      refine wp_getR (v0 + 2) fl_X6_19 (by decide) rfl (kltC t0) t0 (ly6_4 t0).1 dX6_readPost_25 ?_
      refine wp_aload_n (x := v0) dX6_readPost_28 rfl ?_
      refine wp_getI fl_X6_52 (by decide) rfl (kltC t0) t0 dX6_readPost_29 ?_
      obtain ⟨c1, h⟩ := chv_some h
      refine wp_ialde (kltC (ly6_4 t0).2.1) (ly6_4 t0).2.1 (ly6_4 t0).2.2 c1 dX6_readPost_32 ?_
      refine wp_sipush (nI 256) dX6_readPost_33 rfl ?_
      refine wp_icmp_eq 108 dX6_readPost_36 (by decide) (fun c1 => ?_) (fun c1 => ?_)
      · rw [if_pos c1] at h
        obtain rfl := some1 h
        exact he0 μ _ _ _ _ hz
      · rw [if_neg c1] at h
        refine wp_aload_n (x := v0) dX6_readPost_39 rfl ?_
        refine wp_sipush (nI 306) dX6_readPost_40 rfl ?_
        obtain ⟨μ2, g1, h⟩ := bnd_some h
        refine wp_cVv (d := d - 1) (o := v0) cv_X6_110 (kltC t0) t0 (as := [.int (nI 306)]) (rest := []) dX6_readPost_43 (by omega) cloC rfl rfl (Nat.le_of_ble_eq_true rfl) (Nat.le_of_ble_eq_true rfl) (ok_Reader_take (by omega) v0 t0 (nI 306) μ g1) ?_ rfl
        refine wp_aload_n (x := v0) dX6_readPost_46 rfl ?_
        refine wp_iconst (nI 0) dX6_readPost_47 rfl ?_
        refine wp_iconst (nI 5) dX6_readPost_48 rfl ?_
        obtain ⟨r4, μ3, g1, h⟩ := bnd2_some h
        refine wp_cVi (d := d - 1) (o := v0) cv_X6_132 (kltC t0) t0 (as := [.int (nI 0), .int (nI 5)]) (rest := []) dX6_readPost_49 (by omega) cloC rfl rfl (Nat.le_of_ble_eq_true rfl) (Nat.le_of_ble_eq_true rfl) (ok_Reader_takeNumber (by omega) v0 t0 (nI 0) (nI 5) μ2 g1) ?_ rfl
        refine wp_istore_n (L2 := [some (.ref v0), some (.ref v1), some (.int v2), some (.int r4), z4, z5]) dX6_readPost_52 (by decide) rfl rfl ?_
        refine wp_aload_n (x := v0) dX6_readPost_53 rfl ?_
        refine wp_sipush (nI 307) dX6_readPost_54 rfl ?_
        obtain ⟨μ5, g1, h⟩ := bnd_some h
        refine wp_cVv (d := d - 1) (o := v0) cv_X6_110 (kltC t0) t0 (as := [.int (nI 307)]) (rest := []) dX6_readPost_57 (by omega) cloC rfl rfl (Nat.le_of_ble_eq_true rfl) (Nat.le_of_ble_eq_true rfl) (ok_Reader_take (by omega) v0 t0 (nI 307) μ3 g1) ?_ rfl
        refine wp_aload_n (x := v0) dX6_readPost_60 rfl ?_
        refine wp_iconst (nI 0) dX6_readPost_61 rfl ?_
        refine wp_iconst (nI 5) dX6_readPost_62 rfl ?_
        obtain ⟨r7, μ6, g1, h⟩ := bnd2_some h
        refine wp_cVi (d := d - 1) (o := v0) cv_X6_132 (kltC t0) t0 (as := [.int (nI 0), .int (nI 5)]) (rest := []) dX6_readPost_63 (by omega) cloC rfl rfl (Nat.le_of_ble_eq_true rfl) (Nat.le_of_ble_eq_true rfl) (ok_Reader_takeNumber (by omega) v0 t0 (nI 0) (nI 5) μ5 g1) ?_ rfl
        refine wp_istore (L2 := [some (.ref v0), some (.ref v1), some (.int v2), some (.int r4), some (.int r7), z5]) dX6_readPost_66 (by decide) rfl rfl ?_
        refine wp_aload_n (x := v0) dX6_readPost_68 rfl ?_
        refine wp_sipush (nI 308) dX6_readPost_69 rfl ?_
        obtain ⟨μ8, g1, h⟩ := bnd_some h
        refine wp_cVv (d := d - 1) (o := v0) cv_X6_110 (kltC t0) t0 (as := [.int (nI 308)]) (rest := []) dX6_readPost_72 (by omega) cloC rfl rfl (Nat.le_of_ble_eq_true rfl) (Nat.le_of_ble_eq_true rfl) (ok_Reader_take (by omega) v0 t0 (nI 308) μ6 g1) ?_ rfl
        refine wp_aload_n (x := v0) dX6_readPost_75 rfl ?_
        refine wp_iconst (nI 1) dX6_readPost_76 rfl ?_
        refine wp_bipush (nI 20) dX6_readPost_77 rfl ?_
        obtain ⟨r10, μ9, g1, h⟩ := bnd2_some h
        refine wp_cVi (d := d - 1) (o := v0) cv_X6_132 (kltC t0) t0 (as := [.int (nI 1), .int (nI 20)]) (rest := []) dX6_readPost_79 (by omega) cloC rfl rfl (Nat.le_of_ble_eq_true rfl) (Nat.le_of_ble_eq_true rfl) (ok_Reader_takeNumber (by omega) v0 t0 (nI 1) (nI 20) μ8 g1) ?_ rfl
        refine wp_istore (L2 := [some (.ref v0), some (.ref v1), some (.int v2), some (.int r4), some (.int r7), some (.int r10)]) dX6_readPost_82 (by decide) rfl rfl ?_
        refine wp_aload_n (x := v0) dX6_readPost_84 rfl ?_
        refine wp_bipush (nI 59) dX6_readPost_85 rfl ?_
        obtain ⟨μ11, g1, h⟩ := bnd_some h
        refine wp_cVv (d := d - 1) (o := v0) cv_X6_110 (kltC t0) t0 (as := [.int (nI 59)]) (rest := []) dX6_readPost_87 (by omega) cloC rfl rfl (Nat.le_of_ble_eq_true rfl) (Nat.le_of_ble_eq_true rfl) (ok_Reader_take (by omega) v0 t0 (nI 59) μ9 g1) ?_ rfl
        refine wp_aload_n (x := v0) dX6_readPost_90 rfl ?_
        refine wp_getR (v0 + 11) fl_X6_38 (by decide) rfl (kltC t0) t0 (ly6_10 t0).1 dX6_readPost_91 ?_
        refine wp_iload_n (x := r4) dX6_readPost_94 rfl ?_
        refine wp_iload (x := r7) dX6_readPost_95 rfl ?_
        refine wp_iload (x := r10) dX6_readPost_97 rfl ?_
        obtain ⟨μ12, g1, h⟩ := bnd_some h
        refine wp_cVv (d := d - 1) (o := (v0 + 11)) cv_X6_135 (kltC (ly6_10 t0).2.1) (ly6_10 t0).2.1 (as := [.int r4, .int r7, .int r10]) (rest := []) dX6_readPost_99 (by omega) cloC rfl rfl (Nat.le_of_ble_eq_true rfl) (Nat.le_of_ble_eq_true rfl) (ok_Post_add (by omega) (v0 + 11) ((ly6_10 t0).2.1) r4 r7 r10 μ11 g1) ?_ rfl
        refine wp_iinc (x := v2) (k0 := (nI 1)) (L2 := [some (.ref v0), some (.ref v1), some (.int (v2 + (nI 1))), some (.int r4), some (.int r7), some (.int r10)]) dX6_readPost_102 rfl rfl (by decide) rfl rfl ?_
        refine wp_goto 9 dX6_readPost_105 (by decide) ?_
        obtain rfl := some1 h
        exact hb ((v2 + (nI 1)), μ12) _ _ _ hz
theorem okl_Reader_readPost_l9 {l : Launch} {d : Nat} (hd : 3 ≤ d) (v0 : Nat) (t0 : sK SC v0 = 6) (v1 : Nat) (t1 : sK SC v1 = 5) {Q : Option Value → Sh → Mm → Prop} (K : Mm → Prop) (he0 : ∀ (x : Mm) (z2 : Option Value) (z3 : Option Value) (z4 : Option Value) (z5 : Option Value), K x → Wp l SC d (0, 0) mX6_readPost 108 [some (.ref v0), some (.ref v1), z2, z3, z4, z5] [] x Q) : ∀ (n : Nat) (s : (Int32 × Mm)) (y : Mm) (z3 : Option Value) (z4 : Option Value) (z5 : Option Value) , iter n (fun s => Reader_readPost_l9 v0 v1 s.1 s.2) s = some y → K y → Wp l SC d (0, 0) mX6_readPost 9 [some (.ref v0), some (.ref v1), some (.int s.1), z3, z4, z5] [] s.2 Q := by
  intro n
  induction n with
  | zero => intro s y z3 z4 z5 h; cases h
  | succ n ih =>
    intro s y z3 z4 z5 h hK
    obtain ⟨z, hz, hn⟩ := iter_some h
    refine ok_Reader_readPost_l9 hd v0 t0 v1 t1 s.1 s.2 _ _ _ (fun z => nxt n (fun s => Reader_readPost_l9 v0 v1 s.1 s.2) z y) ?_ ?_ hz hn
    · intro s2 z3 z4 z5 h2
      exact ih s2 y _ _ _ h2 hK
    · intro x z2 z3 z4 z5 h2
      have h3 : x = y := h2
      subst h3
      exact he0 x _ _ _ _ hK
theorem ok_Reader_readPost_j108 {l : Launch} {d : Nat} (hd : 3 ≤ d) (v0 : Nat) (t0 : sK SC v0 = 6) (v1 : Nat) (t1 : sK SC v1 = 5) (μ : Mm) (z2 : Option Value) (z3 : Option Value) (z4 : Option Value) (z5 : Option Value) {r : Int32} {μ' : Mm} (h : Reader_readPost_j108 v0 v1 μ = some (r, μ')) : Wp l SC d (0, 0) mX6_readPost 108 [some (.ref v0), some (.ref v1), z2, z3, z4, z5] [] μ (Qi SC r μ') := by
  unfold Reader_readPost_j108 at h
  refine wp_aload_n (x := v0) dX6_readPost_108 rfl ?_
  refine wp_getI fl_X6_49 (by decide) rfl (kltC t0) t0 dX6_readPost_109 ?_
  refine wp_if_eq 117 dX6_readPost_112 (by decide) (fun c1 => ?_) (fun c1 => ?_)
  · rw [if_pos c1] at h
    refine wp_aload_n (x := v1) dX6_readPost_117 rfl ?_
    refine wp_aload_n (x := v0) dX6_readPost_118 rfl ?_
    refine wp_getR (v0 + 11) fl_X6_38 (by decide) rfl (kltC t0) t0 (ly6_10 t0).1 dX6_readPost_119 ?_
    obtain ⟨μ13, g1, h⟩ := bnd_some h
    refine wp_cVv (d := d - 1) (o := v1) cv_X6_139 (kltC t1) t1 (as := [.ref (v0 + 11)]) (rest := []) dX6_readPost_122 (by omega) cloC rfl rfl (Nat.le_of_ble_eq_true rfl) (Nat.le_of_ble_eq_true rfl) (ok_Post_copyFrom (by omega) v1 t1 (v0 + 11) ((ly6_10 t0).2.1) μ g1) ?_ rfl
    refine wp_aload_n (x := v1) dX6_readPost_125 rfl ?_
    refine wp_getI fl_X6_142 (by decide) rfl (kltC t1) t1 dX6_readPost_126 ?_
    obtain ⟨rfl, rfl⟩ := ret2 h
    exact wp_iret rfl dX6_readPost_129 ⟨rfl, rfl, rfl⟩
  · rw [if_neg c1] at h
    refine wp_iconst (-1) dX6_readPost_115 rfl ?_
    obtain ⟨rfl, rfl⟩ := ret2 h
    exact wp_iret rfl dX6_readPost_116 ⟨rfl, rfl, rfl⟩
theorem ok_Reader_readPost {l : Launch} {d : Nat} (hd : 3 ≤ d) (v0 : Nat) (t0 : sK SC v0 = 6) (v1 : Nat) (t1 : sK SC v1 = 5) (μ : Mm) {r : Int32} {μ' : Mm} (h : Reader_readPost v0 v1 μ = some (r, μ')) : Wp l SC d (0, 0) mX6_readPost 0 [some (.ref v0), some (.ref v1), none, none, none, none] [] μ (Qi SC r μ') := by
  unfold Reader_readPost at h
  refine wp_aload_n (x := v0) dX6_readPost_0 rfl ?_
  refine wp_getR (v0 + 11) fl_X6_38 (by decide) rfl (kltC t0) t0 (ly6_10 t0).1 dX6_readPost_1 ?_
  obtain ⟨μ1, g1, h⟩ := bnd_some h
  refine wp_cVv (d := d - 1) (o := (v0 + 11)) cv_X6_131 (kltC (ly6_10 t0).2.1) (ly6_10 t0).2.1 (as := []) (rest := []) dX6_readPost_4 (by omega) cloC rfl rfl (Nat.le_of_ble_eq_true rfl) (Nat.le_of_ble_eq_true rfl) (ok_Post_clear (by omega) (v0 + 11) ((ly6_10 t0).2.1) μ g1) ?_ rfl
  refine wp_iconst (nI 0) dX6_readPost_7 rfl ?_
  refine wp_istore_n (L2 := [some (.ref v0), some (.ref v1), some (.int (nI 0)), none, none, none]) dX6_readPost_8 (by decide) rfl rfl ?_
  obtain ⟨x9, hi, h⟩ := bni_some h
  refine okl_Reader_readPost_l9 hd v0 t0 v1 t1 (fun z => z = x9) ?_ 1000000 ((nI 0), μ1) x9 _ _ _ hi rfl
  · intro y0 z2 z3 z4 z5 e0
    have e0 : y0 = x9 := e0
    subst e0
    exact ok_Reader_readPost_j108 hd v0 t0 v1 t1 y0 _ _ _ _ h
theorem ok_Texts_copyFrom {l : Launch} {d : Nat} (hd : 3 ≤ d) (v0 : Nat) (t0 : sK SC v0 = 7) (v1 : Nat) (t1 : sK SC v1 = 7) (μ : Mm) {μ' : Mm} (h : Texts_copyFrom v0 v1 μ = some μ') : Wp l SC d (0, 0) mX7_copyFrom 0 [some (.ref v0), some (.ref v1)] [] μ (Qv SC μ') := by
  unfold Texts_copyFrom at h
  refine wp_aload_n (x := v0) dX7_copyFrom_0 rfl ?_
  refine wp_getR (v0 + 1) fl_X7_10 (by decide) rfl (kltC t0) t0 (ly7_0 t0).1 dX7_copyFrom_1 ?_
  refine wp_aload_n (x := v1) dX7_copyFrom_4 rfl ?_
  refine wp_getR (v1 + 1) fl_X7_10 (by decide) rfl (kltC t1) t1 (ly7_0 t1).1 dX7_copyFrom_5 ?_
  obtain ⟨μ1, g1, h⟩ := bnd_some h
  refine wp_cVv (d := d - 1) (o := (v0 + 1)) cv_X7_26 (kltC (ly7_0 t0).2.1) (ly7_0 t0).2.1 (as := [.ref (v1 + 1)]) (rest := []) dX7_copyFrom_8 (by omega) cloC rfl rfl (Nat.le_of_ble_eq_true rfl) (Nat.le_of_ble_eq_true rfl) (ok_Law_copyFrom (by omega) (v0 + 1) ((ly7_0 t0).2.1) (v1 + 1) ((ly7_0 t1).2.1) μ g1) ?_ rfl
  refine wp_aload_n (x := v0) dX7_copyFrom_11 rfl ?_
  refine wp_getR (v0 + 7) fl_X7_16 (by decide) rfl (kltC t0) t0 (ly7_1 t0).1 dX7_copyFrom_12 ?_
  refine wp_aload_n (x := v1) dX7_copyFrom_15 rfl ?_
  refine wp_getR (v1 + 7) fl_X7_16 (by decide) rfl (kltC t1) t1 (ly7_1 t1).1 dX7_copyFrom_16 ?_
  obtain ⟨μ2, g1, h⟩ := bnd_some h
  refine wp_cVv (d := d - 1) (o := (v0 + 7)) cv_X7_26 (kltC (ly7_1 t0).2.1) (ly7_1 t0).2.1 (as := [.ref (v1 + 7)]) (rest := []) dX7_copyFrom_19 (by omega) cloC rfl rfl (Nat.le_of_ble_eq_true rfl) (Nat.le_of_ble_eq_true rfl) (ok_Law_copyFrom (by omega) (v0 + 7) ((ly7_1 t0).2.1) (v1 + 7) ((ly7_1 t1).2.1) μ1 g1) ?_ rfl
  refine wp_aload_n (x := v0) dX7_copyFrom_22 rfl ?_
  refine wp_getR (v0 + 13) fl_X7_22 (by decide) rfl (kltC t0) t0 (ly7_2 t0).1 dX7_copyFrom_23 ?_
  refine wp_aload_n (x := v1) dX7_copyFrom_26 rfl ?_
  refine wp_getR (v1 + 13) fl_X7_22 (by decide) rfl (kltC t1) t1 (ly7_2 t1).1 dX7_copyFrom_27 ?_
  obtain ⟨μ3, g1, h⟩ := bnd_some h
  refine wp_cVv (d := d - 1) (o := (v0 + 13)) cv_X7_30 (kltC (ly7_2 t0).2.1) (ly7_2 t0).2.1 (as := [.ref (v1 + 13)]) (rest := []) dX7_copyFrom_30 (by omega) cloC rfl rfl (Nat.le_of_ble_eq_true rfl) (Nat.le_of_ble_eq_true rfl) (ok_Post_copyFrom (by omega) (v0 + 13) ((ly7_2 t0).2.1) (v1 + 13) ((ly7_2 t1).2.1) μ2 g1) ?_ rfl
  obtain rfl := ret1 h
  exact wp_vret rfl dX7_copyFrom_33 ⟨rfl, rfl, rfl⟩
theorem ok_Versions_has {l : Launch} {d : Nat} (hd : 1 ≤ d) (v0 : Nat) (t0 : sK SC v0 = 8) (v1 : Int32)  (μ : Mm) {r : Int32} (h : Versions_has v0 v1 μ = some r) : Wp l SC d (0, 0) mX8_has 0 [some (.ref v0), some (.int v1)] [] μ (Qi SC r μ) := by
  unfold Versions_has at h
  refine wp_iload_n (x := v1) dX8_has_0 rfl ?_
  refine wp_if_lt 16 dX8_has_1 (by decide) (fun c1 => ?_) (fun c1 => ?_)
  · rw [if_pos c1] at h
    refine wp_iconst (nI 0) dX8_has_16 rfl ?_
    obtain rfl := ret1 h
    exact wp_zret rfl (Or.inl rfl) dX8_has_17 ⟨rfl, rfl, rfl⟩
  · rw [if_neg c1] at h
    refine wp_iload_n (x := v1) dX8_has_4 rfl ?_
    refine wp_aload_n (x := v0) dX8_has_5 rfl ?_
    refine wp_getI fl_X8_24 (by decide) rfl (kltC t0) t0 dX8_has_6 ?_
    refine wp_icmp_ge 16 dX8_has_9 (by decide) (fun c1 => ?_) (fun c1 => ?_)
    · rw [if_pos c1] at h
      refine wp_iconst (nI 0) dX8_has_16 rfl ?_
      obtain rfl := ret1 h
      exact wp_zret rfl (Or.inl rfl) dX8_has_17 ⟨rfl, rfl, rfl⟩
    · rw [if_neg c1] at h
      refine wp_iconst (nI 1) dX8_has_12 rfl ?_
      refine wp_goto 17 dX8_has_13 (by decide) ?_
      obtain rfl := ret1 h
      exact wp_zret rfl (Or.inr rfl) dX8_has_17 ⟨rfl, rfl, rfl⟩
theorem ok_Versions_isFull {l : Launch} {d : Nat} (hd : 1 ≤ d) (v0 : Nat) (t0 : sK SC v0 = 8) (μ : Mm) {r : Int32} (h : Versions_isFull v0 μ = some r) : Wp l SC d (0, 0) mX8_isFull 0 [some (.ref v0)] [] μ (Qi SC r μ) := by
  unfold Versions_isFull at h
  refine wp_aload_n (x := v0) dX8_isFull_0 rfl ?_
  refine wp_getI fl_X8_24 (by decide) rfl (kltC t0) t0 dX8_isFull_1 ?_
  refine wp_bipush (nI 40) dX8_isFull_4 rfl ?_
  refine wp_icmp_lt 13 dX8_isFull_6 (by decide) (fun c1 => ?_) (fun c1 => ?_)
  · rw [if_pos c1] at h
    refine wp_iconst (nI 0) dX8_isFull_13 rfl ?_
    obtain rfl := ret1 h
    exact wp_zret rfl (Or.inl rfl) dX8_isFull_14 ⟨rfl, rfl, rfl⟩
  · rw [if_neg c1] at h
    refine wp_iconst (nI 1) dX8_isFull_9 rfl ?_
    refine wp_goto 14 dX8_isFull_10 (by decide) ?_
    obtain rfl := ret1 h
    exact wp_zret rfl (Or.inr rfl) dX8_isFull_14 ⟨rfl, rfl, rfl⟩
theorem ok_Versions_add {l : Launch} {d : Nat} (hd : 2 ≤ d) (v0 : Nat) (t0 : sK SC v0 = 8) (v1 : Int32)  (v2 : Int32)  (v3 : Int32)  (v4 : Int32)  (μ : Mm) {r : Int32} {μ' : Mm} (h : Versions_add v0 v1 v2 v3 v4 μ = some (r, μ')) : Wp l SC d (0, 0) mX8_add 0 [some (.ref v0), some (.int v1), some (.int v2), some (.int v3), some (.int v4)] [] μ (Qi SC r μ') := by
  unfold Versions_add at h
  refine wp_aload_n (x := v0) dX8_add_0 rfl ?_
  obtain ⟨r1, g1, h⟩ := bnd_some h
  refine wp_cVi (d := d - 1) (o := v0) cv_X8_28 (kltC t0) t0 (as := []) (rest := []) dX8_add_1 (by omega) cloC rfl rfl (Nat.le_of_ble_eq_true rfl) (Nat.le_of_ble_eq_true rfl) (ok_Versions_isFull (by omega) v0 t0 μ g1) ?_ rfl
  refine wp_if_eq 9 dX8_add_4 (by decide) (fun c1 => ?_) (fun c1 => ?_)
  · rw [if_pos c1] at h
    refine wp_aload_n (x := v0) dX8_add_9 rfl ?_
    refine wp_getR (v0 + 1) fl_X8_9 (by decide) rfl (kltC t0) t0 (ly8_0 t0).1 dX8_add_10 ?_
    refine wp_aload_n (x := v0) dX8_add_13 rfl ?_
    refine wp_getI fl_X8_24 (by decide) rfl (kltC t0) t0 dX8_add_14 ?_
    refine wp_iload_n (x := v1) dX8_add_17 rfl ?_
    obtain ⟨c1, h⟩ := chv_some h
    obtain ⟨μ2, e1, h⟩ := lt_some h
    refine wp_iaste e1 (kltC (ly8_0 t0).2.1) (ly8_0 t0).2.1 (ly8_0 t0).2.2 c1 dX8_add_18 ?_
    refine wp_aload_n (x := v0) dX8_add_19 rfl ?_
    refine wp_getR (v0 + 2) fl_X8_15 (by decide) rfl (kltC t0) t0 (ly8_1 t0).1 dX8_add_20 ?_
    refine wp_aload_n (x := v0) dX8_add_23 rfl ?_
    refine wp_getI fl_X8_24 (by decide) rfl (kltC t0) t0 dX8_add_24 ?_
    refine wp_iload_n (x := v2) dX8_add_27 rfl ?_
    obtain ⟨c1, h⟩ := chv_some h
    obtain ⟨μ3, e1, h⟩ := lt_some h
    refine wp_iaste e1 (kltC (ly8_1 t0).2.1) (ly8_1 t0).2.1 (ly8_1 t0).2.2 c1 dX8_add_28 ?_
    refine wp_aload_n (x := v0) dX8_add_29 rfl ?_
    refine wp_getR (v0 + 3) fl_X8_18 (by decide) rfl (kltC t0) t0 (ly8_2 t0).1 dX8_add_30 ?_
    refine wp_aload_n (x := v0) dX8_add_33 rfl ?_
    refine wp_getI fl_X8_24 (by decide) rfl (kltC t0) t0 dX8_add_34 ?_
    refine wp_iload_n (x := v3) dX8_add_37 rfl ?_
    obtain ⟨c1, h⟩ := chv_some h
    obtain ⟨μ4, e1, h⟩ := lt_some h
    refine wp_iaste e1 (kltC (ly8_2 t0).2.1) (ly8_2 t0).2.1 (ly8_2 t0).2.2 c1 dX8_add_38 ?_
    refine wp_aload_n (x := v0) dX8_add_39 rfl ?_
    refine wp_getR (v0 + 4) fl_X8_21 (by decide) rfl (kltC t0) t0 (ly8_3 t0).1 dX8_add_40 ?_
    refine wp_aload_n (x := v0) dX8_add_43 rfl ?_
    refine wp_getI fl_X8_24 (by decide) rfl (kltC t0) t0 dX8_add_44 ?_
    refine wp_iload (x := v4) dX8_add_47 rfl ?_
    obtain ⟨c1, h⟩ := chv_some h
    obtain ⟨μ5, e1, h⟩ := lt_some h
    refine wp_iaste e1 (kltC (ly8_3 t0).2.1) (ly8_3 t0).2.1 (ly8_3 t0).2.2 c1 dX8_add_49 ?_
    refine wp_aload_n (x := v0) dX8_add_50 rfl ?_
    refine wp_dup dX8_add_51 rfl ?_
    refine wp_getI fl_X8_24 (by decide) rfl (kltC t0) t0 dX8_add_52 ?_
    refine wp_iconst (nI 1) dX8_add_55 rfl ?_
    refine wp_iadd dX8_add_56 ?_
    obtain ⟨μ6, e1, h⟩ := lt_some h
    refine wp_putIe e1 fl_X8_24 (by decide) rfl (kltC t0) t0 dX8_add_57 ?_
    refine wp_aload_n (x := v0) dX8_add_60 rfl ?_
    refine wp_getI fl_X8_24 (by decide) rfl (kltC t0) t0 dX8_add_61 ?_
    refine wp_iconst (nI 1) dX8_add_64 rfl ?_
    refine wp_isub dX8_add_65 ?_
    obtain ⟨rfl, rfl⟩ := ret2 h
    exact wp_iret rfl dX8_add_66 ⟨rfl, rfl, rfl⟩
  · rw [if_neg c1] at h
    refine wp_iconst (-1) dX8_add_7 rfl ?_
    obtain ⟨rfl, rfl⟩ := ret2 h
    exact wp_iret rfl dX8_add_8 ⟨rfl, rfl, rfl⟩
theorem ok_JL_bitCount {l : Launch} {S : Sh} (hS : ∀ x, sK S x < 15 → x < sN S) {d : Nat} (hd : 1 ≤ d) (v0 : Int64)  (μ : Mm) {r : Int32} (h : JL_bitCount v0 = some r) : Wp l S d (0, 0) mJ13_bitCount_95d88 0 [some (.long v0), none] [] μ (Qi S r μ) := by
  unfold JL_bitCount at h
  refine wp_lload_n (x := v0) dJ13_bitCount_95d88_0 rfl ?_
  refine wp_lload_n (x := v0) dJ13_bitCount_95d88_1 rfl ?_
  refine wp_iconst (nI 1) dJ13_bitCount_95d88_2 rfl ?_
  refine wp_lushr dJ13_bitCount_95d88_3 ?_
  refine wp_ldc2 (v := 6148914691236517205) dJ13_bitCount_95d88_4 kc_J13_314 ?_
  refine wp_land dJ13_bitCount_95d88_7 ?_
  refine wp_lsub dJ13_bitCount_95d88_8 ?_
  obtain ⟨u1, e1, h⟩ := lt_some h
  rw [← e1]
  refine wp_lstore_n (L2 := [some (.long u1), none]) dJ13_bitCount_95d88_9 (by decide) rfl rfl ?_
  refine wp_lload_n (x := u1) dJ13_bitCount_95d88_10 rfl ?_
  refine wp_ldc2 (v := 3689348814741910323) dJ13_bitCount_95d88_11 kc_J13_316 ?_
  refine wp_land dJ13_bitCount_95d88_14 ?_
  refine wp_lload_n (x := u1) dJ13_bitCount_95d88_15 rfl ?_
  refine wp_iconst (nI 2) dJ13_bitCount_95d88_16 rfl ?_
  refine wp_lushr dJ13_bitCount_95d88_17 ?_
  refine wp_ldc2 (v := 3689348814741910323) dJ13_bitCount_95d88_18 kc_J13_316 ?_
  refine wp_land dJ13_bitCount_95d88_21 ?_
  refine wp_ladd dJ13_bitCount_95d88_22 ?_
  obtain ⟨u2, e1, h⟩ := lt_some h
  rw [← e1]
  refine wp_lstore_n (L2 := [some (.long u2), none]) dJ13_bitCount_95d88_23 (by decide) rfl rfl ?_
  refine wp_lload_n (x := u2) dJ13_bitCount_95d88_24 rfl ?_
  refine wp_lload_n (x := u2) dJ13_bitCount_95d88_25 rfl ?_
  refine wp_iconst (nI 4) dJ13_bitCount_95d88_26 rfl ?_
  refine wp_lushr dJ13_bitCount_95d88_27 ?_
  refine wp_ladd dJ13_bitCount_95d88_28 ?_
  refine wp_ldc2 (v := 1085102592571150095) dJ13_bitCount_95d88_29 kc_J13_318 ?_
  refine wp_land dJ13_bitCount_95d88_32 ?_
  obtain ⟨u3, e1, h⟩ := lt_some h
  rw [← e1]
  refine wp_lstore_n (L2 := [some (.long u3), none]) dJ13_bitCount_95d88_33 (by decide) rfl rfl ?_
  refine wp_lload_n (x := u3) dJ13_bitCount_95d88_34 rfl ?_
  refine wp_lload_n (x := u3) dJ13_bitCount_95d88_35 rfl ?_
  refine wp_bipush (nI 8) dJ13_bitCount_95d88_36 rfl ?_
  refine wp_lushr dJ13_bitCount_95d88_38 ?_
  refine wp_ladd dJ13_bitCount_95d88_39 ?_
  refine wp_lstore_n (L2 := [some (.long (u3 + (lushr u3 (nI 8)))), none]) dJ13_bitCount_95d88_40 (by decide) rfl rfl ?_
  refine wp_lload_n (x := (u3 + (lushr u3 (nI 8)))) dJ13_bitCount_95d88_41 rfl ?_
  refine wp_lload_n (x := (u3 + (lushr u3 (nI 8)))) dJ13_bitCount_95d88_42 rfl ?_
  refine wp_bipush (nI 16) dJ13_bitCount_95d88_43 rfl ?_
  refine wp_lushr dJ13_bitCount_95d88_45 ?_
  refine wp_ladd dJ13_bitCount_95d88_46 ?_
  obtain ⟨u4, e1, h⟩ := lt_some h
  rw [← e1]
  refine wp_lstore_n (L2 := [some (.long u4), none]) dJ13_bitCount_95d88_47 (by decide) rfl rfl ?_
  refine wp_lload_n (x := u4) dJ13_bitCount_95d88_48 rfl ?_
  refine wp_lload_n (x := u4) dJ13_bitCount_95d88_49 rfl ?_
  refine wp_bipush (nI 32) dJ13_bitCount_95d88_50 rfl ?_
  refine wp_lushr dJ13_bitCount_95d88_52 ?_
  refine wp_ladd dJ13_bitCount_95d88_53 ?_
  refine wp_lstore_n (L2 := [some (.long (u4 + (lushr u4 (nI 32)))), none]) dJ13_bitCount_95d88_54 (by decide) rfl rfl ?_
  refine wp_lload_n (x := (u4 + (lushr u4 (nI 32)))) dJ13_bitCount_95d88_55 rfl ?_
  refine wp_l2i dJ13_bitCount_95d88_56 ?_
  refine wp_bipush (nI 127) dJ13_bitCount_95d88_57 rfl ?_
  refine wp_iand dJ13_bitCount_95d88_59 ?_
  obtain rfl := ret1 h
  exact wp_iret rfl dJ13_bitCount_95d88_60 ⟨rfl, rfl, rfl⟩
theorem ok_Versions_countChildren_j52 {l : Launch} {d : Nat} (hd : 2 ≤ d) (v0 : Nat) (t0 : sK SC v0 = 8) (v2 : Int64)  (v4 : Int32)  (μ : Mm) (z1 : Option Value) (z3 : Option Value) {Q : Option Value → Sh → Mm → Prop} (K : (Int64 × Int32) ⊕ Int64 → Prop) (hb : ∀ (s : (Int64 × Int32)) (z1 : Option Value) (z3 : Option Value), K (Sum.inl s) → Wp l SC d (0, 0) mX8_countChildren 9 [some (.ref v0), z1, some (.long s.1), z3, some (.int s.2)] [] μ Q) (he0 : ∀ (x : Int64) (z0 : Option Value) (z1 : Option Value) (z3 : Option Value) (z4 : Option Value), K (Sum.inr x) → Wp l SC d (0, 0) mX8_countChildren 58 [z0, z1, some (.long x), z3, z4] [] μ Q) {z : (Int64 × Int32) ⊕ Int64} (h : Versions_countChildren_j52 v0 v2 v4 μ = some z) (hz : K z) : Wp l SC d (0, 0) mX8_countChildren 52 [some (.ref v0), z1, some (.long v2), z3, some (.int v4)] [] μ Q := by
  unfold Versions_countChildren_j52 at h
  refine wp_iincF (x := v4) (k0 := (nI 1)) (L2 := [some (.ref v0), z1, some (.long v2), none, some (.int (v4 + (nI 1)))]) dX8_countChildren_52 rfl rfl (by decide) rfl ?_
  refine wp_goto 9 dX8_countChildren_55 (by decide) ?_
  obtain rfl := some1 h
  exact hb (v2, (v4 + (nI 1))) _ _ hz
theorem ok_Versions_countChildren_l9 {l : Launch} {d : Nat} (hd : 2 ≤ d) (v0 : Nat) (t0 : sK SC v0 = 8) (v2 : Int64)  (v4 : Int32)  (μ : Mm) (z1 : Option Value) (z3 : Option Value) {Q : Option Value → Sh → Mm → Prop} (K : (Int64 × Int32) ⊕ Int64 → Prop) (hb : ∀ (s : (Int64 × Int32)) (z1 : Option Value) (z3 : Option Value), K (Sum.inl s) → Wp l SC d (0, 0) mX8_countChildren 9 [some (.ref v0), z1, some (.long s.1), z3, some (.int s.2)] [] μ Q) (he0 : ∀ (x : Int64) (z0 : Option Value) (z1 : Option Value) (z3 : Option Value) (z4 : Option Value), K (Sum.inr x) → Wp l SC d (0, 0) mX8_countChildren 58 [z0, z1, some (.long x), z3, z4] [] μ Q) {z : (Int64 × Int32) ⊕ Int64} (h : Versions_countChildren_l9 v0 v2 v4 μ = some z) (hz : K z) : Wp l SC d (0, 0) mX8_countChildren 9 [some (.ref v0), z1, some (.long v2), z3, some (.int v4)] [] μ Q := by
  unfold Versions_countChildren_l9 at h
  refine wp_iload (x := v4) dX8_countChildren_9 rfl ?_
  refine wp_aload_n (x := v0) dX8_countChildren_11 rfl ?_
  refine wp_getI fl_X8_24 (by decide) rfl (kltC t0) t0 dX8_countChildren_12 ?_
  refine wp_icmp_ge 58 dX8_countChildren_15 (by decide) (fun c1 => ?_) (fun c1 => ?_)
  · rw [if_pos c1] at h
    obtain rfl := some1 h
    exact he0 v2 _ _ _ _ hz
  · rw [if_neg c1] at h
    refine wp_aload_n (x := v0) dX8_countChildren_18 rfl ?_
    refine wp_getR (v0 + 3) fl_X8_18 (by decide) rfl (kltC t0) t0 (ly8_2 t0).1 dX8_countChildren_19 ?_
    refine wp_iload (x := v4) dX8_countChildren_22 rfl ?_
    obtain ⟨c1, h⟩ := chv_some h
    refine wp_ialde (kltC (ly8_2 t0).2.1) (ly8_2 t0).2.1 (ly8_2 t0).2.2 c1 dX8_countChildren_24 ?_
    refine wp_iconst (-1) dX8_countChildren_25 rfl ?_
    refine wp_icmp_eq 52 dX8_countChildren_26 (by decide) (fun c1 => ?_) (fun c1 => ?_)
    · rw [if_pos c1] at h
      exact ok_Versions_countChildren_j52 hd v0 t0 v2 v4 μ _ _ K hb he0 h hz
    · rw [if_neg c1] at h
      refine wp_lload_n (x := v2) dX8_countChildren_29 rfl ?_
      refine wp_aload_n (x := v0) dX8_countChildren_30 rfl ?_
      refine wp_getR (v0 + 3) fl_X8_18 (by decide) rfl (kltC t0) t0 (ly8_2 t0).1 dX8_countChildren_31 ?_
      refine wp_iload (x := v4) dX8_countChildren_34 rfl ?_
      obtain ⟨c1, h⟩ := chv_some h
      refine wp_ialde (kltC (ly8_2 t0).2.1) (ly8_2 t0).2.1 (ly8_2 t0).2.2 c1 dX8_countChildren_36 ?_
      refine wp_lshr dX8_countChildren_37 ?_
      refine wp_lconst 1 dX8_countChildren_38 rfl ?_
      refine wp_land dX8_countChildren_39 ?_
      refine wp_lconst 1 dX8_countChildren_40 rfl ?_
      refine wp_lcmp dX8_countChildren_41 ?_
      refine wp_if_ne 52 dX8_countChildren_42 (by decide) (fun c1 => ?_) (fun c1 => ?_)
      · rw [if_neg c1] at h
        exact ok_Versions_countChildren_j52 hd v0 t0 v2 v4 μ _ _ K hb he0 h hz
      · rw [if_pos c1] at h
        refine wp_lload_n (x := v2) dX8_countChildren_45 rfl ?_
        refine wp_lconst 1 dX8_countChildren_46 rfl ?_
        refine wp_iload (x := v4) dX8_countChildren_47 rfl ?_
        refine wp_lshl dX8_countChildren_49 ?_
        refine wp_lor dX8_countChildren_50 ?_
        obtain ⟨u1, e1, h⟩ := lt_some h
        rw [← e1]
        refine wp_lstore_nF (L2 := [some (.ref v0), none, some (.long u1), none, some (.int v4)]) dX8_countChildren_51 (by decide) rfl ?_
        exact ok_Versions_countChildren_j52 hd v0 t0 u1 v4 μ _ _ K hb he0 h hz
theorem okl_Versions_countChildren_l9 {l : Launch} {d : Nat} (hd : 2 ≤ d) (v0 : Nat) (t0 : sK SC v0 = 8) (μ : Mm) {Q : Option Value → Sh → Mm → Prop} (K : Int64 → Prop) (he0 : ∀ (x : Int64) (z0 : Option Value) (z1 : Option Value) (z3 : Option Value) (z4 : Option Value), K x → Wp l SC d (0, 0) mX8_countChildren 58 [z0, z1, some (.long x), z3, z4] [] μ Q) : ∀ (n : Nat) (s : (Int64 × Int32)) (y : Int64) (z1 : Option Value) (z3 : Option Value) , iter n (fun s => Versions_countChildren_l9 v0 s.1 s.2 μ) s = some y → K y → Wp l SC d (0, 0) mX8_countChildren 9 [some (.ref v0), z1, some (.long s.1), z3, some (.int s.2)] [] μ Q := by
  intro n
  induction n with
  | zero => intro s y z1 z3 h; cases h
  | succ n ih =>
    intro s y z1 z3 h hK
    obtain ⟨z, hz, hn⟩ := iter_some h
    refine ok_Versions_countChildren_l9 hd v0 t0 s.1 s.2 μ _ _ (fun z => nxt n (fun s => Versions_countChildren_l9 v0 s.1 s.2 μ) z y) ?_ ?_ hz hn
    · intro s2 z1 z3 h2
      exact ih s2 y _ _ h2 hK
    · intro x z0 z1 z3 z4 h2
      have h3 : x = y := h2
      subst h3
      exact he0 x _ _ _ _ hK
theorem ok_Versions_countChildren {l : Launch} {d : Nat} (hd : 2 ≤ d) (v0 : Nat) (t0 : sK SC v0 = 8) (v1 : Int32)  (μ : Mm) {r : Int32} (h : Versions_countChildren v0 v1 μ = some r) : Wp l SC d (0, 0) mX8_countChildren 0 [some (.ref v0), some (.int v1), none, none, none] [] μ (Qi SC r μ) := by
  unfold Versions_countChildren at h
  refine wp_lconst 1 dX8_countChildren_0 rfl ?_
  refine wp_iload_n (x := v1) dX8_countChildren_1 rfl ?_
  refine wp_lshl dX8_countChildren_2 ?_
  refine wp_lstore_n (L2 := [some (.ref v0), some (.int v1), some (.long ((1 : Int64) <<< (Int32.toInt64 v1 &&& 63))), none, none]) dX8_countChildren_3 (by decide) rfl rfl ?_
  refine wp_iload_n (x := v1) dX8_countChildren_4 rfl ?_
  refine wp_iconst (nI 1) dX8_countChildren_5 rfl ?_
  refine wp_iadd dX8_countChildren_6 ?_
  refine wp_istore (L2 := [some (.ref v0), some (.int v1), some (.long ((1 : Int64) <<< (Int32.toInt64 v1 &&& 63))), none, some (.int (v1 + (nI 1)))]) dX8_countChildren_7 (by decide) rfl rfl ?_
  obtain ⟨x9, hi, h⟩ := bni_some h
  refine okl_Versions_countChildren_l9 hd v0 t0 μ (fun z => z = x9) ?_ 1000000 (((1 : Int64) <<< (Int32.toInt64 v1 &&& 63)), (v1 + (nI 1))) x9 _ _ hi rfl
  · intro y0 z0 z1 z3 z4 e0
    have e0 : y0 = x9 := e0
    subst e0
    refine wp_lload_n (x := y0) dX8_countChildren_58 rfl ?_
    obtain ⟨r2, g1, h⟩ := bnd_some h
    refine wp_cLi (d := d - 1) cs_X8_32 (x := y0) (rest := []) dX8_countChildren_59 (by omega) cloC (Nat.le_of_ble_eq_true rfl) (ok_JL_bitCount wfC (by omega) y0 μ g1) ?_
    refine wp_iconst (nI 1) dX8_countChildren_62 rfl ?_
    refine wp_isub dX8_countChildren_63 ?_
    obtain rfl := ret1 h
    exact wp_iret rfl dX8_countChildren_64 ⟨rfl, rfl, rfl⟩
theorem ok_Versions_commonForebear_j46 {l : Launch} {d : Nat} (hd : 1 ≤ d) (v0 : Nat) (t0 : sK SC v0 = 8) (v3 : Int32)  (v4 : Int32)  (v5 : Int32)  (μ : Mm) (z1 : Option Value) (z2 : Option Value) {Q : Option Value → Sh → Mm → Prop} (K : (Int32 × Int32 × Int32) ⊕ Int32 → Prop) (hb : ∀ (s : (Int32 × Int32 × Int32)) (z1 : Option Value) (z2 : Option Value), K (Sum.inl s) → Wp l SC d (0, 0) mX8_commonForebear 8 [some (.ref v0), z1, z2, some (.int s.1), some (.int s.2.1), some (.int s.2.2)] [] μ Q) (he0 : ∀ (x : Int32) (z0 : Option Value) (z1 : Option Value) (z2 : Option Value) (z4 : Option Value) (z5 : Option Value), K (Sum.inr x) → Wp l SC d (0, 0) mX8_commonForebear 52 [z0, z1, z2, some (.int x), z4, z5] [] μ Q) {z : (Int32 × Int32 × Int32) ⊕ Int32} (h : Versions_commonForebear_j46 v0 v3 v4 v5 μ = some z) (hz : K z) : Wp l SC d (0, 0) mX8_commonForebear 46 [some (.ref v0), z1, z2, some (.int v3), some (.int v4), some (.int v5)] [] μ Q := by
  unfold Versions_commonForebear_j46 at h
  refine wp_iinc (x := v5) (k0 := (nI 1)) (L2 := [some (.ref v0), z1, z2, some (.int v3), some (.int v4), some (.int (v5 + (nI 1)))]) dX8_commonForebear_46 rfl rfl (by decide) rfl rfl ?_
  refine wp_goto 8 dX8_commonForebear_49 (by decide) ?_
  obtain rfl := some1 h
  exact hb (v3, v4, (v5 + (nI 1))) _ _ hz
theorem ok_Versions_commonForebear_l8 {l : Launch} {d : Nat} (hd : 1 ≤ d) (v0 : Nat) (t0 : sK SC v0 = 8) (v3 : Int32)  (v4 : Int32)  (v5 : Int32)  (μ : Mm) (z1 : Option Value) (z2 : Option Value) {Q : Option Value → Sh → Mm → Prop} (K : (Int32 × Int32 × Int32) ⊕ Int32 → Prop) (hb : ∀ (s : (Int32 × Int32 × Int32)) (z1 : Option Value) (z2 : Option Value), K (Sum.inl s) → Wp l SC d (0, 0) mX8_commonForebear 8 [some (.ref v0), z1, z2, some (.int s.1), some (.int s.2.1), some (.int s.2.2)] [] μ Q) (he0 : ∀ (x : Int32) (z0 : Option Value) (z1 : Option Value) (z2 : Option Value) (z4 : Option Value) (z5 : Option Value), K (Sum.inr x) → Wp l SC d (0, 0) mX8_commonForebear 52 [z0, z1, z2, some (.int x), z4, z5] [] μ Q) {z : (Int32 × Int32 × Int32) ⊕ Int32} (h : Versions_commonForebear_l8 v0 v3 v4 v5 μ = some z) (hz : K z) : Wp l SC d (0, 0) mX8_commonForebear 8 [some (.ref v0), z1, z2, some (.int v3), some (.int v4), some (.int v5)] [] μ Q := by
  unfold Versions_commonForebear_l8 at h
  refine wp_iload (x := v5) dX8_commonForebear_8 rfl ?_
  refine wp_bipush (nI 80) dX8_commonForebear_10 rfl ?_
  refine wp_icmp_ge 52 dX8_commonForebear_12 (by decide) (fun c1 => ?_) (fun c1 => ?_)
  · rw [if_pos c1] at h
    obtain rfl := some1 h
    exact he0 v3 _ _ _ _ _ hz
  · rw [if_neg c1] at h
    refine wp_iload_n (x := v3) dX8_commonForebear_15 rfl ?_
    refine wp_iload (x := v4) dX8_commonForebear_16 rfl ?_
    refine wp_icmp_eq 52 dX8_commonForebear_18 (by decide) (fun c1 => ?_) (fun c1 => ?_)
    · rw [if_pos c1] at h
      obtain rfl := some1 h
      exact he0 v3 _ _ _ _ _ hz
    · rw [if_neg c1] at h
      refine wp_iload_n (x := v3) dX8_commonForebear_21 rfl ?_
      refine wp_iload (x := v4) dX8_commonForebear_22 rfl ?_
      refine wp_icmp_le 37 dX8_commonForebear_24 (by decide) (fun c1 => ?_) (fun c1 => ?_)
      · rw [if_pos c1] at h
        refine wp_aload_n (x := v0) dX8_commonForebear_37 rfl ?_
        refine wp_getR (v0 + 3) fl_X8_18 (by decide) rfl (kltC t0) t0 (ly8_2 t0).1 dX8_commonForebear_38 ?_
        refine wp_iload (x := v4) dX8_commonForebear_41 rfl ?_
        obtain ⟨c1, h⟩ := chv_some h
        refine wp_ialde (kltC (ly8_2 t0).2.1) (ly8_2 t0).2.1 (ly8_2 t0).2.2 c1 dX8_commonForebear_43 ?_
        refine wp_istore (L2 := [some (.ref v0), z1, z2, some (.int v3), some (.int (μ.1 (v0 + 3) (ix v4))), some (.int v5)]) dX8_commonForebear_44 (by decide) rfl rfl ?_
        exact ok_Versions_commonForebear_j46 hd v0 t0 v3 (μ.1 (v0 + 3) (ix v4)) v5 μ _ _ K hb he0 h hz
      · rw [if_neg c1] at h
        refine wp_aload_n (x := v0) dX8_commonForebear_27 rfl ?_
        refine wp_getR (v0 + 3) fl_X8_18 (by decide) rfl (kltC t0) t0 (ly8_2 t0).1 dX8_commonForebear_28 ?_
        refine wp_iload_n (x := v3) dX8_commonForebear_31 rfl ?_
        obtain ⟨c1, h⟩ := chv_some h
        refine wp_ialde (kltC (ly8_2 t0).2.1) (ly8_2 t0).2.1 (ly8_2 t0).2.2 c1 dX8_commonForebear_32 ?_
        refine wp_istore_nF (L2 := [some (.ref v0), z1, none, some (.int (μ.1 (v0 + 3) (ix v3))), some (.int v4), some (.int v5)]) dX8_commonForebear_33 (by decide) rfl ?_
        refine wp_goto 46 dX8_commonForebear_34 (by decide) ?_
        exact ok_Versions_commonForebear_j46 hd v0 t0 (μ.1 (v0 + 3) (ix v3)) v4 v5 μ _ _ K hb he0 h hz
theorem okl_Versions_commonForebear_l8 {l : Launch} {d : Nat} (hd : 1 ≤ d) (v0 : Nat) (t0 : sK SC v0 = 8) (μ : Mm) {Q : Option Value → Sh → Mm → Prop} (K : Int32 → Prop) (he0 : ∀ (x : Int32) (z0 : Option Value) (z1 : Option Value) (z2 : Option Value) (z4 : Option Value) (z5 : Option Value), K x → Wp l SC d (0, 0) mX8_commonForebear 52 [z0, z1, z2, some (.int x), z4, z5] [] μ Q) : ∀ (n : Nat) (s : (Int32 × Int32 × Int32)) (y : Int32) (z1 : Option Value) (z2 : Option Value) , iter n (fun s => Versions_commonForebear_l8 v0 s.1 s.2.1 s.2.2 μ) s = some y → K y → Wp l SC d (0, 0) mX8_commonForebear 8 [some (.ref v0), z1, z2, some (.int s.1), some (.int s.2.1), some (.int s.2.2)] [] μ Q := by
  intro n
  induction n with
  | zero => intro s y z1 z2 h; cases h
  | succ n ih =>
    intro s y z1 z2 h hK
    obtain ⟨z, hz, hn⟩ := iter_some h
    refine ok_Versions_commonForebear_l8 hd v0 t0 s.1 s.2.1 s.2.2 μ _ _ (fun z => nxt n (fun s => Versions_commonForebear_l8 v0 s.1 s.2.1 s.2.2 μ) z y) ?_ ?_ hz hn
    · intro s2 z1 z2 h2
      exact ih s2 y _ _ h2 hK
    · intro x z0 z1 z2 z4 z5 h2
      have h3 : x = y := h2
      subst h3
      exact he0 x _ _ _ _ _ hK
theorem ok_Versions_commonForebear {l : Launch} {d : Nat} (hd : 1 ≤ d) (v0 : Nat) (t0 : sK SC v0 = 8) (v1 : Int32)  (v2 : Int32)  (μ : Mm) {r : Int32} (h : Versions_commonForebear v0 v1 v2 μ = some r) : Wp l SC d (0, 0) mX8_commonForebear 0 [some (.ref v0), some (.int v1), some (.int v2), none, none, none] [] μ (Qi SC r μ) := by
  unfold Versions_commonForebear at h
  refine wp_iload_n (x := v1) dX8_commonForebear_0 rfl ?_
  refine wp_istore_n (L2 := [some (.ref v0), some (.int v1), some (.int v2), some (.int v1), none, none]) dX8_commonForebear_1 (by decide) rfl rfl ?_
  refine wp_iload_n (x := v2) dX8_commonForebear_2 rfl ?_
  refine wp_istore (L2 := [some (.ref v0), some (.int v1), some (.int v2), some (.int v1), some (.int v2), none]) dX8_commonForebear_3 (by decide) rfl rfl ?_
  refine wp_iconst (nI 0) dX8_commonForebear_5 rfl ?_
  refine wp_istore (L2 := [some (.ref v0), some (.int v1), some (.int v2), some (.int v1), some (.int v2), some (.int (nI 0))]) dX8_commonForebear_6 (by decide) rfl rfl ?_
  obtain ⟨x8, hi, h⟩ := bni_some h
  refine okl_Versions_commonForebear_l8 hd v0 t0 μ (fun z => z = x8) ?_ 1000000 (v1, v2, (nI 0)) x8 _ _ hi rfl
  · intro y0 z0 z1 z2 z4 z5 e0
    have e0 : y0 = x8 := e0
    subst e0
    refine wp_iload_n (x := y0) dX8_commonForebear_52 rfl ?_
    obtain rfl := ret1 h
    exact wp_iret rfl dX8_commonForebear_53 ⟨rfl, rfl, rfl⟩
theorem ok_Versions_copyFrom {l : Launch} {d : Nat} (hd : 2 ≤ d) (v0 : Nat) (t0 : sK SC v0 = 8) (v1 : Nat) (t1 : sK SC v1 = 8) (μ : Mm) {μ' : Mm} (h : Versions_copyFrom v0 v1 μ = some μ') : Wp l SC d (0, 0) mX8_copyFrom 0 [some (.ref v0), some (.ref v1)] [] μ (Qv SC μ') := by
  unfold Versions_copyFrom at h
  refine wp_aload_n (x := v1) dX8_copyFrom_0 rfl ?_
  refine wp_getR (v1 + 1) fl_X8_9 (by decide) rfl (kltC t1) t1 (ly8_0 t1).1 dX8_copyFrom_1 ?_
  refine wp_iconst (nI 0) dX8_copyFrom_4 rfl ?_
  refine wp_aload_n (x := v0) dX8_copyFrom_5 rfl ?_
  refine wp_getR (v0 + 1) fl_X8_9 (by decide) rfl (kltC t0) t0 (ly8_0 t0).1 dX8_copyFrom_6 ?_
  refine wp_iconst (nI 0) dX8_copyFrom_9 rfl ?_
  refine wp_aload_n (x := v1) dX8_copyFrom_10 rfl ?_
  refine wp_getI fl_X8_24 (by decide) rfl (kltC t1) t1 dX8_copyFrom_11 ?_
  obtain ⟨c1, h⟩ := chc_some h
  obtain ⟨μ1, e1, h⟩ := lt_some h
  refine wp_acopy e1 ac_X8_38 (kltC (ly8_0 t1).2.1) (ly8_0 t1).2.1 (ly8_0 t1).2.2 (kltC (ly8_0 t0).2.1) (ly8_0 t0).2.1 (ly8_0 t0).2.2 c1 (by omega) (Nat.le_of_ble_eq_true rfl) dX8_copyFrom_14 ?_
  refine wp_aload_n (x := v1) dX8_copyFrom_17 rfl ?_
  refine wp_getR (v1 + 2) fl_X8_15 (by decide) rfl (kltC t1) t1 (ly8_1 t1).1 dX8_copyFrom_18 ?_
  refine wp_iconst (nI 0) dX8_copyFrom_21 rfl ?_
  refine wp_aload_n (x := v0) dX8_copyFrom_22 rfl ?_
  refine wp_getR (v0 + 2) fl_X8_15 (by decide) rfl (kltC t0) t0 (ly8_1 t0).1 dX8_copyFrom_23 ?_
  refine wp_iconst (nI 0) dX8_copyFrom_26 rfl ?_
  refine wp_aload_n (x := v1) dX8_copyFrom_27 rfl ?_
  refine wp_getI fl_X8_24 (by decide) rfl (kltC t1) t1 dX8_copyFrom_28 ?_
  obtain ⟨c1, h⟩ := chc_some h
  obtain ⟨μ2, e1, h⟩ := lt_some h
  refine wp_acopy e1 ac_X8_38 (kltC (ly8_1 t1).2.1) (ly8_1 t1).2.1 (ly8_1 t1).2.2 (kltC (ly8_1 t0).2.1) (ly8_1 t0).2.1 (ly8_1 t0).2.2 c1 (by omega) (Nat.le_of_ble_eq_true rfl) dX8_copyFrom_31 ?_
  refine wp_aload_n (x := v1) dX8_copyFrom_34 rfl ?_
  refine wp_getR (v1 + 3) fl_X8_18 (by decide) rfl (kltC t1) t1 (ly8_2 t1).1 dX8_copyFrom_35 ?_
  refine wp_iconst (nI 0) dX8_copyFrom_38 rfl ?_
  refine wp_aload_n (x := v0) dX8_copyFrom_39 rfl ?_
  refine wp_getR (v0 + 3) fl_X8_18 (by decide) rfl (kltC t0) t0 (ly8_2 t0).1 dX8_copyFrom_40 ?_
  refine wp_iconst (nI 0) dX8_copyFrom_43 rfl ?_
  refine wp_aload_n (x := v1) dX8_copyFrom_44 rfl ?_
  refine wp_getI fl_X8_24 (by decide) rfl (kltC t1) t1 dX8_copyFrom_45 ?_
  obtain ⟨c1, h⟩ := chc_some h
  obtain ⟨μ3, e1, h⟩ := lt_some h
  refine wp_acopy e1 ac_X8_38 (kltC (ly8_2 t1).2.1) (ly8_2 t1).2.1 (ly8_2 t1).2.2 (kltC (ly8_2 t0).2.1) (ly8_2 t0).2.1 (ly8_2 t0).2.2 c1 (by omega) (Nat.le_of_ble_eq_true rfl) dX8_copyFrom_48 ?_
  refine wp_aload_n (x := v1) dX8_copyFrom_51 rfl ?_
  refine wp_getR (v1 + 4) fl_X8_21 (by decide) rfl (kltC t1) t1 (ly8_3 t1).1 dX8_copyFrom_52 ?_
  refine wp_iconst (nI 0) dX8_copyFrom_55 rfl ?_
  refine wp_aload_n (x := v0) dX8_copyFrom_56 rfl ?_
  refine wp_getR (v0 + 4) fl_X8_21 (by decide) rfl (kltC t0) t0 (ly8_3 t0).1 dX8_copyFrom_57 ?_
  refine wp_iconst (nI 0) dX8_copyFrom_60 rfl ?_
  refine wp_aload_n (x := v1) dX8_copyFrom_61 rfl ?_
  refine wp_getI fl_X8_24 (by decide) rfl (kltC t1) t1 dX8_copyFrom_62 ?_
  obtain ⟨c1, h⟩ := chc_some h
  obtain ⟨μ4, e1, h⟩ := lt_some h
  refine wp_acopy e1 ac_X8_38 (kltC (ly8_3 t1).2.1) (ly8_3 t1).2.1 (ly8_3 t1).2.2 (kltC (ly8_3 t0).2.1) (ly8_3 t0).2.1 (ly8_3 t0).2.2 c1 (by omega) (Nat.le_of_ble_eq_true rfl) dX8_copyFrom_65 ?_
  refine wp_aload_n (x := v0) dX8_copyFrom_68 rfl ?_
  refine wp_aload_n (x := v1) dX8_copyFrom_69 rfl ?_
  refine wp_getI fl_X8_24 (by decide) rfl (kltC t1) t1 dX8_copyFrom_70 ?_
  obtain ⟨μ5, e1, h⟩ := lt_some h
  refine wp_putIe e1 fl_X8_24 (by decide) rfl (kltC t0) t0 dX8_copyFrom_73 ?_
  obtain rfl := ret1 h
  exact wp_vret rfl dX8_copyFrom_76 ⟨rfl, rfl, rfl⟩
theorem ok_World_hasPerson {l : Launch} {d : Nat} (hd : 1 ≤ d) (v0 : Nat) (t0 : sK SC v0 = 9) (v1 : Int32)  (μ : Mm) {r : Int32} (h : World_hasPerson v0 v1 μ = some r) : Wp l SC d (0, 0) mX9_hasPerson 0 [some (.ref v0), some (.int v1)] [] μ (Qi SC r μ) := by
  unfold World_hasPerson at h
  refine wp_iload_n (x := v1) dX9_hasPerson_0 rfl ?_
  refine wp_if_lt 16 dX9_hasPerson_1 (by decide) (fun c1 => ?_) (fun c1 => ?_)
  · rw [if_pos c1] at h
    refine wp_iconst (nI 0) dX9_hasPerson_16 rfl ?_
    obtain rfl := ret1 h
    exact wp_zret rfl (Or.inl rfl) dX9_hasPerson_17 ⟨rfl, rfl, rfl⟩
  · rw [if_neg c1] at h
    refine wp_iload_n (x := v1) dX9_hasPerson_4 rfl ?_
    refine wp_aload_n (x := v0) dX9_hasPerson_5 rfl ?_
    refine wp_getI fl_X9_48 (by decide) rfl (kltC t0) t0 dX9_hasPerson_6 ?_
    refine wp_icmp_ge 16 dX9_hasPerson_9 (by decide) (fun c1 => ?_) (fun c1 => ?_)
    · rw [if_pos c1] at h
      refine wp_iconst (nI 0) dX9_hasPerson_16 rfl ?_
      obtain rfl := ret1 h
      exact wp_zret rfl (Or.inl rfl) dX9_hasPerson_17 ⟨rfl, rfl, rfl⟩
    · rw [if_neg c1] at h
      refine wp_iconst (nI 1) dX9_hasPerson_12 rfl ?_
      refine wp_goto 17 dX9_hasPerson_13 (by decide) ?_
      obtain rfl := ret1 h
      exact wp_zret rfl (Or.inr rfl) dX9_hasPerson_17 ⟨rfl, rfl, rfl⟩
theorem ok_World_hasLetter {l : Launch} {d : Nat} (hd : 2 ≤ d) (v0 : Nat) (t0 : sK SC v0 = 9) (v1 : Int32)  (v2 : Int32)  (μ : Mm) {r : Int32} (h : World_hasLetter v0 v1 v2 μ = some r) : Wp l SC d (0, 0) mX9_hasLetter 0 [some (.ref v0), some (.int v1), some (.int v2)] [] μ (Qi SC r μ) := by
  unfold World_hasLetter at h
  refine wp_aload_n (x := v0) dX9_hasLetter_0 rfl ?_
  refine wp_iload_n (x := v1) dX9_hasLetter_1 rfl ?_
  obtain ⟨r1, g1, h⟩ := bnd_some h
  refine wp_cVi (d := d - 1) (o := v0) cv_X9_52 (kltC t0) t0 (as := [.int v1]) (rest := []) dX9_hasLetter_2 (by omega) cloC rfl rfl (Nat.le_of_ble_eq_true rfl) (Nat.le_of_ble_eq_true rfl) (ok_World_hasPerson (by omega) v0 t0 v1 μ g1) ?_ rfl
  refine wp_if_eq 28 dX9_hasLetter_5 (by decide) (fun c1 => ?_) (fun c1 => ?_)
  · rw [if_pos c1] at h
    refine wp_iconst (nI 0) dX9_hasLetter_28 rfl ?_
    obtain rfl := ret1 h
    exact wp_zret rfl (Or.inl rfl) dX9_hasLetter_29 ⟨rfl, rfl, rfl⟩
  · rw [if_neg c1] at h
    refine wp_aload_n (x := v0) dX9_hasLetter_8 rfl ?_
    refine wp_getR (v0 + 1) fl_X9_11 (by decide) rfl (kltC t0) t0 (ly9_0 t0).1 dX9_hasLetter_9 ?_
    refine wp_iload_n (x := v1) dX9_hasLetter_12 rfl ?_
    obtain ⟨cp2, h⟩ := chv_some h
    refine wp_aald (v0 + (21 + 9 * ix v1)) (kltC (ly9_0 t0).2.1) (ly9_0 t0).2.1 (by decide) (by rw [(ly9_0 t0).2.2]; exact cp2) (lyP t0 cp2).1 dX9_hasLetter_13 ?_
    refine wp_getR ((v0 + (21 + 9 * ix v1)) + 3) fl_X9_56 (by decide) rfl (kltC (lyP t0 cp2).2) (lyP t0 cp2).2 (ly3_2 (lyP t0 cp2).2).1 dX9_hasLetter_14 ?_
    refine wp_iload_n (x := v2) dX9_hasLetter_17 rfl ?_
    obtain ⟨r3, g1, h⟩ := bnd_some h
    refine wp_cVi (d := d - 1) (o := ((v0 + (21 + 9 * ix v1)) + 3)) cv_X9_59 (kltC (ly3_2 (lyP t0 cp2).2).2.1) (ly3_2 (lyP t0 cp2).2).2.1 (as := [.int v2]) (rest := []) dX9_hasLetter_18 (by omega) cloC rfl rfl (Nat.le_of_ble_eq_true rfl) (Nat.le_of_ble_eq_true rfl) (ok_Letters_has (by omega) ((v0 + (21 + 9 * ix v1)) + 3) ((ly3_2 (lyP t0 cp2).2).2.1) v2 μ g1) ?_ rfl
    refine wp_if_eq 28 dX9_hasLetter_21 (by decide) (fun c1 => ?_) (fun c1 => ?_)
    · rw [if_pos c1] at h
      refine wp_iconst (nI 0) dX9_hasLetter_28 rfl ?_
      obtain rfl := ret1 h
      exact wp_zret rfl (Or.inl rfl) dX9_hasLetter_29 ⟨rfl, rfl, rfl⟩
    · rw [if_neg c1] at h
      refine wp_iconst (nI 1) dX9_hasLetter_24 rfl ?_
      refine wp_goto 29 dX9_hasLetter_25 (by decide) ?_
      obtain rfl := ret1 h
      exact wp_zret rfl (Or.inr rfl) dX9_hasLetter_29 ⟨rfl, rfl, rfl⟩
theorem ok_World_addPerson {l : Launch} {d : Nat} (hd : 2 ≤ d) (v0 : Nat) (t0 : sK SC v0 = 9) (v1 : Int32)  (v2 : Int32)  (v3 : Int32)  (μ : Mm) {r : Int32} {μ' : Mm} (h : World_addPerson v0 v1 v2 v3 μ = some (r, μ')) : Wp l SC d (0, 0) mX9_addPerson 0 [some (.ref v0), some (.int v1), some (.int v2), some (.int v3)] [] μ (Qi SC r μ') := by
  unfold World_addPerson at h
  refine wp_aload_n (x := v0) dX9_addPerson_0 rfl ?_
  refine wp_getI fl_X9_48 (by decide) rfl (kltC t0) t0 dX9_addPerson_1 ?_
  refine wp_bipush (nI 16) dX9_addPerson_4 rfl ?_
  refine wp_icmp_lt 11 dX9_addPerson_6 (by decide) (fun c1 => ?_) (fun c1 => ?_)
  · rw [if_pos c1] at h
    refine wp_aload_n (x := v0) dX9_addPerson_11 rfl ?_
    refine wp_getR (v0 + 1) fl_X9_11 (by decide) rfl (kltC t0) t0 (ly9_0 t0).1 dX9_addPerson_12 ?_
    refine wp_aload_n (x := v0) dX9_addPerson_15 rfl ?_
    refine wp_getI fl_X9_48 (by decide) rfl (kltC t0) t0 dX9_addPerson_16 ?_
    obtain ⟨cp1, h⟩ := chv_some h
    refine wp_aald (v0 + (21 + 9 * ix (μ.1 v0 1))) (kltC (ly9_0 t0).2.1) (ly9_0 t0).2.1 (by decide) (by rw [(ly9_0 t0).2.2]; exact cp1) (lyP t0 cp1).1 dX9_addPerson_19 ?_
    refine wp_iload_n (x := v1) dX9_addPerson_20 rfl ?_
    refine wp_iload_n (x := v2) dX9_addPerson_21 rfl ?_
    refine wp_iload_n (x := v3) dX9_addPerson_22 rfl ?_
    obtain ⟨μ2, g1, h⟩ := bnd_some h
    refine wp_cVv (d := d - 1) (o := (v0 + (21 + 9 * ix (μ.1 v0 1)))) cv_X9_62 (kltC (lyP t0 cp1).2) (lyP t0 cp1).2 (as := [.int v1, .int v2, .int v3]) (rest := []) dX9_addPerson_23 (by omega) cloC rfl rfl (Nat.le_of_ble_eq_true rfl) (Nat.le_of_ble_eq_true rfl) (ok_Person_begin (by omega) (v0 + (21 + 9 * ix (μ.1 v0 1))) ((lyP t0 cp1).2) v1 v2 v3 μ g1) ?_ rfl
    refine wp_aload_n (x := v0) dX9_addPerson_26 rfl ?_
    refine wp_dup dX9_addPerson_27 rfl ?_
    refine wp_getI fl_X9_48 (by decide) rfl (kltC t0) t0 dX9_addPerson_28 ?_
    refine wp_iconst (nI 1) dX9_addPerson_31 rfl ?_
    refine wp_iadd dX9_addPerson_32 ?_
    obtain ⟨μ3, e1, h⟩ := lt_some h
    refine wp_putIe e1 fl_X9_48 (by decide) rfl (kltC t0) t0 dX9_addPerson_33 ?_
    refine wp_aload_n (x := v0) dX9_addPerson_36 rfl ?_
    refine wp_getI fl_X9_48 (by decide) rfl (kltC t0) t0 dX9_addPerson_37 ?_
    refine wp_iconst (nI 1) dX9_addPerson_40 rfl ?_
    refine wp_isub dX9_addPerson_41 ?_
    obtain ⟨rfl, rfl⟩ := ret2 h
    exact wp_iret rfl dX9_addPerson_42 ⟨rfl, rfl, rfl⟩
  · rw [if_neg c1] at h
    refine wp_iconst (-1) dX9_addPerson_9 rfl ?_
    obtain ⟨rfl, rfl⟩ := ret2 h
    exact wp_iret rfl dX9_addPerson_10 ⟨rfl, rfl, rfl⟩
theorem ok_World_give {l : Launch} {d : Nat} (hd : 3 ≤ d) (v0 : Nat) (t0 : sK SC v0 = 9) (v1 : Int32)  (v2 : Int32)  (v3 : Int32)  (μ : Mm) {μ' : Mm} (h : World_give v0 v1 v2 v3 μ = some μ') : Wp l SC d (0, 0) mX9_give 0 [some (.ref v0), some (.int v1), some (.int v2), some (.int v3), none] [] μ (Qv SC μ') := by
  unfold World_give at h
  refine wp_aload_n (x := v0) dX9_give_0 rfl ?_
  refine wp_getR (v0 + 1) fl_X9_11 (by decide) rfl (kltC t0) t0 (ly9_0 t0).1 dX9_give_1 ?_
  refine wp_iload_n (x := v1) dX9_give_4 rfl ?_
  obtain ⟨cp1, h⟩ := chv_some h
  refine wp_aald (v0 + (21 + 9 * ix v1)) (kltC (ly9_0 t0).2.1) (ly9_0 t0).2.1 (by decide) (by rw [(ly9_0 t0).2.2]; exact cp1) (lyP t0 cp1).1 dX9_give_5 ?_
  refine wp_astore (L2 := [some (.ref v0), some (.int v1), some (.int v2), some (.int v3), some (.ref (v0 + (21 + 9 * ix v1)))]) dX9_give_6 (by decide) rfl rfl ?_
  refine wp_aload (x := (v0 + (21 + 9 * ix v1))) dX9_give_8 rfl ?_
  refine wp_getR ((v0 + (21 + 9 * ix v1)) + 3) fl_X9_56 (by decide) rfl (kltC (lyP t0 cp1).2) (lyP t0 cp1).2 (ly3_2 (lyP t0 cp1).2).1 dX9_give_10 ?_
  refine wp_iload_n (x := v2) dX9_give_13 rfl ?_
  refine wp_iload_n (x := v3) dX9_give_14 rfl ?_
  refine wp_iload_n (x := v1) dX9_give_15 rfl ?_
  refine wp_aload_n (x := v0) dX9_give_16 rfl ?_
  refine wp_getI fl_X9_66 (by decide) rfl (kltC t0) t0 dX9_give_17 ?_
  refine wp_aload_n (x := v0) dX9_give_20 rfl ?_
  refine wp_getR (v0 + 19) fl_X9_40 (by decide) rfl (kltC t0) t0 (ly9_5 t0).1 dX9_give_21 ?_
  refine wp_iconst (nI 1) dX9_give_24 rfl ?_
  obtain ⟨c1, h⟩ := chv_some h
  refine wp_ialde (kltC (ly9_5 t0).2.1) (ly9_5 t0).2.1 (ly9_5 t0).2.2 c1 dX9_give_25 ?_
  refine wp_iadd dX9_give_26 ?_
  refine wp_aload_n (x := v0) dX9_give_27 rfl ?_
  refine wp_getR (v0 + 19) fl_X9_40 (by decide) rfl (kltC t0) t0 (ly9_5 t0).1 dX9_give_28 ?_
  refine wp_iconst (nI 0) dX9_give_31 rfl ?_
  obtain ⟨c1, h⟩ := chv_some h
  refine wp_ialde (kltC (ly9_5 t0).2.1) (ly9_5 t0).2.1 (ly9_5 t0).2.2 c1 dX9_give_32 ?_
  obtain ⟨μ2, g1, h⟩ := bnd_some h
  refine wp_cVv (d := d - 1) (o := ((v0 + (21 + 9 * ix v1)) + 3)) cv_X9_69 (kltC (ly3_2 (lyP t0 cp1).2).2.1) (ly3_2 (lyP t0 cp1).2).2.1 (as := [.int v2, .int v3, .int v1, .int ((μ.1 v0 7) + (μ.1 (v0 + 19) (ix (nI 1)))), .int (μ.1 (v0 + 19) (ix (nI 0)))]) (rest := []) dX9_give_33 (by omega) cloC rfl rfl (Nat.le_of_ble_eq_true rfl) (Nat.le_of_ble_eq_true rfl) (ok_Letters_add (by omega) ((v0 + (21 + 9 * ix v1)) + 3) ((ly3_2 (lyP t0 cp1).2).2.1) v2 v3 v1 ((μ.1 v0 7) + (μ.1 (v0 + 19) (ix (nI 1)))) (μ.1 (v0 + 19) (ix (nI 0))) μ g1) ?_ rfl
  refine wp_aload (x := (v0 + (21 + 9 * ix v1))) dX9_give_36 rfl ?_
  refine wp_dup dX9_give_38 rfl ?_
  refine wp_getL fl_X9_73 (by decide) rfl (kltC (lyP t0 cp1).2) (lyP t0 cp1).2 dX9_give_39 ?_
  refine wp_lconst 1 dX9_give_42 rfl ?_
  refine wp_iload_n (x := v2) dX9_give_43 rfl ?_
  refine wp_lshl dX9_give_44 ?_
  refine wp_lor dX9_give_45 ?_
  obtain ⟨μ3, e1, h⟩ := lt_some h
  refine wp_putLe e1 fl_X9_73 (by decide) rfl (kltC (lyP t0 cp1).2) (lyP t0 cp1).2 dX9_give_46 ?_
  obtain rfl := ret1 h
  exact wp_vret rfl dX9_give_49 ⟨rfl, rfl, rfl⟩
theorem ok_World_receive_j108 {l : Launch} {d : Nat} (hd : 4 ≤ d) (v0 : Nat) (t0 : sK SC v0 = 9) (v1 : Int32)  (v2 : Int32)  (v3 : Int32)  (v5 : Int32)  (μ : Mm) (z4 : Option Value) {r : Int32} {μ' : Mm} (h : World_receive_j108 v0 v1 v2 v3 v5 μ = some (r, μ')) : Wp l SC d (0, 0) mX9_receive 108 [some (.ref v0), some (.int v1), some (.int v2), some (.int v3), z4, some (.int v5)] [] μ (Qi SC r μ') := by
  unfold World_receive_j108 at h
  refine wp_aload_n (x := v0) dX9_receive_108 rfl ?_
  refine wp_getR (v0 + 13) fl_X9_36 (by decide) rfl (kltC t0) t0 (ly9_4 t0).1 dX9_receive_109 ?_
  refine wp_aload_n (x := v0) dX9_receive_112 rfl ?_
  refine wp_getI fl_X9_66 (by decide) rfl (kltC t0) t0 dX9_receive_113 ?_
  refine wp_aload_n (x := v0) dX9_receive_116 rfl ?_
  refine wp_getR (v0 + 7) fl_X9_29 (by decide) rfl (kltC t0) t0 (ly9_3 t0).1 dX9_receive_117 ?_
  refine wp_getR (v0 + 8) fl_X9_133 (by decide) rfl (kltC (ly9_3 t0).2.1) (ly9_3 t0).2.1 (ly2_0 (ly9_3 t0).2.1).1 dX9_receive_120 ?_
  refine wp_iload_n (x := v1) dX9_receive_123 rfl ?_
  obtain ⟨c1, h⟩ := chv_some h
  refine wp_ialde (kltC (ly2_0 (ly9_3 t0).2.1).2.1) (ly2_0 (ly9_3 t0).2.1).2.1 rfl c1 dX9_receive_124 ?_
  refine wp_iload_n (x := v2) dX9_receive_125 rfl ?_
  refine wp_iload_n (x := v3) dX9_receive_126 rfl ?_
  refine wp_iload (x := v5) dX9_receive_127 rfl ?_
  obtain ⟨μ5, g1, h⟩ := bnd_some h
  refine wp_cVv (d := d - 1) (o := (v0 + 13)) cv_X9_139 (kltC (ly9_4 t0).2.1) (ly9_4 t0).2.1 (as := [.int (μ.1 v0 7), .int (μ.1 (v0 + 8) (ix v1)), .int v2, .int v3, .int v5]) (rest := []) dX9_receive_129 (by omega) cloC rfl rfl (Nat.le_of_ble_eq_true rfl) (Nat.le_of_ble_eq_true rfl) (ok_Book_add (by omega) (v0 + 13) ((ly9_4 t0).2.1) (μ.1 v0 7) (μ.1 (v0 + 8) (ix v1)) v2 v3 v5 μ g1) ?_ rfl
  refine wp_iload (x := v5) dX9_receive_132 rfl ?_
  obtain ⟨rfl, rfl⟩ := ret2 h
  exact wp_iret rfl dX9_receive_134 ⟨rfl, rfl, rfl⟩
theorem ok_World_receive {l : Launch} {d : Nat} (hd : 4 ≤ d) (v0 : Nat) (t0 : sK SC v0 = 9) (v1 : Int32)  (μ : Mm) {r : Int32} {μ' : Mm} (h : World_receive v0 v1 μ = some (r, μ')) : Wp l SC d (0, 0) mX9_receive 0 [some (.ref v0), some (.int v1), none, none, none, none] [] μ (Qi SC r μ') := by
  unfold World_receive at h
  refine wp_aload_n (x := v0) dX9_receive_0 rfl ?_
  refine wp_getR (v0 + 7) fl_X9_29 (by decide) rfl (kltC t0) t0 (ly9_3 t0).1 dX9_receive_1 ?_
  refine wp_getR (v0 + 9) fl_X9_114 (by decide) rfl (kltC (ly9_3 t0).2.1) (ly9_3 t0).2.1 (ly2_1 (ly9_3 t0).2.1).1 dX9_receive_4 ?_
  refine wp_iload_n (x := v1) dX9_receive_7 rfl ?_
  obtain ⟨c1, h⟩ := chv_some h
  refine wp_ialde (kltC (ly2_1 (ly9_3 t0).2.1).2.1) (ly2_1 (ly9_3 t0).2.1).2.1 rfl c1 dX9_receive_8 ?_
  refine wp_istore_n (L2 := [some (.ref v0), some (.int v1), some (.int (μ.1 (v0 + 9) (ix v1))), none, none, none]) dX9_receive_9 (by decide) rfl rfl ?_
  refine wp_aload_n (x := v0) dX9_receive_10 rfl ?_
  refine wp_getR (v0 + 7) fl_X9_29 (by decide) rfl (kltC t0) t0 (ly9_3 t0).1 dX9_receive_11 ?_
  refine wp_getR (v0 + 10) fl_X9_117 (by decide) rfl (kltC (ly9_3 t0).2.1) (ly9_3 t0).2.1 (ly2_2 (ly9_3 t0).2.1).1 dX9_receive_14 ?_
  refine wp_iload_n (x := v1) dX9_receive_17 rfl ?_
  obtain ⟨c1, h⟩ := chv_some h
  refine wp_ialde (kltC (ly2_2 (ly9_3 t0).2.1).2.1) (ly2_2 (ly9_3 t0).2.1).2.1 rfl c1 dX9_receive_18 ?_
  refine wp_istore_n (L2 := [some (.ref v0), some (.int v1), some (.int (μ.1 (v0 + 9) (ix v1))), some (.int (μ.1 (v0 + 10) (ix v1))), none, none]) dX9_receive_19 (by decide) rfl rfl ?_
  refine wp_aload_n (x := v0) dX9_receive_20 rfl ?_
  refine wp_getR (v0 + 1) fl_X9_11 (by decide) rfl (kltC t0) t0 (ly9_0 t0).1 dX9_receive_21 ?_
  refine wp_iload_n (x := (μ.1 (v0 + 10) (ix v1))) dX9_receive_24 rfl ?_
  obtain ⟨cp1, h⟩ := chv_some h
  refine wp_aald (v0 + (21 + 9 * ix (μ.1 (v0 + 10) (ix v1)))) (kltC (ly9_0 t0).2.1) (ly9_0 t0).2.1 (by decide) (by rw [(ly9_0 t0).2.2]; exact cp1) (lyP t0 cp1).1 dX9_receive_25 ?_
  refine wp_astore (L2 := [some (.ref v0), some (.int v1), some (.int (μ.1 (v0 + 9) (ix v1))), some (.int (μ.1 (v0 + 10) (ix v1))), some (.ref (v0 + (21 + 9 * ix (μ.1 (v0 + 10) (ix v1))))), none]) dX9_receive_26 (by decide) rfl rfl ?_
  refine wp_iconst (nI 0) dX9_receive_28 rfl ?_
  refine wp_istore (L2 := [some (.ref v0), some (.int v1), some (.int (μ.1 (v0 + 9) (ix v1))), some (.int (μ.1 (v0 + 10) (ix v1))), some (.ref (v0 + (21 + 9 * ix (μ.1 (v0 + 10) (ix v1))))), some (.int (nI 0))]) dX9_receive_29 (by decide) rfl rfl ?_
  refine wp_aload (x := (v0 + (21 + 9 * ix (μ.1 (v0 + 10) (ix v1))))) dX9_receive_31 rfl ?_
  refine wp_getR ((v0 + (21 + 9 * ix (μ.1 (v0 + 10) (ix v1)))) + 1) fl_X9_89 (by decide) rfl (kltC (lyP t0 cp1).2) (lyP t0 cp1).2 (ly3_0 (lyP t0 cp1).2).1 dX9_receive_33 ?_
  refine wp_iconst (nI 1) dX9_receive_36 rfl ?_
  obtain ⟨c1, h⟩ := chv_some h
  refine wp_ialde (kltC (ly3_0 (lyP t0 cp1).2).2.1) (ly3_0 (lyP t0 cp1).2).2.1 (ly3_0 (lyP t0 cp1).2).2.2 c1 dX9_receive_37 ?_
  refine wp_iconst (nI 1) dX9_receive_38 rfl ?_
  refine wp_icmp_ne 48 dX9_receive_39 (by decide) (fun c1 => ?_) (fun c1 => ?_)
  · rw [if_neg c1] at h
    refine wp_aload (x := (v0 + (21 + 9 * ix (μ.1 (v0 + 10) (ix v1))))) dX9_receive_48 rfl ?_
    refine wp_getI fl_X9_120 (by decide) rfl (kltC (lyP t0 cp1).2) (lyP t0 cp1).2 dX9_receive_50 ?_
    refine wp_iload_n (x := (μ.1 (v0 + 9) (ix v1))) dX9_receive_53 rfl ?_
    obtain ⟨r2, g1, h⟩ := bnd_some h
    refine wp_cNi (d := d - 1) cs_X9_123 (as := [.int (μ.1 (v0 + (21 + 9 * ix (μ.1 (v0 + 10) (ix v1)))) 5), .int (μ.1 (v0 + 9) (ix v1))]) (rest := []) dX9_receive_54 (by omega) cloC rfl rfl (Nat.le_of_ble_eq_true rfl) (Nat.le_of_ble_eq_true rfl) (ok_Nine_hasBit (by omega) (μ.1 (v0 + (21 + 9 * ix (μ.1 (v0 + 10) (ix v1)))) 5) (μ.1 (v0 + 9) (ix v1)) μ g1) ?_ rfl
    refine wp_if_eq 66 dX9_receive_57 (by decide) (fun c1 => ?_) (fun c1 => ?_)
    · rw [if_pos c1] at h
      refine wp_aload (x := (v0 + (21 + 9 * ix (μ.1 (v0 + 10) (ix v1))))) dX9_receive_66 rfl ?_
      refine wp_getR ((v0 + (21 + 9 * ix (μ.1 (v0 + 10) (ix v1)))) + 3) fl_X9_56 (by decide) rfl (kltC (lyP t0 cp1).2) (lyP t0 cp1).2 (ly3_2 (lyP t0 cp1).2).1 dX9_receive_68 ?_
      obtain ⟨r3, g1, h⟩ := bnd_some h
      refine wp_cVi (d := d - 1) (o := ((v0 + (21 + 9 * ix (μ.1 (v0 + 10) (ix v1)))) + 3)) cv_X9_127 (kltC (ly3_2 (lyP t0 cp1).2).2.1) (ly3_2 (lyP t0 cp1).2).2.1 (as := []) (rest := []) dX9_receive_71 (by omega) cloC rfl rfl (Nat.le_of_ble_eq_true rfl) (Nat.le_of_ble_eq_true rfl) (ok_Letters_isFull (by omega) ((v0 + (21 + 9 * ix (μ.1 (v0 + 10) (ix v1)))) + 3) ((ly3_2 (lyP t0 cp1).2).2.1) μ g1) ?_ rfl
      refine wp_if_eq 93 dX9_receive_74 (by decide) (fun c1 => ?_) (fun c1 => ?_)
      · rw [if_pos c1] at h
        refine wp_aload_n (x := v0) dX9_receive_93 rfl ?_
        refine wp_iload_n (x := (μ.1 (v0 + 10) (ix v1))) dX9_receive_94 rfl ?_
        refine wp_aload_n (x := v0) dX9_receive_95 rfl ?_
        refine wp_getR (v0 + 7) fl_X9_29 (by decide) rfl (kltC t0) t0 (ly9_3 t0).1 dX9_receive_96 ?_
        refine wp_getR (v0 + 8) fl_X9_133 (by decide) rfl (kltC (ly9_3 t0).2.1) (ly9_3 t0).2.1 (ly2_0 (ly9_3 t0).2.1).1 dX9_receive_99 ?_
        refine wp_iload_n (x := v1) dX9_receive_102 rfl ?_
        obtain ⟨c1, h⟩ := chv_some h
        refine wp_ialde (kltC (ly2_0 (ly9_3 t0).2.1).2.1) (ly2_0 (ly9_3 t0).2.1).2.1 rfl c1 dX9_receive_103 ?_
        refine wp_iload_n (x := (μ.1 (v0 + 9) (ix v1))) dX9_receive_104 rfl ?_
        obtain ⟨μ4, g1, h⟩ := bnd_some h
        refine wp_cVv (d := d - 1) (o := v0) cv_X9_136 (kltC t0) t0 (as := [.int (μ.1 (v0 + 10) (ix v1)), .int (μ.1 (v0 + 8) (ix v1)), .int (μ.1 (v0 + 9) (ix v1))]) (rest := []) dX9_receive_105 (by omega) cloC rfl rfl (Nat.le_of_ble_eq_true rfl) (Nat.le_of_ble_eq_true rfl) (ok_World_give (by omega) v0 t0 (μ.1 (v0 + 10) (ix v1)) (μ.1 (v0 + 8) (ix v1)) (μ.1 (v0 + 9) (ix v1)) μ g1) ?_ rfl
        exact ok_World_receive_j108 hd v0 t0 v1 (μ.1 (v0 + 9) (ix v1)) (μ.1 (v0 + 10) (ix v1)) (nI 0) μ4 _ h
      · rw [if_neg c1] at h
        refine wp_iconst (nI 3) dX9_receive_77 rfl ?_
        refine wp_istore (L2 := [some (.ref v0), some (.int v1), some (.int (μ.1 (v0 + 9) (ix v1))), some (.int (μ.1 (v0 + 10) (ix v1))), some (.ref (v0 + (21 + 9 * ix (μ.1 (v0 + 10) (ix v1))))), some (.int (nI 3))]) dX9_receive_78 (by decide) rfl rfl ?_
        refine wp_aload_n (x := v0) dX9_receive_80 rfl ?_
        refine wp_dup dX9_receive_81 rfl ?_
        refine wp_getI fl_X9_130 (by decide) rfl (kltC t0) t0 dX9_receive_82 ?_
        refine wp_iconst (nI 1) dX9_receive_85 rfl ?_
        refine wp_iadd dX9_receive_86 ?_
        obtain ⟨μ6, e1, h⟩ := lt_some h
        refine wp_putIe e1 fl_X9_130 (by decide) rfl (kltC t0) t0 dX9_receive_87 ?_
        refine wp_goto 108 dX9_receive_90 (by decide) ?_
        exact ok_World_receive_j108 hd v0 t0 v1 (μ.1 (v0 + 9) (ix v1)) (μ.1 (v0 + 10) (ix v1)) (nI 3) μ6 _ h
    · rw [if_neg c1] at h
      refine wp_iconst (nI 2) dX9_receive_60 rfl ?_
      refine wp_istore (L2 := [some (.ref v0), some (.int v1), some (.int (μ.1 (v0 + 9) (ix v1))), some (.int (μ.1 (v0 + 10) (ix v1))), some (.ref (v0 + (21 + 9 * ix (μ.1 (v0 + 10) (ix v1))))), some (.int (nI 2))]) dX9_receive_61 (by decide) rfl rfl ?_
      refine wp_goto 108 dX9_receive_63 (by decide) ?_
      exact ok_World_receive_j108 hd v0 t0 v1 (μ.1 (v0 + 9) (ix v1)) (μ.1 (v0 + 10) (ix v1)) (nI 2) μ _ h
  · rw [if_pos c1] at h
    refine wp_iconst (nI 1) dX9_receive_42 rfl ?_
    refine wp_istore (L2 := [some (.ref v0), some (.int v1), some (.int (μ.1 (v0 + 9) (ix v1))), some (.int (μ.1 (v0 + 10) (ix v1))), some (.ref (v0 + (21 + 9 * ix (μ.1 (v0 + 10) (ix v1))))), some (.int (nI 1))]) dX9_receive_43 (by decide) rfl rfl ?_
    refine wp_goto 108 dX9_receive_45 (by decide) ?_
    exact ok_World_receive_j108 hd v0 t0 v1 (μ.1 (v0 + 9) (ix v1)) (μ.1 (v0 + 10) (ix v1)) (nI 1) μ _ h
theorem ok_World_bringPost_j62 {l : Launch} {d : Nat} (hd : 5 ≤ d) (v0 : Nat) (t0 : sK SC v0 = 9) (v1 : Int32)  (v2 : Int32)  (v3 : Int32)  (v4 : Int32)  (μ : Mm) {Q : Option Value → Sh → Mm → Prop} (K : (Int32 × Int32 × Int32 × Mm) ⊕ (Int32 × Mm) → Prop) (hb : ∀ (s : (Int32 × Int32 × Int32 × Mm)), K (Sum.inl s) → Wp l SC d (0, 0) mX9_bringPost 15 [some (.ref v0), some (.int s.1), some (.int v2), some (.int s.2.1), some (.int s.2.2.1)] [] s.2.2.2 Q) (he0 : ∀ (x : (Int32 × Mm)) (z0 : Option Value) (z2 : Option Value) (z3 : Option Value) (z4 : Option Value), K (Sum.inr x) → Wp l SC d (0, 0) mX9_bringPost 68 [z0, some (.int x.1), z2, z3, z4] [] x.2 Q) {z : (Int32 × Int32 × Int32 × Mm) ⊕ (Int32 × Mm)} (h : World_bringPost_j62 v0 v1 v2 v3 v4 μ = some z) (hz : K z) : Wp l SC d (0, 0) mX9_bringPost 62 [some (.ref v0), some (.int v1), some (.int v2), some (.int v3), some (.int v4)] [] μ Q := by
  unfold World_bringPost_j62 at h
  refine wp_iinc (x := v4) (k0 := (nI 1)) (L2 := [some (.ref v0), some (.int v1), some (.int v2), some (.int v3), some (.int (v4 + (nI 1)))]) dX9_bringPost_62 rfl rfl (by decide) rfl rfl ?_
  refine wp_goto 15 dX9_bringPost_65 (by decide) ?_
  obtain rfl := some1 h
  exact hb (v1, v3, (v4 + (nI 1)), μ) hz
theorem ok_World_bringPost_j54 {l : Launch} {d : Nat} (hd : 5 ≤ d) (v0 : Nat) (t0 : sK SC v0 = 9) (v1 : Int32)  (v2 : Int32)  (v3 : Int32)  (v4 : Int32)  (μ : Mm) {Q : Option Value → Sh → Mm → Prop} (K : (Int32 × Int32 × Int32 × Mm) ⊕ (Int32 × Mm) → Prop) (hb : ∀ (s : (Int32 × Int32 × Int32 × Mm)), K (Sum.inl s) → Wp l SC d (0, 0) mX9_bringPost 15 [some (.ref v0), some (.int s.1), some (.int v2), some (.int s.2.1), some (.int s.2.2.1)] [] s.2.2.2 Q) (he0 : ∀ (x : (Int32 × Mm)) (z0 : Option Value) (z2 : Option Value) (z3 : Option Value) (z4 : Option Value), K (Sum.inr x) → Wp l SC d (0, 0) mX9_bringPost 68 [z0, some (.int x.1), z2, z3, z4] [] x.2 Q) {z : (Int32 × Int32 × Int32 × Mm) ⊕ (Int32 × Mm)} (h : World_bringPost_j54 v0 v1 v2 v3 v4 μ = some z) (hz : K z) : Wp l SC d (0, 0) mX9_bringPost 54 [some (.ref v0), some (.int v1), some (.int v2), some (.int v3), some (.int v4)] [] μ Q := by
  unfold World_bringPost_j54 at h
  refine wp_aload_n (x := v0) dX9_bringPost_54 rfl ?_
  refine wp_getR (v0 + 7) fl_X9_29 (by decide) rfl (kltC t0) t0 (ly9_3 t0).1 dX9_bringPost_55 ?_
  refine wp_iload_n (x := v3) dX9_bringPost_58 rfl ?_
  obtain ⟨μ3, g1, h⟩ := bnd_some h
  refine wp_cVv (d := d - 1) (o := (v0 + 7)) cv_X9_111 (kltC (ly9_3 t0).2.1) (ly9_3 t0).2.1 (as := [.int v3]) (rest := []) dX9_bringPost_59 (by omega) cloC rfl rfl (Nat.le_of_ble_eq_true rfl) (Nat.le_of_ble_eq_true rfl) (ok_Letters_remove (by omega) (v0 + 7) ((ly9_3 t0).2.1) v3 μ g1) ?_ rfl
  exact ok_World_bringPost_j62 hd v0 t0 v1 v2 v3 v4 μ3 K hb he0 h hz
theorem ok_World_bringPost_l15 {l : Launch} {d : Nat} (hd : 5 ≤ d) (v0 : Nat) (t0 : sK SC v0 = 9) (v1 : Int32)  (v2 : Int32)  (v3 : Int32)  (v4 : Int32)  (μ : Mm) {Q : Option Value → Sh → Mm → Prop} (K : (Int32 × Int32 × Int32 × Mm) ⊕ (Int32 × Mm) → Prop) (hb : ∀ (s : (Int32 × Int32 × Int32 × Mm)), K (Sum.inl s) → Wp l SC d (0, 0) mX9_bringPost 15 [some (.ref v0), some (.int s.1), some (.int v2), some (.int s.2.1), some (.int s.2.2.1)] [] s.2.2.2 Q) (he0 : ∀ (x : (Int32 × Mm)) (z0 : Option Value) (z2 : Option Value) (z3 : Option Value) (z4 : Option Value), K (Sum.inr x) → Wp l SC d (0, 0) mX9_bringPost 68 [z0, some (.int x.1), z2, z3, z4] [] x.2 Q) {z : (Int32 × Int32 × Int32 × Mm) ⊕ (Int32 × Mm)} (h : World_bringPost_l15 v0 v1 v2 v3 v4 μ = some z) (hz : K z) : Wp l SC d (0, 0) mX9_bringPost 15 [some (.ref v0), some (.int v1), some (.int v2), some (.int v3), some (.int v4)] [] μ Q := by
  unfold World_bringPost_l15 at h
  refine wp_iload (x := v4) dX9_bringPost_15 rfl ?_
  refine wp_iload_n (x := v2) dX9_bringPost_17 rfl ?_
  refine wp_icmp_ge 68 dX9_bringPost_18 (by decide) (fun c1 => ?_) (fun c1 => ?_)
  · rw [if_pos c1] at h
    obtain rfl := some1 h
    exact he0 (v1, μ) _ _ _ _ hz
  · rw [if_neg c1] at h
    refine wp_aload_n (x := v0) dX9_bringPost_21 rfl ?_
    refine wp_getR (v0 + 7) fl_X9_29 (by decide) rfl (kltC t0) t0 (ly9_3 t0).1 dX9_bringPost_22 ?_
    refine wp_getR (v0 + 11) fl_X9_105 (by decide) rfl (kltC (ly9_3 t0).2.1) (ly9_3 t0).2.1 (ly2_3 (ly9_3 t0).2.1).1 dX9_bringPost_25 ?_
    refine wp_iload_n (x := v3) dX9_bringPost_28 rfl ?_
    obtain ⟨c1, h⟩ := chv_some h
    refine wp_ialde (kltC (ly2_3 (ly9_3 t0).2.1).2.1) (ly2_3 (ly9_3 t0).2.1).2.1 rfl c1 dX9_bringPost_29 ?_
    refine wp_aload_n (x := v0) dX9_bringPost_30 rfl ?_
    refine wp_getI fl_X9_66 (by decide) rfl (kltC t0) t0 dX9_bringPost_31 ?_
    refine wp_icmp_le 43 dX9_bringPost_34 (by decide) (fun c1 => ?_) (fun c1 => ?_)
    · rw [if_pos c1] at h
      refine wp_aload_n (x := v0) dX9_bringPost_43 rfl ?_
      refine wp_iload_n (x := v3) dX9_bringPost_44 rfl ?_
      obtain ⟨r2, μ1, g1, h⟩ := bnd2_some h
      refine wp_cVi (d := d - 1) (o := v0) cv_X9_107 (kltC t0) t0 (as := [.int v3]) (rest := []) dX9_bringPost_45 (by omega) cloC rfl rfl (Nat.le_of_ble_eq_true rfl) (Nat.le_of_ble_eq_true rfl) (ok_World_receive (by omega) v0 t0 v3 μ g1) ?_ rfl
      refine wp_if_ne 54 dX9_bringPost_48 (by decide) (fun c1 => ?_) (fun c1 => ?_)
      · rw [if_neg c1] at h
        exact ok_World_bringPost_j54 hd v0 t0 v1 v2 v3 v4 μ1 K hb he0 h hz
      · rw [if_pos c1] at h
        refine wp_iinc (x := v1) (k0 := (nI 1)) (L2 := [some (.ref v0), some (.int (v1 + (nI 1))), some (.int v2), some (.int v3), some (.int v4)]) dX9_bringPost_51 rfl rfl (by decide) rfl rfl ?_
        exact ok_World_bringPost_j54 hd v0 t0 (v1 + (nI 1)) v2 v3 v4 μ1 K hb he0 h hz
    · rw [if_neg c1] at h
      refine wp_iinc (x := v3) (k0 := (nI 1)) (L2 := [some (.ref v0), some (.int v1), some (.int v2), some (.int (v3 + (nI 1))), some (.int v4)]) dX9_bringPost_37 rfl rfl (by decide) rfl rfl ?_
      refine wp_goto 62 dX9_bringPost_40 (by decide) ?_
      exact ok_World_bringPost_j62 hd v0 t0 v1 v2 (v3 + (nI 1)) v4 μ K hb he0 h hz
theorem okl_World_bringPost_l15 {l : Launch} {d : Nat} (hd : 5 ≤ d) (v0 : Nat) (t0 : sK SC v0 = 9) (v2 : Int32)  {Q : Option Value → Sh → Mm → Prop} (K : (Int32 × Mm) → Prop) (he0 : ∀ (x : (Int32 × Mm)) (z0 : Option Value) (z2 : Option Value) (z3 : Option Value) (z4 : Option Value), K x → Wp l SC d (0, 0) mX9_bringPost 68 [z0, some (.int x.1), z2, z3, z4] [] x.2 Q) : ∀ (n : Nat) (s : (Int32 × Int32 × Int32 × Mm)) (y : (Int32 × Mm)) , iter n (fun s => World_bringPost_l15 v0 s.1 v2 s.2.1 s.2.2.1 s.2.2.2) s = some y → K y → Wp l SC d (0, 0) mX9_bringPost 15 [some (.ref v0), some (.int s.1), some (.int v2), some (.int s.2.1), some (.int s.2.2.1)] [] s.2.2.2 Q := by
  intro n
  induction n with
  | zero => intro s y  h; cases h
  | succ n ih =>
    intro s y  h hK
    obtain ⟨z, hz, hn⟩ := iter_some h
    refine ok_World_bringPost_l15 hd v0 t0 s.1 v2 s.2.1 s.2.2.1 s.2.2.2 (fun z => nxt n (fun s => World_bringPost_l15 v0 s.1 v2 s.2.1 s.2.2.1 s.2.2.2) z y) ?_ ?_ hz hn
    · intro s2  h2
      exact ih s2 y h2 hK
    · intro x z0 z2 z3 z4 h2
      have h3 : x = y := h2
      subst h3
      exact he0 x _ _ _ _ hK
theorem ok_World_bringPost {l : Launch} {d : Nat} (hd : 5 ≤ d) (v0 : Nat) (t0 : sK SC v0 = 9) (μ : Mm) {r : Int32} {μ' : Mm} (h : World_bringPost v0 μ = some (r, μ')) : Wp l SC d (0, 0) mX9_bringPost 0 [some (.ref v0), none, none, none, none] [] μ (Qi SC r μ') := by
  unfold World_bringPost at h
  refine wp_iconst (nI 0) dX9_bringPost_0 rfl ?_
  refine wp_istore_n (L2 := [some (.ref v0), some (.int (nI 0)), none, none, none]) dX9_bringPost_1 (by decide) rfl rfl ?_
  refine wp_aload_n (x := v0) dX9_bringPost_2 rfl ?_
  refine wp_getR (v0 + 7) fl_X9_29 (by decide) rfl (kltC t0) t0 (ly9_3 t0).1 dX9_bringPost_3 ?_
  refine wp_getI fl_X9_102 (by decide) rfl (kltC (ly9_3 t0).2.1) (ly9_3 t0).2.1 dX9_bringPost_6 ?_
  refine wp_istore_n (L2 := [some (.ref v0), some (.int (nI 0)), some (.int (μ.1 (v0 + 7) 5)), none, none]) dX9_bringPost_9 (by decide) rfl rfl ?_
  refine wp_iconst (nI 0) dX9_bringPost_10 rfl ?_
  refine wp_istore_n (L2 := [some (.ref v0), some (.int (nI 0)), some (.int (μ.1 (v0 + 7) 5)), some (.int (nI 0)), none]) dX9_bringPost_11 (by decide) rfl rfl ?_
  refine wp_iconst (nI 0) dX9_bringPost_12 rfl ?_
  refine wp_istore (L2 := [some (.ref v0), some (.int (nI 0)), some (.int (μ.1 (v0 + 7) 5)), some (.int (nI 0)), some (.int (nI 0))]) dX9_bringPost_13 (by decide) rfl rfl ?_
  obtain ⟨x15, hi, h⟩ := bni_some h
  refine okl_World_bringPost_l15 hd v0 t0 (μ.1 (v0 + 7) 5) (fun z => z = x15) ?_ 1000000 ((nI 0), (nI 0), (nI 0), μ) x15 hi rfl
  · intro y0 z0 z2 z3 z4 e0
    have e0 : y0 = x15 := e0
    subst e0
    refine wp_iload_n (x := y0.1) dX9_bringPost_68 rfl ?_
    obtain ⟨rfl, rfl⟩ := ret2 h
    exact wp_iret rfl dX9_bringPost_69 ⟨rfl, rfl, rfl⟩
theorem ok_World_nameAll {l : Launch} {d : Nat} (hd : 2 ≤ d) (v0 : Nat) (t0 : sK SC v0 = 9) (v1 : Int32)  (v2 : Int32)  (μ : Mm) {μ' : Mm} (h : World_nameAll v0 v1 v2 μ = some μ') : Wp l SC d (0, 0) mX9_nameAll 0 [some (.ref v0), some (.int v1), some (.int v2), none, none] [] μ (Qv SC μ') := by
  unfold World_nameAll at h
  refine wp_aload_n (x := v0) dX9_nameAll_0 rfl ?_
  refine wp_getR (v0 + 1) fl_X9_11 (by decide) rfl (kltC t0) t0 (ly9_0 t0).1 dX9_nameAll_1 ?_
  refine wp_iload_n (x := v1) dX9_nameAll_4 rfl ?_
  obtain ⟨cp1, h⟩ := chv_some h
  refine wp_aald (v0 + (21 + 9 * ix v1)) (kltC (ly9_0 t0).2.1) (ly9_0 t0).2.1 (by decide) (by rw [(ly9_0 t0).2.2]; exact cp1) (lyP t0 cp1).1 dX9_nameAll_5 ?_
  refine wp_astore_n (L2 := [some (.ref v0), some (.int v1), some (.int v2), some (.ref (v0 + (21 + 9 * ix v1))), none]) dX9_nameAll_6 (by decide) rfl rfl ?_
  refine wp_aload_n (x := (v0 + (21 + 9 * ix v1))) dX9_nameAll_7 rfl ?_
  refine wp_getR ((v0 + (21 + 9 * ix v1)) + 3) fl_X9_56 (by decide) rfl (kltC (lyP t0 cp1).2) (lyP t0 cp1).2 (ly3_2 (lyP t0 cp1).2).1 dX9_nameAll_8 ?_
  refine wp_getR ((v0 + (21 + 9 * ix v1)) + 4) fl_X9_133 (by decide) rfl (kltC (ly3_2 (lyP t0 cp1).2).2.1) (ly3_2 (lyP t0 cp1).2).2.1 (ly2_0 (ly3_2 (lyP t0 cp1).2).2.1).1 dX9_nameAll_11 ?_
  refine wp_iload_n (x := v2) dX9_nameAll_14 rfl ?_
  obtain ⟨c1, h⟩ := chv_some h
  refine wp_ialde (kltC (ly2_0 (ly3_2 (lyP t0 cp1).2).2.1).2.1) (ly2_0 (ly3_2 (lyP t0 cp1).2).2.1).2.1 rfl c1 dX9_nameAll_15 ?_
  refine wp_istore (L2 := [some (.ref v0), some (.int v1), some (.int v2), some (.ref (v0 + (21 + 9 * ix v1))), some (.int (μ.1 ((v0 + (21 + 9 * ix v1)) + 4) (ix v2)))]) dX9_nameAll_16 (by decide) rfl rfl ?_
  refine wp_aload_n (x := v0) dX9_nameAll_18 rfl ?_
  refine wp_getR (v0 + 20) fl_X9_44 (by decide) rfl (kltC t0) t0 (ly9_12 t0).1 dX9_nameAll_19 ?_
  refine wp_iconst (nI 0) dX9_nameAll_22 rfl ?_
  refine wp_aload_n (x := v0) dX9_nameAll_23 rfl ?_
  refine wp_getR (v0 + 2) fl_X9_20 (by decide) rfl (kltC t0) t0 (ly9_2 t0).1 dX9_nameAll_24 ?_
  refine wp_getR (v0 + 3) fl_X9_191 (by decide) rfl (kltC (ly9_2 t0).2.1) (ly9_2 t0).2.1 (ly8_0 (ly9_2 t0).2.1).1 dX9_nameAll_27 ?_
  refine wp_iload (x := (μ.1 ((v0 + (21 + 9 * ix v1)) + 4) (ix v2))) dX9_nameAll_30 rfl ?_
  obtain ⟨c1, h⟩ := chv_some h
  refine wp_ialde (kltC (ly8_0 (ly9_2 t0).2.1).2.1) (ly8_0 (ly9_2 t0).2.1).2.1 (ly8_0 (ly9_2 t0).2.1).2.2 c1 dX9_nameAll_32 ?_
  obtain ⟨c1, h⟩ := chv_some h
  obtain ⟨μ2, e1, h⟩ := lt_some h
  refine wp_iaste e1 (kltC (ly9_12 t0).2.1) (ly9_12 t0).2.1 (ly9_12 t0).2.2 c1 dX9_nameAll_33 ?_
  refine wp_aload_n (x := v0) dX9_nameAll_34 rfl ?_
  refine wp_getR (v0 + 20) fl_X9_44 (by decide) rfl (kltC t0) t0 (ly9_12 t0).1 dX9_nameAll_35 ?_
  refine wp_iconst (nI 1) dX9_nameAll_38 rfl ?_
  refine wp_aload_n (x := (v0 + (21 + 9 * ix v1))) dX9_nameAll_39 rfl ?_
  refine wp_getR ((v0 + (21 + 9 * ix v1)) + 3) fl_X9_56 (by decide) rfl (kltC (lyP t0 cp1).2) (lyP t0 cp1).2 (ly3_2 (lyP t0 cp1).2).1 dX9_nameAll_40 ?_
  refine wp_getR ((v0 + (21 + 9 * ix v1)) + 8) fl_X9_140 (by decide) rfl (kltC (ly3_2 (lyP t0 cp1).2).2.1) (ly3_2 (lyP t0 cp1).2).2.1 (ly2_4 (ly3_2 (lyP t0 cp1).2).2.1).1 dX9_nameAll_43 ?_
  refine wp_iload_n (x := v2) dX9_nameAll_46 rfl ?_
  obtain ⟨c1, h⟩ := chv_some h
  refine wp_ialde (kltC (ly2_4 (ly3_2 (lyP t0 cp1).2).2.1).2.1) (ly2_4 (ly3_2 (lyP t0 cp1).2).2.1).2.1 rfl c1 dX9_nameAll_47 ?_
  obtain ⟨c1, h⟩ := chv_some h
  obtain ⟨μ3, e1, h⟩ := lt_some h
  refine wp_iaste e1 (kltC (ly9_12 t0).2.1) (ly9_12 t0).2.1 (ly9_12 t0).2.2 c1 dX9_nameAll_48 ?_
  refine wp_aload_n (x := v0) dX9_nameAll_49 rfl ?_
  refine wp_getR (v0 + 20) fl_X9_44 (by decide) rfl (kltC t0) t0 (ly9_12 t0).1 dX9_nameAll_50 ?_
  refine wp_iconst (nI 2) dX9_nameAll_53 rfl ?_
  refine wp_aload_n (x := (v0 + (21 + 9 * ix v1))) dX9_nameAll_54 rfl ?_
  refine wp_getR ((v0 + (21 + 9 * ix v1)) + 1) fl_X9_89 (by decide) rfl (kltC (lyP t0 cp1).2) (lyP t0 cp1).2 (ly3_0 (lyP t0 cp1).2).1 dX9_nameAll_55 ?_
  refine wp_iconst (nI 1) dX9_nameAll_58 rfl ?_
  obtain ⟨c1, h⟩ := chv_some h
  refine wp_ialde (kltC (ly3_0 (lyP t0 cp1).2).2.1) (ly3_0 (lyP t0 cp1).2).2.1 (ly3_0 (lyP t0 cp1).2).2.2 c1 dX9_nameAll_59 ?_
  obtain ⟨c1, h⟩ := chv_some h
  obtain ⟨μ4, e1, h⟩ := lt_some h
  refine wp_iaste e1 (kltC (ly9_12 t0).2.1) (ly9_12 t0).2.1 (ly9_12 t0).2.2 c1 dX9_nameAll_60 ?_
  refine wp_aload_n (x := v0) dX9_nameAll_61 rfl ?_
  refine wp_getR (v0 + 20) fl_X9_44 (by decide) rfl (kltC t0) t0 (ly9_12 t0).1 dX9_nameAll_62 ?_
  refine wp_iconst (nI 3) dX9_nameAll_65 rfl ?_
  refine wp_aload_n (x := (v0 + (21 + 9 * ix v1))) dX9_nameAll_66 rfl ?_
  refine wp_getR ((v0 + (21 + 9 * ix v1)) + 1) fl_X9_89 (by decide) rfl (kltC (lyP t0 cp1).2) (lyP t0 cp1).2 (ly3_0 (lyP t0 cp1).2).1 dX9_nameAll_67 ?_
  refine wp_iconst (nI 2) dX9_nameAll_70 rfl ?_
  obtain ⟨c1, h⟩ := chv_some h
  refine wp_ialde (kltC (ly3_0 (lyP t0 cp1).2).2.1) (ly3_0 (lyP t0 cp1).2).2.1 (ly3_0 (lyP t0 cp1).2).2.2 c1 dX9_nameAll_71 ?_
  obtain ⟨c1, h⟩ := chv_some h
  obtain ⟨μ5, e1, h⟩ := lt_some h
  refine wp_iaste e1 (kltC (ly9_12 t0).2.1) (ly9_12 t0).2.1 (ly9_12 t0).2.2 c1 dX9_nameAll_72 ?_
  refine wp_aload_n (x := v0) dX9_nameAll_73 rfl ?_
  refine wp_getR (v0 + 20) fl_X9_44 (by decide) rfl (kltC t0) t0 (ly9_12 t0).1 dX9_nameAll_74 ?_
  refine wp_iconst (nI 4) dX9_nameAll_77 rfl ?_
  refine wp_aload_n (x := (v0 + (21 + 9 * ix v1))) dX9_nameAll_78 rfl ?_
  refine wp_getR ((v0 + (21 + 9 * ix v1)) + 1) fl_X9_89 (by decide) rfl (kltC (lyP t0 cp1).2) (lyP t0 cp1).2 (ly3_0 (lyP t0 cp1).2).1 dX9_nameAll_79 ?_
  refine wp_iconst (nI 4) dX9_nameAll_82 rfl ?_
  obtain ⟨c1, h⟩ := chv_some h
  refine wp_ialde (kltC (ly3_0 (lyP t0 cp1).2).2.1) (ly3_0 (lyP t0 cp1).2).2.1 (ly3_0 (lyP t0 cp1).2).2.2 c1 dX9_nameAll_83 ?_
  obtain ⟨c1, h⟩ := chv_some h
  obtain ⟨μ6, e1, h⟩ := lt_some h
  refine wp_iaste e1 (kltC (ly9_12 t0).2.1) (ly9_12 t0).2.1 (ly9_12 t0).2.2 c1 dX9_nameAll_84 ?_
  refine wp_aload_n (x := v0) dX9_nameAll_85 rfl ?_
  refine wp_getR (v0 + 20) fl_X9_44 (by decide) rfl (kltC t0) t0 (ly9_12 t0).1 dX9_nameAll_86 ?_
  refine wp_iconst (nI 5) dX9_nameAll_89 rfl ?_
  refine wp_iload_n (x := v1) dX9_nameAll_90 rfl ?_
  obtain ⟨c1, h⟩ := chv_some h
  obtain ⟨μ7, e1, h⟩ := lt_some h
  refine wp_iaste e1 (kltC (ly9_12 t0).2.1) (ly9_12 t0).2.1 (ly9_12 t0).2.2 c1 dX9_nameAll_91 ?_
  refine wp_aload_n (x := v0) dX9_nameAll_92 rfl ?_
  refine wp_getR (v0 + 20) fl_X9_44 (by decide) rfl (kltC t0) t0 (ly9_12 t0).1 dX9_nameAll_93 ?_
  refine wp_bipush (nI 6) dX9_nameAll_96 rfl ?_
  refine wp_aload_n (x := v0) dX9_nameAll_98 rfl ?_
  refine wp_getI fl_X9_66 (by decide) rfl (kltC t0) t0 dX9_nameAll_99 ?_
  obtain ⟨c1, h⟩ := chv_some h
  obtain ⟨μ8, e1, h⟩ := lt_some h
  refine wp_iaste e1 (kltC (ly9_12 t0).2.1) (ly9_12 t0).2.1 (ly9_12 t0).2.2 c1 dX9_nameAll_102 ?_
  refine wp_aload_n (x := v0) dX9_nameAll_103 rfl ?_
  refine wp_getR (v0 + 20) fl_X9_44 (by decide) rfl (kltC t0) t0 (ly9_12 t0).1 dX9_nameAll_104 ?_
  refine wp_bipush (nI 7) dX9_nameAll_107 rfl ?_
  refine wp_aload_n (x := (v0 + (21 + 9 * ix v1))) dX9_nameAll_109 rfl ?_
  refine wp_getR ((v0 + (21 + 9 * ix v1)) + 3) fl_X9_56 (by decide) rfl (kltC (lyP t0 cp1).2) (lyP t0 cp1).2 (ly3_2 (lyP t0 cp1).2).1 dX9_nameAll_110 ?_
  refine wp_getR ((v0 + (21 + 9 * ix v1)) + 7) fl_X9_105 (by decide) rfl (kltC (ly3_2 (lyP t0 cp1).2).2.1) (ly3_2 (lyP t0 cp1).2).2.1 (ly2_3 (ly3_2 (lyP t0 cp1).2).2.1).1 dX9_nameAll_113 ?_
  refine wp_iload_n (x := v2) dX9_nameAll_116 rfl ?_
  obtain ⟨c1, h⟩ := chv_some h
  refine wp_ialde (kltC (ly2_3 (ly3_2 (lyP t0 cp1).2).2.1).2.1) (ly2_3 (ly3_2 (lyP t0 cp1).2).2.1).2.1 rfl c1 dX9_nameAll_117 ?_
  refine wp_aload_n (x := v0) dX9_nameAll_118 rfl ?_
  refine wp_getI fl_X9_66 (by decide) rfl (kltC t0) t0 dX9_nameAll_119 ?_
  refine wp_isub dX9_nameAll_122 ?_
  obtain ⟨c1, h⟩ := chv_some h
  obtain ⟨μ9, e1, h⟩ := lt_some h
  refine wp_iaste e1 (kltC (ly9_12 t0).2.1) (ly9_12 t0).2.1 (ly9_12 t0).2.2 c1 dX9_nameAll_123 ?_
  refine wp_aload_n (x := v0) dX9_nameAll_124 rfl ?_
  refine wp_getR (v0 + 20) fl_X9_44 (by decide) rfl (kltC t0) t0 (ly9_12 t0).1 dX9_nameAll_125 ?_
  refine wp_bipush (nI 8) dX9_nameAll_128 rfl ?_
  refine wp_aload_n (x := (v0 + (21 + 9 * ix v1))) dX9_nameAll_130 rfl ?_
  refine wp_getR ((v0 + (21 + 9 * ix v1)) + 1) fl_X9_89 (by decide) rfl (kltC (lyP t0 cp1).2) (lyP t0 cp1).2 (ly3_0 (lyP t0 cp1).2).1 dX9_nameAll_131 ?_
  refine wp_iconst (nI 3) dX9_nameAll_134 rfl ?_
  obtain ⟨c1, h⟩ := chv_some h
  refine wp_ialde (kltC (ly3_0 (lyP t0 cp1).2).2.1) (ly3_0 (lyP t0 cp1).2).2.1 (ly3_0 (lyP t0 cp1).2).2.2 c1 dX9_nameAll_135 ?_
  obtain ⟨c1, h⟩ := chv_some h
  obtain ⟨μ10, e1, h⟩ := lt_some h
  refine wp_iaste e1 (kltC (ly9_12 t0).2.1) (ly9_12 t0).2.1 (ly9_12 t0).2.2 c1 dX9_nameAll_136 ?_
  refine wp_aload_n (x := v0) dX9_nameAll_137 rfl ?_
  refine wp_getR (v0 + 20) fl_X9_44 (by decide) rfl (kltC t0) t0 (ly9_12 t0).1 dX9_nameAll_138 ?_
  refine wp_bipush (nI 9) dX9_nameAll_141 rfl ?_
  refine wp_aload_n (x := (v0 + (21 + 9 * ix v1))) dX9_nameAll_143 rfl ?_
  refine wp_getR ((v0 + (21 + 9 * ix v1)) + 3) fl_X9_56 (by decide) rfl (kltC (lyP t0 cp1).2) (lyP t0 cp1).2 (ly3_2 (lyP t0 cp1).2).1 dX9_nameAll_144 ?_
  refine wp_getI fl_X9_102 (by decide) rfl (kltC (ly3_2 (lyP t0 cp1).2).2.1) (ly3_2 (lyP t0 cp1).2).2.1 dX9_nameAll_147 ?_
  obtain ⟨c1, h⟩ := chv_some h
  obtain ⟨μ11, e1, h⟩ := lt_some h
  refine wp_iaste e1 (kltC (ly9_12 t0).2.1) (ly9_12 t0).2.1 (ly9_12 t0).2.2 c1 dX9_nameAll_150 ?_
  refine wp_aload_n (x := v0) dX9_nameAll_151 rfl ?_
  refine wp_getR (v0 + 20) fl_X9_44 (by decide) rfl (kltC t0) t0 (ly9_12 t0).1 dX9_nameAll_152 ?_
  refine wp_bipush (nI 10) dX9_nameAll_155 rfl ?_
  refine wp_aload_n (x := v0) dX9_nameAll_157 rfl ?_
  refine wp_getR (v0 + 2) fl_X9_20 (by decide) rfl (kltC t0) t0 (ly9_2 t0).1 dX9_nameAll_158 ?_
  refine wp_getR (v0 + 4) fl_X9_197 (by decide) rfl (kltC (ly9_2 t0).2.1) (ly9_2 t0).2.1 (ly8_1 (ly9_2 t0).2.1).1 dX9_nameAll_161 ?_
  refine wp_iload (x := (μ.1 ((v0 + (21 + 9 * ix v1)) + 4) (ix v2))) dX9_nameAll_164 rfl ?_
  obtain ⟨c1, h⟩ := chv_some h
  refine wp_ialde (kltC (ly8_1 (ly9_2 t0).2.1).2.1) (ly8_1 (ly9_2 t0).2.1).2.1 (ly8_1 (ly9_2 t0).2.1).2.2 c1 dX9_nameAll_166 ?_
  obtain ⟨r12, g1, h⟩ := bnd_some h
  refine wp_cSi (d := d - 1) cs_X9_227 (as := [.int (μ11.1 (v0 + 4) (ix (μ.1 ((v0 + (21 + 9 * ix v1)) + 4) (ix v2))))]) (rest := [.int (nI 10), .ref (v0 + 20)]) dX9_nameAll_167 (by omega) cloC rfl rfl (Nat.le_of_ble_eq_true rfl) (Nat.le_of_ble_eq_true rfl) (ok_JI_bitCount wfC (by omega) (μ11.1 (v0 + 4) (ix (μ.1 ((v0 + (21 + 9 * ix v1)) + 4) (ix v2)))) μ11 g1) ?_ rfl
  obtain ⟨c1, h⟩ := chv_some h
  obtain ⟨μ13, e1, h⟩ := lt_some h
  refine wp_iaste e1 (kltC (ly9_12 t0).2.1) (ly9_12 t0).2.1 (ly9_12 t0).2.2 c1 dX9_nameAll_170 ?_
  obtain rfl := ret1 h
  exact wp_vret rfl dX9_nameAll_171 ⟨rfl, rfl, rfl⟩
theorem ok_Nine_heldTo {l : Launch} {d : Nat} (hd : 2 ≤ d) (v0 : Int32)  (v1 : Int32)  (μ : Mm) {r : Int32} (h : Nine_heldTo v0 v1 = some r) : Wp l SC d (0, 0) mX10_heldTo 0 [some (.int v0), some (.int v1)] [] μ (Qi SC r μ) := by
  unfold Nine_heldTo at h
  refine wp_iconst (nI 0) dX10_heldTo_0 rfl ?_
  refine wp_iload_n (x := v1) dX10_heldTo_1 rfl ?_
  refine wp_iload_n (x := v0) dX10_heldTo_2 rfl ?_
  refine wp_mmin mm_X10_354 (by omega) (Nat.le_of_ble_eq_true rfl) dX10_heldTo_3 ?_
  refine wp_mmax mm_X10_359 (by omega) (Nat.le_of_ble_eq_true rfl) dX10_heldTo_6 ?_
  obtain rfl := ret1 h
  exact wp_iret rfl dX10_heldTo_9 ⟨rfl, rfl, rfl⟩
theorem ok_World_copiesToWrite {l : Launch} {d : Nat} (hd : 4 ≤ d) (v0 : Nat) (t0 : sK SC v0 = 9) (v1 : Int32)  (v2 : Int32)  (v3 : Nat) (t3 : sK SC v3 = 1) (μ : Mm) {r : Int32} {μ' : Mm} (h : World_copiesToWrite v0 v1 v2 v3 μ = some (r, μ')) : Wp l SC d (0, 0) mX9_copiesToWrite 0 [some (.ref v0), some (.int v1), some (.int v2), some (.ref v3)] [] μ (Qi SC r μ') := by
  unfold World_copiesToWrite at h
  refine wp_aload_n (x := v0) dX9_copiesToWrite_0 rfl ?_
  refine wp_iload_n (x := v1) dX9_copiesToWrite_1 rfl ?_
  refine wp_iload_n (x := v2) dX9_copiesToWrite_2 rfl ?_
  obtain ⟨μ1, g1, h⟩ := bnd_some h
  refine wp_cVv (d := d - 1) (o := v0) cv_X9_214 (kltC t0) t0 (as := [.int v1, .int v2]) (rest := []) dX9_copiesToWrite_3 (by omega) cloC rfl rfl (Nat.le_of_ble_eq_true rfl) (Nat.le_of_ble_eq_true rfl) (ok_World_nameAll (by omega) v0 t0 v1 v2 μ g1) ?_ rfl
  refine wp_aload_n (x := v3) dX9_copiesToWrite_6 rfl ?_
  refine wp_aload_n (x := v0) dX9_copiesToWrite_7 rfl ?_
  refine wp_getR (v0 + 20) fl_X9_44 (by decide) rfl (kltC t0) t0 (ly9_12 t0).1 dX9_copiesToWrite_8 ?_
  refine wp_iconst (nI 1) dX9_copiesToWrite_11 rfl ?_
  obtain ⟨r3, μ2, g1, h⟩ := bnd2_some h
  refine wp_cVi (d := d - 1) (o := v3) cv_X9_218 (kltC t3) t3 (as := [.ref (v0 + 20), .int (nI 1)]) (rest := []) dX9_copiesToWrite_12 (by omega) cloC rfl rfl (Nat.le_of_ble_eq_true rfl) (Nat.le_of_ble_eq_true rfl) (ok_Law_valueFor (by omega) v3 t3 (v0 + 20) ((ly9_12 t0).2.1) (nI 1) μ1 g1) ?_ rfl
  refine wp_bipush (nI 9) dX9_copiesToWrite_15 rfl ?_
  obtain ⟨r4, g1, h⟩ := bnd_some h
  refine wp_cNi (d := d - 1) cs_X9_224 (as := [.int r3, .int (nI 9)]) (rest := []) dX9_copiesToWrite_17 (by omega) cloC rfl rfl (Nat.le_of_ble_eq_true rfl) (Nat.le_of_ble_eq_true rfl) (ok_Nine_heldTo (by omega) r3 (nI 9) μ2 g1) ?_ rfl
  obtain ⟨rfl, rfl⟩ := ret2 h
  exact wp_iret rfl dX9_copiesToWrite_20 ⟨rfl, rfl, rfl⟩
theorem ok_World_draw {l : Launch} {d : Nat} (hd : 1 ≤ d) (v0 : Nat) (t0 : sK SC v0 = 9) (v1 : Int32)  (μ : Mm) {r : Int32} {μ' : Mm} (h : World_draw v0 v1 μ = some (r, μ')) : Wp l SC d (0, 0) mX9_draw 0 [some (.ref v0), some (.int v1)] [] μ (Qi SC r μ') := by
  unfold World_draw at h
  refine wp_aload_n (x := v0) dX9_draw_0 rfl ?_
  refine wp_aload_n (x := v0) dX9_draw_1 rfl ?_
  refine wp_getI fl_X9_203 (by decide) rfl (kltC t0) t0 dX9_draw_2 ?_
  refine wp_ldc (v := (nI 1664525)) dX9_draw_5 kc_X9_206 ?_
  refine wp_imul dX9_draw_7 ?_
  refine wp_ldc (v := (nI 1013904223)) dX9_draw_8 kc_X9_207 ?_
  refine wp_iadd dX9_draw_10 ?_
  obtain ⟨μ1, e1, h⟩ := lt_some h
  refine wp_putIe e1 fl_X9_203 (by decide) rfl (kltC t0) t0 dX9_draw_11 ?_
  refine wp_aload_n (x := v0) dX9_draw_14 rfl ?_
  refine wp_getI fl_X9_203 (by decide) rfl (kltC t0) t0 dX9_draw_15 ?_
  refine wp_bipush (nI 8) dX9_draw_18 rfl ?_
  refine wp_iushr dX9_draw_20 ?_
  refine wp_iload_n (x := v1) dX9_draw_21 rfl ?_
  obtain ⟨c1, h⟩ := chk_some h
  refine wp_irem dX9_draw_22 c1 ?_
  obtain ⟨rfl, rfl⟩ := ret2 h
  exact wp_iret rfl dX9_draw_23 ⟨rfl, rfl, rfl⟩
theorem ok_World_versionOfCopy_j71 {l : Launch} {d : Nat} (hd : 3 ≤ d) (v0 : Nat) (t0 : sK SC v0 = 9) (v1 : Int32)  (v2 : Int32)  (v3 : Int32)  (v4 : Int32)  (μ : Mm) {r : Int32} {μ' : Mm} (h : World_versionOfCopy_j71 v0 v1 v2 v3 v4 μ = some (r, μ')) : Wp l SC d (0, 0) mX9_versionOfCopy 71 [some (.ref v0), some (.int v1), some (.int v2), some (.int v3), some (.int v4)] [] μ (Qi SC r μ') := by
  unfold World_versionOfCopy_j71 at h
  refine wp_aload_n (x := v0) dX9_versionOfCopy_71 rfl ?_
  refine wp_getR (v0 + 2) fl_X9_20 (by decide) rfl (kltC t0) t0 (ly9_2 t0).1 dX9_versionOfCopy_72 ?_
  refine wp_iload (x := v4) dX9_versionOfCopy_75 rfl ?_
  refine wp_aload_n (x := v0) dX9_versionOfCopy_77 rfl ?_
  refine wp_getR (v0 + 2) fl_X9_20 (by decide) rfl (kltC t0) t0 (ly9_2 t0).1 dX9_versionOfCopy_78 ?_
  refine wp_getR (v0 + 4) fl_X9_197 (by decide) rfl (kltC (ly9_2 t0).2.1) (ly9_2 t0).2.1 (ly8_1 (ly9_2 t0).2.1).1 dX9_versionOfCopy_81 ?_
  refine wp_iload_n (x := v1) dX9_versionOfCopy_84 rfl ?_
  obtain ⟨c1, h⟩ := chv_some h
  refine wp_ialde (kltC (ly8_1 (ly9_2 t0).2.1).2.1) (ly8_1 (ly9_2 t0).2.1).2.1 (ly8_1 (ly9_2 t0).2.1).2.2 c1 dX9_versionOfCopy_85 ?_
  refine wp_iconst (nI 1) dX9_versionOfCopy_86 rfl ?_
  refine wp_iload_n (x := v3) dX9_versionOfCopy_87 rfl ?_
  refine wp_ishl dX9_versionOfCopy_88 ?_
  refine wp_ixor dX9_versionOfCopy_89 ?_
  refine wp_iload_n (x := v1) dX9_versionOfCopy_90 rfl ?_
  refine wp_iload_n (x := v2) dX9_versionOfCopy_91 rfl ?_
  obtain ⟨r7, μ6, g1, h⟩ := bnd2_some h
  refine wp_cVi (d := d - 1) (o := (v0 + 2)) cv_X9_200 (kltC (ly9_2 t0).2.1) (ly9_2 t0).2.1 (as := [.int v4, .int ((μ.1 (v0 + 4) (ix v1)) ^^^ ((nI 1) <<< (v3 &&& 31))), .int v1, .int v2]) (rest := []) dX9_versionOfCopy_92 (by omega) cloC rfl rfl (Nat.le_of_ble_eq_true rfl) (Nat.le_of_ble_eq_true rfl) (ok_Versions_add (by omega) (v0 + 2) ((ly9_2 t0).2.1) v4 ((μ.1 (v0 + 4) (ix v1)) ^^^ ((nI 1) <<< (v3 &&& 31))) v1 v2 μ g1) ?_ rfl
  obtain ⟨rfl, rfl⟩ := ret2 h
  exact wp_iret rfl dX9_versionOfCopy_95 ⟨rfl, rfl, rfl⟩
theorem ok_World_versionOfCopy {l : Launch} {d : Nat} (hd : 3 ≤ d) (v0 : Nat) (t0 : sK SC v0 = 9) (v1 : Int32)  (v2 : Int32)  (μ : Mm) {r : Int32} {μ' : Mm} (h : World_versionOfCopy v0 v1 v2 μ = some (r, μ')) : Wp l SC d (0, 0) mX9_versionOfCopy 0 [some (.ref v0), some (.int v1), some (.int v2), none, none] [] μ (Qi SC r μ') := by
  unfold World_versionOfCopy at h
  refine wp_aload_n (x := v0) dX9_versionOfCopy_0 rfl ?_
  refine wp_getR (v0 + 19) fl_X9_40 (by decide) rfl (kltC t0) t0 (ly9_5 t0).1 dX9_versionOfCopy_1 ?_
  refine wp_iconst (nI 2) dX9_versionOfCopy_4 rfl ?_
  obtain ⟨c1, h⟩ := chv_some h
  refine wp_ialde (kltC (ly9_5 t0).2.1) (ly9_5 t0).2.1 (ly9_5 t0).2.2 c1 dX9_versionOfCopy_5 ?_
  refine wp_if_eq 25 dX9_versionOfCopy_6 (by decide) (fun c1 => ?_) (fun c1 => ?_)
  · rw [if_pos c1] at h
    refine wp_iload_n (x := v1) dX9_versionOfCopy_25 rfl ?_
    obtain ⟨rfl, rfl⟩ := ret2 h
    exact wp_iret rfl dX9_versionOfCopy_26 ⟨rfl, rfl, rfl⟩
  · rw [if_neg c1] at h
    refine wp_aload_n (x := v0) dX9_versionOfCopy_9 rfl ?_
    refine wp_sipush (nI 1000) dX9_versionOfCopy_10 rfl ?_
    obtain ⟨r2, μ1, g1, h⟩ := bnd2_some h
    refine wp_cVi (d := d - 1) (o := v0) cv_X9_187 (kltC t0) t0 (as := [.int (nI 1000)]) (rest := []) dX9_versionOfCopy_13 (by omega) cloC rfl rfl (Nat.le_of_ble_eq_true rfl) (Nat.le_of_ble_eq_true rfl) (ok_World_draw (by omega) v0 t0 (nI 1000) μ g1) ?_ rfl
    refine wp_aload_n (x := v0) dX9_versionOfCopy_16 rfl ?_
    refine wp_getR (v0 + 19) fl_X9_40 (by decide) rfl (kltC t0) t0 (ly9_5 t0).1 dX9_versionOfCopy_17 ?_
    refine wp_iconst (nI 2) dX9_versionOfCopy_20 rfl ?_
    obtain ⟨c1, h⟩ := chv_some h
    refine wp_ialde (kltC (ly9_5 t0).2.1) (ly9_5 t0).2.1 (ly9_5 t0).2.2 c1 dX9_versionOfCopy_21 ?_
    refine wp_icmp_lt 27 dX9_versionOfCopy_22 (by decide) (fun c1 => ?_) (fun c1 => ?_)
    · rw [if_pos c1] at h
      refine wp_aload_n (x := v0) dX9_versionOfCopy_27 rfl ?_
      refine wp_bipush (nI 10) dX9_versionOfCopy_28 rfl ?_
      obtain ⟨r4, μ3, g1, h⟩ := bnd2_some h
      refine wp_cVi (d := d - 1) (o := v0) cv_X9_187 (kltC t0) t0 (as := [.int (nI 10)]) (rest := []) dX9_versionOfCopy_30 (by omega) cloC rfl rfl (Nat.le_of_ble_eq_true rfl) (Nat.le_of_ble_eq_true rfl) (ok_World_draw (by omega) v0 t0 (nI 10) μ1 g1) ?_ rfl
      refine wp_istore_n (L2 := [some (.ref v0), some (.int v1), some (.int v2), some (.int r4), none]) dX9_versionOfCopy_33 (by decide) rfl rfl ?_
      refine wp_aload_n (x := v0) dX9_versionOfCopy_34 rfl ?_
      refine wp_getR (v0 + 2) fl_X9_20 (by decide) rfl (kltC t0) t0 (ly9_2 t0).1 dX9_versionOfCopy_35 ?_
      obtain ⟨r5, g1, h⟩ := bnd_some h
      refine wp_cVi (d := d - 1) (o := (v0 + 2)) cv_X9_190 (kltC (ly9_2 t0).2.1) (ly9_2 t0).2.1 (as := []) (rest := []) dX9_versionOfCopy_38 (by omega) cloC rfl rfl (Nat.le_of_ble_eq_true rfl) (Nat.le_of_ble_eq_true rfl) (ok_Versions_isFull (by omega) (v0 + 2) ((ly9_2 t0).2.1) μ3 g1) ?_ rfl
      refine wp_if_eq 46 dX9_versionOfCopy_41 (by decide) (fun c1 => ?_) (fun c1 => ?_)
      · rw [if_pos c1] at h
        refine wp_aload_n (x := v0) dX9_versionOfCopy_46 rfl ?_
        refine wp_getR (v0 + 2) fl_X9_20 (by decide) rfl (kltC t0) t0 (ly9_2 t0).1 dX9_versionOfCopy_47 ?_
        refine wp_getR (v0 + 3) fl_X9_191 (by decide) rfl (kltC (ly9_2 t0).2.1) (ly9_2 t0).2.1 (ly8_0 (ly9_2 t0).2.1).1 dX9_versionOfCopy_50 ?_
        refine wp_iload_n (x := v1) dX9_versionOfCopy_53 rfl ?_
        obtain ⟨c1, h⟩ := chv_some h
        refine wp_ialde (kltC (ly8_0 (ly9_2 t0).2.1).2.1) (ly8_0 (ly9_2 t0).2.1).2.1 (ly8_0 (ly9_2 t0).2.1).2.2 c1 dX9_versionOfCopy_54 ?_
        refine wp_istore (L2 := [some (.ref v0), some (.int v1), some (.int v2), some (.int r4), some (.int (μ3.1 (v0 + 3) (ix v1)))]) dX9_versionOfCopy_55 (by decide) rfl rfl ?_
        refine wp_iload_n (x := r4) dX9_versionOfCopy_57 rfl ?_
        refine wp_if_ne 71 dX9_versionOfCopy_58 (by decide) (fun c1 => ?_) (fun c1 => ?_)
        · rw [if_neg c1] at h
          exact ok_World_versionOfCopy_j71 hd v0 t0 v1 v2 r4 (μ3.1 (v0 + 3) (ix v1)) μ3 h
        · rw [if_pos c1] at h
          refine wp_iconst (nI 0) dX9_versionOfCopy_61 rfl ?_
          refine wp_iload (x := (μ3.1 (v0 + 3) (ix v1))) dX9_versionOfCopy_62 rfl ?_
          refine wp_iconst (nI 1) dX9_versionOfCopy_64 rfl ?_
          refine wp_isub dX9_versionOfCopy_65 ?_
          refine wp_mmax mm_X9_194 (by omega) (Nat.le_of_ble_eq_true rfl) dX9_versionOfCopy_66 ?_
          obtain ⟨u8, e1, h⟩ := lt_some h
          rw [← e1]
          refine wp_istore (L2 := [some (.ref v0), some (.int v1), some (.int v2), some (.int r4), some (.int u8)]) dX9_versionOfCopy_69 (by decide) rfl rfl ?_
          exact ok_World_versionOfCopy_j71 hd v0 t0 v1 v2 r4 u8 μ3 h
      · rw [if_neg c1] at h
        refine wp_iload_n (x := v1) dX9_versionOfCopy_44 rfl ?_
        obtain ⟨rfl, rfl⟩ := ret2 h
        exact wp_iret rfl dX9_versionOfCopy_45 ⟨rfl, rfl, rfl⟩
    · rw [if_neg c1] at h
      refine wp_iload_n (x := v1) dX9_versionOfCopy_25 rfl ?_
      obtain ⟨rfl, rfl⟩ := ret2 h
      exact wp_iret rfl dX9_versionOfCopy_26 ⟨rfl, rfl, rfl⟩
theorem ok_World_sendCopy_j148 {l : Launch} {d : Nat} (hd : 4 ≤ d) (v0 : Nat) (t0 : sK SC v0 = 9) (v1 : Int32)  (v2 : Int32)  (v4 : Nat) (t4 : sK SC v4 = 3) (s0 : Nat) (ts0 : sK SC s0 = 3) (s1 : Int32) (μ : Mm) (z3 : Option Value) (z5 : Option Value) (z6 : Option Value) (z7 : Option Value) {μ' : Mm} (h : World_sendCopy_j148 v0 v1 v2 v4 s0 s1 μ = some μ') : Wp l SC d (0, 0) mX9_sendCopy 148 [some (.ref v0), some (.int v1), some (.int v2), z3, some (.ref v4), z5, z6, z7] [.int s1, .ref s0] μ (Qv SC μ') := by
  unfold World_sendCopy_j148 at h
  obtain ⟨μ10, e1, h⟩ := lt_some h
  refine wp_putIe e1 fl_X9_173 (by decide) rfl (kltC ts0) ts0 dX9_sendCopy_148 ?_
  refine wp_aload (x := v4) dX9_sendCopy_151 rfl ?_
  refine wp_getR (v4 + 1) fl_X9_89 (by decide) rfl (kltC t4) t4 (ly3_0 t4).1 dX9_sendCopy_153 ?_
  refine wp_iconst (nI 3) dX9_sendCopy_156 rfl ?_
  refine wp_dup2 dX9_sendCopy_157 rfl rfl ?_
  obtain ⟨c1, h⟩ := chv_some h
  refine wp_ialde (kltC (ly3_0 t4).2.1) (ly3_0 t4).2.1 (ly3_0 t4).2.2 c1 dX9_sendCopy_158 ?_
  refine wp_iconst (nI 1) dX9_sendCopy_159 rfl ?_
  refine wp_isub dX9_sendCopy_160 ?_
  obtain ⟨c1, h⟩ := chv_some h
  obtain ⟨μ11, e1, h⟩ := lt_some h
  refine wp_iaste e1 (kltC (ly3_0 t4).2.1) (ly3_0 t4).2.1 (ly3_0 t4).2.2 c1 dX9_sendCopy_161 ?_
  refine wp_aload (x := v4) dX9_sendCopy_162 rfl ?_
  refine wp_getR (v4 + 3) fl_X9_56 (by decide) rfl (kltC t4) t4 (ly3_2 t4).1 dX9_sendCopy_164 ?_
  refine wp_getR (v4 + 8) fl_X9_140 (by decide) rfl (kltC (ly3_2 t4).2.1) (ly3_2 t4).2.1 (ly2_4 (ly3_2 t4).2.1).1 dX9_sendCopy_167 ?_
  refine wp_iload_n (x := v2) dX9_sendCopy_170 rfl ?_
  refine wp_dup2 dX9_sendCopy_171 rfl rfl ?_
  obtain ⟨c1, h⟩ := chv_some h
  refine wp_ialde (kltC (ly2_4 (ly3_2 t4).2.1).2.1) (ly2_4 (ly3_2 t4).2.1).2.1 rfl c1 dX9_sendCopy_172 ?_
  refine wp_iconst (nI 1) dX9_sendCopy_173 rfl ?_
  refine wp_isub dX9_sendCopy_174 ?_
  obtain ⟨c1, h⟩ := chv_some h
  obtain ⟨μ12, e1, h⟩ := lt_some h
  refine wp_iaste e1 (kltC (ly2_4 (ly3_2 t4).2.1).2.1) (ly2_4 (ly3_2 t4).2.1).2.1 rfl c1 dX9_sendCopy_175 ?_
  refine wp_aload_n (x := v0) dX9_sendCopy_176 rfl ?_
  refine wp_dup dX9_sendCopy_177 rfl ?_
  refine wp_getI fl_X9_184 (by decide) rfl (kltC t0) t0 dX9_sendCopy_178 ?_
  refine wp_iconst (nI 1) dX9_sendCopy_181 rfl ?_
  refine wp_iload_n (x := v1) dX9_sendCopy_182 rfl ?_
  refine wp_ishl dX9_sendCopy_183 ?_
  refine wp_ior dX9_sendCopy_184 ?_
  obtain ⟨μ13, e1, h⟩ := lt_some h
  refine wp_putIe e1 fl_X9_184 (by decide) rfl (kltC t0) t0 dX9_sendCopy_185 ?_
  obtain rfl := ret1 h
  exact wp_vret rfl dX9_sendCopy_188 ⟨rfl, rfl, rfl⟩
theorem ok_World_sendCopy_j106 {l : Launch} {d : Nat} (hd : 4 ≤ d) (v0 : Nat) (t0 : sK SC v0 = 9) (v1 : Int32)  (v2 : Int32)  (v4 : Nat) (t4 : sK SC v4 = 3) (v6 : Int32)  (μ : Mm) (z3 : Option Value) (z5 : Option Value) (z7 : Option Value) {μ' : Mm} (h : World_sendCopy_j106 v0 v1 v2 v4 v6 μ = some μ') : Wp l SC d (0, 0) mX9_sendCopy 106 [some (.ref v0), some (.int v1), some (.int v2), z3, some (.ref v4), z5, some (.int v6), z7] [] μ (Qv SC μ') := by
  unfold World_sendCopy_j106 at h
  refine wp_aload (x := v4) dX9_sendCopy_106 rfl ?_
  refine wp_dup dX9_sendCopy_108 rfl ?_
  refine wp_getI fl_X9_120 (by decide) rfl (kltC t4) t4 dX9_sendCopy_109 ?_
  refine wp_iconst (nI 1) dX9_sendCopy_112 rfl ?_
  refine wp_iload (x := v6) dX9_sendCopy_113 rfl ?_
  refine wp_ishl dX9_sendCopy_115 ?_
  refine wp_ior dX9_sendCopy_116 ?_
  obtain ⟨μ9, e1, h⟩ := lt_some h
  refine wp_putIe e1 fl_X9_120 (by decide) rfl (kltC t4) t4 dX9_sendCopy_117 ?_
  refine wp_aload (x := v4) dX9_sendCopy_120 rfl ?_
  refine wp_aload (x := v4) dX9_sendCopy_122 rfl ?_
  refine wp_getI fl_X9_173 (by decide) rfl (kltC t4) t4 dX9_sendCopy_124 ?_
  refine wp_iconst (nI 1) dX9_sendCopy_127 rfl ?_
  refine wp_iadd dX9_sendCopy_128 ?_
  refine wp_aload (x := v4) dX9_sendCopy_129 rfl ?_
  refine wp_getI fl_X9_181 (by decide) rfl (kltC t4) t4 dX9_sendCopy_131 ?_
  refine wp_icmp_ge 147 dX9_sendCopy_134 (by decide) (fun c1 => ?_) (fun c1 => ?_)
  · rw [if_pos c1] at h
    refine wp_iconst (nI 0) dX9_sendCopy_147 rfl ?_
    exact ok_World_sendCopy_j148 hd v0 t0 v1 v2 v4 t4 v4 t4 (nI 0) μ9 _ _ _ _ h
  · rw [if_neg c1] at h
    refine wp_aload (x := v4) dX9_sendCopy_137 rfl ?_
    refine wp_getI fl_X9_173 (by decide) rfl (kltC t4) t4 dX9_sendCopy_139 ?_
    refine wp_iconst (nI 1) dX9_sendCopy_142 rfl ?_
    refine wp_iadd dX9_sendCopy_143 ?_
    refine wp_goto 148 dX9_sendCopy_144 (by decide) ?_
    exact ok_World_sendCopy_j148 hd v0 t0 v1 v2 v4 t4 v4 t4 ((μ9.1 v4 4) + (nI 1)) μ9 _ _ _ _ h
theorem ok_World_sendCopy {l : Launch} {d : Nat} (hd : 4 ≤ d) (v0 : Nat) (t0 : sK SC v0 = 9) (v1 : Int32)  (v2 : Int32)  (v3 : Nat) (t3 : sK SC v3 = 5) (μ : Mm) {μ' : Mm} (h : World_sendCopy v0 v1 v2 v3 μ = some μ') : Wp l SC d (0, 0) mX9_sendCopy 0 [some (.ref v0), some (.int v1), some (.int v2), some (.ref v3), none, none, none, none] [] μ (Qv SC μ') := by
  unfold World_sendCopy at h
  refine wp_aload_n (x := v0) dX9_sendCopy_0 rfl ?_
  refine wp_getR (v0 + 1) fl_X9_11 (by decide) rfl (kltC t0) t0 (ly9_0 t0).1 dX9_sendCopy_1 ?_
  refine wp_iload_n (x := v1) dX9_sendCopy_4 rfl ?_
  obtain ⟨cp1, h⟩ := chv_some h
  refine wp_aald (v0 + (21 + 9 * ix v1)) (kltC (ly9_0 t0).2.1) (ly9_0 t0).2.1 (by decide) (by rw [(ly9_0 t0).2.2]; exact cp1) (lyP t0 cp1).1 dX9_sendCopy_5 ?_
  refine wp_astore (L2 := [some (.ref v0), some (.int v1), some (.int v2), some (.ref v3), some (.ref (v0 + (21 + 9 * ix v1))), none, none, none]) dX9_sendCopy_6 (by decide) rfl rfl ?_
  refine wp_aload_n (x := v0) dX9_sendCopy_8 rfl ?_
  refine wp_aload (x := (v0 + (21 + 9 * ix v1))) dX9_sendCopy_9 rfl ?_
  refine wp_getR ((v0 + (21 + 9 * ix v1)) + 3) fl_X9_56 (by decide) rfl (kltC (lyP t0 cp1).2) (lyP t0 cp1).2 (ly3_2 (lyP t0 cp1).2).1 dX9_sendCopy_11 ?_
  refine wp_getR ((v0 + (21 + 9 * ix v1)) + 4) fl_X9_133 (by decide) rfl (kltC (ly3_2 (lyP t0 cp1).2).2.1) (ly3_2 (lyP t0 cp1).2).2.1 (ly2_0 (ly3_2 (lyP t0 cp1).2).2.1).1 dX9_sendCopy_14 ?_
  refine wp_iload_n (x := v2) dX9_sendCopy_17 rfl ?_
  obtain ⟨c1, h⟩ := chv_some h
  refine wp_ialde (kltC (ly2_0 (ly3_2 (lyP t0 cp1).2).2.1).2.1) (ly2_0 (ly3_2 (lyP t0 cp1).2).2.1).2.1 rfl c1 dX9_sendCopy_18 ?_
  refine wp_iload_n (x := v1) dX9_sendCopy_19 rfl ?_
  obtain ⟨r3, μ2, g1, h⟩ := bnd2_some h
  refine wp_cVi (d := d - 1) (o := v0) cv_X9_167 (kltC t0) t0 (as := [.int (μ.1 ((v0 + (21 + 9 * ix v1)) + 4) (ix v2)), .int v1]) (rest := []) dX9_sendCopy_20 (by omega) cloC rfl rfl (Nat.le_of_ble_eq_true rfl) (Nat.le_of_ble_eq_true rfl) (ok_World_versionOfCopy (by omega) v0 t0 (μ.1 ((v0 + (21 + 9 * ix v1)) + 4) (ix v2)) v1 μ g1) ?_ rfl
  refine wp_istore (L2 := [some (.ref v0), some (.int v1), some (.int v2), some (.ref v3), some (.ref (v0 + (21 + 9 * ix v1))), some (.int r3), none, none]) dX9_sendCopy_23 (by decide) rfl rfl ?_
  refine wp_aload (x := (v0 + (21 + 9 * ix v1))) dX9_sendCopy_25 rfl ?_
  refine wp_getR ((v0 + (21 + 9 * ix v1)) + 2) fl_X9_170 (by decide) rfl (kltC (lyP t0 cp1).2) (lyP t0 cp1).2 (ly3_1 (lyP t0 cp1).2).1 dX9_sendCopy_27 ?_
  refine wp_aload (x := (v0 + (21 + 9 * ix v1))) dX9_sendCopy_30 rfl ?_
  refine wp_getI fl_X9_173 (by decide) rfl (kltC (lyP t0 cp1).2) (lyP t0 cp1).2 dX9_sendCopy_32 ?_
  obtain ⟨c1, h⟩ := chv_some h
  refine wp_ialde (kltC (ly3_1 (lyP t0 cp1).2).2.1) (ly3_1 (lyP t0 cp1).2).2.1 (ly3_1 (lyP t0 cp1).2).2.2 c1 dX9_sendCopy_35 ?_
  obtain ⟨u4, e1, h⟩ := lt_some h
  rw [← e1]
  refine wp_istore (L2 := [some (.ref v0), some (.int v1), some (.int v2), some (.ref v3), some (.ref (v0 + (21 + 9 * ix v1))), some (.int r3), some (.int u4), none]) dX9_sendCopy_36 (by decide) rfl rfl ?_
  refine wp_aload_n (x := v0) dX9_sendCopy_38 rfl ?_
  refine wp_getR (v0 + 7) fl_X9_29 (by decide) rfl (kltC t0) t0 (ly9_3 t0).1 dX9_sendCopy_39 ?_
  obtain ⟨r5, g1, h⟩ := bnd_some h
  refine wp_cVi (d := d - 1) (o := (v0 + 7)) cv_X9_127 (kltC (ly9_3 t0).2.1) (ly9_3 t0).2.1 (as := []) (rest := []) dX9_sendCopy_42 (by omega) cloC rfl rfl (Nat.le_of_ble_eq_true rfl) (Nat.le_of_ble_eq_true rfl) (ok_Letters_isFull (by omega) (v0 + 7) ((ly9_3 t0).2.1) μ2 g1) ?_ rfl
  refine wp_if_eq 61 dX9_sendCopy_45 (by decide) (fun c1 => ?_) (fun c1 => ?_)
  · rw [if_pos c1] at h
    refine wp_aload_n (x := v3) dX9_sendCopy_61 rfl ?_
    refine wp_aload (x := (v0 + (21 + 9 * ix v1))) dX9_sendCopy_62 rfl ?_
    refine wp_getR ((v0 + (21 + 9 * ix v1)) + 1) fl_X9_89 (by decide) rfl (kltC (lyP t0 cp1).2) (lyP t0 cp1).2 (ly3_0 (lyP t0 cp1).2).1 dX9_sendCopy_64 ?_
    refine wp_iconst (nI 0) dX9_sendCopy_67 rfl ?_
    obtain ⟨c1, h⟩ := chv_some h
    refine wp_ialde (kltC (ly3_0 (lyP t0 cp1).2).2.1) (ly3_0 (lyP t0 cp1).2).2.1 (ly3_0 (lyP t0 cp1).2).2.2 c1 dX9_sendCopy_68 ?_
    refine wp_aload_n (x := v0) dX9_sendCopy_69 rfl ?_
    refine wp_getR (v0 + 1) fl_X9_11 (by decide) rfl (kltC t0) t0 (ly9_0 t0).1 dX9_sendCopy_70 ?_
    refine wp_iload (x := u4) dX9_sendCopy_73 rfl ?_
    obtain ⟨cp6, h⟩ := chv_some h
    refine wp_aald (v0 + (21 + 9 * ix u4)) (kltC (ly9_0 t0).2.1) (ly9_0 t0).2.1 (by decide) (by rw [(ly9_0 t0).2.2]; exact cp6) (lyP t0 cp6).1 dX9_sendCopy_75 ?_
    refine wp_getR ((v0 + (21 + 9 * ix u4)) + 1) fl_X9_89 (by decide) rfl (kltC (lyP t0 cp6).2) (lyP t0 cp6).2 (ly3_0 (lyP t0 cp6).2).1 dX9_sendCopy_76 ?_
    refine wp_iconst (nI 0) dX9_sendCopy_79 rfl ?_
    obtain ⟨c1, h⟩ := chv_some h
    refine wp_ialde (kltC (ly3_0 (lyP t0 cp6).2).2.1) (ly3_0 (lyP t0 cp6).2).2.1 (ly3_0 (lyP t0 cp6).2).2.2 c1 dX9_sendCopy_80 ?_
    obtain ⟨r7, g1, h⟩ := bnd_some h
    refine wp_cVi (d := d - 1) (o := v3) cv_X9_176 (kltC t3) t3 (as := [.int (μ2.1 ((v0 + (21 + 9 * ix v1)) + 1) (ix (nI 0))), .int (μ2.1 ((v0 + (21 + 9 * ix u4)) + 1) (ix (nI 0)))]) (rest := []) dX9_sendCopy_81 (by omega) cloC rfl rfl (Nat.le_of_ble_eq_true rfl) (Nat.le_of_ble_eq_true rfl) (ok_Post_daysBetween (by omega) v3 t3 (μ2.1 ((v0 + (21 + 9 * ix v1)) + 1) (ix (nI 0))) (μ2.1 ((v0 + (21 + 9 * ix u4)) + 1) (ix (nI 0))) μ2 g1) ?_ rfl
    refine wp_istore (L2 := [some (.ref v0), some (.int v1), some (.int v2), some (.ref v3), some (.ref (v0 + (21 + 9 * ix v1))), some (.int r3), some (.int u4), some (.int r7)]) dX9_sendCopy_84 (by decide) rfl rfl ?_
    refine wp_aload_n (x := v0) dX9_sendCopy_86 rfl ?_
    refine wp_getR (v0 + 7) fl_X9_29 (by decide) rfl (kltC t0) t0 (ly9_3 t0).1 dX9_sendCopy_87 ?_
    refine wp_iload (x := r3) dX9_sendCopy_90 rfl ?_
    refine wp_iload_n (x := v1) dX9_sendCopy_92 rfl ?_
    refine wp_iload (x := u4) dX9_sendCopy_93 rfl ?_
    refine wp_aload_n (x := v0) dX9_sendCopy_95 rfl ?_
    refine wp_getI fl_X9_66 (by decide) rfl (kltC t0) t0 dX9_sendCopy_96 ?_
    refine wp_iload (x := r7) dX9_sendCopy_99 rfl ?_
    refine wp_iadd dX9_sendCopy_101 ?_
    refine wp_iconst (nI 0) dX9_sendCopy_102 rfl ?_
    obtain ⟨μ8, g1, h⟩ := bnd_some h
    refine wp_cVv (d := d - 1) (o := (v0 + 7)) cv_X9_69 (kltC (ly9_3 t0).2.1) (ly9_3 t0).2.1 (as := [.int r3, .int v1, .int u4, .int ((μ2.1 v0 7) + r7), .int (nI 0)]) (rest := []) dX9_sendCopy_103 (by omega) cloC rfl rfl (Nat.le_of_ble_eq_true rfl) (Nat.le_of_ble_eq_true rfl) (ok_Letters_add (by omega) (v0 + 7) ((ly9_3 t0).2.1) r3 v1 u4 ((μ2.1 v0 7) + r7) (nI 0) μ2 g1) ?_ rfl
    exact ok_World_sendCopy_j106 hd v0 t0 v1 v2 (v0 + (21 + 9 * ix v1)) ((lyP t0 cp1).2) u4 μ8 _ _ _ h
  · rw [if_neg c1] at h
    refine wp_aload_n (x := v0) dX9_sendCopy_48 rfl ?_
    refine wp_dup dX9_sendCopy_49 rfl ?_
    refine wp_getI fl_X9_130 (by decide) rfl (kltC t0) t0 dX9_sendCopy_50 ?_
    refine wp_iconst (nI 1) dX9_sendCopy_53 rfl ?_
    refine wp_iadd dX9_sendCopy_54 ?_
    obtain ⟨μ14, e1, h⟩ := lt_some h
    refine wp_putIe e1 fl_X9_130 (by decide) rfl (kltC t0) t0 dX9_sendCopy_55 ?_
    refine wp_goto 106 dX9_sendCopy_58 (by decide) ?_
    exact ok_World_sendCopy_j106 hd v0 t0 v1 v2 (v0 + (21 + 9 * ix v1)) ((lyP t0 cp1).2) u4 μ14 _ _ _ h
theorem ok_World_writeOut_l73 {l : Launch} {d : Nat} (hd : 5 ≤ d) (v0 : Nat) (t0 : sK SC v0 = 9) (v1 : Int32)  (v2 : Nat) (t2 : sK SC v2 = 7) (v3 : Nat) (t3 : sK SC v3 = 3) (v4 : Nat) (t4 : sK SC v4 = 2) (v5 : Int32)  (v6 : Int32)  (v7 : Int32)  (v9 : Int32)  (v10 : Int32)  (μ : Mm) (z8 : Option Value) {Q : Option Value → Sh → Mm → Prop} (K : (Int32 × Mm) ⊕ Mm → Prop) (hb : ∀ (s : (Int32 × Mm)) (z8 : Option Value), K (Sum.inl s) → Wp l SC d (0, 0) mX9_writeOut 73 [some (.ref v0), some (.int v1), some (.ref v2), some (.ref v3), some (.ref v4), some (.int v5), some (.int v6), some (.int v7), z8, some (.int v9), some (.int s.1)] [] s.2 Q) (he0 : ∀ (x : Mm) (z8 : Option Value) (z9 : Option Value) (z10 : Option Value), K (Sum.inr x) → Wp l SC d (0, 0) mX9_writeOut 97 [some (.ref v0), some (.int v1), some (.ref v2), some (.ref v3), some (.ref v4), some (.int v5), some (.int v6), some (.int v7), z8, z9, z10] [] x Q) {z : (Int32 × Mm) ⊕ Mm} (h : World_writeOut_l73 v0 v1 v2 v3 v4 v5 v6 v7 v9 v10 μ = some z) (hz : K z) : Wp l SC d (0, 0) mX9_writeOut 73 [some (.ref v0), some (.int v1), some (.ref v2), some (.ref v3), some (.ref v4), some (.int v5), some (.int v6), some (.int v7), z8, some (.int v9), some (.int v10)] [] μ Q := by
  unfold World_writeOut_l73 at h
  refine wp_iload (x := v10) dX9_writeOut_73 rfl ?_
  refine wp_iload (x := v9) dX9_writeOut_75 rfl ?_
  refine wp_icmp_ge 97 dX9_writeOut_77 (by decide) (fun c1 => ?_) (fun c1 => ?_)
  · rw [if_pos c1] at h
    obtain rfl := some1 h
    exact he0 μ _ _ _ hz
  · rw [if_neg c1] at h
    refine wp_aload_n (x := v0) dX9_writeOut_80 rfl ?_
    refine wp_iload_n (x := v1) dX9_writeOut_81 rfl ?_
    refine wp_iload (x := v6) dX9_writeOut_82 rfl ?_
    refine wp_aload_n (x := v2) dX9_writeOut_84 rfl ?_
    refine wp_getR (v2 + 13) fl_X9_156 (by decide) rfl (kltC t2) t2 (ly7_2 t2).1 dX9_writeOut_85 ?_
    obtain ⟨μ5, g1, h⟩ := bnd_some h
    refine wp_cVv (d := d - 1) (o := v0) cv_X9_160 (kltC t0) t0 (as := [.int v1, .int v6, .ref (v2 + 13)]) (rest := []) dX9_writeOut_88 (by omega) cloC rfl rfl (Nat.le_of_ble_eq_true rfl) (Nat.le_of_ble_eq_true rfl) (ok_World_sendCopy (by omega) v0 t0 v1 v6 (v2 + 13) ((ly7_2 t2).2.1) μ g1) ?_ rfl
    refine wp_iinc (x := v10) (k0 := (nI 1)) (L2 := [some (.ref v0), some (.int v1), some (.ref v2), some (.ref v3), some (.ref v4), some (.int v5), some (.int v6), some (.int v7), z8, some (.int v9), some (.int (v10 + (nI 1)))]) dX9_writeOut_91 rfl rfl (by decide) rfl rfl ?_
    refine wp_goto 73 dX9_writeOut_94 (by decide) ?_
    obtain rfl := some1 h
    exact hb ((v10 + (nI 1)), μ5) _ hz
theorem okl_World_writeOut_l73 {l : Launch} {d : Nat} (hd : 5 ≤ d) (v0 : Nat) (t0 : sK SC v0 = 9) (v1 : Int32)  (v2 : Nat) (t2 : sK SC v2 = 7) (v3 : Nat) (t3 : sK SC v3 = 3) (v4 : Nat) (t4 : sK SC v4 = 2) (v5 : Int32)  (v6 : Int32)  (v7 : Int32)  (v9 : Int32)  {Q : Option Value → Sh → Mm → Prop} (K : Mm → Prop) (he0 : ∀ (x : Mm) (z8 : Option Value) (z9 : Option Value) (z10 : Option Value), K x → Wp l SC d (0, 0) mX9_writeOut 97 [some (.ref v0), some (.int v1), some (.ref v2), some (.ref v3), some (.ref v4), some (.int v5), some (.int v6), some (.int v7), z8, z9, z10] [] x Q) : ∀ (n : Nat) (s : (Int32 × Mm)) (y : Mm) (z8 : Option Value) , iter n (fun s => World_writeOut_l73 v0 v1 v2 v3 v4 v5 v6 v7 v9 s.1 s.2) s = some y → K y → Wp l SC d (0, 0) mX9_writeOut 73 [some (.ref v0), some (.int v1), some (.ref v2), some (.ref v3), some (.ref v4), some (.int v5), some (.int v6), some (.int v7), z8, some (.int v9), some (.int s.1)] [] s.2 Q := by
  intro n
  induction n with
  | zero => intro s y z8 h; cases h
  | succ n ih =>
    intro s y z8 h hK
    obtain ⟨z, hz, hn⟩ := iter_some h
    refine ok_World_writeOut_l73 hd v0 t0 v1 v2 t2 v3 t3 v4 t4 v5 v6 v7 v9 s.1 s.2 _ (fun z => nxt n (fun s => World_writeOut_l73 v0 v1 v2 v3 v4 v5 v6 v7 v9 s.1 s.2) z y) ?_ ?_ hz hn
    · intro s2 z8 h2
      exact ih s2 y _ h2 hK
    · intro x z8 z9 z10 h2
      have h3 : x = y := h2
      subst h3
      exact he0 x _ _ _ hK
theorem ok_World_writeOut_j131 {l : Launch} {d : Nat} (hd : 5 ≤ d) (v0 : Nat) (t0 : sK SC v0 = 9) (v1 : Int32)  (v2 : Nat) (t2 : sK SC v2 = 7) (v3 : Nat) (t3 : sK SC v3 = 3) (v4 : Nat) (t4 : sK SC v4 = 2) (v5 : Int32)  (v6 : Int32)  (v7 : Int32)  (μ : Mm) (z8 : Option Value) (z9 : Option Value) (z10 : Option Value) {Q : Option Value → Sh → Mm → Prop} (K : (Int32 × Int32 × Mm) ⊕ Mm → Prop) (hb : ∀ (s : (Int32 × Int32 × Mm)) (z8 : Option Value) (z9 : Option Value) (z10 : Option Value), K (Sum.inl s) → Wp l SC d (0, 0) mX9_writeOut 26 [some (.ref v0), some (.int v1), some (.ref v2), some (.ref v3), some (.ref v4), some (.int v5), some (.int s.1), some (.int s.2.1), z8, z9, z10] [] s.2.2 Q) (he0 : ∀ (x : Mm) (z0 : Option Value) (z1 : Option Value) (z2 : Option Value) (z3 : Option Value) (z4 : Option Value) (z5 : Option Value) (z6 : Option Value) (z7 : Option Value) (z8 : Option Value) (z9 : Option Value) (z10 : Option Value), K (Sum.inr x) → Wp l SC d (0, 0) mX9_writeOut 137 [z0, z1, z2, z3, z4, z5, z6, z7, z8, z9, z10] [] x Q) {z : (Int32 × Int32 × Mm) ⊕ Mm} (h : World_writeOut_j131 v0 v1 v2 v3 v4 v5 v6 v7 μ = some z) (hz : K z) : Wp l SC d (0, 0) mX9_writeOut 131 [some (.ref v0), some (.int v1), some (.ref v2), some (.ref v3), some (.ref v4), some (.int v5), some (.int v6), some (.int v7), z8, z9, z10] [] μ Q := by
  unfold World_writeOut_j131 at h
  refine wp_iinc (x := v7) (k0 := (nI 1)) (L2 := [some (.ref v0), some (.int v1), some (.ref v2), some (.ref v3), some (.ref v4), some (.int v5), some (.int v6), some (.int (v7 + (nI 1))), z8, z9, z10]) dX9_writeOut_131 rfl rfl (by decide) rfl rfl ?_
  refine wp_goto 26 dX9_writeOut_134 (by decide) ?_
  obtain rfl := some1 h
  exact hb (v6, (v7 + (nI 1)), μ) _ _ _ hz
theorem ok_World_writeOut_l26 {l : Launch} {d : Nat} (hd : 5 ≤ d) (v0 : Nat) (t0 : sK SC v0 = 9) (v1 : Int32)  (v2 : Nat) (t2 : sK SC v2 = 7) (v3 : Nat) (t3 : sK SC v3 = 3) (v4 : Nat) (t4 : sK SC v4 = 2) (v5 : Int32)  (v6 : Int32)  (v7 : Int32)  (μ : Mm) (z8 : Option Value) (z9 : Option Value) (z10 : Option Value) {Q : Option Value → Sh → Mm → Prop} (K : (Int32 × Int32 × Mm) ⊕ Mm → Prop) (hb : ∀ (s : (Int32 × Int32 × Mm)) (z8 : Option Value) (z9 : Option Value) (z10 : Option Value), K (Sum.inl s) → Wp l SC d (0, 0) mX9_writeOut 26 [some (.ref v0), some (.int v1), some (.ref v2), some (.ref v3), some (.ref v4), some (.int v5), some (.int s.1), some (.int s.2.1), z8, z9, z10] [] s.2.2 Q) (he0 : ∀ (x : Mm) (z0 : Option Value) (z1 : Option Value) (z2 : Option Value) (z3 : Option Value) (z4 : Option Value) (z5 : Option Value) (z6 : Option Value) (z7 : Option Value) (z8 : Option Value) (z9 : Option Value) (z10 : Option Value), K (Sum.inr x) → Wp l SC d (0, 0) mX9_writeOut 137 [z0, z1, z2, z3, z4, z5, z6, z7, z8, z9, z10] [] x Q) {z : (Int32 × Int32 × Mm) ⊕ Mm} (h : World_writeOut_l26 v0 v1 v2 v3 v4 v5 v6 v7 μ = some z) (hz : K z) : Wp l SC d (0, 0) mX9_writeOut 26 [some (.ref v0), some (.int v1), some (.ref v2), some (.ref v3), some (.ref v4), some (.int v5), some (.int v6), some (.int v7), z8, z9, z10] [] μ Q := by
  unfold World_writeOut_l26 at h
  refine wp_iload (x := v7) dX9_writeOut_26 rfl ?_
  refine wp_iload (x := v5) dX9_writeOut_28 rfl ?_
  refine wp_icmp_ge 137 dX9_writeOut_30 (by decide) (fun c1 => ?_) (fun c1 => ?_)
  · rw [if_pos c1] at h
    obtain rfl := some1 h
    exact he0 μ _ _ _ _ _ _ _ _ _ _ _ hz
  · rw [if_neg c1] at h
    refine wp_aload (x := v4) dX9_writeOut_33 rfl ?_
    refine wp_getR (v4 + 5) fl_X9_140 (by decide) rfl (kltC t4) t4 (ly2_4 t4).1 dX9_writeOut_35 ?_
    refine wp_iload (x := v6) dX9_writeOut_38 rfl ?_
    obtain ⟨c1, h⟩ := chv_some h
    refine wp_ialde (kltC (ly2_4 t4).2.1) (ly2_4 t4).2.1 rfl c1 dX9_writeOut_40 ?_
    refine wp_aload_n (x := v3) dX9_writeOut_41 rfl ?_
    refine wp_getR (v3 + 1) fl_X9_89 (by decide) rfl (kltC t3) t3 (ly3_0 t3).1 dX9_writeOut_42 ?_
    refine wp_iconst (nI 3) dX9_writeOut_45 rfl ?_
    obtain ⟨c1, h⟩ := chv_some h
    refine wp_ialde (kltC (ly3_0 t3).2.1) (ly3_0 t3).2.1 (ly3_0 t3).2.2 c1 dX9_writeOut_46 ?_
    refine wp_mmin mm_X9_143 (by omega) (Nat.le_of_ble_eq_true rfl) dX9_writeOut_47 ?_
    obtain ⟨u2, e1, h⟩ := lt_some h
    rw [← e1]
    refine wp_istore (L2 := [some (.ref v0), some (.int v1), some (.ref v2), some (.ref v3), some (.ref v4), some (.int v5), some (.int v6), some (.int v7), some (.int u2), z9, z10]) dX9_writeOut_50 (by decide) rfl rfl ?_
    refine wp_aload_n (x := v0) dX9_writeOut_52 rfl ?_
    refine wp_iload_n (x := v1) dX9_writeOut_53 rfl ?_
    refine wp_iload (x := v6) dX9_writeOut_54 rfl ?_
    refine wp_aload_n (x := v2) dX9_writeOut_56 rfl ?_
    refine wp_getR (v2 + 1) fl_X9_149 (by decide) rfl (kltC t2) t2 (ly7_0 t2).1 dX9_writeOut_57 ?_
    obtain ⟨r4, μ3, g1, h⟩ := bnd2_some h
    refine wp_cVi (d := d - 1) (o := v0) cv_X9_152 (kltC t0) t0 (as := [.int v1, .int v6, .ref (v2 + 1)]) (rest := []) dX9_writeOut_60 (by omega) cloC rfl rfl (Nat.le_of_ble_eq_true rfl) (Nat.le_of_ble_eq_true rfl) (ok_World_copiesToWrite (by omega) v0 t0 v1 v6 (v2 + 1) ((ly7_0 t2).2.1) μ g1) ?_ rfl
    refine wp_iload (x := u2) dX9_writeOut_63 rfl ?_
    refine wp_mmin mm_X9_143 (by omega) (Nat.le_of_ble_eq_true rfl) dX9_writeOut_65 ?_
    refine wp_istore (L2 := [some (.ref v0), some (.int v1), some (.ref v2), some (.ref v3), some (.ref v4), some (.int v5), some (.int v6), some (.int v7), some (.int u2), some (.int (jmin r4 u2)), z10]) dX9_writeOut_68 (by decide) rfl rfl ?_
    refine wp_iconst (nI 0) dX9_writeOut_70 rfl ?_
    refine wp_istore (L2 := [some (.ref v0), some (.int v1), some (.ref v2), some (.ref v3), some (.ref v4), some (.int v5), some (.int v6), some (.int v7), some (.int u2), some (.int (jmin r4 u2)), some (.int (nI 0))]) dX9_writeOut_71 (by decide) rfl rfl ?_
    obtain ⟨x73, hi, h⟩ := bni_some h
    refine okl_World_writeOut_l73 hd v0 t0 v1 v2 t2 v3 t3 v4 t4 v5 v6 v7 (jmin r4 u2) (fun z => z = x73) ?_ 1000000 ((nI 0), μ3) x73 _ hi rfl
    · intro y0 z8 z9 z10 e0
      have e0 : y0 = x73 := e0
      subst e0
      refine wp_aload (x := v4) dX9_writeOut_97 rfl ?_
      refine wp_getR (v4 + 5) fl_X9_140 (by decide) rfl (kltC t4) t4 (ly2_4 t4).1 dX9_writeOut_99 ?_
      refine wp_iload (x := v6) dX9_writeOut_102 rfl ?_
      obtain ⟨c1, h⟩ := chv_some h
      refine wp_ialde (kltC (ly2_4 t4).2.1) (ly2_4 t4).2.1 rfl c1 dX9_writeOut_104 ?_
      refine wp_if_ne 128 dX9_writeOut_105 (by decide) (fun c1 => ?_) (fun c1 => ?_)
      · rw [if_neg c1] at h
        refine wp_iinc (x := v6) (k0 := (nI 1)) (L2 := [some (.ref v0), some (.int v1), some (.ref v2), some (.ref v3), some (.ref v4), some (.int v5), some (.int (v6 + (nI 1))), some (.int v7), z8, z9, z10]) dX9_writeOut_128 rfl rfl (by decide) rfl rfl ?_
        exact ok_World_writeOut_j131 hd v0 t0 v1 v2 t2 v3 t3 v4 t4 v5 (v6 + (nI 1)) v7 y0 _ _ _ K hb he0 h hz
      · rw [if_pos c1] at h
        refine wp_aload (x := v4) dX9_writeOut_108 rfl ?_
        refine wp_iload (x := v6) dX9_writeOut_110 rfl ?_
        obtain ⟨μ6, g1, h⟩ := bnd_some h
        refine wp_cVv (d := d - 1) (o := v4) cv_X9_111 (kltC t4) t4 (as := [.int v6]) (rest := []) dX9_writeOut_112 (by omega) cloC rfl rfl (Nat.le_of_ble_eq_true rfl) (Nat.le_of_ble_eq_true rfl) (ok_Letters_remove (by omega) v4 t4 v6 y0 g1) ?_ rfl
        refine wp_aload_n (x := v0) dX9_writeOut_115 rfl ?_
        refine wp_dup dX9_writeOut_116 rfl ?_
        refine wp_getI fl_X9_164 (by decide) rfl (kltC t0) t0 dX9_writeOut_117 ?_
        refine wp_iconst (nI 1) dX9_writeOut_120 rfl ?_
        refine wp_iadd dX9_writeOut_121 ?_
        obtain ⟨μ7, e1, h⟩ := lt_some h
        refine wp_putIe e1 fl_X9_164 (by decide) rfl (kltC t0) t0 dX9_writeOut_122 ?_
        refine wp_goto 131 dX9_writeOut_125 (by decide) ?_
        exact ok_World_writeOut_j131 hd v0 t0 v1 v2 t2 v3 t3 v4 t4 v5 v6 v7 μ7 _ _ _ K hb he0 h hz
theorem okl_World_writeOut_l26 {l : Launch} {d : Nat} (hd : 5 ≤ d) (v0 : Nat) (t0 : sK SC v0 = 9) (v1 : Int32)  (v2 : Nat) (t2 : sK SC v2 = 7) (v3 : Nat) (t3 : sK SC v3 = 3) (v4 : Nat) (t4 : sK SC v4 = 2) (v5 : Int32)  {Q : Option Value → Sh → Mm → Prop} (K : Mm → Prop) (he0 : ∀ (x : Mm) (z0 : Option Value) (z1 : Option Value) (z2 : Option Value) (z3 : Option Value) (z4 : Option Value) (z5 : Option Value) (z6 : Option Value) (z7 : Option Value) (z8 : Option Value) (z9 : Option Value) (z10 : Option Value), K x → Wp l SC d (0, 0) mX9_writeOut 137 [z0, z1, z2, z3, z4, z5, z6, z7, z8, z9, z10] [] x Q) : ∀ (n : Nat) (s : (Int32 × Int32 × Mm)) (y : Mm) (z8 : Option Value) (z9 : Option Value) (z10 : Option Value) , iter n (fun s => World_writeOut_l26 v0 v1 v2 v3 v4 v5 s.1 s.2.1 s.2.2) s = some y → K y → Wp l SC d (0, 0) mX9_writeOut 26 [some (.ref v0), some (.int v1), some (.ref v2), some (.ref v3), some (.ref v4), some (.int v5), some (.int s.1), some (.int s.2.1), z8, z9, z10] [] s.2.2 Q := by
  intro n
  induction n with
  | zero => intro s y z8 z9 z10 h; cases h
  | succ n ih =>
    intro s y z8 z9 z10 h hK
    obtain ⟨z, hz, hn⟩ := iter_some h
    refine ok_World_writeOut_l26 hd v0 t0 v1 v2 t2 v3 t3 v4 t4 v5 s.1 s.2.1 s.2.2 _ _ _ (fun z => nxt n (fun s => World_writeOut_l26 v0 v1 v2 v3 v4 v5 s.1 s.2.1 s.2.2) z y) ?_ ?_ hz hn
    · intro s2 z8 z9 z10 h2
      exact ih s2 y _ _ _ h2 hK
    · intro x z0 z1 z2 z3 z4 z5 z6 z7 z8 z9 z10 h2
      have h3 : x = y := h2
      subst h3
      exact he0 x _ _ _ _ _ _ _ _ _ _ _ hK
theorem ok_World_writeOut {l : Launch} {d : Nat} (hd : 5 ≤ d) (v0 : Nat) (t0 : sK SC v0 = 9) (v1 : Int32)  (v2 : Nat) (t2 : sK SC v2 = 7) (μ : Mm) {μ' : Mm} (h : World_writeOut v0 v1 v2 μ = some μ') : Wp l SC d (0, 0) mX9_writeOut 0 [some (.ref v0), some (.int v1), some (.ref v2), none, none, none, none, none, none, none, none] [] μ (Qv SC μ') := by
  unfold World_writeOut at h
  refine wp_aload_n (x := v0) dX9_writeOut_0 rfl ?_
  refine wp_getR (v0 + 1) fl_X9_11 (by decide) rfl (kltC t0) t0 (ly9_0 t0).1 dX9_writeOut_1 ?_
  refine wp_iload_n (x := v1) dX9_writeOut_4 rfl ?_
  obtain ⟨cp1, h⟩ := chv_some h
  refine wp_aald (v0 + (21 + 9 * ix v1)) (kltC (ly9_0 t0).2.1) (ly9_0 t0).2.1 (by decide) (by rw [(ly9_0 t0).2.2]; exact cp1) (lyP t0 cp1).1 dX9_writeOut_5 ?_
  refine wp_astore_n (L2 := [some (.ref v0), some (.int v1), some (.ref v2), some (.ref (v0 + (21 + 9 * ix v1))), none, none, none, none, none, none, none]) dX9_writeOut_6 (by decide) rfl rfl ?_
  refine wp_aload_n (x := (v0 + (21 + 9 * ix v1))) dX9_writeOut_7 rfl ?_
  refine wp_getR ((v0 + (21 + 9 * ix v1)) + 3) fl_X9_56 (by decide) rfl (kltC (lyP t0 cp1).2) (lyP t0 cp1).2 (ly3_2 (lyP t0 cp1).2).1 dX9_writeOut_8 ?_
  refine wp_astore (L2 := [some (.ref v0), some (.int v1), some (.ref v2), some (.ref (v0 + (21 + 9 * ix v1))), some (.ref ((v0 + (21 + 9 * ix v1)) + 3)), none, none, none, none, none, none]) dX9_writeOut_11 (by decide) rfl rfl ?_
  refine wp_aload (x := ((v0 + (21 + 9 * ix v1)) + 3)) dX9_writeOut_13 rfl ?_
  refine wp_getI fl_X9_102 (by decide) rfl (kltC (ly3_2 (lyP t0 cp1).2).2.1) (ly3_2 (lyP t0 cp1).2).2.1 dX9_writeOut_15 ?_
  refine wp_istore (L2 := [some (.ref v0), some (.int v1), some (.ref v2), some (.ref (v0 + (21 + 9 * ix v1))), some (.ref ((v0 + (21 + 9 * ix v1)) + 3)), some (.int (μ.1 ((v0 + (21 + 9 * ix v1)) + 3) 5)), none, none, none, none, none]) dX9_writeOut_18 (by decide) rfl rfl ?_
  refine wp_iconst (nI 0) dX9_writeOut_20 rfl ?_
  refine wp_istore (L2 := [some (.ref v0), some (.int v1), some (.ref v2), some (.ref (v0 + (21 + 9 * ix v1))), some (.ref ((v0 + (21 + 9 * ix v1)) + 3)), some (.int (μ.1 ((v0 + (21 + 9 * ix v1)) + 3) 5)), some (.int (nI 0)), none, none, none, none]) dX9_writeOut_21 (by decide) rfl rfl ?_
  refine wp_iconst (nI 0) dX9_writeOut_23 rfl ?_
  refine wp_istore (L2 := [some (.ref v0), some (.int v1), some (.ref v2), some (.ref (v0 + (21 + 9 * ix v1))), some (.ref ((v0 + (21 + 9 * ix v1)) + 3)), some (.int (μ.1 ((v0 + (21 + 9 * ix v1)) + 3) 5)), some (.int (nI 0)), some (.int (nI 0)), none, none, none]) dX9_writeOut_24 (by decide) rfl rfl ?_
  obtain ⟨x26, hi, h⟩ := bni_some h
  refine okl_World_writeOut_l26 hd v0 t0 v1 v2 t2 (v0 + (21 + 9 * ix v1)) ((lyP t0 cp1).2) ((v0 + (21 + 9 * ix v1)) + 3) ((ly3_2 (lyP t0 cp1).2).2.1) (μ.1 ((v0 + (21 + 9 * ix v1)) + 3) 5) (fun z => z = x26) ?_ 1000000 ((nI 0), (nI 0), μ) x26 _ _ _ hi rfl
  · intro y0 z0 z1 z2 z3 z4 z5 z6 z7 z8 z9 z10 e0
    have e0 : y0 = x26 := e0
    subst e0
    obtain rfl := ret1 h
    exact wp_vret rfl dX9_writeOut_137 ⟨rfl, rfl, rfl⟩
theorem ok_World_illLuck {l : Launch} {d : Nat} (hd : 4 ≤ d) (v0 : Nat) (t0 : sK SC v0 = 9) (v1 : Int32)  (v2 : Int32)  (v3 : Nat) (t3 : sK SC v3 = 1) (μ : Mm) {r : Int32} {μ' : Mm} (h : World_illLuck v0 v1 v2 v3 μ = some (r, μ')) : Wp l SC d (0, 0) mX9_illLuck 0 [some (.ref v0), some (.int v1), some (.int v2), some (.ref v3), none] [] μ (Qi SC r μ') := by
  unfold World_illLuck at h
  refine wp_aload_n (x := v0) dX9_illLuck_0 rfl ?_
  refine wp_iload_n (x := v1) dX9_illLuck_1 rfl ?_
  refine wp_iload_n (x := v2) dX9_illLuck_2 rfl ?_
  obtain ⟨μ1, g1, h⟩ := bnd_some h
  refine wp_cVv (d := d - 1) (o := v0) cv_X9_214 (kltC t0) t0 (as := [.int v1, .int v2]) (rest := []) dX9_illLuck_3 (by omega) cloC rfl rfl (Nat.le_of_ble_eq_true rfl) (Nat.le_of_ble_eq_true rfl) (ok_World_nameAll (by omega) v0 t0 v1 v2 μ g1) ?_ rfl
  refine wp_aload_n (x := v0) dX9_illLuck_6 rfl ?_
  refine wp_getR (v0 + 1) fl_X9_11 (by decide) rfl (kltC t0) t0 (ly9_0 t0).1 dX9_illLuck_7 ?_
  refine wp_iload_n (x := v1) dX9_illLuck_10 rfl ?_
  obtain ⟨cp2, h⟩ := chv_some h
  refine wp_aald (v0 + (21 + 9 * ix v1)) (kltC (ly9_0 t0).2.1) (ly9_0 t0).2.1 (by decide) (by rw [(ly9_0 t0).2.2]; exact cp2) (lyP t0 cp2).1 dX9_illLuck_11 ?_
  refine wp_getR ((v0 + (21 + 9 * ix v1)) + 3) fl_X9_56 (by decide) rfl (kltC (lyP t0 cp2).2) (lyP t0 cp2).2 (ly3_2 (lyP t0 cp2).2).1 dX9_illLuck_12 ?_
  refine wp_astore (L2 := [some (.ref v0), some (.int v1), some (.int v2), some (.ref v3), some (.ref ((v0 + (21 + 9 * ix v1)) + 3))]) dX9_illLuck_15 (by decide) rfl rfl ?_
  refine wp_aload_n (x := v3) dX9_illLuck_17 rfl ?_
  refine wp_aload_n (x := v0) dX9_illLuck_18 rfl ?_
  refine wp_getR (v0 + 20) fl_X9_44 (by decide) rfl (kltC t0) t0 (ly9_12 t0).1 dX9_illLuck_19 ?_
  refine wp_aload_n (x := v0) dX9_illLuck_22 rfl ?_
  refine wp_getR (v0 + 2) fl_X9_20 (by decide) rfl (kltC t0) t0 (ly9_2 t0).1 dX9_illLuck_23 ?_
  refine wp_getR (v0 + 3) fl_X9_191 (by decide) rfl (kltC (ly9_2 t0).2.1) (ly9_2 t0).2.1 (ly8_0 (ly9_2 t0).2.1).1 dX9_illLuck_26 ?_
  refine wp_aload (x := ((v0 + (21 + 9 * ix v1)) + 3)) dX9_illLuck_29 rfl ?_
  refine wp_getR ((v0 + (21 + 9 * ix v1)) + 4) fl_X9_133 (by decide) rfl (kltC (ly3_2 (lyP t0 cp2).2).2.1) (ly3_2 (lyP t0 cp2).2).2.1 (ly2_0 (ly3_2 (lyP t0 cp2).2).2.1).1 dX9_illLuck_31 ?_
  refine wp_iload_n (x := v2) dX9_illLuck_34 rfl ?_
  obtain ⟨c1, h⟩ := chv_some h
  refine wp_ialde (kltC (ly2_0 (ly3_2 (lyP t0 cp2).2).2.1).2.1) (ly2_0 (ly3_2 (lyP t0 cp2).2).2.1).2.1 rfl c1 dX9_illLuck_35 ?_
  obtain ⟨c1, h⟩ := chv_some h
  refine wp_ialde (kltC (ly8_0 (ly9_2 t0).2.1).2.1) (ly8_0 (ly9_2 t0).2.1).2.1 (ly8_0 (ly9_2 t0).2.1).2.2 c1 dX9_illLuck_36 ?_
  refine wp_aload (x := ((v0 + (21 + 9 * ix v1)) + 3)) dX9_illLuck_37 rfl ?_
  refine wp_getR ((v0 + (21 + 9 * ix v1)) + 8) fl_X9_140 (by decide) rfl (kltC (ly3_2 (lyP t0 cp2).2).2.1) (ly3_2 (lyP t0 cp2).2).2.1 (ly2_4 (ly3_2 (lyP t0 cp2).2).2.1).1 dX9_illLuck_39 ?_
  refine wp_iload_n (x := v2) dX9_illLuck_42 rfl ?_
  obtain ⟨c1, h⟩ := chv_some h
  refine wp_ialde (kltC (ly2_4 (ly3_2 (lyP t0 cp2).2).2.1).2.1) (ly2_4 (ly3_2 (lyP t0 cp2).2).2.1).2.1 rfl c1 dX9_illLuck_43 ?_
  refine wp_imul dX9_illLuck_44 ?_
  obtain ⟨r4, μ3, g1, h⟩ := bnd2_some h
  refine wp_cVi (d := d - 1) (o := v3) cv_X9_218 (kltC t3) t3 (as := [.ref (v0 + 20), .int ((μ1.1 (v0 + 3) (ix (μ1.1 ((v0 + (21 + 9 * ix v1)) + 4) (ix v2)))) * (μ1.1 ((v0 + (21 + 9 * ix v1)) + 8) (ix v2)))]) (rest := []) dX9_illLuck_45 (by omega) cloC rfl rfl (Nat.le_of_ble_eq_true rfl) (Nat.le_of_ble_eq_true rfl) (ok_Law_valueFor (by omega) v3 t3 (v0 + 20) ((ly9_12 t0).2.1) ((μ1.1 (v0 + 3) (ix (μ1.1 ((v0 + (21 + 9 * ix v1)) + 4) (ix v2)))) * (μ1.1 ((v0 + (21 + 9 * ix v1)) + 8) (ix v2))) μ1 g1) ?_ rfl
  refine wp_sipush (nI 999) dX9_illLuck_48 rfl ?_
  obtain ⟨r5, g1, h⟩ := bnd_some h
  refine wp_cNi (d := d - 1) cs_X9_224 (as := [.int r4, .int (nI 999)]) (rest := []) dX9_illLuck_51 (by omega) cloC rfl rfl (Nat.le_of_ble_eq_true rfl) (Nat.le_of_ble_eq_true rfl) (ok_Nine_heldTo (by omega) r4 (nI 999) μ3 g1) ?_ rfl
  obtain ⟨rfl, rfl⟩ := ret2 h
  exact wp_iret rfl dX9_illLuck_54 ⟨rfl, rfl, rfl⟩
theorem ok_World_curseDue_j96 {l : Launch} {d : Nat} (hd : 5 ≤ d) (v0 : Nat) (t0 : sK SC v0 = 9) (v1 : Int32)  (v2 : Nat) (t2 : sK SC v2 = 1) (v3 : Nat) (t3 : sK SC v3 = 3) (v4 : Nat) (t4 : sK SC v4 = 2) (v5 : Int32)  (v6 : Int32)  (v7 : Int32)  (μ : Mm) {Q : Option Value → Sh → Mm → Prop} (K : (Int32 × Int32 × Mm) ⊕ Mm → Prop) (hb : ∀ (s : (Int32 × Int32 × Mm)), K (Sum.inl s) → Wp l SC d (0, 0) mX9_curseDue 26 [some (.ref v0), some (.int v1), some (.ref v2), some (.ref v3), some (.ref v4), some (.int v5), some (.int s.1), some (.int s.2.1)] [] s.2.2 Q) (he0 : ∀ (x : Mm) (z0 : Option Value) (z1 : Option Value) (z2 : Option Value) (z3 : Option Value) (z4 : Option Value) (z5 : Option Value) (z6 : Option Value) (z7 : Option Value), K (Sum.inr x) → Wp l SC d (0, 0) mX9_curseDue 102 [z0, z1, z2, z3, z4, z5, z6, z7] [] x Q) {z : (Int32 × Int32 × Mm) ⊕ Mm} (h : World_curseDue_j96 v0 v1 v2 v3 v4 v5 v6 v7 μ = some z) (hz : K z) : Wp l SC d (0, 0) mX9_curseDue 96 [some (.ref v0), some (.int v1), some (.ref v2), some (.ref v3), some (.ref v4), some (.int v5), some (.int v6), some (.int v7)] [] μ Q := by
  unfold World_curseDue_j96 at h
  refine wp_iinc (x := v7) (k0 := (nI 1)) (L2 := [some (.ref v0), some (.int v1), some (.ref v2), some (.ref v3), some (.ref v4), some (.int v5), some (.int v6), some (.int (v7 + (nI 1)))]) dX9_curseDue_96 rfl rfl (by decide) rfl rfl ?_
  refine wp_goto 26 dX9_curseDue_99 (by decide) ?_
  obtain rfl := some1 h
  exact hb (v6, (v7 + (nI 1)), μ) hz
theorem ok_World_curseDue_l26 {l : Launch} {d : Nat} (hd : 5 ≤ d) (v0 : Nat) (t0 : sK SC v0 = 9) (v1 : Int32)  (v2 : Nat) (t2 : sK SC v2 = 1) (v3 : Nat) (t3 : sK SC v3 = 3) (v4 : Nat) (t4 : sK SC v4 = 2) (v5 : Int32)  (v6 : Int32)  (v7 : Int32)  (μ : Mm) {Q : Option Value → Sh → Mm → Prop} (K : (Int32 × Int32 × Mm) ⊕ Mm → Prop) (hb : ∀ (s : (Int32 × Int32 × Mm)), K (Sum.inl s) → Wp l SC d (0, 0) mX9_curseDue 26 [some (.ref v0), some (.int v1), some (.ref v2), some (.ref v3), some (.ref v4), some (.int v5), some (.int s.1), some (.int s.2.1)] [] s.2.2 Q) (he0 : ∀ (x : Mm) (z0 : Option Value) (z1 : Option Value) (z2 : Option Value) (z3 : Option Value) (z4 : Option Value) (z5 : Option Value) (z6 : Option Value) (z7 : Option Value), K (Sum.inr x) → Wp l SC d (0, 0) mX9_curseDue 102 [z0, z1, z2, z3, z4, z5, z6, z7] [] x Q) {z : (Int32 × Int32 × Mm) ⊕ Mm} (h : World_curseDue_l26 v0 v1 v2 v3 v4 v5 v6 v7 μ = some z) (hz : K z) : Wp l SC d (0, 0) mX9_curseDue 26 [some (.ref v0), some (.int v1), some (.ref v2), some (.ref v3), some (.ref v4), some (.int v5), some (.int v6), some (.int v7)] [] μ Q := by
  unfold World_curseDue_l26 at h
  refine wp_iload (x := v7) dX9_curseDue_26 rfl ?_
  refine wp_iload (x := v5) dX9_curseDue_28 rfl ?_
  refine wp_icmp_ge 102 dX9_curseDue_30 (by decide) (fun c1 => ?_) (fun c1 => ?_)
  · rw [if_pos c1] at h
    obtain rfl := some1 h
    exact he0 μ _ _ _ _ _ _ _ _ hz
  · rw [if_neg c1] at h
    refine wp_aload (x := v4) dX9_curseDue_33 rfl ?_
    refine wp_getR (v4 + 4) fl_X9_105 (by decide) rfl (kltC t4) t4 (ly2_3 t4).1 dX9_curseDue_35 ?_
    refine wp_iload (x := v6) dX9_curseDue_38 rfl ?_
    obtain ⟨c1, h⟩ := chv_some h
    refine wp_ialde (kltC (ly2_3 t4).2.1) (ly2_3 t4).2.1 rfl c1 dX9_curseDue_40 ?_
    refine wp_aload_n (x := v0) dX9_curseDue_41 rfl ?_
    refine wp_getI fl_X9_66 (by decide) rfl (kltC t0) t0 dX9_curseDue_42 ?_
    refine wp_icmp_le 54 dX9_curseDue_45 (by decide) (fun c1 => ?_) (fun c1 => ?_)
    · rw [if_pos c1] at h
      refine wp_aload_n (x := v3) dX9_curseDue_54 rfl ?_
      refine wp_getR (v3 + 1) fl_X9_89 (by decide) rfl (kltC t3) t3 (ly3_0 t3).1 dX9_curseDue_55 ?_
      refine wp_iconst (nI 4) dX9_curseDue_58 rfl ?_
      refine wp_iconst (nI 0) dX9_curseDue_59 rfl ?_
      refine wp_aload_n (x := v3) dX9_curseDue_60 rfl ?_
      refine wp_getR (v3 + 1) fl_X9_89 (by decide) rfl (kltC t3) t3 (ly3_0 t3).1 dX9_curseDue_61 ?_
      refine wp_iconst (nI 4) dX9_curseDue_64 rfl ?_
      obtain ⟨c1, h⟩ := chv_some h
      refine wp_ialde (kltC (ly3_0 t3).2.1) (ly3_0 t3).2.1 (ly3_0 t3).2.2 c1 dX9_curseDue_65 ?_
      refine wp_aload_n (x := v0) dX9_curseDue_66 rfl ?_
      refine wp_iload_n (x := v1) dX9_curseDue_67 rfl ?_
      refine wp_iload (x := v6) dX9_curseDue_68 rfl ?_
      refine wp_aload_n (x := v2) dX9_curseDue_70 rfl ?_
      obtain ⟨r3, μ2, g1, h⟩ := bnd2_some h
      refine wp_cVi (d := d - 1) (o := v0) cv_X9_208 (kltC t0) t0 (as := [.int v1, .int v6, .ref v2]) (rest := [.int (μ.1 (v3 + 1) (ix (nI 4))), .int (nI 0), .int (nI 4), .ref (v3 + 1)]) dX9_curseDue_71 (by omega) cloC rfl rfl (Nat.le_of_ble_eq_true rfl) (Nat.le_of_ble_eq_true rfl) (ok_World_illLuck (by omega) v0 t0 v1 v6 v2 t2 μ g1) ?_ rfl
      refine wp_isub dX9_curseDue_74 ?_
      refine wp_mmax mm_X9_194 (by omega) (Nat.le_of_ble_eq_true rfl) dX9_curseDue_75 ?_
      obtain ⟨c1, h⟩ := chv_some h
      obtain ⟨μ4, e1, h⟩ := lt_some h
      refine wp_iaste e1 (kltC (ly3_0 t3).2.1) (ly3_0 t3).2.1 (ly3_0 t3).2.2 c1 dX9_curseDue_78 ?_
      refine wp_aload (x := v4) dX9_curseDue_79 rfl ?_
      refine wp_iload (x := v6) dX9_curseDue_81 rfl ?_
      obtain ⟨μ5, g1, h⟩ := bnd_some h
      refine wp_cVv (d := d - 1) (o := v4) cv_X9_111 (kltC t4) t4 (as := [.int v6]) (rest := []) dX9_curseDue_83 (by omega) cloC rfl rfl (Nat.le_of_ble_eq_true rfl) (Nat.le_of_ble_eq_true rfl) (ok_Letters_remove (by omega) v4 t4 v6 μ4 g1) ?_ rfl
      refine wp_aload_n (x := v0) dX9_curseDue_86 rfl ?_
      refine wp_dup dX9_curseDue_87 rfl ?_
      refine wp_getI fl_X9_211 (by decide) rfl (kltC t0) t0 dX9_curseDue_88 ?_
      refine wp_iconst (nI 1) dX9_curseDue_91 rfl ?_
      refine wp_iadd dX9_curseDue_92 ?_
      obtain ⟨μ6, e1, h⟩ := lt_some h
      refine wp_putIe e1 fl_X9_211 (by decide) rfl (kltC t0) t0 dX9_curseDue_93 ?_
      exact ok_World_curseDue_j96 hd v0 t0 v1 v2 t2 v3 t3 v4 t4 v5 v6 v7 μ6 K hb he0 h hz
    · rw [if_neg c1] at h
      refine wp_iinc (x := v6) (k0 := (nI 1)) (L2 := [some (.ref v0), some (.int v1), some (.ref v2), some (.ref v3), some (.ref v4), some (.int v5), some (.int (v6 + (nI 1))), some (.int v7)]) dX9_curseDue_48 rfl rfl (by decide) rfl rfl ?_
      refine wp_goto 96 dX9_curseDue_51 (by decide) ?_
      exact ok_World_curseDue_j96 hd v0 t0 v1 v2 t2 v3 t3 v4 t4 v5 (v6 + (nI 1)) v7 μ K hb he0 h hz
theorem okl_World_curseDue_l26 {l : Launch} {d : Nat} (hd : 5 ≤ d) (v0 : Nat) (t0 : sK SC v0 = 9) (v1 : Int32)  (v2 : Nat) (t2 : sK SC v2 = 1) (v3 : Nat) (t3 : sK SC v3 = 3) (v4 : Nat) (t4 : sK SC v4 = 2) (v5 : Int32)  {Q : Option Value → Sh → Mm → Prop} (K : Mm → Prop) (he0 : ∀ (x : Mm) (z0 : Option Value) (z1 : Option Value) (z2 : Option Value) (z3 : Option Value) (z4 : Option Value) (z5 : Option Value) (z6 : Option Value) (z7 : Option Value), K x → Wp l SC d (0, 0) mX9_curseDue 102 [z0, z1, z2, z3, z4, z5, z6, z7] [] x Q) : ∀ (n : Nat) (s : (Int32 × Int32 × Mm)) (y : Mm) , iter n (fun s => World_curseDue_l26 v0 v1 v2 v3 v4 v5 s.1 s.2.1 s.2.2) s = some y → K y → Wp l SC d (0, 0) mX9_curseDue 26 [some (.ref v0), some (.int v1), some (.ref v2), some (.ref v3), some (.ref v4), some (.int v5), some (.int s.1), some (.int s.2.1)] [] s.2.2 Q := by
  intro n
  induction n with
  | zero => intro s y  h; cases h
  | succ n ih =>
    intro s y  h hK
    obtain ⟨z, hz, hn⟩ := iter_some h
    refine ok_World_curseDue_l26 hd v0 t0 v1 v2 t2 v3 t3 v4 t4 v5 s.1 s.2.1 s.2.2 (fun z => nxt n (fun s => World_curseDue_l26 v0 v1 v2 v3 v4 v5 s.1 s.2.1 s.2.2) z y) ?_ ?_ hz hn
    · intro s2  h2
      exact ih s2 y h2 hK
    · intro x z0 z1 z2 z3 z4 z5 z6 z7 h2
      have h3 : x = y := h2
      subst h3
      exact he0 x _ _ _ _ _ _ _ _ hK
theorem ok_World_curseDue {l : Launch} {d : Nat} (hd : 5 ≤ d) (v0 : Nat) (t0 : sK SC v0 = 9) (v1 : Int32)  (v2 : Nat) (t2 : sK SC v2 = 1) (μ : Mm) {μ' : Mm} (h : World_curseDue v0 v1 v2 μ = some μ') : Wp l SC d (0, 0) mX9_curseDue 0 [some (.ref v0), some (.int v1), some (.ref v2), none, none, none, none, none] [] μ (Qv SC μ') := by
  unfold World_curseDue at h
  refine wp_aload_n (x := v0) dX9_curseDue_0 rfl ?_
  refine wp_getR (v0 + 1) fl_X9_11 (by decide) rfl (kltC t0) t0 (ly9_0 t0).1 dX9_curseDue_1 ?_
  refine wp_iload_n (x := v1) dX9_curseDue_4 rfl ?_
  obtain ⟨cp1, h⟩ := chv_some h
  refine wp_aald (v0 + (21 + 9 * ix v1)) (kltC (ly9_0 t0).2.1) (ly9_0 t0).2.1 (by decide) (by rw [(ly9_0 t0).2.2]; exact cp1) (lyP t0 cp1).1 dX9_curseDue_5 ?_
  refine wp_astore_n (L2 := [some (.ref v0), some (.int v1), some (.ref v2), some (.ref (v0 + (21 + 9 * ix v1))), none, none, none, none]) dX9_curseDue_6 (by decide) rfl rfl ?_
  refine wp_aload_n (x := (v0 + (21 + 9 * ix v1))) dX9_curseDue_7 rfl ?_
  refine wp_getR ((v0 + (21 + 9 * ix v1)) + 3) fl_X9_56 (by decide) rfl (kltC (lyP t0 cp1).2) (lyP t0 cp1).2 (ly3_2 (lyP t0 cp1).2).1 dX9_curseDue_8 ?_
  refine wp_astore (L2 := [some (.ref v0), some (.int v1), some (.ref v2), some (.ref (v0 + (21 + 9 * ix v1))), some (.ref ((v0 + (21 + 9 * ix v1)) + 3)), none, none, none]) dX9_curseDue_11 (by decide) rfl rfl ?_
  refine wp_aload (x := ((v0 + (21 + 9 * ix v1)) + 3)) dX9_curseDue_13 rfl ?_
  refine wp_getI fl_X9_102 (by decide) rfl (kltC (ly3_2 (lyP t0 cp1).2).2.1) (ly3_2 (lyP t0 cp1).2).2.1 dX9_curseDue_15 ?_
  refine wp_istore (L2 := [some (.ref v0), some (.int v1), some (.ref v2), some (.ref (v0 + (21 + 9 * ix v1))), some (.ref ((v0 + (21 + 9 * ix v1)) + 3)), some (.int (μ.1 ((v0 + (21 + 9 * ix v1)) + 3) 5)), none, none]) dX9_curseDue_18 (by decide) rfl rfl ?_
  refine wp_iconst (nI 0) dX9_curseDue_20 rfl ?_
  refine wp_istore (L2 := [some (.ref v0), some (.int v1), some (.ref v2), some (.ref (v0 + (21 + 9 * ix v1))), some (.ref ((v0 + (21 + 9 * ix v1)) + 3)), some (.int (μ.1 ((v0 + (21 + 9 * ix v1)) + 3) 5)), some (.int (nI 0)), none]) dX9_curseDue_21 (by decide) rfl rfl ?_
  refine wp_iconst (nI 0) dX9_curseDue_23 rfl ?_
  refine wp_istore (L2 := [some (.ref v0), some (.int v1), some (.ref v2), some (.ref (v0 + (21 + 9 * ix v1))), some (.ref ((v0 + (21 + 9 * ix v1)) + 3)), some (.int (μ.1 ((v0 + (21 + 9 * ix v1)) + 3) 5)), some (.int (nI 0)), some (.int (nI 0))]) dX9_curseDue_24 (by decide) rfl rfl ?_
  obtain ⟨x26, hi, h⟩ := bni_some h
  refine okl_World_curseDue_l26 hd v0 t0 v1 v2 t2 (v0 + (21 + 9 * ix v1)) ((lyP t0 cp1).2) ((v0 + (21 + 9 * ix v1)) + 3) ((ly3_2 (lyP t0 cp1).2).2.1) (μ.1 ((v0 + (21 + 9 * ix v1)) + 3) 5) (fun z => z = x26) ?_ 1000000 ((nI 0), (nI 0), μ) x26 hi rfl
  · intro y0 z0 z1 z2 z3 z4 z5 z6 z7 e0
    have e0 : y0 = x26 := e0
    subst e0
    obtain rfl := ret1 h
    exact wp_vret rfl dX9_curseDue_102 ⟨rfl, rfl, rfl⟩
