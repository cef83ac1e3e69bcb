theorem ok_World_passDay_j46 {l : Launch} {d : Nat} (hd : 6 ≤ d) (v0 : Nat) (t0 : sK SC v0 = 9) (v1 : Nat) (t1 : sK SC v1 = 7) (v2 : Int32)  (v3 : Int32)  (μ : Mm) {Q : Option Value → Sh → Mm → Prop} (K : (Int32 × Mm) ⊕ Mm → Prop) (hb : ∀ (s : (Int32 × Mm)), K (Sum.inl s) → Wp l SC d (0, 0) mX9_passDay 20 [some (.ref v0), some (.ref v1), some (.int v2), some (.int s.1)] [] s.2 Q) (he0 : ∀ (x : Mm) (z3 : Option Value), K (Sum.inr x) → Wp l SC d (0, 0) mX9_passDay 52 [some (.ref v0), some (.ref v1), some (.int v2), z3] [] x Q) {z : (Int32 × Mm) ⊕ Mm} (h : World_passDay_j46 v0 v1 v2 v3 μ = some z) (hz : K z) : Wp l SC d (0, 0) mX9_passDay 46 [some (.ref v0), some (.ref v1), some (.int v2), some (.int v3)] [] μ Q := by
  unfold World_passDay_j46 at h
  refine wp_iinc (x := v3) (k0 := (nI 1)) (L2 := [some (.ref v0), some (.ref v1), some (.int v2), some (.int (v3 + (nI 1)))]) dX9_passDay_46 rfl rfl (by decide) rfl rfl ?_
  refine wp_goto 20 dX9_passDay_49 (by decide) ?_
  obtain rfl := some1 h
  exact hb ((v3 + (nI 1)), μ) hz
theorem ok_World_passDay_l20 {l : Launch} {d : Nat} (hd : 6 ≤ d) (v0 : Nat) (t0 : sK SC v0 = 9) (v1 : Nat) (t1 : sK SC v1 = 7) (v2 : Int32)  (v3 : Int32)  (μ : Mm) {Q : Option Value → Sh → Mm → Prop} (K : (Int32 × Mm) ⊕ Mm → Prop) (hb : ∀ (s : (Int32 × Mm)), K (Sum.inl s) → Wp l SC d (0, 0) mX9_passDay 20 [some (.ref v0), some (.ref v1), some (.int v2), some (.int s.1)] [] s.2 Q) (he0 : ∀ (x : Mm) (z3 : Option Value), K (Sum.inr x) → Wp l SC d (0, 0) mX9_passDay 52 [some (.ref v0), some (.ref v1), some (.int v2), z3] [] x Q) {z : (Int32 × Mm) ⊕ Mm} (h : World_passDay_l20 v0 v1 v2 v3 μ = some z) (hz : K z) : Wp l SC d (0, 0) mX9_passDay 20 [some (.ref v0), some (.ref v1), some (.int v2), some (.int v3)] [] μ Q := by
  unfold World_passDay_l20 at h
  refine wp_iload_n (x := v3) dX9_passDay_20 rfl ?_
  refine wp_aload_n (x := v0) dX9_passDay_21 rfl ?_
  refine wp_getI fl_X9_48 (by decide) rfl (kltC t0) t0 dX9_passDay_22 ?_
  refine wp_icmp_ge 52 dX9_passDay_25 (by decide) (fun c1 => ?_) (fun c1 => ?_)
  · rw [if_pos c1] at h
    obtain rfl := some1 h
    exact he0 μ _ hz
  · rw [if_neg c1] at h
    refine wp_aload_n (x := v0) dX9_passDay_28 rfl ?_
    refine wp_getR (v0 + 1) fl_X9_11 (by decide) rfl (kltC t0) t0 (ly9_0 t0).1 dX9_passDay_29 ?_
    refine wp_iload_n (x := v3) dX9_passDay_32 rfl ?_
    obtain ⟨cp1, h⟩ := chv_some h
    refine wp_aald (v0 + (21 + 9 * ix v3)) (kltC (ly9_0 t0).2.1) (ly9_0 t0).2.1 (by decide) (by rw [(ly9_0 t0).2.2]; exact cp1) (lyP t0 cp1).1 dX9_passDay_33 ?_
    obtain ⟨r2, g1, h⟩ := bnd_some h
    refine wp_cVi (d := d - 1) (o := (v0 + (21 + 9 * ix v3))) cv_X9_81 (kltC (lyP t0 cp1).2) (lyP t0 cp1).2 (as := []) (rest := []) dX9_passDay_34 (by omega) cloC rfl rfl (Nat.le_of_ble_eq_true rfl) (Nat.le_of_ble_eq_true rfl) (ok_Person_isWriting (by omega) (v0 + (21 + 9 * ix v3)) ((lyP t0 cp1).2) μ g1) ?_ rfl
    refine wp_if_eq 46 dX9_passDay_37 (by decide) (fun c1 => ?_) (fun c1 => ?_)
    · rw [if_pos c1] at h
      exact ok_World_passDay_j46 hd v0 t0 v1 t1 v2 v3 μ K hb he0 h hz
    · rw [if_neg c1] at h
      refine wp_aload_n (x := v0) dX9_passDay_40 rfl ?_
      refine wp_iload_n (x := v3) dX9_passDay_41 rfl ?_
      refine wp_aload_n (x := v1) dX9_passDay_42 rfl ?_
      obtain ⟨μ3, g1, h⟩ := bnd_some h
      refine wp_cVv (d := d - 1) (o := v0) cv_X9_85 (kltC t0) t0 (as := [.int v3, .ref v1]) (rest := []) dX9_passDay_43 (by omega) cloC rfl rfl (Nat.le_of_ble_eq_true rfl) (Nat.le_of_ble_eq_true rfl) (ok_World_writeOut (by omega) v0 t0 v3 v1 t1 μ g1) ?_ rfl
      exact ok_World_passDay_j46 hd v0 t0 v1 t1 v2 v3 μ3 K hb he0 h hz
theorem okl_World_passDay_l20 {l : Launch} {d : Nat} (hd : 6 ≤ d) (v0 : Nat) (t0 : sK SC v0 = 9) (v1 : Nat) (t1 : sK SC v1 = 7) (v2 : Int32)  {Q : Option Value → Sh → Mm → Prop} (K : Mm → Prop) (he0 : ∀ (x : Mm) (z3 : Option Value), K x → Wp l SC d (0, 0) mX9_passDay 52 [some (.ref v0), some (.ref v1), some (.int v2), z3] [] x Q) : ∀ (n : Nat) (s : (Int32 × Mm)) (y : Mm) , iter n (fun s => World_passDay_l20 v0 v1 v2 s.1 s.2) s = some y → K y → Wp l SC d (0, 0) mX9_passDay 20 [some (.ref v0), some (.ref v1), some (.int v2), some (.int s.1)] [] s.2 Q := by
  intro n
  induction n with
  | zero => intro s y  h; cases h
  | succ n ih =>
    intro s y  h hK
    obtain ⟨z, hz, hn⟩ := iter_some h
    refine ok_World_passDay_l20 hd v0 t0 v1 t1 v2 s.1 s.2 (fun z => nxt n (fun s => World_passDay_l20 v0 v1 v2 s.1 s.2) z y) ?_ ?_ hz hn
    · intro s2  h2
      exact ih s2 y h2 hK
    · intro x z3 h2
      have h3 : x = y := h2
      subst h3
      exact he0 x _ hK
theorem ok_World_passDay_j86 {l : Launch} {d : Nat} (hd : 6 ≤ d) (v0 : Nat) (t0 : sK SC v0 = 9) (v1 : Nat) (t1 : sK SC v1 = 7) (v2 : Int32)  (v3 : Int32)  (μ : Mm) {Q : Option Value → Sh → Mm → Prop} (K : (Int32 × Mm) ⊕ Mm → Prop) (hb : ∀ (s : (Int32 × Mm)), K (Sum.inl s) → Wp l SC d (0, 0) mX9_passDay 54 [some (.ref v0), some (.ref v1), some (.int v2), some (.int s.1)] [] s.2 Q) (he0 : ∀ (x : Mm) (z1 : Option Value) (z3 : Option Value), K (Sum.inr x) → Wp l SC d (0, 0) mX9_passDay 92 [some (.ref v0), z1, some (.int v2), z3] [] x Q) {z : (Int32 × Mm) ⊕ Mm} (h : World_passDay_j86 v0 v1 v2 v3 μ = some z) (hz : K z) : Wp l SC d (0, 0) mX9_passDay 86 [some (.ref v0), some (.ref v1), some (.int v2), some (.int v3)] [] μ Q := by
  unfold World_passDay_j86 at h
  refine wp_iinc (x := v3) (k0 := (nI 1)) (L2 := [some (.ref v0), some (.ref v1), some (.int v2), some (.int (v3 + (nI 1)))]) dX9_passDay_86 rfl rfl (by decide) rfl rfl ?_
  refine wp_goto 54 dX9_passDay_89 (by decide) ?_
  obtain rfl := some1 h
  exact hb ((v3 + (nI 1)), μ) hz
theorem ok_World_passDay_l54 {l : Launch} {d : Nat} (hd : 6 ≤ d) (v0 : Nat) (t0 : sK SC v0 = 9) (v1 : Nat) (t1 : sK SC v1 = 7) (v2 : Int32)  (v3 : Int32)  (μ : Mm) {Q : Option Value → Sh → Mm → Prop} (K : (Int32 × Mm) ⊕ Mm → Prop) (hb : ∀ (s : (Int32 × Mm)), K (Sum.inl s) → Wp l SC d (0, 0) mX9_passDay 54 [some (.ref v0), some (.ref v1), some (.int v2), some (.int s.1)] [] s.2 Q) (he0 : ∀ (x : Mm) (z1 : Option Value) (z3 : Option Value), K (Sum.inr x) → Wp l SC d (0, 0) mX9_passDay 92 [some (.ref v0), z1, some (.int v2), z3] [] x Q) {z : (Int32 × Mm) ⊕ Mm} (h : World_passDay_l54 v0 v1 v2 v3 μ = some z) (hz : K z) : Wp l SC d (0, 0) mX9_passDay 54 [some (.ref v0), some (.ref v1), some (.int v2), some (.int v3)] [] μ Q := by
  unfold World_passDay_l54 at h
  refine wp_iload_n (x := v3) dX9_passDay_54 rfl ?_
  refine wp_aload_n (x := v0) dX9_passDay_55 rfl ?_
  refine wp_getI fl_X9_48 (by decide) rfl (kltC t0) t0 dX9_passDay_56 ?_
  refine wp_icmp_ge 92 dX9_passDay_59 (by decide) (fun c1 => ?_) (fun c1 => ?_)
  · rw [if_pos c1] at h
    obtain rfl := some1 h
    exact he0 μ _ _ hz
  · rw [if_neg c1] at h
    refine wp_aload_n (x := v0) dX9_passDay_62 rfl ?_
    refine wp_getR (v0 + 1) fl_X9_11 (by decide) rfl (kltC t0) t0 (ly9_0 t0).1 dX9_passDay_63 ?_
    refine wp_iload_n (x := v3) dX9_passDay_66 rfl ?_
    obtain ⟨cp4, h⟩ := chv_some h
    refine wp_aald (v0 + (21 + 9 * ix v3)) (kltC (ly9_0 t0).2.1) (ly9_0 t0).2.1 (by decide) (by rw [(ly9_0 t0).2.2]; exact cp4) (lyP t0 cp4).1 dX9_passDay_67 ?_
    refine wp_getR ((v0 + (21 + 9 * ix v3)) + 1) fl_X9_89 (by decide) rfl (kltC (lyP t0 cp4).2) (lyP t0 cp4).2 (ly3_0 (lyP t0 cp4).2).1 dX9_passDay_68 ?_
    refine wp_iconst (nI 1) dX9_passDay_71 rfl ?_
    obtain ⟨c1, h⟩ := chv_some h
    refine wp_ialde (kltC (ly3_0 (lyP t0 cp4).2).2.1) (ly3_0 (lyP t0 cp4).2).2.1 (ly3_0 (lyP t0 cp4).2).2.2 c1 dX9_passDay_72 ?_
    refine wp_iconst (nI 2) dX9_passDay_73 rfl ?_
    refine wp_icmp_eq 86 dX9_passDay_74 (by decide) (fun c1 => ?_) (fun c1 => ?_)
    · rw [if_pos c1] at h
      exact ok_World_passDay_j86 hd v0 t0 v1 t1 v2 v3 μ K hb he0 h hz
    · rw [if_neg c1] at h
      refine wp_aload_n (x := v0) dX9_passDay_77 rfl ?_
      refine wp_iload_n (x := v3) dX9_passDay_78 rfl ?_
      refine wp_aload_n (x := v1) dX9_passDay_79 rfl ?_
      refine wp_getR (v1 + 7) fl_X9_92 (by decide) rfl (kltC t1) t1 (ly7_1 t1).1 dX9_passDay_80 ?_
      obtain ⟨μ5, g1, h⟩ := bnd_some h
      refine wp_cVv (d := d - 1) (o := v0) cv_X9_98 (kltC t0) t0 (as := [.int v3, .ref (v1 + 7)]) (rest := []) dX9_passDay_83 (by omega) cloC rfl rfl (Nat.le_of_ble_eq_true rfl) (Nat.le_of_ble_eq_true rfl) (ok_World_curseDue (by omega) v0 t0 v3 (v1 + 7) ((ly7_1 t1).2.1) μ g1) ?_ rfl
      exact ok_World_passDay_j86 hd v0 t0 v1 t1 v2 v3 μ5 K hb he0 h hz
theorem okl_World_passDay_l54 {l : Launch} {d : Nat} (hd : 6 ≤ d) (v0 : Nat) (t0 : sK SC v0 = 9) (v1 : Nat) (t1 : sK SC v1 = 7) (v2 : Int32)  {Q : Option Value → Sh → Mm → Prop} (K : Mm → Prop) (he0 : ∀ (x : Mm) (z1 : Option Value) (z3 : Option Value), K x → Wp l SC d (0, 0) mX9_passDay 92 [some (.ref v0), z1, some (.int v2), z3] [] x Q) : ∀ (n : Nat) (s : (Int32 × Mm)) (y : Mm) , iter n (fun s => World_passDay_l54 v0 v1 v2 s.1 s.2) s = some y → K y → Wp l SC d (0, 0) mX9_passDay 54 [some (.ref v0), some (.ref v1), some (.int v2), some (.int s.1)] [] s.2 Q := by
  intro n
  induction n with
  | zero => intro s y  h; cases h
  | succ n ih =>
    intro s y  h hK
    obtain ⟨z, hz, hn⟩ := iter_some h
    refine ok_World_passDay_l54 hd v0 t0 v1 t1 v2 s.1 s.2 (fun z => nxt n (fun s => World_passDay_l54 v0 v1 v2 s.1 s.2) z y) ?_ ?_ hz hn
    · intro s2  h2
      exact ih s2 y h2 hK
    · intro x z1 z3 h2
      have h3 : x = y := h2
      subst h3
      exact he0 x _ _ hK
theorem ok_World_passDay_j17 {l : Launch} {d : Nat} (hd : 6 ≤ d) (v0 : Nat) (t0 : sK SC v0 = 9) (v1 : Nat) (t1 : sK SC v1 = 7) (s0 : Int32) (μ : Mm) (z2 : Option Value) (z3 : Option Value) {r : Int32} {μ' : Mm} (h : World_passDay_j17 v0 v1 s0 μ = some (r, μ')) : Wp l SC d (0, 0) mX9_passDay 17 [some (.ref v0), some (.ref v1), z2, z3] [.int s0] μ (Qi SC r μ') := by
  unfold World_passDay_j17 at h
  refine wp_istore_n (L2 := [some (.ref v0), some (.ref v1), some (.int s0), z3]) dX9_passDay_17 (by decide) rfl rfl ?_
  refine wp_iconst (nI 0) dX9_passDay_18 rfl ?_
  refine wp_istore_n (L2 := [some (.ref v0), some (.ref v1), some (.int s0), some (.int (nI 0))]) dX9_passDay_19 (by decide) rfl rfl ?_
  obtain ⟨x20, hi, h⟩ := bni_some h
  refine okl_World_passDay_l20 hd v0 t0 v1 t1 s0 (fun z => z = x20) ?_ 1000000 ((nI 0), μ) x20 hi rfl
  · intro y0 z3 e0
    have e0 : y0 = x20 := e0
    subst e0
    refine wp_iconst (nI 0) dX9_passDay_52 rfl ?_
    refine wp_istore_n (L2 := [some (.ref v0), some (.ref v1), some (.int s0), some (.int (nI 0))]) dX9_passDay_53 (by decide) rfl rfl ?_
    obtain ⟨x54, hi, h⟩ := bni_some h
    refine okl_World_passDay_l54 hd v0 t0 v1 t1 s0 (fun z => z = x54) ?_ 1000000 ((nI 0), y0) x54 hi rfl
    · intro y0 z1 z3 e0
      have e0 : y0 = x54 := e0
      subst e0
      refine wp_aload_n (x := v0) dX9_passDay_92 rfl ?_
      refine wp_dup dX9_passDay_93 rfl ?_
      refine wp_getI fl_X9_66 (by decide) rfl (kltC t0) t0 dX9_passDay_94 ?_
      refine wp_iconst (nI 1) dX9_passDay_97 rfl ?_
      refine wp_iadd dX9_passDay_98 ?_
      obtain ⟨μ6, e1, h⟩ := lt_some h
      refine wp_putIe e1 fl_X9_66 (by decide) rfl (kltC t0) t0 dX9_passDay_99 ?_
      refine wp_iload_n (x := s0) dX9_passDay_102 rfl ?_
      obtain ⟨rfl, rfl⟩ := ret2 h
      exact wp_iret rfl dX9_passDay_103 ⟨rfl, rfl, rfl⟩
theorem ok_World_passDay {l : Launch} {d : Nat} (hd : 6 ≤ d) (v0 : Nat) (t0 : sK SC v0 = 9) (v1 : Nat) (t1 : sK SC v1 = 7) (μ : Mm) {r : Int32} {μ' : Mm} (h : World_passDay v0 v1 μ = some (r, μ')) : Wp l SC d (0, 0) mX9_passDay 0 [some (.ref v0), some (.ref v1), none, none] [] μ (Qi SC r μ') := by
  unfold World_passDay at h
  refine wp_aload_n (x := v0) dX9_passDay_0 rfl ?_
  refine wp_getR (v0 + 19) fl_X9_40 (by decide) rfl (kltC t0) t0 (ly9_5 t0).1 dX9_passDay_1 ?_
  refine wp_iconst (nI 3) dX9_passDay_4 rfl ?_
  obtain ⟨c1, h⟩ := chv_some h
  refine wp_ialde (kltC (ly9_5 t0).2.1) (ly9_5 t0).2.1 (ly9_5 t0).2.2 c1 dX9_passDay_5 ?_
  refine wp_if_ne 16 dX9_passDay_6 (by decide) (fun c1 => ?_) (fun c1 => ?_)
  · rw [if_neg c1] at h
    refine wp_iconst (nI 0) dX9_passDay_16 rfl ?_
    exact ok_World_passDay_j17 hd v0 t0 v1 t1 (nI 0) μ _ _ h
  · rw [if_pos c1] at h
    refine wp_aload_n (x := v0) dX9_passDay_9 rfl ?_
    obtain ⟨r8, μ7, g1, h⟩ := bnd2_some h
    refine wp_cVi (d := d - 1) (o := v0) cv_X9_77 (kltC t0) t0 (as := []) (rest := []) dX9_passDay_10 (by omega) cloC rfl rfl (Nat.le_of_ble_eq_true rfl) (Nat.le_of_ble_eq_true rfl) (ok_World_bringPost (by omega) v0 t0 μ g1) ?_ rfl
    refine wp_goto 17 dX9_passDay_13 (by decide) ?_
    exact ok_World_passDay_j17 hd v0 t0 v1 t1 r8 μ7 _ _ h
theorem ok_World_leastStamps_j129 {l : Launch} {d : Nat} (hd : 2 ≤ d) (v0 : Nat) (t0 : sK SC v0 = 9) (v3 : Nat) (t3 : sK SC v3 = 5) (v4 : Nat) (t4 : sK SC v4 = 3) (v5 : Int32)  (v6 : Int32)  (v7 : Int32)  (v8 : Int32)  (v9 : Int32)  (μ : Mm) (z1 : Option Value) (z2 : Option Value) (z10 : Option Value) {Q : Option Value → Sh → Mm → Prop} (K : (Int32 × Int32 × Int32) ⊕ (Int32 × Int32) → Prop) (hb : ∀ (s : (Int32 × Int32 × Int32)) (z1 : Option Value) (z2 : Option Value) (z10 : Option Value), K (Sum.inl s) → Wp l SC d (0, 0) mX9_leastStamps 55 [some (.ref v0), z1, z2, some (.ref v3), some (.ref v4), some (.int v5), some (.int s.1), some (.int s.2.1), some (.int v8), some (.int s.2.2), z10] [] μ Q) (he0 : ∀ (x : (Int32 × Int32)) (z1 : Option Value) (z2 : Option Value) (z9 : Option Value) (z10 : Option Value), K (Sum.inr x) → Wp l SC d (0, 0) mX9_leastStamps 135 [some (.ref v0), z1, z2, some (.ref v3), some (.ref v4), some (.int v5), some (.int x.1), some (.int x.2), some (.int v8), z9, z10] [] μ Q) {z : (Int32 × Int32 × Int32) ⊕ (Int32 × Int32)} (h : World_leastStamps_j129 v0 v3 v4 v5 v6 v7 v8 v9 μ = some z) (hz : K z) : Wp l SC d (0, 0) mX9_leastStamps 129 [some (.ref v0), z1, z2, some (.ref v3), some (.ref v4), some (.int v5), some (.int v6), some (.int v7), some (.int v8), some (.int v9), z10] [] μ Q := by
  unfold World_leastStamps_j129 at h
  refine wp_iinc (x := v9) (k0 := (nI 1)) (L2 := [some (.ref v0), z1, z2, some (.ref v3), some (.ref v4), some (.int v5), some (.int v6), some (.int v7), some (.int v8), some (.int (v9 + (nI 1))), z10]) dX9_leastStamps_129 rfl rfl (by decide) rfl rfl ?_
  refine wp_goto 55 dX9_leastStamps_132 (by decide) ?_
  obtain rfl := some1 h
  exact hb (v6, v7, (v9 + (nI 1))) _ _ _ hz
theorem ok_World_leastStamps_j97 {l : Launch} {d : Nat} (hd : 2 ≤ d) (v0 : Nat) (t0 : sK SC v0 = 9) (v3 : Nat) (t3 : sK SC v3 = 5) (v4 : Nat) (t4 : sK SC v4 = 3) (v5 : Int32)  (v6 : Int32)  (v7 : Int32)  (v8 : Int32)  (v9 : Int32)  (s0 : Int32) (μ : Mm) (z1 : Option Value) (z2 : Option Value) (z10 : Option Value) {Q : Option Value → Sh → Mm → Prop} (K : (Int32 × Int32 × Int32) ⊕ (Int32 × Int32) → Prop) (hb : ∀ (s : (Int32 × Int32 × Int32)) (z1 : Option Value) (z2 : Option Value) (z10 : Option Value), K (Sum.inl s) → Wp l SC d (0, 0) mX9_leastStamps 55 [some (.ref v0), z1, z2, some (.ref v3), some (.ref v4), some (.int v5), some (.int s.1), some (.int s.2.1), some (.int v8), some (.int s.2.2), z10] [] μ Q) (he0 : ∀ (x : (Int32 × Int32)) (z1 : Option Value) (z2 : Option Value) (z9 : Option Value) (z10 : Option Value), K (Sum.inr x) → Wp l SC d (0, 0) mX9_leastStamps 135 [some (.ref v0), z1, z2, some (.ref v3), some (.ref v4), some (.int v5), some (.int x.1), some (.int x.2), some (.int v8), z9, z10] [] μ Q) {z : (Int32 × Int32 × Int32) ⊕ (Int32 × Int32)} (h : World_leastStamps_j97 v0 v3 v4 v5 v6 v7 v8 v9 s0 μ = some z) (hz : K z) : Wp l SC d (0, 0) mX9_leastStamps 97 [some (.ref v0), z1, z2, some (.ref v3), some (.ref v4), some (.int v5), some (.int v6), some (.int v7), some (.int v8), some (.int v9), z10] [.int s0] μ Q := by
  unfold World_leastStamps_j97 at h
  refine wp_istore (L2 := [some (.ref v0), z1, z2, some (.ref v3), some (.ref v4), some (.int v5), some (.int v6), some (.int v7), some (.int v8), some (.int v9), some (.int s0)]) dX9_leastStamps_97 (by decide) rfl rfl ?_
  refine wp_iload (x := v6) dX9_leastStamps_99 rfl ?_
  refine wp_if_le 129 dX9_leastStamps_101 (by decide) (fun c1 => ?_) (fun c1 => ?_)
  · rw [if_pos c1] at h
    exact ok_World_leastStamps_j129 hd v0 t0 v3 t3 v4 t4 v5 v6 v7 v8 v9 μ _ _ _ K hb he0 h hz
  · rw [if_neg c1] at h
    refine wp_iload (x := s0) dX9_leastStamps_104 rfl ?_
    refine wp_if_eq 129 dX9_leastStamps_106 (by decide) (fun c1 => ?_) (fun c1 => ?_)
    · rw [if_pos c1] at h
      exact ok_World_leastStamps_j129 hd v0 t0 v3 t3 v4 t4 v5 v6 v7 v8 v9 μ _ _ _ K hb he0 h hz
    · rw [if_neg c1] at h
      refine wp_iload (x := v5) dX9_leastStamps_109 rfl ?_
      refine wp_iload (x := v9) dX9_leastStamps_111 rfl ?_
      obtain ⟨r6, g1, h⟩ := bnd_some h
      refine wp_cNi (d := d - 1) cs_X9_123 (as := [.int v5, .int v9]) (rest := []) dX9_leastStamps_113 (by omega) cloC rfl rfl (Nat.le_of_ble_eq_true rfl) (Nat.le_of_ble_eq_true rfl) (ok_Nine_hasBit (by omega) v5 v9 μ g1) ?_ rfl
      refine wp_if_eq 129 dX9_leastStamps_116 (by decide) (fun c1 => ?_) (fun c1 => ?_)
      · rw [if_pos c1] at h
        exact ok_World_leastStamps_j129 hd v0 t0 v3 t3 v4 t4 v5 v6 v7 v8 v9 μ _ _ _ K hb he0 h hz
      · rw [if_neg c1] at h
        refine wp_iload (x := v7) dX9_leastStamps_119 rfl ?_
        refine wp_iload (x := v8) dX9_leastStamps_121 rfl ?_
        refine wp_iadd dX9_leastStamps_123 ?_
        refine wp_istore (L2 := [some (.ref v0), z1, z2, some (.ref v3), some (.ref v4), some (.int v5), some (.int v6), some (.int (v7 + v8)), some (.int v8), some (.int v9), some (.int s0)]) dX9_leastStamps_124 (by decide) rfl rfl ?_
        refine wp_iinc (x := v6) (k0 := (-1)) (L2 := [some (.ref v0), z1, z2, some (.ref v3), some (.ref v4), some (.int v5), some (.int (v6 + (-1))), some (.int (v7 + v8)), some (.int v8), some (.int v9), some (.int s0)]) dX9_leastStamps_126 rfl rfl (by decide) rfl rfl ?_
        exact ok_World_leastStamps_j129 hd v0 t0 v3 t3 v4 t4 v5 (v6 + (-1)) (v7 + v8) v8 v9 μ _ _ _ K hb he0 h hz
theorem ok_World_leastStamps_l55 {l : Launch} {d : Nat} (hd : 2 ≤ d) (v0 : Nat) (t0 : sK SC v0 = 9) (v3 : Nat) (t3 : sK SC v3 = 5) (v4 : Nat) (t4 : sK SC v4 = 3) (v5 : Int32)  (v6 : Int32)  (v7 : Int32)  (v8 : Int32)  (v9 : Int32)  (μ : Mm) (z1 : Option Value) (z2 : Option Value) (z10 : Option Value) {Q : Option Value → Sh → Mm → Prop} (K : (Int32 × Int32 × Int32) ⊕ (Int32 × Int32) → Prop) (hb : ∀ (s : (Int32 × Int32 × Int32)) (z1 : Option Value) (z2 : Option Value) (z10 : Option Value), K (Sum.inl s) → Wp l SC d (0, 0) mX9_leastStamps 55 [some (.ref v0), z1, z2, some (.ref v3), some (.ref v4), some (.int v5), some (.int s.1), some (.int s.2.1), some (.int v8), some (.int s.2.2), z10] [] μ Q) (he0 : ∀ (x : (Int32 × Int32)) (z1 : Option Value) (z2 : Option Value) (z9 : Option Value) (z10 : Option Value), K (Sum.inr x) → Wp l SC d (0, 0) mX9_leastStamps 135 [some (.ref v0), z1, z2, some (.ref v3), some (.ref v4), some (.int v5), some (.int x.1), some (.int x.2), some (.int v8), z9, z10] [] μ Q) {z : (Int32 × Int32 × Int32) ⊕ (Int32 × Int32)} (h : World_leastStamps_l55 v0 v3 v4 v5 v6 v7 v8 v9 μ = some z) (hz : K z) : Wp l SC d (0, 0) mX9_leastStamps 55 [some (.ref v0), z1, z2, some (.ref v3), some (.ref v4), some (.int v5), some (.int v6), some (.int v7), some (.int v8), some (.int v9), z10] [] μ Q := by
  unfold World_leastStamps_l55 at h
  refine wp_iload (x := v9) dX9_leastStamps_55 rfl ?_
  refine wp_aload_n (x := v0) dX9_leastStamps_57 rfl ?_
  refine wp_getI fl_X9_48 (by decide) rfl (kltC t0) t0 dX9_leastStamps_58 ?_
  refine wp_icmp_ge 135 dX9_leastStamps_61 (by decide) (fun c1 => ?_) (fun c1 => ?_)
  · rw [if_pos c1] at h
    obtain rfl := some1 h
    exact he0 (v6, v7) _ _ _ _ hz
  · rw [if_neg c1] at h
    refine wp_aload_n (x := v3) dX9_leastStamps_64 rfl ?_
    refine wp_aload (x := v4) dX9_leastStamps_65 rfl ?_
    refine wp_getR (v4 + 1) fl_X9_89 (by decide) rfl (kltC t4) t4 (ly3_0 t4).1 dX9_leastStamps_67 ?_
    refine wp_iconst (nI 0) dX9_leastStamps_70 rfl ?_
    obtain ⟨c1, h⟩ := chv_some h
    refine wp_ialde (kltC (ly3_0 t4).2.1) (ly3_0 t4).2.1 (ly3_0 t4).2.2 c1 dX9_leastStamps_71 ?_
    refine wp_aload_n (x := v0) dX9_leastStamps_72 rfl ?_
    refine wp_getR (v0 + 1) fl_X9_11 (by decide) rfl (kltC t0) t0 (ly9_0 t0).1 dX9_leastStamps_73 ?_
    refine wp_iload (x := v9) dX9_leastStamps_76 rfl ?_
    obtain ⟨cp4, h⟩ := chv_some h
    refine wp_aald (v0 + (21 + 9 * ix v9)) (kltC (ly9_0 t0).2.1) (ly9_0 t0).2.1 (by decide) (by rw [(ly9_0 t0).2.2]; exact cp4) (lyP t0 cp4).1 dX9_leastStamps_78 ?_
    refine wp_getR ((v0 + (21 + 9 * ix v9)) + 1) fl_X9_89 (by decide) rfl (kltC (lyP t0 cp4).2) (lyP t0 cp4).2 (ly3_0 (lyP t0 cp4).2).1 dX9_leastStamps_79 ?_
    refine wp_iconst (nI 0) dX9_leastStamps_82 rfl ?_
    obtain ⟨c1, h⟩ := chv_some h
    refine wp_ialde (kltC (ly3_0 (lyP t0 cp4).2).2.1) (ly3_0 (lyP t0 cp4).2).2.1 (ly3_0 (lyP t0 cp4).2).2.2 c1 dX9_leastStamps_83 ?_
    obtain ⟨r5, g1, h⟩ := bnd_some h
    refine wp_cVi (d := d - 1) (o := v3) cv_X9_176 (kltC t3) t3 (as := [.int (μ.1 (v4 + 1) (ix (nI 0))), .int (μ.1 ((v0 + (21 + 9 * ix v9)) + 1) (ix (nI 0)))]) (rest := []) dX9_leastStamps_84 (by omega) cloC rfl rfl (Nat.le_of_ble_eq_true rfl) (Nat.le_of_ble_eq_true rfl) (ok_Post_daysBetween (by omega) v3 t3 (μ.1 (v4 + 1) (ix (nI 0))) (μ.1 ((v0 + (21 + 9 * ix v9)) + 1) (ix (nI 0))) μ g1) ?_ rfl
    refine wp_iload (x := v8) dX9_leastStamps_87 rfl ?_
    refine wp_icmp_ne 96 dX9_leastStamps_89 (by decide) (fun c1 => ?_) (fun c1 => ?_)
    · rw [if_neg c1] at h
      refine wp_iconst (nI 0) dX9_leastStamps_96 rfl ?_
      exact ok_World_leastStamps_j97 hd v0 t0 v3 t3 v4 t4 v5 v6 v7 v8 v9 (nI 0) μ _ _ _ K hb he0 h hz
    · rw [if_pos c1] at h
      refine wp_iconst (nI 1) dX9_leastStamps_92 rfl ?_
      refine wp_goto 97 dX9_leastStamps_93 (by decide) ?_
      exact ok_World_leastStamps_j97 hd v0 t0 v3 t3 v4 t4 v5 v6 v7 v8 v9 (nI 1) μ _ _ _ K hb he0 h hz
theorem okl_World_leastStamps_l55 {l : Launch} {d : Nat} (hd : 2 ≤ d) (v0 : Nat) (t0 : sK SC v0 = 9) (v3 : Nat) (t3 : sK SC v3 = 5) (v4 : Nat) (t4 : sK SC v4 = 3) (v5 : Int32)  (v8 : Int32)  (μ : Mm) {Q : Option Value → Sh → Mm → Prop} (K : (Int32 × Int32) → Prop) (he0 : ∀ (x : (Int32 × Int32)) (z1 : Option Value) (z2 : Option Value) (z9 : Option Value) (z10 : Option Value), K x → Wp l SC d (0, 0) mX9_leastStamps 135 [some (.ref v0), z1, z2, some (.ref v3), some (.ref v4), some (.int v5), some (.int x.1), some (.int x.2), some (.int v8), z9, z10] [] μ Q) : ∀ (n : Nat) (s : (Int32 × Int32 × Int32)) (y : (Int32 × Int32)) (z1 : Option Value) (z2 : Option Value) (z10 : Option Value) , iter n (fun s => World_leastStamps_l55 v0 v3 v4 v5 s.1 s.2.1 v8 s.2.2 μ) s = some y → K y → Wp l SC d (0, 0) mX9_leastStamps 55 [some (.ref v0), z1, z2, some (.ref v3), some (.ref v4), some (.int v5), some (.int s.1), some (.int s.2.1), some (.int v8), some (.int s.2.2), z10] [] μ Q := by
  intro n
  induction n with
  | zero => intro s y z1 z2 z10 h; cases h
  | succ n ih =>
    intro s y z1 z2 z10 h hK
    obtain ⟨z, hz, hn⟩ := iter_some h
    refine ok_World_leastStamps_l55 hd v0 t0 v3 t3 v4 t4 v5 s.1 s.2.1 v8 s.2.2 μ _ _ _ (fun z => nxt n (fun s => World_leastStamps_l55 v0 v3 v4 v5 s.1 s.2.1 v8 s.2.2 μ) z y) ?_ ?_ hz hn
    · intro s2 z1 z2 z10 h2
      exact ih s2 y _ _ _ h2 hK
    · intro x z1 z2 z9 z10 h2
      have h3 : x = y := h2
      subst h3
      exact he0 x _ _ _ _ hK
theorem ok_World_leastStamps_l45 {l : Launch} {d : Nat} (hd : 2 ≤ d) (v0 : Nat) (t0 : sK SC v0 = 9) (v3 : Nat) (t3 : sK SC v3 = 5) (v4 : Nat) (t4 : sK SC v4 = 3) (v5 : Int32)  (v6 : Int32)  (v7 : Int32)  (v8 : Int32)  (μ : Mm) (z1 : Option Value) (z2 : Option Value) (z9 : Option Value) (z10 : Option Value) {Q : Option Value → Sh → Mm → Prop} (K : (Int32 × Int32 × Int32) ⊕ Int32 → Prop) (hb : ∀ (s : (Int32 × Int32 × Int32)) (z1 : Option Value) (z2 : Option Value) (z9 : Option Value) (z10 : Option Value), K (Sum.inl s) → Wp l SC d (0, 0) mX9_leastStamps 45 [some (.ref v0), z1, z2, some (.ref v3), some (.ref v4), some (.int v5), some (.int s.1), some (.int s.2.1), some (.int s.2.2), z9, z10] [] μ Q) (he0 : ∀ (x : Int32) (z0 : Option Value) (z1 : Option Value) (z2 : Option Value) (z3 : Option Value) (z4 : Option Value) (z5 : Option Value) (z6 : Option Value) (z8 : Option Value) (z9 : Option Value) (z10 : Option Value), K (Sum.inr x) → Wp l SC d (0, 0) mX9_leastStamps 141 [z0, z1, z2, z3, z4, z5, z6, some (.int x), z8, z9, z10] [] μ Q) {z : (Int32 × Int32 × Int32) ⊕ Int32} (h : World_leastStamps_l45 v0 v3 v4 v5 v6 v7 v8 μ = some z) (hz : K z) : Wp l SC d (0, 0) mX9_leastStamps 45 [some (.ref v0), z1, z2, some (.ref v3), some (.ref v4), some (.int v5), some (.int v6), some (.int v7), some (.int v8), z9, z10] [] μ Q := by
  unfold World_leastStamps_l45 at h
  refine wp_iload (x := v8) dX9_leastStamps_45 rfl ?_
  refine wp_bipush (nI 20) dX9_leastStamps_47 rfl ?_
  refine wp_icmp_gt 141 dX9_leastStamps_49 (by decide) (fun c1 => ?_) (fun c1 => ?_)
  · rw [if_pos c1] at h
    obtain rfl := some1 h
    exact he0 v7 _ _ _ _ _ _ _ _ _ _ hz
  · rw [if_neg c1] at h
    refine wp_iconst (nI 0) dX9_leastStamps_52 rfl ?_
    refine wp_istore (L2 := [some (.ref v0), z1, z2, some (.ref v3), some (.ref v4), some (.int v5), some (.int v6), some (.int v7), some (.int v8), some (.int (nI 0)), z10]) dX9_leastStamps_53 (by decide) rfl rfl ?_
    obtain ⟨x55, hi, h⟩ := bni_some h
    refine okl_World_leastStamps_l55 hd v0 t0 v3 t3 v4 t4 v5 v8 μ (fun z => z = x55) ?_ 1000000 (v6, v7, (nI 0)) x55 _ _ _ hi rfl
    · intro y0 z1 z2 z9 z10 e0
      have e0 : y0 = x55 := e0
      subst e0
      refine wp_iinc (x := v8) (k0 := (nI 1)) (L2 := [some (.ref v0), z1, z2, some (.ref v3), some (.ref v4), some (.int v5), some (.int y0.1), some (.int y0.2), some (.int (v8 + (nI 1))), z9, z10]) dX9_leastStamps_135 rfl rfl (by decide) rfl rfl ?_
      refine wp_goto 45 dX9_leastStamps_138 (by decide) ?_
      obtain rfl := some1 h
      exact hb (y0.1, y0.2, (v8 + (nI 1))) _ _ _ _ hz
theorem okl_World_leastStamps_l45 {l : Launch} {d : Nat} (hd : 2 ≤ d) (v0 : Nat) (t0 : sK SC v0 = 9) (v3 : Nat) (t3 : sK SC v3 = 5) (v4 : Nat) (t4 : sK SC v4 = 3) (v5 : Int32)  (μ : Mm) {Q : Option Value → Sh → Mm → Prop} (K : Int32 → Prop) (he0 : ∀ (x : Int32) (z0 : Option Value) (z1 : Option Value) (z2 : Option Value) (z3 : Option Value) (z4 : Option Value) (z5 : Option Value) (z6 : Option Value) (z8 : Option Value) (z9 : Option Value) (z10 : Option Value), K x → Wp l SC d (0, 0) mX9_leastStamps 141 [z0, z1, z2, z3, z4, z5, z6, some (.int x), z8, z9, z10] [] μ Q) : ∀ (n : Nat) (s : (Int32 × Int32 × Int32)) (y : Int32) (z1 : Option Value) (z2 : Option Value) (z9 : Option Value) (z10 : Option Value) , iter n (fun s => World_leastStamps_l45 v0 v3 v4 v5 s.1 s.2.1 s.2.2 μ) s = some y → K y → Wp l SC d (0, 0) mX9_leastStamps 45 [some (.ref v0), z1, z2, some (.ref v3), some (.ref v4), some (.int v5), some (.int s.1), some (.int s.2.1), some (.int s.2.2), z9, z10] [] μ Q := by
  intro n
  induction n with
  | zero => intro s y z1 z2 z9 z10 h; cases h
  | succ n ih =>
    intro s y z1 z2 z9 z10 h hK
    obtain ⟨z, hz, hn⟩ := iter_some h
    refine ok_World_leastStamps_l45 hd v0 t0 v3 t3 v4 t4 v5 s.1 s.2.1 s.2.2 μ _ _ _ _ (fun z => nxt n (fun s => World_leastStamps_l45 v0 v3 v4 v5 s.1 s.2.1 s.2.2 μ) z y) ?_ ?_ hz hn
    · intro s2 z1 z2 z9 z10 h2
      exact ih s2 y _ _ _ _ h2 hK
    · intro x z0 z1 z2 z3 z4 z5 z6 z8 z9 z10 h2
      have h3 : x = y := h2
      subst h3
      exact he0 x _ _ _ _ _ _ _ _ _ _ hK
theorem ok_World_leastStamps {l : Launch} {d : Nat} (hd : 2 ≤ d) (v0 : Nat) (t0 : sK SC v0 = 9) (v1 : Int32)  (v2 : Int32)  (v3 : Nat) (t3 : sK SC v3 = 5) (μ : Mm) {r : Int32} (h : World_leastStamps v0 v1 v2 v3 μ = some r) : Wp l SC d (0, 0) mX9_leastStamps 0 [some (.ref v0), some (.int v1), some (.int v2), some (.ref v3), none, none, none, none, none, none, none] [] μ (Qi SC r μ) := by
  unfold World_leastStamps at h
  refine wp_aload_n (x := v0) dX9_leastStamps_0 rfl ?_
  refine wp_getR (v0 + 1) fl_X9_11 (by decide) rfl (kltC t0) t0 (ly9_0 t0).1 dX9_leastStamps_1 ?_
  refine wp_iload_n (x := v1) dX9_leastStamps_4 rfl ?_
  obtain ⟨cp1, h⟩ := chv_some h
  refine wp_aald (v0 + (21 + 9 * ix v1)) (kltC (ly9_0 t0).2.1) (ly9_0 t0).2.1 (by decide) (by rw [(ly9_0 t0).2.2]; exact cp1) (lyP t0 cp1).1 dX9_leastStamps_5 ?_
  refine wp_astore (L2 := [some (.ref v0), some (.int v1), some (.int v2), some (.ref v3), some (.ref (v0 + (21 + 9 * ix v1))), none, none, none, none, none, none]) dX9_leastStamps_6 (by decide) rfl rfl ?_
  refine wp_aload (x := (v0 + (21 + 9 * ix v1))) dX9_leastStamps_8 rfl ?_
  obtain ⟨r2, g1, h⟩ := bnd_some h
  refine wp_cVi (d := d - 1) (o := (v0 + (21 + 9 * ix v1))) cv_X9_232 (kltC (lyP t0 cp1).2) (lyP t0 cp1).2 (as := []) (rest := []) dX9_leastStamps_10 (by omega) cloC rfl rfl (Nat.le_of_ble_eq_true rfl) (Nat.le_of_ble_eq_true rfl) (ok_Person_rowSet (by omega) (v0 + (21 + 9 * ix v1)) ((lyP t0 cp1).2) μ g1) ?_ rfl
  refine wp_istore (L2 := [some (.ref v0), some (.int v1), some (.int v2), some (.ref v3), some (.ref (v0 + (21 + 9 * ix v1))), some (.int r2), none, none, none, none, none]) dX9_leastStamps_13 (by decide) rfl rfl ?_
  refine wp_aload (x := (v0 + (21 + 9 * ix v1))) dX9_leastStamps_15 rfl ?_
  refine wp_getR ((v0 + (21 + 9 * ix v1)) + 3) fl_X9_56 (by decide) rfl (kltC (lyP t0 cp1).2) (lyP t0 cp1).2 (ly3_2 (lyP t0 cp1).2).1 dX9_leastStamps_17 ?_
  refine wp_getR ((v0 + (21 + 9 * ix v1)) + 8) fl_X9_140 (by decide) rfl (kltC (ly3_2 (lyP t0 cp1).2).2.1) (ly3_2 (lyP t0 cp1).2).2.1 (ly2_4 (ly3_2 (lyP t0 cp1).2).2.1).1 dX9_leastStamps_20 ?_
  refine wp_iload_n (x := v2) dX9_leastStamps_23 rfl ?_
  obtain ⟨c1, h⟩ := chv_some h
  refine wp_ialde (kltC (ly2_4 (ly3_2 (lyP t0 cp1).2).2.1).2.1) (ly2_4 (ly3_2 (lyP t0 cp1).2).2.1).2.1 rfl c1 dX9_leastStamps_24 ?_
  refine wp_istore (L2 := [some (.ref v0), some (.int v1), some (.int v2), some (.ref v3), some (.ref (v0 + (21 + 9 * ix v1))), some (.int r2), some (.int (μ.1 ((v0 + (21 + 9 * ix v1)) + 8) (ix v2))), none, none, none, none]) dX9_leastStamps_25 (by decide) rfl rfl ?_
  refine wp_iload (x := r2) dX9_leastStamps_27 rfl ?_
  obtain ⟨r3, g1, h⟩ := bnd_some h
  refine wp_cSi (d := d - 1) cs_X9_227 (as := [.int r2]) (rest := []) dX9_leastStamps_29 (by omega) cloC rfl rfl (Nat.le_of_ble_eq_true rfl) (Nat.le_of_ble_eq_true rfl) (ok_JI_bitCount wfC (by omega) r2 μ g1) ?_ rfl
  refine wp_iload (x := (μ.1 ((v0 + (21 + 9 * ix v1)) + 8) (ix v2))) dX9_leastStamps_32 rfl ?_
  refine wp_icmp_ge 39 dX9_leastStamps_34 (by decide) (fun c1 => ?_) (fun c1 => ?_)
  · rw [if_pos c1] at h
    refine wp_iconst (nI 0) dX9_leastStamps_39 rfl ?_
    refine wp_istore (L2 := [some (.ref v0), some (.int v1), some (.int v2), some (.ref v3), some (.ref (v0 + (21 + 9 * ix v1))), some (.int r2), some (.int (μ.1 ((v0 + (21 + 9 * ix v1)) + 8) (ix v2))), some (.int (nI 0)), none, none, none]) dX9_leastStamps_40 (by decide) rfl rfl ?_
    refine wp_iconst (nI 1) dX9_leastStamps_42 rfl ?_
    refine wp_istore (L2 := [some (.ref v0), some (.int v1), some (.int v2), some (.ref v3), some (.ref (v0 + (21 + 9 * ix v1))), some (.int r2), some (.int (μ.1 ((v0 + (21 + 9 * ix v1)) + 8) (ix v2))), some (.int (nI 0)), some (.int (nI 1)), none, none]) dX9_leastStamps_43 (by decide) rfl rfl ?_
    obtain ⟨x45, hi, h⟩ := bni_some h
    refine okl_World_leastStamps_l45 hd v0 t0 v3 t3 (v0 + (21 + 9 * ix v1)) ((lyP t0 cp1).2) r2 μ (fun z => z = x45) ?_ 1000000 ((μ.1 ((v0 + (21 + 9 * ix v1)) + 8) (ix v2)), (nI 0), (nI 1)) x45 _ _ _ _ hi rfl
    · intro y0 z0 z1 z2 z3 z4 z5 z6 z8 z9 z10 e0
      have e0 : y0 = x45 := e0
      subst e0
      refine wp_iload (x := y0) dX9_leastStamps_141 rfl ?_
      obtain rfl := ret1 h
      exact wp_iret rfl dX9_leastStamps_143 ⟨rfl, rfl, rfl⟩
  · rw [if_neg c1] at h
    refine wp_iconst (-1) dX9_leastStamps_37 rfl ?_
    obtain rfl := ret1 h
    exact wp_iret rfl dX9_leastStamps_38 ⟨rfl, rfl, rfl⟩
theorem ok_World_countHeld_j47 {l : Launch} {d : Nat} (hd : 1 ≤ d) (v0 : Nat) (t0 : sK SC v0 = 9) (v1 : Int32)  (v2 : Int32)  (v3 : Int32)  (μ : Mm) {Q : Option Value → Sh → Mm → Prop} (K : (Int32 × Int32) ⊕ Int32 → Prop) (hb : ∀ (s : (Int32 × Int32)), K (Sum.inl s) → Wp l SC d (0, 0) mX9_countHeld 4 [some (.ref v0), some (.int v1), some (.int s.1), some (.int s.2)] [] μ Q) (he0 : ∀ (x : Int32) (z0 : Option Value) (z1 : Option Value) (z3 : Option Value), K (Sum.inr x) → Wp l SC d (0, 0) mX9_countHeld 53 [z0, z1, some (.int x), z3] [] μ Q) {z : (Int32 × Int32) ⊕ Int32} (h : World_countHeld_j47 v0 v1 v2 v3 μ = some z) (hz : K z) : Wp l SC d (0, 0) mX9_countHeld 47 [some (.ref v0), some (.int v1), some (.int v2), some (.int v3)] [] μ Q := by
  unfold World_countHeld_j47 at h
  refine wp_iinc (x := v3) (k0 := (nI 1)) (L2 := [some (.ref v0), some (.int v1), some (.int v2), some (.int (v3 + (nI 1)))]) dX9_countHeld_47 rfl rfl (by decide) rfl rfl ?_
  refine wp_goto 4 dX9_countHeld_50 (by decide) ?_
  obtain rfl := some1 h
  exact hb (v2, (v3 + (nI 1))) hz
theorem ok_World_countHeld_j32 {l : Launch} {d : Nat} (hd : 1 ≤ d) (v0 : Nat) (t0 : sK SC v0 = 9) (v1 : Int32)  (v2 : Int32)  (v3 : Int32)  (μ : Mm) {Q : Option Value → Sh → Mm → Prop} (K : (Int32 × Int32) ⊕ Int32 → Prop) (hb : ∀ (s : (Int32 × Int32)), K (Sum.inl s) → Wp l SC d (0, 0) mX9_countHeld 4 [some (.ref v0), some (.int v1), some (.int s.1), some (.int s.2)] [] μ Q) (he0 : ∀ (x : Int32) (z0 : Option Value) (z1 : Option Value) (z3 : Option Value), K (Sum.inr x) → Wp l SC d (0, 0) mX9_countHeld 53 [z0, z1, some (.int x), z3] [] μ Q) {z : (Int32 × Int32) ⊕ Int32} (h : World_countHeld_j32 v0 v1 v2 v3 μ = some z) (hz : K z) : Wp l SC d (0, 0) mX9_countHeld 32 [some (.ref v0), some (.int v1), some (.int v2), some (.int v3)] [] μ Q := by
  unfold World_countHeld_j32 at h
  refine wp_iload_n (x := v2) dX9_countHeld_32 rfl ?_
  refine wp_aload_n (x := v0) dX9_countHeld_33 rfl ?_
  refine wp_getR (v0 + 1) fl_X9_11 (by decide) rfl (kltC t0) t0 (ly9_0 t0).1 dX9_countHeld_34 ?_
  refine wp_iload_n (x := v3) dX9_countHeld_37 rfl ?_
  obtain ⟨cp1, h⟩ := chv_some h
  refine wp_aald (v0 + (21 + 9 * ix v3)) (kltC (ly9_0 t0).2.1) (ly9_0 t0).2.1 (by decide) (by rw [(ly9_0 t0).2.2]; exact cp1) (lyP t0 cp1).1 dX9_countHeld_38 ?_
  refine wp_getR ((v0 + (21 + 9 * ix v3)) + 3) fl_X9_56 (by decide) rfl (kltC (lyP t0 cp1).2) (lyP t0 cp1).2 (ly3_2 (lyP t0 cp1).2).1 dX9_countHeld_39 ?_
  refine wp_getI fl_X9_102 (by decide) rfl (kltC (ly3_2 (lyP t0 cp1).2).2.1) (ly3_2 (lyP t0 cp1).2).2.1 dX9_countHeld_42 ?_
  refine wp_iadd dX9_countHeld_45 ?_
  refine wp_istore_n (L2 := [some (.ref v0), some (.int v1), some (.int (v2 + (μ.1 ((v0 + (21 + 9 * ix v3)) + 3) 5))), some (.int v3)]) dX9_countHeld_46 (by decide) rfl rfl ?_
  exact ok_World_countHeld_j47 hd v0 t0 v1 (v2 + (μ.1 ((v0 + (21 + 9 * ix v3)) + 3) 5)) v3 μ K hb he0 h hz
theorem ok_World_countHeld_l4 {l : Launch} {d : Nat} (hd : 1 ≤ d) (v0 : Nat) (t0 : sK SC v0 = 9) (v1 : Int32)  (v2 : Int32)  (v3 : Int32)  (μ : Mm) {Q : Option Value → Sh → Mm → Prop} (K : (Int32 × Int32) ⊕ Int32 → Prop) (hb : ∀ (s : (Int32 × Int32)), K (Sum.inl s) → Wp l SC d (0, 0) mX9_countHeld 4 [some (.ref v0), some (.int v1), some (.int s.1), some (.int s.2)] [] μ Q) (he0 : ∀ (x : Int32) (z0 : Option Value) (z1 : Option Value) (z3 : Option Value), K (Sum.inr x) → Wp l SC d (0, 0) mX9_countHeld 53 [z0, z1, some (.int x), z3] [] μ Q) {z : (Int32 × Int32) ⊕ Int32} (h : World_countHeld_l4 v0 v1 v2 v3 μ = some z) (hz : K z) : Wp l SC d (0, 0) mX9_countHeld 4 [some (.ref v0), some (.int v1), some (.int v2), some (.int v3)] [] μ Q := by
  unfold World_countHeld_l4 at h
  refine wp_iload_n (x := v3) dX9_countHeld_4 rfl ?_
  refine wp_aload_n (x := v0) dX9_countHeld_5 rfl ?_
  refine wp_getI fl_X9_48 (by decide) rfl (kltC t0) t0 dX9_countHeld_6 ?_
  refine wp_icmp_ge 53 dX9_countHeld_9 (by decide) (fun c1 => ?_) (fun c1 => ?_)
  · rw [if_pos c1] at h
    obtain rfl := some1 h
    exact he0 v2 _ _ _ hz
  · rw [if_neg c1] at h
    refine wp_iload_n (x := v1) dX9_countHeld_12 rfl ?_
    refine wp_iconst (-1) dX9_countHeld_13 rfl ?_
    refine wp_icmp_eq 32 dX9_countHeld_14 (by decide) (fun c1 => ?_) (fun c1 => ?_)
    · rw [if_pos c1] at h
      exact ok_World_countHeld_j32 hd v0 t0 v1 v2 v3 μ K hb he0 h hz
    · rw [if_neg c1] at h
      refine wp_aload_n (x := v0) dX9_countHeld_17 rfl ?_
      refine wp_getR (v0 + 1) fl_X9_11 (by decide) rfl (kltC t0) t0 (ly9_0 t0).1 dX9_countHeld_18 ?_
      refine wp_iload_n (x := v3) dX9_countHeld_21 rfl ?_
      obtain ⟨cp2, h⟩ := chv_some h
      refine wp_aald (v0 + (21 + 9 * ix v3)) (kltC (ly9_0 t0).2.1) (ly9_0 t0).2.1 (by decide) (by rw [(ly9_0 t0).2.2]; exact cp2) (lyP t0 cp2).1 dX9_countHeld_22 ?_
      refine wp_getR ((v0 + (21 + 9 * ix v3)) + 1) fl_X9_89 (by decide) rfl (kltC (lyP t0 cp2).2) (lyP t0 cp2).2 (ly3_0 (lyP t0 cp2).2).1 dX9_countHeld_23 ?_
      refine wp_iconst (nI 0) dX9_countHeld_26 rfl ?_
      obtain ⟨c1, h⟩ := chv_some h
      refine wp_ialde (kltC (ly3_0 (lyP t0 cp2).2).2.1) (ly3_0 (lyP t0 cp2).2).2.1 (ly3_0 (lyP t0 cp2).2).2.2 c1 dX9_countHeld_27 ?_
      refine wp_iload_n (x := v1) dX9_countHeld_28 rfl ?_
      refine wp_icmp_ne 47 dX9_countHeld_29 (by decide) (fun c1 => ?_) (fun c1 => ?_)
      · rw [if_neg c1] at h
        exact ok_World_countHeld_j47 hd v0 t0 v1 v2 v3 μ K hb he0 h hz
      · rw [if_pos c1] at h
        exact ok_World_countHeld_j32 hd v0 t0 v1 v2 v3 μ K hb he0 h hz
theorem okl_World_countHeld_l4 {l : Launch} {d : Nat} (hd : 1 ≤ d) (v0 : Nat) (t0 : sK SC v0 = 9) (v1 : Int32)  (μ : Mm) {Q : Option Value → Sh → Mm → Prop} (K : Int32 → Prop) (he0 : ∀ (x : Int32) (z0 : Option Value) (z1 : Option Value) (z3 : Option Value), K x → Wp l SC d (0, 0) mX9_countHeld 53 [z0, z1, some (.int x), z3] [] μ Q) : ∀ (n : Nat) (s : (Int32 × Int32)) (y : Int32) , iter n (fun s => World_countHeld_l4 v0 v1 s.1 s.2 μ) s = some y → K y → Wp l SC d (0, 0) mX9_countHeld 4 [some (.ref v0), some (.int v1), some (.int s.1), some (.int s.2)] [] μ Q := by
  intro n
  induction n with
  | zero => intro s y  h; cases h
  | succ n ih =>
    intro s y  h hK
    obtain ⟨z, hz, hn⟩ := iter_some h
    refine ok_World_countHeld_l4 hd v0 t0 v1 s.1 s.2 μ (fun z => nxt n (fun s => World_countHeld_l4 v0 v1 s.1 s.2 μ) z y) ?_ ?_ hz hn
    · intro s2  h2
      exact ih s2 y h2 hK
    · intro x z0 z1 z3 h2
      have h3 : x = y := h2
      subst h3
      exact he0 x _ _ _ hK
theorem ok_World_countHeld {l : Launch} {d : Nat} (hd : 1 ≤ d) (v0 : Nat) (t0 : sK SC v0 = 9) (v1 : Int32)  (μ : Mm) {r : Int32} (h : World_countHeld v0 v1 μ = some r) : Wp l SC d (0, 0) mX9_countHeld 0 [some (.ref v0), some (.int v1), none, none] [] μ (Qi SC r μ) := by
  unfold World_countHeld at h
  refine wp_iconst (nI 0) dX9_countHeld_0 rfl ?_
  refine wp_istore_n (L2 := [some (.ref v0), some (.int v1), some (.int (nI 0)), none]) dX9_countHeld_1 (by decide) rfl rfl ?_
  refine wp_iconst (nI 0) dX9_countHeld_2 rfl ?_
  refine wp_istore_n (L2 := [some (.ref v0), some (.int v1), some (.int (nI 0)), some (.int (nI 0))]) dX9_countHeld_3 (by decide) rfl rfl ?_
  obtain ⟨x4, hi, h⟩ := bni_some h
  refine okl_World_countHeld_l4 hd v0 t0 v1 μ (fun z => z = x4) ?_ 1000000 ((nI 0), (nI 0)) x4 hi rfl
  · intro y0 z0 z1 z3 e0
    have e0 : y0 = x4 := e0
    subst e0
    refine wp_iload_n (x := y0) dX9_countHeld_53 rfl ?_
    obtain rfl := ret1 h
    exact wp_iret rfl dX9_countHeld_54 ⟨rfl, rfl, rfl⟩
theorem ok_World_isOver_j42 {l : Launch} {d : Nat} (hd : 1 ≤ d) (v0 : Nat) (t0 : sK SC v0 = 9) (v1 : Int32)  (μ : Mm) {Q : Option Value → Sh → Mm → Prop} (K : Int32 ⊕ (Unit ⊕ Unit) → Prop) (hb : ∀ (s : Int32), K (Sum.inl s) → Wp l SC d (0, 0) mX9_isOver 2 [some (.ref v0), some (.int s)] [] μ Q) (he0 : ∀ (x : Unit) (z0 : Option Value) (z1 : Option Value), K (Sum.inr (Sum.inl x)) → Wp l SC d (0, 0) mX9_isOver 40 [z0, z1] [] μ Q) (he1 : ∀ (x : Unit) (z1 : Option Value), K (Sum.inr (Sum.inr x)) → Wp l SC d (0, 0) mX9_isOver 48 [some (.ref v0), z1] [] μ Q) {z : Int32 ⊕ (Unit ⊕ Unit)} (h : World_isOver_j42 v0 v1 μ = some z) (hz : K z) : Wp l SC d (0, 0) mX9_isOver 42 [some (.ref v0), some (.int v1)] [] μ Q := by
  unfold World_isOver_j42 at h
  refine wp_iinc (x := v1) (k0 := (nI 1)) (L2 := [some (.ref v0), some (.int (v1 + (nI 1)))]) dX9_isOver_42 rfl rfl (by decide) rfl rfl ?_
  refine wp_goto 2 dX9_isOver_45 (by decide) ?_
  obtain rfl := some1 h
  exact hb (v1 + (nI 1)) hz
theorem ok_World_isOver_l2 {l : Launch} {d : Nat} (hd : 1 ≤ d) (v0 : Nat) (t0 : sK SC v0 = 9) (v1 : Int32)  (μ : Mm) {Q : Option Value → Sh → Mm → Prop} (K : Int32 ⊕ (Unit ⊕ Unit) → Prop) (hb : ∀ (s : Int32), K (Sum.inl s) → Wp l SC d (0, 0) mX9_isOver 2 [some (.ref v0), some (.int s)] [] μ Q) (he0 : ∀ (x : Unit) (z0 : Option Value) (z1 : Option Value), K (Sum.inr (Sum.inl x)) → Wp l SC d (0, 0) mX9_isOver 40 [z0, z1] [] μ Q) (he1 : ∀ (x : Unit) (z1 : Option Value), K (Sum.inr (Sum.inr x)) → Wp l SC d (0, 0) mX9_isOver 48 [some (.ref v0), z1] [] μ Q) {z : Int32 ⊕ (Unit ⊕ Unit)} (h : World_isOver_l2 v0 v1 μ = some z) (hz : K z) : Wp l SC d (0, 0) mX9_isOver 2 [some (.ref v0), some (.int v1)] [] μ Q := by
  unfold World_isOver_l2 at h
  refine wp_iload_n (x := v1) dX9_isOver_2 rfl ?_
  refine wp_aload_n (x := v0) dX9_isOver_3 rfl ?_
  refine wp_getI fl_X9_48 (by decide) rfl (kltC t0) t0 dX9_isOver_4 ?_
  refine wp_icmp_ge 48 dX9_isOver_7 (by decide) (fun c1 => ?_) (fun c1 => ?_)
  · rw [if_pos c1] at h
    obtain rfl := some1 h
    exact he1 () _ hz
  · rw [if_neg c1] at h
    refine wp_aload_n (x := v0) dX9_isOver_10 rfl ?_
    refine wp_getR (v0 + 1) fl_X9_11 (by decide) rfl (kltC t0) t0 (ly9_0 t0).1 dX9_isOver_11 ?_
    refine wp_iload_n (x := v1) dX9_isOver_14 rfl ?_
    obtain ⟨cp1, h⟩ := chv_some h
    refine wp_aald (v0 + (21 + 9 * ix v1)) (kltC (ly9_0 t0).2.1) (ly9_0 t0).2.1 (by decide) (by rw [(ly9_0 t0).2.2]; exact cp1) (lyP t0 cp1).1 dX9_isOver_15 ?_
    refine wp_getR ((v0 + (21 + 9 * ix v1)) + 1) fl_X9_89 (by decide) rfl (kltC (lyP t0 cp1).2) (lyP t0 cp1).2 (ly3_0 (lyP t0 cp1).2).1 dX9_isOver_16 ?_
    refine wp_iconst (nI 1) dX9_isOver_19 rfl ?_
    obtain ⟨c1, h⟩ := chv_some h
    refine wp_ialde (kltC (ly3_0 (lyP t0 cp1).2).2.1) (ly3_0 (lyP t0 cp1).2).2.1 (ly3_0 (lyP t0 cp1).2).2.2 c1 dX9_isOver_20 ?_
    refine wp_iconst (nI 2) dX9_isOver_21 rfl ?_
    refine wp_icmp_eq 42 dX9_isOver_22 (by decide) (fun c1 => ?_) (fun c1 => ?_)
    · rw [if_pos c1] at h
      exact ok_World_isOver_j42 hd v0 t0 v1 μ K hb he0 he1 h hz
    · rw [if_neg c1] at h
      refine wp_aload_n (x := v0) dX9_isOver_25 rfl ?_
      refine wp_getR (v0 + 1) fl_X9_11 (by decide) rfl (kltC t0) t0 (ly9_0 t0).1 dX9_isOver_26 ?_
      refine wp_iload_n (x := v1) dX9_isOver_29 rfl ?_
      obtain ⟨cp2, h⟩ := chv_some h
      refine wp_aald (v0 + (21 + 9 * ix v1)) (kltC (ly9_0 t0).2.1) (ly9_0 t0).2.1 (by decide) (by rw [(ly9_0 t0).2.2]; exact cp2) (lyP t0 cp2).1 dX9_isOver_30 ?_
      refine wp_getR ((v0 + (21 + 9 * ix v1)) + 3) fl_X9_56 (by decide) rfl (kltC (lyP t0 cp2).2) (lyP t0 cp2).2 (ly3_2 (lyP t0 cp2).2).1 dX9_isOver_31 ?_
      refine wp_getI fl_X9_102 (by decide) rfl (kltC (ly3_2 (lyP t0 cp2).2).2.1) (ly3_2 (lyP t0 cp2).2).2.1 dX9_isOver_34 ?_
      refine wp_if_le 42 dX9_isOver_37 (by decide) (fun c1 => ?_) (fun c1 => ?_)
      · rw [if_pos c1] at h
        exact ok_World_isOver_j42 hd v0 t0 v1 μ K hb he0 he1 h hz
      · rw [if_neg c1] at h
        obtain rfl := some1 h
        exact he0 () _ _ hz
theorem okl_World_isOver_l2 {l : Launch} {d : Nat} (hd : 1 ≤ d) (v0 : Nat) (t0 : sK SC v0 = 9) (μ : Mm) {Q : Option Value → Sh → Mm → Prop} (K : (Unit ⊕ Unit) → Prop) (he0 : ∀ (x : Unit) (z0 : Option Value) (z1 : Option Value), K (Sum.inl x) → Wp l SC d (0, 0) mX9_isOver 40 [z0, z1] [] μ Q) (he1 : ∀ (x : Unit) (z1 : Option Value), K (Sum.inr x) → Wp l SC d (0, 0) mX9_isOver 48 [some (.ref v0), z1] [] μ Q) : ∀ (n : Nat) (s : Int32) (y : (Unit ⊕ Unit)) , iter n (fun s => World_isOver_l2 v0 s μ) s = some y → K y → Wp l SC d (0, 0) mX9_isOver 2 [some (.ref v0), some (.int s)] [] μ Q := by
  intro n
  induction n with
  | zero => intro s y  h; cases h
  | succ n ih =>
    intro s y  h hK
    obtain ⟨z, hz, hn⟩ := iter_some h
    refine ok_World_isOver_l2 hd v0 t0 s μ (fun z => nxt n (fun s => World_isOver_l2 v0 s μ) z y) ?_ ?_ ?_ hz hn
    · intro s2  h2
      exact ih s2 y h2 hK
    · intro x z0 z1 h2
      have h3 : (Sum.inl x) = y := h2
      subst h3
      exact he0 x _ _ hK
    · intro x z1 h2
      have h3 : (Sum.inr x) = y := h2
      subst h3
      exact he1 x _ hK
theorem ok_World_isOver {l : Launch} {d : Nat} (hd : 1 ≤ d) (v0 : Nat) (t0 : sK SC v0 = 9) (μ : Mm) {r : Int32} (h : World_isOver v0 μ = some r) : Wp l SC d (0, 0) mX9_isOver 0 [some (.ref v0), none] [] μ (Qi SC r μ) := by
  unfold World_isOver at h
  refine wp_iconst (nI 0) dX9_isOver_0 rfl ?_
  refine wp_istore_n (L2 := [some (.ref v0), some (.int (nI 0))]) dX9_isOver_1 (by decide) rfl rfl ?_
  obtain ⟨x2, hi, h⟩ := bni_some h
  refine okl_World_isOver_l2 hd v0 t0 μ (fun z => z = x2) ?_ ?_ 1000000 (nI 0) x2 hi rfl
  · intro x2a z0 z1 e0
    have e0 : (Sum.inl x2a) = x2 := e0
    subst e0
    replace h := eL h
    refine wp_iconst (nI 0) dX9_isOver_40 rfl ?_
    obtain rfl := ret1 h
    exact wp_zret rfl (Or.inl rfl) dX9_isOver_41 ⟨rfl, rfl, rfl⟩
  · intro x2b z1 e0
    have e0 : (Sum.inr x2b) = x2 := e0
    subst e0
    replace h := eR h
    refine wp_aload_n (x := v0) dX9_isOver_48 rfl ?_
    refine wp_getR (v0 + 7) fl_X9_29 (by decide) rfl (kltC t0) t0 (ly9_3 t0).1 dX9_isOver_49 ?_
    refine wp_getI fl_X9_102 (by decide) rfl (kltC (ly9_3 t0).2.1) (ly9_3 t0).2.1 dX9_isOver_52 ?_
    refine wp_if_ne 62 dX9_isOver_55 (by decide) (fun c1 => ?_) (fun c1 => ?_)
    · rw [if_neg c1] at h
      refine wp_iconst (nI 0) dX9_isOver_62 rfl ?_
      obtain rfl := ret1 h
      exact wp_zret rfl (Or.inl rfl) dX9_isOver_63 ⟨rfl, rfl, rfl⟩
    · rw [if_pos c1] at h
      refine wp_iconst (nI 1) dX9_isOver_58 rfl ?_
      refine wp_goto 63 dX9_isOver_59 (by decide) ?_
      obtain rfl := ret1 h
      exact wp_zret rfl (Or.inr rfl) dX9_isOver_63 ⟨rfl, rfl, rfl⟩
theorem ok_World_countLettersOf_j31 {l : Launch} {d : Nat} (hd : 1 ≤ d) (v0 : Nat) (t0 : sK SC v0 = 9) (v1 : Int32)  (v2 : Int32)  (v3 : Int32)  (μ : Mm) (z4 : Option Value) (z5 : Option Value) {Q : Option Value → Sh → Mm → Prop} (K : (Int32 × Int32) ⊕ Int32 → Prop) (hb : ∀ (s : (Int32 × Int32)) (z4 : Option Value) (z5 : Option Value), K (Sum.inl s) → Wp l SC d (0, 0) mX9_countLettersOf 4 [some (.ref v0), some (.int v1), some (.int s.1), some (.int s.2), z4, z5] [] μ Q) (he0 : ∀ (x : Int32) (z3 : Option Value) (z4 : Option Value) (z5 : Option Value), K (Sum.inr x) → Wp l SC d (0, 0) mX9_countLettersOf 37 [some (.ref v0), some (.int v1), some (.int x), z3, z4, z5] [] μ Q) {z : (Int32 × Int32) ⊕ Int32} (h : World_countLettersOf_j31 v0 v1 v2 v3 μ = some z) (hz : K z) : Wp l SC d (0, 0) mX9_countLettersOf 31 [some (.ref v0), some (.int v1), some (.int v2), some (.int v3), z4, z5] [] μ Q := by
  unfold World_countLettersOf_j31 at h
  refine wp_iinc (x := v3) (k0 := (nI 1)) (L2 := [some (.ref v0), some (.int v1), some (.int v2), some (.int (v3 + (nI 1))), z4, z5]) dX9_countLettersOf_31 rfl rfl (by decide) rfl rfl ?_
  refine wp_goto 4 dX9_countLettersOf_34 (by decide) ?_
  obtain rfl := some1 h
  exact hb (v2, (v3 + (nI 1))) _ _ hz
theorem ok_World_countLettersOf_l4 {l : Launch} {d : Nat} (hd : 1 ≤ d) (v0 : Nat) (t0 : sK SC v0 = 9) (v1 : Int32)  (v2 : Int32)  (v3 : Int32)  (μ : Mm) (z4 : Option Value) (z5 : Option Value) {Q : Option Value → Sh → Mm → Prop} (K : (Int32 × Int32) ⊕ Int32 → Prop) (hb : ∀ (s : (Int32 × Int32)) (z4 : Option Value) (z5 : Option Value), K (Sum.inl s) → Wp l SC d (0, 0) mX9_countLettersOf 4 [some (.ref v0), some (.int v1), some (.int s.1), some (.int s.2), z4, z5] [] μ Q) (he0 : ∀ (x : Int32) (z3 : Option Value) (z4 : Option Value) (z5 : Option Value), K (Sum.inr x) → Wp l SC d (0, 0) mX9_countLettersOf 37 [some (.ref v0), some (.int v1), some (.int x), z3, z4, z5] [] μ Q) {z : (Int32 × Int32) ⊕ Int32} (h : World_countLettersOf_l4 v0 v1 v2 v3 μ = some z) (hz : K z) : Wp l SC d (0, 0) mX9_countLettersOf 4 [some (.ref v0), some (.int v1), some (.int v2), some (.int v3), z4, z5] [] μ Q := by
  unfold World_countLettersOf_l4 at h
  refine wp_iload_n (x := v3) dX9_countLettersOf_4 rfl ?_
  refine wp_aload_n (x := v0) dX9_countLettersOf_5 rfl ?_
  refine wp_getR (v0 + 7) fl_X9_29 (by decide) rfl (kltC t0) t0 (ly9_3 t0).1 dX9_countLettersOf_6 ?_
  refine wp_getI fl_X9_102 (by decide) rfl (kltC (ly9_3 t0).2.1) (ly9_3 t0).2.1 dX9_countLettersOf_9 ?_
  refine wp_icmp_ge 37 dX9_countLettersOf_12 (by decide) (fun c1 => ?_) (fun c1 => ?_)
  · rw [if_pos c1] at h
    obtain rfl := some1 h
    exact he0 v2 _ _ _ hz
  · rw [if_neg c1] at h
    refine wp_aload_n (x := v0) dX9_countLettersOf_15 rfl ?_
    refine wp_getR (v0 + 7) fl_X9_29 (by decide) rfl (kltC t0) t0 (ly9_3 t0).1 dX9_countLettersOf_16 ?_
    refine wp_getR (v0 + 8) fl_X9_133 (by decide) rfl (kltC (ly9_3 t0).2.1) (ly9_3 t0).2.1 (ly2_0 (ly9_3 t0).2.1).1 dX9_countLettersOf_19 ?_
    refine wp_iload_n (x := v3) dX9_countLettersOf_22 rfl ?_
    obtain ⟨c1, h⟩ := chv_some h
    refine wp_ialde (kltC (ly2_0 (ly9_3 t0).2.1).2.1) (ly2_0 (ly9_3 t0).2.1).2.1 rfl c1 dX9_countLettersOf_23 ?_
    refine wp_iload_n (x := v1) dX9_countLettersOf_24 rfl ?_
    refine wp_icmp_ne 31 dX9_countLettersOf_25 (by decide) (fun c1 => ?_) (fun c1 => ?_)
    · rw [if_neg c1] at h
      exact ok_World_countLettersOf_j31 hd v0 t0 v1 v2 v3 μ _ _ K hb he0 h hz
    · rw [if_pos c1] at h
      refine wp_iinc (x := v2) (k0 := (nI 1)) (L2 := [some (.ref v0), some (.int v1), some (.int (v2 + (nI 1))), some (.int v3), z4, z5]) dX9_countLettersOf_28 rfl rfl (by decide) rfl rfl ?_
      exact ok_World_countLettersOf_j31 hd v0 t0 v1 (v2 + (nI 1)) v3 μ _ _ K hb he0 h hz
theorem okl_World_countLettersOf_l4 {l : Launch} {d : Nat} (hd : 1 ≤ d) (v0 : Nat) (t0 : sK SC v0 = 9) (v1 : Int32)  (μ : Mm) {Q : Option Value → Sh → Mm → Prop} (K : Int32 → Prop) (he0 : ∀ (x : Int32) (z3 : Option Value) (z4 : Option Value) (z5 : Option Value), K x → Wp l SC d (0, 0) mX9_countLettersOf 37 [some (.ref v0), some (.int v1), some (.int x), z3, z4, z5] [] μ Q) : ∀ (n : Nat) (s : (Int32 × Int32)) (y : Int32) (z4 : Option Value) (z5 : Option Value) , iter n (fun s => World_countLettersOf_l4 v0 v1 s.1 s.2 μ) s = some y → K y → Wp l SC d (0, 0) mX9_countLettersOf 4 [some (.ref v0), some (.int v1), some (.int s.1), some (.int s.2), z4, z5] [] μ Q := by
  intro n
  induction n with
  | zero => intro s y z4 z5 h; cases h
  | succ n ih =>
    intro s y z4 z5 h hK
    obtain ⟨z, hz, hn⟩ := iter_some h
    refine ok_World_countLettersOf_l4 hd v0 t0 v1 s.1 s.2 μ _ _ (fun z => nxt n (fun s => World_countLettersOf_l4 v0 v1 s.1 s.2 μ) z y) ?_ ?_ hz hn
    · intro s2 z4 z5 h2
      exact ih s2 y _ _ h2 hK
    · intro x z3 z4 z5 h2
      have h3 : x = y := h2
      subst h3
      exact he0 x _ _ _ hK
theorem ok_World_countLettersOf_j86 {l : Launch} {d : Nat} (hd : 1 ≤ d) (v0 : Nat) (t0 : sK SC v0 = 9) (v1 : Int32)  (v2 : Int32)  (v3 : Int32)  (v4 : Nat) (t4 : sK SC v4 = 2) (v5 : Int32)  (μ : Mm) {Q : Option Value → Sh → Mm → Prop} (K : (Int32 × Int32) ⊕ Int32 → Prop) (hb : ∀ (s : (Int32 × Int32)), K (Sum.inl s) → Wp l SC d (0, 0) mX9_countLettersOf 61 [some (.ref v0), some (.int v1), some (.int s.1), some (.int v3), some (.ref v4), some (.int s.2)] [] μ Q) (he0 : ∀ (x : Int32) (z4 : Option Value) (z5 : Option Value), K (Sum.inr x) → Wp l SC d (0, 0) mX9_countLettersOf 92 [some (.ref v0), some (.int v1), some (.int x), some (.int v3), z4, z5] [] μ Q) {z : (Int32 × Int32) ⊕ Int32} (h : World_countLettersOf_j86 v0 v1 v2 v3 v4 v5 μ = some z) (hz : K z) : Wp l SC d (0, 0) mX9_countLettersOf 86 [some (.ref v0), some (.int v1), some (.int v2), some (.int v3), some (.ref v4), some (.int v5)] [] μ Q := by
  unfold World_countLettersOf_j86 at h
  refine wp_iinc (x := v5) (k0 := (nI 1)) (L2 := [some (.ref v0), some (.int v1), some (.int v2), some (.int v3), some (.ref v4), some (.int (v5 + (nI 1)))]) dX9_countLettersOf_86 rfl rfl (by decide) rfl rfl ?_
  refine wp_goto 61 dX9_countLettersOf_89 (by decide) ?_
  obtain rfl := some1 h
  exact hb (v2, (v5 + (nI 1))) hz
theorem ok_World_countLettersOf_l61 {l : Launch} {d : Nat} (hd : 1 ≤ d) (v0 : Nat) (t0 : sK SC v0 = 9) (v1 : Int32)  (v2 : Int32)  (v3 : Int32)  (v4 : Nat) (t4 : sK SC v4 = 2) (v5 : Int32)  (μ : Mm) {Q : Option Value → Sh → Mm → Prop} (K : (Int32 × Int32) ⊕ Int32 → Prop) (hb : ∀ (s : (Int32 × Int32)), K (Sum.inl s) → Wp l SC d (0, 0) mX9_countLettersOf 61 [some (.ref v0), some (.int v1), some (.int s.1), some (.int v3), some (.ref v4), some (.int s.2)] [] μ Q) (he0 : ∀ (x : Int32) (z4 : Option Value) (z5 : Option Value), K (Sum.inr x) → Wp l SC d (0, 0) mX9_countLettersOf 92 [some (.ref v0), some (.int v1), some (.int x), some (.int v3), z4, z5] [] μ Q) {z : (Int32 × Int32) ⊕ Int32} (h : World_countLettersOf_l61 v0 v1 v2 v3 v4 v5 μ = some z) (hz : K z) : Wp l SC d (0, 0) mX9_countLettersOf 61 [some (.ref v0), some (.int v1), some (.int v2), some (.int v3), some (.ref v4), some (.int v5)] [] μ Q := by
  unfold World_countLettersOf_l61 at h
  refine wp_iload (x := v5) dX9_countLettersOf_61 rfl ?_
  refine wp_aload (x := v4) dX9_countLettersOf_63 rfl ?_
  refine wp_getI fl_X9_102 (by decide) rfl (kltC t4) t4 dX9_countLettersOf_65 ?_
  refine wp_icmp_ge 92 dX9_countLettersOf_68 (by decide) (fun c1 => ?_) (fun c1 => ?_)
  · rw [if_pos c1] at h
    obtain rfl := some1 h
    exact he0 v2 _ _ hz
  · rw [if_neg c1] at h
    refine wp_aload (x := v4) dX9_countLettersOf_71 rfl ?_
    refine wp_getR (v4 + 1) fl_X9_133 (by decide) rfl (kltC t4) t4 (ly2_0 t4).1 dX9_countLettersOf_73 ?_
    refine wp_iload (x := v5) dX9_countLettersOf_76 rfl ?_
    obtain ⟨c1, h⟩ := chv_some h
    refine wp_ialde (kltC (ly2_0 t4).2.1) (ly2_0 t4).2.1 rfl c1 dX9_countLettersOf_78 ?_
    refine wp_iload_n (x := v1) dX9_countLettersOf_79 rfl ?_
    refine wp_icmp_ne 86 dX9_countLettersOf_80 (by decide) (fun c1 => ?_) (fun c1 => ?_)
    · rw [if_neg c1] at h
      exact ok_World_countLettersOf_j86 hd v0 t0 v1 v2 v3 v4 t4 v5 μ K hb he0 h hz
    · rw [if_pos c1] at h
      refine wp_iinc (x := v2) (k0 := (nI 1)) (L2 := [some (.ref v0), some (.int v1), some (.int (v2 + (nI 1))), some (.int v3), some (.ref v4), some (.int v5)]) dX9_countLettersOf_83 rfl rfl (by decide) rfl rfl ?_
      exact ok_World_countLettersOf_j86 hd v0 t0 v1 (v2 + (nI 1)) v3 v4 t4 v5 μ K hb he0 h hz
theorem okl_World_countLettersOf_l61 {l : Launch} {d : Nat} (hd : 1 ≤ d) (v0 : Nat) (t0 : sK SC v0 = 9) (v1 : Int32)  (v3 : Int32)  (v4 : Nat) (t4 : sK SC v4 = 2) (μ : Mm) {Q : Option Value → Sh → Mm → Prop} (K : Int32 → Prop) (he0 : ∀ (x : Int32) (z4 : Option Value) (z5 : Option Value), K x → Wp l SC d (0, 0) mX9_countLettersOf 92 [some (.ref v0), some (.int v1), some (.int x), some (.int v3), z4, z5] [] μ Q) : ∀ (n : Nat) (s : (Int32 × Int32)) (y : Int32) , iter n (fun s => World_countLettersOf_l61 v0 v1 s.1 v3 v4 s.2 μ) s = some y → K y → Wp l SC d (0, 0) mX9_countLettersOf 61 [some (.ref v0), some (.int v1), some (.int s.1), some (.int v3), some (.ref v4), some (.int s.2)] [] μ Q := by
  intro n
  induction n with
  | zero => intro s y  h; cases h
  | succ n ih =>
    intro s y  h hK
    obtain ⟨z, hz, hn⟩ := iter_some h
    refine ok_World_countLettersOf_l61 hd v0 t0 v1 s.1 v3 v4 t4 s.2 μ (fun z => nxt n (fun s => World_countLettersOf_l61 v0 v1 s.1 v3 v4 s.2 μ) z y) ?_ ?_ hz hn
    · intro s2  h2
      exact ih s2 y h2 hK
    · intro x z4 z5 h2
      have h3 : x = y := h2
      subst h3
      exact he0 x _ _ hK
theorem ok_World_countLettersOf_l39 {l : Launch} {d : Nat} (hd : 1 ≤ d) (v0 : Nat) (t0 : sK SC v0 = 9) (v1 : Int32)  (v2 : Int32)  (v3 : Int32)  (μ : Mm) (z4 : Option Value) (z5 : Option Value) {Q : Option Value → Sh → Mm → Prop} (K : (Int32 × Int32) ⊕ Int32 → Prop) (hb : ∀ (s : (Int32 × Int32)) (z4 : Option Value) (z5 : Option Value), K (Sum.inl s) → Wp l SC d (0, 0) mX9_countLettersOf 39 [some (.ref v0), some (.int v1), some (.int s.1), some (.int s.2), z4, z5] [] μ Q) (he0 : ∀ (x : Int32) (z0 : Option Value) (z1 : Option Value) (z3 : Option Value) (z4 : Option Value) (z5 : Option Value), K (Sum.inr x) → Wp l SC d (0, 0) mX9_countLettersOf 98 [z0, z1, some (.int x), z3, z4, z5] [] μ Q) {z : (Int32 × Int32) ⊕ Int32} (h : World_countLettersOf_l39 v0 v1 v2 v3 μ = some z) (hz : K z) : Wp l SC d (0, 0) mX9_countLettersOf 39 [some (.ref v0), some (.int v1), some (.int v2), some (.int v3), z4, z5] [] μ Q := by
  unfold World_countLettersOf_l39 at h
  refine wp_iload_n (x := v3) dX9_countLettersOf_39 rfl ?_
  refine wp_aload_n (x := v0) dX9_countLettersOf_40 rfl ?_
  refine wp_getI fl_X9_48 (by decide) rfl (kltC t0) t0 dX9_countLettersOf_41 ?_
  refine wp_icmp_ge 98 dX9_countLettersOf_44 (by decide) (fun c1 => ?_) (fun c1 => ?_)
  · rw [if_pos c1] at h
    obtain rfl := some1 h
    exact he0 v2 _ _ _ _ _ hz
  · rw [if_neg c1] at h
    refine wp_aload_n (x := v0) dX9_countLettersOf_47 rfl ?_
    refine wp_getR (v0 + 1) fl_X9_11 (by decide) rfl (kltC t0) t0 (ly9_0 t0).1 dX9_countLettersOf_48 ?_
    refine wp_iload_n (x := v3) dX9_countLettersOf_51 rfl ?_
    obtain ⟨cp1, h⟩ := chv_some h
    refine wp_aald (v0 + (21 + 9 * ix v3)) (kltC (ly9_0 t0).2.1) (ly9_0 t0).2.1 (by decide) (by rw [(ly9_0 t0).2.2]; exact cp1) (lyP t0 cp1).1 dX9_countLettersOf_52 ?_
    refine wp_getR ((v0 + (21 + 9 * ix v3)) + 3) fl_X9_56 (by decide) rfl (kltC (lyP t0 cp1).2) (lyP t0 cp1).2 (ly3_2 (lyP t0 cp1).2).1 dX9_countLettersOf_53 ?_
    refine wp_astore (L2 := [some (.ref v0), some (.int v1), some (.int v2), some (.int v3), some (.ref ((v0 + (21 + 9 * ix v3)) + 3)), z5]) dX9_countLettersOf_56 (by decide) rfl rfl ?_
    refine wp_iconst (nI 0) dX9_countLettersOf_58 rfl ?_
    refine wp_istore (L2 := [some (.ref v0), some (.int v1), some (.int v2), some (.int v3), some (.ref ((v0 + (21 + 9 * ix v3)) + 3)), some (.int (nI 0))]) dX9_countLettersOf_59 (by decide) rfl rfl ?_
    obtain ⟨x61, hi, h⟩ := bni_some h
    refine okl_World_countLettersOf_l61 hd v0 t0 v1 v3 ((v0 + (21 + 9 * ix v3)) + 3) ((ly3_2 (lyP t0 cp1).2).2.1) μ (fun z => z = x61) ?_ 1000000 (v2, (nI 0)) x61 hi rfl
    · intro y0 z4 z5 e0
      have e0 : y0 = x61 := e0
      subst e0
      refine wp_iinc (x := v3) (k0 := (nI 1)) (L2 := [some (.ref v0), some (.int v1), some (.int y0), some (.int (v3 + (nI 1))), z4, z5]) dX9_countLettersOf_92 rfl rfl (by decide) rfl rfl ?_
      refine wp_goto 39 dX9_countLettersOf_95 (by decide) ?_
      obtain rfl := some1 h
      exact hb (y0, (v3 + (nI 1))) _ _ hz
theorem okl_World_countLettersOf_l39 {l : Launch} {d : Nat} (hd : 1 ≤ d) (v0 : Nat) (t0 : sK SC v0 = 9) (v1 : Int32)  (μ : Mm) {Q : Option Value → Sh → Mm → Prop} (K : Int32 → Prop) (he0 : ∀ (x : Int32) (z0 : Option Value) (z1 : Option Value) (z3 : Option Value) (z4 : Option Value) (z5 : Option Value), K x → Wp l SC d (0, 0) mX9_countLettersOf 98 [z0, z1, some (.int x), z3, z4, z5] [] μ Q) : ∀ (n : Nat) (s : (Int32 × Int32)) (y : Int32) (z4 : Option Value) (z5 : Option Value) , iter n (fun s => World_countLettersOf_l39 v0 v1 s.1 s.2 μ) s = some y → K y → Wp l SC d (0, 0) mX9_countLettersOf 39 [some (.ref v0), some (.int v1), some (.int s.1), some (.int s.2), z4, z5] [] μ Q := by
  intro n
  induction n with
  | zero => intro s y z4 z5 h; cases h
  | succ n ih =>
    intro s y z4 z5 h hK
    obtain ⟨z, hz, hn⟩ := iter_some h
    refine ok_World_countLettersOf_l39 hd v0 t0 v1 s.1 s.2 μ _ _ (fun z => nxt n (fun s => World_countLettersOf_l39 v0 v1 s.1 s.2 μ) z y) ?_ ?_ hz hn
    · intro s2 z4 z5 h2
      exact ih s2 y _ _ h2 hK
    · intro x z0 z1 z3 z4 z5 h2
      have h3 : x = y := h2
      subst h3
      exact he0 x _ _ _ _ _ hK
theorem ok_World_countLettersOf {l : Launch} {d : Nat} (hd : 1 ≤ d) (v0 : Nat) (t0 : sK SC v0 = 9) (v1 : Int32)  (μ : Mm) {r : Int32} (h : World_countLettersOf v0 v1 μ = some r) : Wp l SC d (0, 0) mX9_countLettersOf 0 [some (.ref v0), some (.int v1), none, none, none, none] [] μ (Qi SC r μ) := by
  unfold World_countLettersOf at h
  refine wp_iconst (nI 0) dX9_countLettersOf_0 rfl ?_
  refine wp_istore_n (L2 := [some (.ref v0), some (.int v1), some (.int (nI 0)), none, none, none]) dX9_countLettersOf_1 (by decide) rfl rfl ?_
  refine wp_iconst (nI 0) dX9_countLettersOf_2 rfl ?_
  refine wp_istore_n (L2 := [some (.ref v0), some (.int v1), some (.int (nI 0)), some (.int (nI 0)), none, none]) dX9_countLettersOf_3 (by decide) rfl rfl ?_
  obtain ⟨x4, hi, h⟩ := bni_some h
  refine okl_World_countLettersOf_l4 hd v0 t0 v1 μ (fun z => z = x4) ?_ 1000000 ((nI 0), (nI 0)) x4 _ _ hi rfl
  · intro y0 z3 z4 z5 e0
    have e0 : y0 = x4 := e0
    subst e0
    refine wp_iconst (nI 0) dX9_countLettersOf_37 rfl ?_
    refine wp_istore_n (L2 := [some (.ref v0), some (.int v1), some (.int y0), some (.int (nI 0)), z4, z5]) dX9_countLettersOf_38 (by decide) rfl rfl ?_
    obtain ⟨x39, hi, h⟩ := bni_some h
    refine okl_World_countLettersOf_l39 hd v0 t0 v1 μ (fun z => z = x39) ?_ 1000000 (y0, (nI 0)) x39 _ _ hi rfl
    · intro y0 z0 z1 z3 z4 z5 e0
      have e0 : y0 = x39 := e0
      subst e0
      refine wp_iload_n (x := y0) dX9_countLettersOf_98 rfl ?_
      obtain rfl := ret1 h
      exact wp_iret rfl dX9_countLettersOf_99 ⟨rfl, rfl, rfl⟩
theorem ok_World_isKnown_l2 {l : Launch} {d : Nat} (hd : 1 ≤ d) (v0 : Nat) (t0 : sK SC v0 = 9) (v1 : Int32)  (v2 : Int32)  (μ : Mm) {Q : Option Value → Sh → Mm → Prop} (K : Int32 ⊕ (Unit ⊕ Unit) → Prop) (hb : ∀ (s : Int32), K (Sum.inl s) → Wp l SC d (0, 0) mX9_isKnown 2 [some (.ref v0), some (.int v1), some (.int s)] [] μ Q) (he0 : ∀ (x : Unit) (z0 : Option Value) (z1 : Option Value) (z2 : Option Value), K (Sum.inr (Sum.inl x)) → Wp l SC d (0, 0) mX9_isKnown 28 [z0, z1, z2] [] μ Q) (he1 : ∀ (x : Unit) (z0 : Option Value) (z1 : Option Value) (z2 : Option Value), K (Sum.inr (Sum.inr x)) → Wp l SC d (0, 0) mX9_isKnown 36 [z0, z1, z2] [] μ Q) {z : Int32 ⊕ (Unit ⊕ Unit)} (h : World_isKnown_l2 v0 v1 v2 μ = some z) (hz : K z) : Wp l SC d (0, 0) mX9_isKnown 2 [some (.ref v0), some (.int v1), some (.int v2)] [] μ Q := by
  unfold World_isKnown_l2 at h
  refine wp_iload_n (x := v2) dX9_isKnown_2 rfl ?_
  refine wp_aload_n (x := v0) dX9_isKnown_3 rfl ?_
  refine wp_getI fl_X9_48 (by decide) rfl (kltC t0) t0 dX9_isKnown_4 ?_
  refine wp_icmp_ge 36 dX9_isKnown_7 (by decide) (fun c1 => ?_) (fun c1 => ?_)
  · rw [if_pos c1] at h
    obtain rfl := some1 h
    exact he1 () _ _ _ hz
  · rw [if_neg c1] at h
    refine wp_aload_n (x := v0) dX9_isKnown_10 rfl ?_
    refine wp_getR (v0 + 1) fl_X9_11 (by decide) rfl (kltC t0) t0 (ly9_0 t0).1 dX9_isKnown_11 ?_
    refine wp_iload_n (x := v2) dX9_isKnown_14 rfl ?_
    obtain ⟨cp1, h⟩ := chv_some h
    refine wp_aald (v0 + (21 + 9 * ix v2)) (kltC (ly9_0 t0).2.1) (ly9_0 t0).2.1 (by decide) (by rw [(ly9_0 t0).2.2]; exact cp1) (lyP t0 cp1).1 dX9_isKnown_15 ?_
    refine wp_getL fl_X9_73 (by decide) rfl (kltC (lyP t0 cp1).2) (lyP t0 cp1).2 dX9_isKnown_16 ?_
    refine wp_iload_n (x := v1) dX9_isKnown_19 rfl ?_
    refine wp_lshr dX9_isKnown_20 ?_
    refine wp_lconst 1 dX9_isKnown_21 rfl ?_
    refine wp_land dX9_isKnown_22 ?_
    refine wp_lconst 1 dX9_isKnown_23 rfl ?_
    refine wp_lcmp dX9_isKnown_24 ?_
    refine wp_if_ne 30 dX9_isKnown_25 (by decide) (fun c1 => ?_) (fun c1 => ?_)
    · rw [if_neg c1] at h
      refine wp_iinc (x := v2) (k0 := (nI 1)) (L2 := [some (.ref v0), some (.int v1), some (.int (v2 + (nI 1)))]) dX9_isKnown_30 rfl rfl (by decide) rfl rfl ?_
      refine wp_goto 2 dX9_isKnown_33 (by decide) ?_
      obtain rfl := some1 h
      exact hb (v2 + (nI 1)) hz
    · rw [if_pos c1] at h
      obtain rfl := some1 h
      exact he0 () _ _ _ hz
theorem okl_World_isKnown_l2 {l : Launch} {d : Nat} (hd : 1 ≤ d) (v0 : Nat) (t0 : sK SC v0 = 9) (v1 : Int32)  (μ : Mm) {Q : Option Value → Sh → Mm → Prop} (K : (Unit ⊕ Unit) → Prop) (he0 : ∀ (x : Unit) (z0 : Option Value) (z1 : Option Value) (z2 : Option Value), K (Sum.inl x) → Wp l SC d (0, 0) mX9_isKnown 28 [z0, z1, z2] [] μ Q) (he1 : ∀ (x : Unit) (z0 : Option Value) (z1 : Option Value) (z2 : Option Value), K (Sum.inr x) → Wp l SC d (0, 0) mX9_isKnown 36 [z0, z1, z2] [] μ Q) : ∀ (n : Nat) (s : Int32) (y : (Unit ⊕ Unit)) , iter n (fun s => World_isKnown_l2 v0 v1 s μ) s = some y → K y → Wp l SC d (0, 0) mX9_isKnown 2 [some (.ref v0), some (.int v1), some (.int s)] [] μ Q := by
  intro n
  induction n with
  | zero => intro s y  h; cases h
  | succ n ih =>
    intro s y  h hK
    obtain ⟨z, hz, hn⟩ := iter_some h
    refine ok_World_isKnown_l2 hd v0 t0 v1 s μ (fun z => nxt n (fun s => World_isKnown_l2 v0 v1 s μ) z y) ?_ ?_ ?_ hz hn
    · intro s2  h2
      exact ih s2 y h2 hK
    · intro x z0 z1 z2 h2
      have h3 : (Sum.inl x) = y := h2
      subst h3
      exact he0 x _ _ _ hK
    · intro x z0 z1 z2 h2
      have h3 : (Sum.inr x) = y := h2
      subst h3
      exact he1 x _ _ _ hK
theorem ok_World_isKnown {l : Launch} {d : Nat} (hd : 1 ≤ d) (v0 : Nat) (t0 : sK SC v0 = 9) (v1 : Int32)  (μ : Mm) {r : Int32} (h : World_isKnown v0 v1 μ = some r) : Wp l SC d (0, 0) mX9_isKnown 0 [some (.ref v0), some (.int v1), none] [] μ (Qi SC r μ) := by
  unfold World_isKnown at h
  refine wp_iconst (nI 0) dX9_isKnown_0 rfl ?_
  refine wp_istore_n (L2 := [some (.ref v0), some (.int v1), some (.int (nI 0))]) dX9_isKnown_1 (by decide) rfl rfl ?_
  obtain ⟨x2, hi, h⟩ := bni_some h
  refine okl_World_isKnown_l2 hd v0 t0 v1 μ (fun z => z = x2) ?_ ?_ 1000000 (nI 0) x2 hi rfl
  · intro x2a z0 z1 z2 e0
    have e0 : (Sum.inl x2a) = x2 := e0
    subst e0
    replace h := eL h
    refine wp_iconst (nI 1) dX9_isKnown_28 rfl ?_
    obtain rfl := ret1 h
    exact wp_zret rfl (Or.inr rfl) dX9_isKnown_29 ⟨rfl, rfl, rfl⟩
  · intro x2b z0 z1 z2 e0
    have e0 : (Sum.inr x2b) = x2 := e0
    subst e0
    replace h := eR h
    refine wp_iconst (nI 0) dX9_isKnown_36 rfl ?_
    obtain rfl := ret1 h
    exact wp_zret rfl (Or.inl rfl) dX9_isKnown_37 ⟨rfl, rfl, rfl⟩
theorem ok_World_countHeldWith_j59 {l : Launch} {d : Nat} (hd : 1 ≤ d) (v0 : Nat) (t0 : sK SC v0 = 9) (v1 : Int32)  (v2 : Int32)  (v3 : Int32)  (v4 : Nat) (t4 : sK SC v4 = 2) (v5 : Int32)  (μ : Mm) {Q : Option Value → Sh → Mm → Prop} (K : (Int32 × Int32) ⊕ Int32 → Prop) (hb : ∀ (s : (Int32 × Int32)), K (Sum.inl s) → Wp l SC d (0, 0) mX9_countHeldWith 26 [some (.ref v0), some (.int v1), some (.int s.1), some (.int v3), some (.ref v4), some (.int s.2)] [] μ Q) (he0 : ∀ (x : Int32) (z4 : Option Value) (z5 : Option Value), K (Sum.inr x) → Wp l SC d (0, 0) mX9_countHeldWith 65 [some (.ref v0), some (.int v1), some (.int x), some (.int v3), z4, z5] [] μ Q) {z : (Int32 × Int32) ⊕ Int32} (h : World_countHeldWith_j59 v0 v1 v2 v3 v4 v5 μ = some z) (hz : K z) : Wp l SC d (0, 0) mX9_countHeldWith 59 [some (.ref v0), some (.int v1), some (.int v2), some (.int v3), some (.ref v4), some (.int v5)] [] μ Q := by
  unfold World_countHeldWith_j59 at h
  refine wp_iinc (x := v5) (k0 := (nI 1)) (L2 := [some (.ref v0), some (.int v1), some (.int v2), some (.int v3), some (.ref v4), some (.int (v5 + (nI 1)))]) dX9_countHeldWith_59 rfl rfl (by decide) rfl rfl ?_
  refine wp_goto 26 dX9_countHeldWith_62 (by decide) ?_
  obtain rfl := some1 h
  exact hb (v2, (v5 + (nI 1))) hz
theorem ok_World_countHeldWith_l26 {l : Launch} {d : Nat} (hd : 1 ≤ d) (v0 : Nat) (t0 : sK SC v0 = 9) (v1 : Int32)  (v2 : Int32)  (v3 : Int32)  (v4 : Nat) (t4 : sK SC v4 = 2) (v5 : Int32)  (μ : Mm) {Q : Option Value → Sh → Mm → Prop} (K : (Int32 × Int32) ⊕ Int32 → Prop) (hb : ∀ (s : (Int32 × Int32)), K (Sum.inl s) → Wp l SC d (0, 0) mX9_countHeldWith 26 [some (.ref v0), some (.int v1), some (.int s.1), some (.int v3), some (.ref v4), some (.int s.2)] [] μ Q) (he0 : ∀ (x : Int32) (z4 : Option Value) (z5 : Option Value), K (Sum.inr x) → Wp l SC d (0, 0) mX9_countHeldWith 65 [some (.ref v0), some (.int v1), some (.int x), some (.int v3), z4, z5] [] μ Q) {z : (Int32 × Int32) ⊕ Int32} (h : World_countHeldWith_l26 v0 v1 v2 v3 v4 v5 μ = some z) (hz : K z) : Wp l SC d (0, 0) mX9_countHeldWith 26 [some (.ref v0), some (.int v1), some (.int v2), some (.int v3), some (.ref v4), some (.int v5)] [] μ Q := by
  unfold World_countHeldWith_l26 at h
  refine wp_iload (x := v5) dX9_countHeldWith_26 rfl ?_
  refine wp_aload (x := v4) dX9_countHeldWith_28 rfl ?_
  refine wp_getI fl_X9_102 (by decide) rfl (kltC t4) t4 dX9_countHeldWith_30 ?_
  refine wp_icmp_ge 65 dX9_countHeldWith_33 (by decide) (fun c1 => ?_) (fun c1 => ?_)
  · rw [if_pos c1] at h
    obtain rfl := some1 h
    exact he0 v2 _ _ hz
  · rw [if_neg c1] at h
    refine wp_aload_n (x := v0) dX9_countHeldWith_36 rfl ?_
    refine wp_getR (v0 + 2) fl_X9_20 (by decide) rfl (kltC t0) t0 (ly9_2 t0).1 dX9_countHeldWith_37 ?_
    refine wp_getR (v0 + 3) fl_X9_191 (by decide) rfl (kltC (ly9_2 t0).2.1) (ly9_2 t0).2.1 (ly8_0 (ly9_2 t0).2.1).1 dX9_countHeldWith_40 ?_
    refine wp_aload (x := v4) dX9_countHeldWith_43 rfl ?_
    refine wp_getR (v4 + 1) fl_X9_133 (by decide) rfl (kltC t4) t4 (ly2_0 t4).1 dX9_countHeldWith_45 ?_
    refine wp_iload (x := v5) dX9_countHeldWith_48 rfl ?_
    obtain ⟨c1, h⟩ := chv_some h
    refine wp_ialde (kltC (ly2_0 t4).2.1) (ly2_0 t4).2.1 rfl c1 dX9_countHeldWith_50 ?_
    obtain ⟨c1, h⟩ := chv_some h
    refine wp_ialde (kltC (ly8_0 (ly9_2 t0).2.1).2.1) (ly8_0 (ly9_2 t0).2.1).2.1 (ly8_0 (ly9_2 t0).2.1).2.2 c1 dX9_countHeldWith_51 ?_
    refine wp_iload_n (x := v1) dX9_countHeldWith_52 rfl ?_
    refine wp_icmp_ne 59 dX9_countHeldWith_53 (by decide) (fun c1 => ?_) (fun c1 => ?_)
    · rw [if_neg c1] at h
      exact ok_World_countHeldWith_j59 hd v0 t0 v1 v2 v3 v4 t4 v5 μ K hb he0 h hz
    · rw [if_pos c1] at h
      refine wp_iinc (x := v2) (k0 := (nI 1)) (L2 := [some (.ref v0), some (.int v1), some (.int (v2 + (nI 1))), some (.int v3), some (.ref v4), some (.int v5)]) dX9_countHeldWith_56 rfl rfl (by decide) rfl rfl ?_
      exact ok_World_countHeldWith_j59 hd v0 t0 v1 (v2 + (nI 1)) v3 v4 t4 v5 μ K hb he0 h hz
theorem okl_World_countHeldWith_l26 {l : Launch} {d : Nat} (hd : 1 ≤ d) (v0 : Nat) (t0 : sK SC v0 = 9) (v1 : Int32)  (v3 : Int32)  (v4 : Nat) (t4 : sK SC v4 = 2) (μ : Mm) {Q : Option Value → Sh → Mm → Prop} (K : Int32 → Prop) (he0 : ∀ (x : Int32) (z4 : Option Value) (z5 : Option Value), K x → Wp l SC d (0, 0) mX9_countHeldWith 65 [some (.ref v0), some (.int v1), some (.int x), some (.int v3), z4, z5] [] μ Q) : ∀ (n : Nat) (s : (Int32 × Int32)) (y : Int32) , iter n (fun s => World_countHeldWith_l26 v0 v1 s.1 v3 v4 s.2 μ) s = some y → K y → Wp l SC d (0, 0) mX9_countHeldWith 26 [some (.ref v0), some (.int v1), some (.int s.1), some (.int v3), some (.ref v4), some (.int s.2)] [] μ Q := by
  intro n
  induction n with
  | zero => intro s y  h; cases h
  | succ n ih =>
    intro s y  h hK
    obtain ⟨z, hz, hn⟩ := iter_some h
    refine ok_World_countHeldWith_l26 hd v0 t0 v1 s.1 v3 v4 t4 s.2 μ (fun z => nxt n (fun s => World_countHeldWith_l26 v0 v1 s.1 v3 v4 s.2 μ) z y) ?_ ?_ hz hn
    · intro s2  h2
      exact ih s2 y h2 hK
    · intro x z4 z5 h2
      have h3 : x = y := h2
      subst h3
      exact he0 x _ _ hK
theorem ok_World_countHeldWith_l4 {l : Launch} {d : Nat} (hd : 1 ≤ d) (v0 : Nat) (t0 : sK SC v0 = 9) (v1 : Int32)  (v2 : Int32)  (v3 : Int32)  (μ : Mm) (z4 : Option Value) (z5 : Option Value) {Q : Option Value → Sh → Mm → Prop} (K : (Int32 × Int32) ⊕ Int32 → Prop) (hb : ∀ (s : (Int32 × Int32)) (z4 : Option Value) (z5 : Option Value), K (Sum.inl s) → Wp l SC d (0, 0) mX9_countHeldWith 4 [some (.ref v0), some (.int v1), some (.int s.1), some (.int s.2), z4, z5] [] μ Q) (he0 : ∀ (x : Int32) (z0 : Option Value) (z1 : Option Value) (z3 : Option Value) (z4 : Option Value) (z5 : Option Value), K (Sum.inr x) → Wp l SC d (0, 0) mX9_countHeldWith 71 [z0, z1, some (.int x), z3, z4, z5] [] μ Q) {z : (Int32 × Int32) ⊕ Int32} (h : World_countHeldWith_l4 v0 v1 v2 v3 μ = some z) (hz : K z) : Wp l SC d (0, 0) mX9_countHeldWith 4 [some (.ref v0), some (.int v1), some (.int v2), some (.int v3), z4, z5] [] μ Q := by
  unfold World_countHeldWith_l4 at h
  refine wp_iload_n (x := v3) dX9_countHeldWith_4 rfl ?_
  refine wp_aload_n (x := v0) dX9_countHeldWith_5 rfl ?_
  refine wp_getI fl_X9_48 (by decide) rfl (kltC t0) t0 dX9_countHeldWith_6 ?_
  refine wp_icmp_ge 71 dX9_countHeldWith_9 (by decide) (fun c1 => ?_) (fun c1 => ?_)
  · rw [if_pos c1] at h
    obtain rfl := some1 h
    exact he0 v2 _ _ _ _ _ hz
  · rw [if_neg c1] at h
    refine wp_aload_n (x := v0) dX9_countHeldWith_12 rfl ?_
    refine wp_getR (v0 + 1) fl_X9_11 (by decide) rfl (kltC t0) t0 (ly9_0 t0).1 dX9_countHeldWith_13 ?_
    refine wp_iload_n (x := v3) dX9_countHeldWith_16 rfl ?_
    obtain ⟨cp1, h⟩ := chv_some h
    refine wp_aald (v0 + (21 + 9 * ix v3)) (kltC (ly9_0 t0).2.1) (ly9_0 t0).2.1 (by decide) (by rw [(ly9_0 t0).2.2]; exact cp1) (lyP t0 cp1).1 dX9_countHeldWith_17 ?_
    refine wp_getR ((v0 + (21 + 9 * ix v3)) + 3) fl_X9_56 (by decide) rfl (kltC (lyP t0 cp1).2) (lyP t0 cp1).2 (ly3_2 (lyP t0 cp1).2).1 dX9_countHeldWith_18 ?_
    refine wp_astore (L2 := [some (.ref v0), some (.int v1), some (.int v2), some (.int v3), some (.ref ((v0 + (21 + 9 * ix v3)) + 3)), z5]) dX9_countHeldWith_21 (by decide) rfl rfl ?_
    refine wp_iconst (nI 0) dX9_countHeldWith_23 rfl ?_
    refine wp_istore (L2 := [some (.ref v0), some (.int v1), some (.int v2), some (.int v3), some (.ref ((v0 + (21 + 9 * ix v3)) + 3)), some (.int (nI 0))]) dX9_countHeldWith_24 (by decide) rfl rfl ?_
    obtain ⟨x26, hi, h⟩ := bni_some h
    refine okl_World_countHeldWith_l26 hd v0 t0 v1 v3 ((v0 + (21 + 9 * ix v3)) + 3) ((ly3_2 (lyP t0 cp1).2).2.1) μ (fun z => z = x26) ?_ 1000000 (v2, (nI 0)) x26 hi rfl
    · intro y0 z4 z5 e0
      have e0 : y0 = x26 := e0
      subst e0
      refine wp_iinc (x := v3) (k0 := (nI 1)) (L2 := [some (.ref v0), some (.int v1), some (.int y0), some (.int (v3 + (nI 1))), z4, z5]) dX9_countHeldWith_65 rfl rfl (by decide) rfl rfl ?_
      refine wp_goto 4 dX9_countHeldWith_68 (by decide) ?_
      obtain rfl := some1 h
      exact hb (y0, (v3 + (nI 1))) _ _ hz
theorem okl_World_countHeldWith_l4 {l : Launch} {d : Nat} (hd : 1 ≤ d) (v0 : Nat) (t0 : sK SC v0 = 9) (v1 : Int32)  (μ : Mm) {Q : Option Value → Sh → Mm → Prop} (K : Int32 → Prop) (he0 : ∀ (x : Int32) (z0 : Option Value) (z1 : Option Value) (z3 : Option Value) (z4 : Option Value) (z5 : Option Value), K x → Wp l SC d (0, 0) mX9_countHeldWith 71 [z0, z1, some (.int x), z3, z4, z5] [] μ Q) : ∀ (n : Nat) (s : (Int32 × Int32)) (y : Int32) (z4 : Option Value) (z5 : Option Value) , iter n (fun s => World_countHeldWith_l4 v0 v1 s.1 s.2 μ) s = some y → K y → Wp l SC d (0, 0) mX9_countHeldWith 4 [some (.ref v0), some (.int v1), some (.int s.1), some (.int s.2), z4, z5] [] μ Q := by
  intro n
  induction n with
  | zero => intro s y z4 z5 h; cases h
  | succ n ih =>
    intro s y z4 z5 h hK
    obtain ⟨z, hz, hn⟩ := iter_some h
    refine ok_World_countHeldWith_l4 hd v0 t0 v1 s.1 s.2 μ _ _ (fun z => nxt n (fun s => World_countHeldWith_l4 v0 v1 s.1 s.2 μ) z y) ?_ ?_ hz hn
    · intro s2 z4 z5 h2
      exact ih s2 y _ _ h2 hK
    · intro x z0 z1 z3 z4 z5 h2
      have h3 : x = y := h2
      subst h3
      exact he0 x _ _ _ _ _ hK
theorem ok_World_countHeldWith {l : Launch} {d : Nat} (hd : 1 ≤ d) (v0 : Nat) (t0 : sK SC v0 = 9) (v1 : Int32)  (μ : Mm) {r : Int32} (h : World_countHeldWith v0 v1 μ = some r) : Wp l SC d (0, 0) mX9_countHeldWith 0 [some (.ref v0), some (.int v1), none, none, none, none] [] μ (Qi SC r μ) := by
  unfold World_countHeldWith at h
  refine wp_iconst (nI 0) dX9_countHeldWith_0 rfl ?_
  refine wp_istore_n (L2 := [some (.ref v0), some (.int v1), some (.int (nI 0)), none, none, none]) dX9_countHeldWith_1 (by decide) rfl rfl ?_
  refine wp_iconst (nI 0) dX9_countHeldWith_2 rfl ?_
  refine wp_istore_n (L2 := [some (.ref v0), some (.int v1), some (.int (nI 0)), some (.int (nI 0)), none, none]) dX9_countHeldWith_3 (by decide) rfl rfl ?_
  obtain ⟨x4, hi, h⟩ := bni_some h
  refine okl_World_countHeldWith_l4 hd v0 t0 v1 μ (fun z => z = x4) ?_ 1000000 ((nI 0), (nI 0)) x4 _ _ hi rfl
  · intro y0 z0 z1 z3 z4 z5 e0
    have e0 : y0 = x4 := e0
    subst e0
    refine wp_iload_n (x := y0) dX9_countHeldWith_71 rfl ?_
    obtain rfl := ret1 h
    exact wp_iret rfl dX9_countHeldWith_72 ⟨rfl, rfl, rfl⟩
theorem ok_World_commonestCurse_j30 {l : Launch} {d : Nat} (hd : 2 ≤ d) (v0 : Nat) (t0 : sK SC v0 = 9) (v1 : Int32)  (v2 : Int32)  (v3 : Int32)  (μ : Mm) (z4 : Option Value) {Q : Option Value → Sh → Mm → Prop} (K : (Int32 × Int32 × Int32) ⊕ Int32 → Prop) (hb : ∀ (s : (Int32 × Int32 × Int32)) (z4 : Option Value), K (Sum.inl s) → Wp l SC d (0, 0) mX9_commonestCurse 6 [some (.ref v0), some (.int s.1), some (.int s.2.1), some (.int s.2.2), z4] [] μ Q) (he0 : ∀ (x : Int32) (z0 : Option Value) (z2 : Option Value) (z3 : Option Value) (z4 : Option Value), K (Sum.inr x) → Wp l SC d (0, 0) mX9_commonestCurse 36 [z0, some (.int x), z2, z3, z4] [] μ Q) {z : (Int32 × Int32 × Int32) ⊕ Int32} (h : World_commonestCurse_j30 v0 v1 v2 v3 μ = some z) (hz : K z) : Wp l SC d (0, 0) mX9_commonestCurse 30 [some (.ref v0), some (.int v1), some (.int v2), some (.int v3), z4] [] μ Q := by
  unfold World_commonestCurse_j30 at h
  refine wp_iinc (x := v3) (k0 := (nI 1)) (L2 := [some (.ref v0), some (.int v1), some (.int v2), some (.int (v3 + (nI 1))), z4]) dX9_commonestCurse_30 rfl rfl (by decide) rfl rfl ?_
  refine wp_goto 6 dX9_commonestCurse_33 (by decide) ?_
  obtain rfl := some1 h
  exact hb (v1, v2, (v3 + (nI 1))) _ hz
theorem ok_World_commonestCurse_l6 {l : Launch} {d : Nat} (hd : 2 ≤ d) (v0 : Nat) (t0 : sK SC v0 = 9) (v1 : Int32)  (v2 : Int32)  (v3 : Int32)  (μ : Mm) (z4 : Option Value) {Q : Option Value → Sh → Mm → Prop} (K : (Int32 × Int32 × Int32) ⊕ Int32 → Prop) (hb : ∀ (s : (Int32 × Int32 × Int32)) (z4 : Option Value), K (Sum.inl s) → Wp l SC d (0, 0) mX9_commonestCurse 6 [some (.ref v0), some (.int s.1), some (.int s.2.1), some (.int s.2.2), z4] [] μ Q) (he0 : ∀ (x : Int32) (z0 : Option Value) (z2 : Option Value) (z3 : Option Value) (z4 : Option Value), K (Sum.inr x) → Wp l SC d (0, 0) mX9_commonestCurse 36 [z0, some (.int x), z2, z3, z4] [] μ Q) {z : (Int32 × Int32 × Int32) ⊕ Int32} (h : World_commonestCurse_l6 v0 v1 v2 v3 μ = some z) (hz : K z) : Wp l SC d (0, 0) mX9_commonestCurse 6 [some (.ref v0), some (.int v1), some (.int v2), some (.int v3), z4] [] μ Q := by
  unfold World_commonestCurse_l6 at h
  refine wp_iload_n (x := v3) dX9_commonestCurse_6 rfl ?_
  refine wp_bipush (nI 9) dX9_commonestCurse_7 rfl ?_
  refine wp_icmp_gt 36 dX9_commonestCurse_9 (by decide) (fun c1 => ?_) (fun c1 => ?_)
  · rw [if_pos c1] at h
    obtain rfl := some1 h
    exact he0 v1 _ _ _ _ hz
  · rw [if_neg c1] at h
    refine wp_aload_n (x := v0) dX9_commonestCurse_12 rfl ?_
    refine wp_iload_n (x := v3) dX9_commonestCurse_13 rfl ?_
    obtain ⟨r1, g1, h⟩ := bnd_some h
    refine wp_cVi (d := d - 1) (o := v0) cv_X9_235 (kltC t0) t0 (as := [.int v3]) (rest := []) dX9_commonestCurse_14 (by omega) cloC rfl rfl (Nat.le_of_ble_eq_true rfl) (Nat.le_of_ble_eq_true rfl) (ok_World_countHeldWith (by omega) v0 t0 v3 μ g1) ?_ rfl
    refine wp_istore (L2 := [some (.ref v0), some (.int v1), some (.int v2), some (.int v3), some (.int r1)]) dX9_commonestCurse_17 (by decide) rfl rfl ?_
    refine wp_iload (x := r1) dX9_commonestCurse_19 rfl ?_
    refine wp_iload_n (x := v2) dX9_commonestCurse_21 rfl ?_
    refine wp_icmp_le 30 dX9_commonestCurse_22 (by decide) (fun c1 => ?_) (fun c1 => ?_)
    · rw [if_pos c1] at h
      exact ok_World_commonestCurse_j30 hd v0 t0 v1 v2 v3 μ _ K hb he0 h hz
    · rw [if_neg c1] at h
      refine wp_iload_n (x := v3) dX9_commonestCurse_25 rfl ?_
      refine wp_istore_n (L2 := [some (.ref v0), some (.int v3), some (.int v2), some (.int v3), some (.int r1)]) dX9_commonestCurse_26 (by decide) rfl rfl ?_
      refine wp_iload (x := r1) dX9_commonestCurse_27 rfl ?_
      refine wp_istore_n (L2 := [some (.ref v0), some (.int v3), some (.int r1), some (.int v3), some (.int r1)]) dX9_commonestCurse_29 (by decide) rfl rfl ?_
      exact ok_World_commonestCurse_j30 hd v0 t0 v3 r1 v3 μ _ K hb he0 h hz
theorem okl_World_commonestCurse_l6 {l : Launch} {d : Nat} (hd : 2 ≤ d) (v0 : Nat) (t0 : sK SC v0 = 9) (μ : Mm) {Q : Option Value → Sh → Mm → Prop} (K : Int32 → Prop) (he0 : ∀ (x : Int32) (z0 : Option Value) (z2 : Option Value) (z3 : Option Value) (z4 : Option Value), K x → Wp l SC d (0, 0) mX9_commonestCurse 36 [z0, some (.int x), z2, z3, z4] [] μ Q) : ∀ (n : Nat) (s : (Int32 × Int32 × Int32)) (y : Int32) (z4 : Option Value) , iter n (fun s => World_commonestCurse_l6 v0 s.1 s.2.1 s.2.2 μ) s = some y → K y → Wp l SC d (0, 0) mX9_commonestCurse 6 [some (.ref v0), some (.int s.1), some (.int s.2.1), some (.int s.2.2), z4] [] μ Q := by
  intro n
  induction n with
  | zero => intro s y z4 h; cases h
  | succ n ih =>
    intro s y z4 h hK
    obtain ⟨z, hz, hn⟩ := iter_some h
    refine ok_World_commonestCurse_l6 hd v0 t0 s.1 s.2.1 s.2.2 μ _ (fun z => nxt n (fun s => World_commonestCurse_l6 v0 s.1 s.2.1 s.2.2 μ) z y) ?_ ?_ hz hn
    · intro s2 z4 h2
      exact ih s2 y _ h2 hK
    · intro x z0 z2 z3 z4 h2
      have h3 : x = y := h2
      subst h3
      exact he0 x _ _ _ _ hK
theorem ok_World_commonestCurse {l : Launch} {d : Nat} (hd : 2 ≤ d) (v0 : Nat) (t0 : sK SC v0 = 9) (μ : Mm) {r : Int32} (h : World_commonestCurse v0 μ = some r) : Wp l SC d (0, 0) mX9_commonestCurse 0 [some (.ref v0), none, none, none, none] [] μ (Qi SC r μ) := by
  unfold World_commonestCurse at h
  refine wp_iconst (-1) dX9_commonestCurse_0 rfl ?_
  refine wp_istore_n (L2 := [some (.ref v0), some (.int (-1)), none, none, none]) dX9_commonestCurse_1 (by decide) rfl rfl ?_
  refine wp_iconst (nI 0) dX9_commonestCurse_2 rfl ?_
  refine wp_istore_n (L2 := [some (.ref v0), some (.int (-1)), some (.int (nI 0)), none, none]) dX9_commonestCurse_3 (by decide) rfl rfl ?_
  refine wp_iconst (nI 0) dX9_commonestCurse_4 rfl ?_
  refine wp_istore_n (L2 := [some (.ref v0), some (.int (-1)), some (.int (nI 0)), some (.int (nI 0)), none]) dX9_commonestCurse_5 (by decide) rfl rfl ?_
  obtain ⟨x6, hi, h⟩ := bni_some h
  refine okl_World_commonestCurse_l6 hd v0 t0 μ (fun z => z = x6) ?_ 1000000 ((-1), (nI 0), (nI 0)) x6 _ hi rfl
  · intro y0 z0 z2 z3 z4 e0
    have e0 : y0 = x6 := e0
    subst e0
    refine wp_iload_n (x := y0) dX9_commonestCurse_36 rfl ?_
    obtain rfl := ret1 h
    exact wp_iret rfl dX9_commonestCurse_37 ⟨rfl, rfl, rfl⟩
theorem ok_World_reachedFrom_j80 {l : Launch} {d : Nat} (hd : 2 ≤ d) (v0 : Nat) (t0 : sK SC v0 = 9) (v2 : Int32)  (v3 : Int32)  (v4 : Int32)  (v5 : Int32)  (v6 : Int32)  (v7 : Int32)  (μ : Mm) (z1 : Option Value) {Q : Option Value → Sh → Mm → Prop} (K : (Int32 × Int32) ⊕ Int32 → Prop) (hb : ∀ (s : (Int32 × Int32)) (z1 : Option Value), K (Sum.inl s) → Wp l SC d (0, 0) mX9_reachedFrom 33 [some (.ref v0), z1, some (.int v2), some (.int v3), some (.int v4), some (.int v5), some (.int s.1), some (.int s.2)] [] μ Q) (he0 : ∀ (x : Int32) (z1 : Option Value) (z4 : Option Value) (z7 : Option Value), K (Sum.inr x) → Wp l SC d (0, 0) mX9_reachedFrom 86 [some (.ref v0), z1, some (.int v2), some (.int v3), z4, some (.int v5), some (.int x), z7] [] μ Q) {z : (Int32 × Int32) ⊕ Int32} (h : World_reachedFrom_j80 v0 v2 v3 v4 v5 v6 v7 μ = some z) (hz : K z) : Wp l SC d (0, 0) mX9_reachedFrom 80 [some (.ref v0), z1, some (.int v2), some (.int v3), some (.int v4), some (.int v5), some (.int v6), some (.int v7)] [] μ Q := by
  unfold World_reachedFrom_j80 at h
  refine wp_iinc (x := v7) (k0 := (nI 1)) (L2 := [some (.ref v0), z1, some (.int v2), some (.int v3), some (.int v4), some (.int v5), some (.int v6), some (.int (v7 + (nI 1)))]) dX9_reachedFrom_80 rfl rfl (by decide) rfl rfl ?_
  refine wp_goto 33 dX9_reachedFrom_83 (by decide) ?_
  obtain rfl := some1 h
  exact hb (v6, (v7 + (nI 1))) _ hz
theorem ok_World_reachedFrom_l33 {l : Launch} {d : Nat} (hd : 2 ≤ d) (v0 : Nat) (t0 : sK SC v0 = 9) (v2 : Int32)  (v3 : Int32)  (v4 : Int32)  (v5 : Int32)  (v6 : Int32)  (v7 : Int32)  (μ : Mm) (z1 : Option Value) {Q : Option Value → Sh → Mm → Prop} (K : (Int32 × Int32) ⊕ Int32 → Prop) (hb : ∀ (s : (Int32 × Int32)) (z1 : Option Value), K (Sum.inl s) → Wp l SC d (0, 0) mX9_reachedFrom 33 [some (.ref v0), z1, some (.int v2), some (.int v3), some (.int v4), some (.int v5), some (.int s.1), some (.int s.2)] [] μ Q) (he0 : ∀ (x : Int32) (z1 : Option Value) (z4 : Option Value) (z7 : Option Value), K (Sum.inr x) → Wp l SC d (0, 0) mX9_reachedFrom 86 [some (.ref v0), z1, some (.int v2), some (.int v3), z4, some (.int v5), some (.int x), z7] [] μ Q) {z : (Int32 × Int32) ⊕ Int32} (h : World_reachedFrom_l33 v0 v2 v3 v4 v5 v6 v7 μ = some z) (hz : K z) : Wp l SC d (0, 0) mX9_reachedFrom 33 [some (.ref v0), z1, some (.int v2), some (.int v3), some (.int v4), some (.int v5), some (.int v6), some (.int v7)] [] μ Q := by
  unfold World_reachedFrom_l33 at h
  refine wp_iload (x := v7) dX9_reachedFrom_33 rfl ?_
  refine wp_aload_n (x := v0) dX9_reachedFrom_35 rfl ?_
  refine wp_getI fl_X9_48 (by decide) rfl (kltC t0) t0 dX9_reachedFrom_36 ?_
  refine wp_icmp_ge 86 dX9_reachedFrom_39 (by decide) (fun c1 => ?_) (fun c1 => ?_)
  · rw [if_pos c1] at h
    obtain rfl := some1 h
    exact he0 v6 _ _ _ hz
  · rw [if_neg c1] at h
    refine wp_iload (x := v4) dX9_reachedFrom_42 rfl ?_
    refine wp_iload (x := v7) dX9_reachedFrom_44 rfl ?_
    obtain ⟨r3, g1, h⟩ := bnd_some h
    refine wp_cNi (d := d - 1) cs_X9_123 (as := [.int v4, .int v7]) (rest := []) dX9_reachedFrom_46 (by omega) cloC rfl rfl (Nat.le_of_ble_eq_true rfl) (Nat.le_of_ble_eq_true rfl) (ok_Nine_hasBit (by omega) v4 v7 μ g1) ?_ rfl
    refine wp_if_eq 80 dX9_reachedFrom_49 (by decide) (fun c1 => ?_) (fun c1 => ?_)
    · rw [if_pos c1] at h
      exact ok_World_reachedFrom_j80 hd v0 t0 v2 v3 v4 v5 v6 v7 μ _ K hb he0 h hz
    · rw [if_neg c1] at h
      refine wp_aload_n (x := v0) dX9_reachedFrom_52 rfl ?_
      refine wp_getR (v0 + 1) fl_X9_11 (by decide) rfl (kltC t0) t0 (ly9_0 t0).1 dX9_reachedFrom_53 ?_
      refine wp_iload (x := v7) dX9_reachedFrom_56 rfl ?_
      obtain ⟨cp4, h⟩ := chv_some h
      refine wp_aald (v0 + (21 + 9 * ix v7)) (kltC (ly9_0 t0).2.1) (ly9_0 t0).2.1 (by decide) (by rw [(ly9_0 t0).2.2]; exact cp4) (lyP t0 cp4).1 dX9_reachedFrom_58 ?_
      obtain ⟨r5, g1, h⟩ := bnd_some h
      refine wp_cVi (d := d - 1) (o := (v0 + (21 + 9 * ix v7))) cv_X9_238 (kltC (lyP t0 cp4).2) (lyP t0 cp4).2 (as := []) (rest := []) dX9_reachedFrom_59 (by omega) cloC rfl rfl (Nat.le_of_ble_eq_true rfl) (Nat.le_of_ble_eq_true rfl) (ok_Person_passesOn (by omega) (v0 + (21 + 9 * ix v7)) ((lyP t0 cp4).2) μ g1) ?_ rfl
      refine wp_if_eq 80 dX9_reachedFrom_62 (by decide) (fun c1 => ?_) (fun c1 => ?_)
      · rw [if_pos c1] at h
        exact ok_World_reachedFrom_j80 hd v0 t0 v2 v3 v4 v5 v6 v7 μ _ K hb he0 h hz
      · rw [if_neg c1] at h
        refine wp_iload (x := v6) dX9_reachedFrom_65 rfl ?_
        refine wp_aload_n (x := v0) dX9_reachedFrom_67 rfl ?_
        refine wp_getR (v0 + 1) fl_X9_11 (by decide) rfl (kltC t0) t0 (ly9_0 t0).1 dX9_reachedFrom_68 ?_
        refine wp_iload (x := v7) dX9_reachedFrom_71 rfl ?_
        obtain ⟨cp6, h⟩ := chv_some h
        refine wp_aald (v0 + (21 + 9 * ix v7)) (kltC (ly9_0 t0).2.1) (ly9_0 t0).2.1 (by decide) (by rw [(ly9_0 t0).2.2]; exact cp6) (lyP t0 cp6).1 dX9_reachedFrom_73 ?_
        obtain ⟨r7, g1, h⟩ := bnd_some h
        refine wp_cVi (d := d - 1) (o := (v0 + (21 + 9 * ix v7))) cv_X9_232 (kltC (lyP t0 cp6).2) (lyP t0 cp6).2 (as := []) (rest := [.int v6]) dX9_reachedFrom_74 (by omega) cloC rfl rfl (Nat.le_of_ble_eq_true rfl) (Nat.le_of_ble_eq_true rfl) (ok_Person_rowSet (by omega) (v0 + (21 + 9 * ix v7)) ((lyP t0 cp6).2) μ g1) ?_ rfl
        refine wp_ior dX9_reachedFrom_77 ?_
        refine wp_istore (L2 := [some (.ref v0), z1, some (.int v2), some (.int v3), some (.int v4), some (.int v5), some (.int (v6 ||| r7)), some (.int v7)]) dX9_reachedFrom_78 (by decide) rfl rfl ?_
        exact ok_World_reachedFrom_j80 hd v0 t0 v2 v3 v4 v5 (v6 ||| r7) v7 μ _ K hb he0 h hz
theorem okl_World_reachedFrom_l33 {l : Launch} {d : Nat} (hd : 2 ≤ d) (v0 : Nat) (t0 : sK SC v0 = 9) (v2 : Int32)  (v3 : Int32)  (v4 : Int32)  (v5 : Int32)  (μ : Mm) {Q : Option Value → Sh → Mm → Prop} (K : Int32 → Prop) (he0 : ∀ (x : Int32) (z1 : Option Value) (z4 : Option Value) (z7 : Option Value), K x → Wp l SC d (0, 0) mX9_reachedFrom 86 [some (.ref v0), z1, some (.int v2), some (.int v3), z4, some (.int v5), some (.int x), z7] [] μ Q) : ∀ (n : Nat) (s : (Int32 × Int32)) (y : Int32) (z1 : Option Value) , iter n (fun s => World_reachedFrom_l33 v0 v2 v3 v4 v5 s.1 s.2 μ) s = some y → K y → Wp l SC d (0, 0) mX9_reachedFrom 33 [some (.ref v0), z1, some (.int v2), some (.int v3), some (.int v4), some (.int v5), some (.int s.1), some (.int s.2)] [] μ Q := by
  intro n
  induction n with
  | zero => intro s y z1 h; cases h
  | succ n ih =>
    intro s y z1 h hK
    obtain ⟨z, hz, hn⟩ := iter_some h
    refine ok_World_reachedFrom_l33 hd v0 t0 v2 v3 v4 v5 s.1 s.2 μ _ (fun z => nxt n (fun s => World_reachedFrom_l33 v0 v2 v3 v4 v5 s.1 s.2 μ) z y) ?_ ?_ hz hn
    · intro s2 z1 h2
      exact ih s2 y _ h2 hK
    · intro x z1 z4 z7 h2
      have h3 : x = y := h2
      subst h3
      exact he0 x _ _ _ hK
theorem ok_World_reachedFrom_l16 {l : Launch} {d : Nat} (hd : 2 ≤ d) (v0 : Nat) (t0 : sK SC v0 = 9) (v2 : Int32)  (v3 : Int32)  (v4 : Int32)  (v5 : Int32)  (μ : Mm) (z1 : Option Value) (z6 : Option Value) (z7 : Option Value) {Q : Option Value → Sh → Mm → Prop} (K : (Int32 × Int32 × Int32) ⊕ Int32 → Prop) (hb : ∀ (s : (Int32 × Int32 × Int32)) (z1 : Option Value) (z6 : Option Value) (z7 : Option Value), K (Sum.inl s) → Wp l SC d (0, 0) mX9_reachedFrom 16 [some (.ref v0), z1, some (.int v2), some (.int s.1), some (.int s.2.1), some (.int s.2.2), z6, z7] [] μ Q) (he0 : ∀ (x : Int32) (z0 : Option Value) (z1 : Option Value) (z2 : Option Value) (z4 : Option Value) (z5 : Option Value) (z6 : Option Value) (z7 : Option Value), K (Sum.inr x) → Wp l SC d (0, 0) mX9_reachedFrom 105 [z0, z1, z2, some (.int x), z4, z5, z6, z7] [] μ Q) {z : (Int32 × Int32 × Int32) ⊕ Int32} (h : World_reachedFrom_l16 v0 v2 v3 v4 v5 μ = some z) (hz : K z) : Wp l SC d (0, 0) mX9_reachedFrom 16 [some (.ref v0), z1, some (.int v2), some (.int v3), some (.int v4), some (.int v5), z6, z7] [] μ Q := by
  unfold World_reachedFrom_l16 at h
  refine wp_iload (x := v5) dX9_reachedFrom_16 rfl ?_
  refine wp_iload_n (x := v2) dX9_reachedFrom_18 rfl ?_
  refine wp_icmp_ge 105 dX9_reachedFrom_19 (by decide) (fun c1 => ?_) (fun c1 => ?_)
  · rw [if_pos c1] at h
    obtain rfl := some1 h
    exact he0 v3 _ _ _ _ _ _ _ hz
  · rw [if_neg c1] at h
    refine wp_iload (x := v4) dX9_reachedFrom_22 rfl ?_
    refine wp_if_eq 105 dX9_reachedFrom_24 (by decide) (fun c1 => ?_) (fun c1 => ?_)
    · rw [if_pos c1] at h
      obtain rfl := some1 h
      exact he0 v3 _ _ _ _ _ _ _ hz
    · rw [if_neg c1] at h
      refine wp_iconst (nI 0) dX9_reachedFrom_27 rfl ?_
      refine wp_istore (L2 := [some (.ref v0), z1, some (.int v2), some (.int v3), some (.int v4), some (.int v5), some (.int (nI 0)), z7]) dX9_reachedFrom_28 (by decide) rfl rfl ?_
      refine wp_iconst (nI 0) dX9_reachedFrom_30 rfl ?_
      refine wp_istore (L2 := [some (.ref v0), z1, some (.int v2), some (.int v3), some (.int v4), some (.int v5), some (.int (nI 0)), some (.int (nI 0))]) dX9_reachedFrom_31 (by decide) rfl rfl ?_
      obtain ⟨x33, hi, h⟩ := bni_some h
      refine okl_World_reachedFrom_l33 hd v0 t0 v2 v3 v4 v5 μ (fun z => z = x33) ?_ 1000000 ((nI 0), (nI 0)) x33 _ hi rfl
      · intro y0 z1 z4 z7 e0
        have e0 : y0 = x33 := e0
        subst e0
        refine wp_iload (x := y0) dX9_reachedFrom_86 rfl ?_
        refine wp_iload_n (x := v3) dX9_reachedFrom_88 rfl ?_
        refine wp_iconst (-1) dX9_reachedFrom_89 rfl ?_
        refine wp_ixor dX9_reachedFrom_90 ?_
        refine wp_iand dX9_reachedFrom_91 ?_
        refine wp_istore (L2 := [some (.ref v0), z1, some (.int v2), some (.int v3), some (.int (y0 &&& (v3 ^^^ (-1)))), some (.int v5), some (.int y0), z7]) dX9_reachedFrom_92 (by decide) rfl rfl ?_
        refine wp_iload_n (x := v3) dX9_reachedFrom_94 rfl ?_
        refine wp_iload (x := y0) dX9_reachedFrom_95 rfl ?_
        refine wp_ior dX9_reachedFrom_97 ?_
        refine wp_istore_n (L2 := [some (.ref v0), z1, some (.int v2), some (.int (v3 ||| y0)), some (.int (y0 &&& (v3 ^^^ (-1)))), some (.int v5), some (.int y0), z7]) dX9_reachedFrom_98 (by decide) rfl rfl ?_
        refine wp_iinc (x := v5) (k0 := (nI 1)) (L2 := [some (.ref v0), z1, some (.int v2), some (.int (v3 ||| y0)), some (.int (y0 &&& (v3 ^^^ (-1)))), some (.int (v5 + (nI 1))), some (.int y0), z7]) dX9_reachedFrom_99 rfl rfl (by decide) rfl rfl ?_
        refine wp_goto 16 dX9_reachedFrom_102 (by decide) ?_
        obtain rfl := some1 h
        exact hb ((v3 ||| y0), (y0 &&& (v3 ^^^ (-1))), (v5 + (nI 1))) _ _ _ hz
theorem okl_World_reachedFrom_l16 {l : Launch} {d : Nat} (hd : 2 ≤ d) (v0 : Nat) (t0 : sK SC v0 = 9) (v2 : Int32)  (μ : Mm) {Q : Option Value → Sh → Mm → Prop} (K : Int32 → Prop) (he0 : ∀ (x : Int32) (z0 : Option Value) (z1 : Option Value) (z2 : Option Value) (z4 : Option Value) (z5 : Option Value) (z6 : Option Value) (z7 : Option Value), K x → Wp l SC d (0, 0) mX9_reachedFrom 105 [z0, z1, z2, some (.int x), z4, z5, z6, z7] [] μ Q) : ∀ (n : Nat) (s : (Int32 × Int32 × Int32)) (y : Int32) (z1 : Option Value) (z6 : Option Value) (z7 : Option Value) , iter n (fun s => World_reachedFrom_l16 v0 v2 s.1 s.2.1 s.2.2 μ) s = some y → K y → Wp l SC d (0, 0) mX9_reachedFrom 16 [some (.ref v0), z1, some (.int v2), some (.int s.1), some (.int s.2.1), some (.int s.2.2), z6, z7] [] μ Q := by
  intro n
  induction n with
  | zero => intro s y z1 z6 z7 h; cases h
  | succ n ih =>
    intro s y z1 z6 z7 h hK
    obtain ⟨z, hz, hn⟩ := iter_some h
    refine ok_World_reachedFrom_l16 hd v0 t0 v2 s.1 s.2.1 s.2.2 μ _ _ _ (fun z => nxt n (fun s => World_reachedFrom_l16 v0 v2 s.1 s.2.1 s.2.2 μ) z y) ?_ ?_ hz hn
    · intro s2 z1 z6 z7 h2
      exact ih s2 y _ _ _ h2 hK
    · intro x z0 z1 z2 z4 z5 z6 z7 h2
      have h3 : x = y := h2
      subst h3
      exact he0 x _ _ _ _ _ _ _ hK
theorem ok_World_reachedFrom {l : Launch} {d : Nat} (hd : 2 ≤ d) (v0 : Nat) (t0 : sK SC v0 = 9) (v1 : Int32)  (v2 : Int32)  (μ : Mm) {r : Int32} (h : World_reachedFrom v0 v1 v2 μ = some r) : Wp l SC d (0, 0) mX9_reachedFrom 0 [some (.ref v0), some (.int v1), some (.int v2), none, none, none, none, none] [] μ (Qi SC r μ) := by
  unfold World_reachedFrom at h
  refine wp_aload_n (x := v0) dX9_reachedFrom_0 rfl ?_
  refine wp_getR (v0 + 1) fl_X9_11 (by decide) rfl (kltC t0) t0 (ly9_0 t0).1 dX9_reachedFrom_1 ?_
  refine wp_iload_n (x := v1) dX9_reachedFrom_4 rfl ?_
  obtain ⟨cp1, h⟩ := chv_some h
  refine wp_aald (v0 + (21 + 9 * ix v1)) (kltC (ly9_0 t0).2.1) (ly9_0 t0).2.1 (by decide) (by rw [(ly9_0 t0).2.2]; exact cp1) (lyP t0 cp1).1 dX9_reachedFrom_5 ?_
  obtain ⟨r2, g1, h⟩ := bnd_some h
  refine wp_cVi (d := d - 1) (o := (v0 + (21 + 9 * ix v1))) cv_X9_232 (kltC (lyP t0 cp1).2) (lyP t0 cp1).2 (as := []) (rest := []) dX9_reachedFrom_6 (by omega) cloC rfl rfl (Nat.le_of_ble_eq_true rfl) (Nat.le_of_ble_eq_true rfl) (ok_Person_rowSet (by omega) (v0 + (21 + 9 * ix v1)) ((lyP t0 cp1).2) μ g1) ?_ rfl
  refine wp_istore_n (L2 := [some (.ref v0), some (.int v1), some (.int v2), some (.int r2), none, none, none, none]) dX9_reachedFrom_9 (by decide) rfl rfl ?_
  refine wp_iload_n (x := r2) dX9_reachedFrom_10 rfl ?_
  refine wp_istore (L2 := [some (.ref v0), some (.int v1), some (.int v2), some (.int r2), some (.int r2), none, none, none]) dX9_reachedFrom_11 (by decide) rfl rfl ?_
  refine wp_iconst (nI 1) dX9_reachedFrom_13 rfl ?_
  refine wp_istore (L2 := [some (.ref v0), some (.int v1), some (.int v2), some (.int r2), some (.int r2), some (.int (nI 1)), none, none]) dX9_reachedFrom_14 (by decide) rfl rfl ?_
  obtain ⟨x16, hi, h⟩ := bni_some h
  refine okl_World_reachedFrom_l16 hd v0 t0 v2 μ (fun z => z = x16) ?_ 1000000 (r2, r2, (nI 1)) x16 _ _ _ hi rfl
  · intro y0 z0 z1 z2 z4 z5 z6 z7 e0
    have e0 : y0 = x16 := e0
    subst e0
    refine wp_iload_n (x := y0) dX9_reachedFrom_105 rfl ?_
    obtain rfl := ret1 h
    exact wp_iret rfl dX9_reachedFrom_106 ⟨rfl, rfl, rfl⟩
theorem ok_World_copyFrom_l2 {l : Launch} {d : Nat} (hd : 4 ≤ d) (v0 : Nat) (t0 : sK SC v0 = 9) (v1 : Nat) (t1 : sK SC v1 = 9) (v2 : Int32)  (μ : Mm) {Q : Option Value → Sh → Mm → Prop} (K : (Int32 × Mm) ⊕ Mm → Prop) (hb : ∀ (s : (Int32 × Mm)), K (Sum.inl s) → Wp l SC d (0, 0) mX9_copyFrom 2 [some (.ref v0), some (.ref v1), some (.int s.1)] [] s.2 Q) (he0 : ∀ (x : Mm) (z2 : Option Value), K (Sum.inr x) → Wp l SC d (0, 0) mX9_copyFrom 31 [some (.ref v0), some (.ref v1), z2] [] x Q) {z : (Int32 × Mm) ⊕ Mm} (h : World_copyFrom_l2 v0 v1 v2 μ = some z) (hz : K z) : Wp l SC d (0, 0) mX9_copyFrom 2 [some (.ref v0), some (.ref v1), some (.int v2)] [] μ Q := by
  unfold World_copyFrom_l2 at h
  refine wp_iload_n (x := v2) dX9_copyFrom_2 rfl ?_
  refine wp_aload_n (x := v1) dX9_copyFrom_3 rfl ?_
  refine wp_getI fl_X9_48 (by decide) rfl (kltC t1) t1 dX9_copyFrom_4 ?_
  refine wp_icmp_ge 31 dX9_copyFrom_7 (by decide) (fun c1 => ?_) (fun c1 => ?_)
  · rw [if_pos c1] at h
    obtain rfl := some1 h
    exact he0 μ _ hz
  · rw [if_neg c1] at h
    refine wp_aload_n (x := v0) dX9_copyFrom_10 rfl ?_
    refine wp_getR (v0 + 1) fl_X9_11 (by decide) rfl (kltC t0) t0 (ly9_0 t0).1 dX9_copyFrom_11 ?_
    refine wp_iload_n (x := v2) dX9_copyFrom_14 rfl ?_
    obtain ⟨cp1, h⟩ := chv_some h
    refine wp_aald (v0 + (21 + 9 * ix v2)) (kltC (ly9_0 t0).2.1) (ly9_0 t0).2.1 (by decide) (by rw [(ly9_0 t0).2.2]; exact cp1) (lyP t0 cp1).1 dX9_copyFrom_15 ?_
    refine wp_aload_n (x := v1) dX9_copyFrom_16 rfl ?_
    refine wp_getR (v1 + 1) fl_X9_11 (by decide) rfl (kltC t1) t1 (ly9_0 t1).1 dX9_copyFrom_17 ?_
    refine wp_iload_n (x := v2) dX9_copyFrom_20 rfl ?_
    obtain ⟨cp2, h⟩ := chv_some h
    refine wp_aald (v1 + (21 + 9 * ix v2)) (kltC (ly9_0 t1).2.1) (ly9_0 t1).2.1 (by decide) (by rw [(ly9_0 t1).2.2]; exact cp2) (lyP t1 cp2).1 dX9_copyFrom_21 ?_
    obtain ⟨μ3, g1, h⟩ := bnd_some h
    refine wp_cVv (d := d - 1) (o := (v0 + (21 + 9 * ix v2))) cv_X9_241 (kltC (lyP t0 cp1).2) (lyP t0 cp1).2 (as := [.ref (v1 + (21 + 9 * ix v2))]) (rest := []) dX9_copyFrom_22 (by omega) cloC rfl rfl (Nat.le_of_ble_eq_true rfl) (Nat.le_of_ble_eq_true rfl) (ok_Person_copyFrom (by omega) (v0 + (21 + 9 * ix v2)) ((lyP t0 cp1).2) (v1 + (21 + 9 * ix v2)) ((lyP t1 cp2).2) μ g1) ?_ rfl
    refine wp_iinc (x := v2) (k0 := (nI 1)) (L2 := [some (.ref v0), some (.ref v1), some (.int (v2 + (nI 1)))]) dX9_copyFrom_25 rfl rfl (by decide) rfl rfl ?_
    refine wp_goto 2 dX9_copyFrom_28 (by decide) ?_
    obtain rfl := some1 h
    exact hb ((v2 + (nI 1)), μ3) hz
theorem okl_World_copyFrom_l2 {l : Launch} {d : Nat} (hd : 4 ≤ d) (v0 : Nat) (t0 : sK SC v0 = 9) (v1 : Nat) (t1 : sK SC v1 = 9) {Q : Option Value → Sh → Mm → Prop} (K : Mm → Prop) (he0 : ∀ (x : Mm) (z2 : Option Value), K x → Wp l SC d (0, 0) mX9_copyFrom 31 [some (.ref v0), some (.ref v1), z2] [] x Q) : ∀ (n : Nat) (s : (Int32 × Mm)) (y : Mm) , iter n (fun s => World_copyFrom_l2 v0 v1 s.1 s.2) s = some y → K y → Wp l SC d (0, 0) mX9_copyFrom 2 [some (.ref v0), some (.ref v1), some (.int s.1)] [] s.2 Q := by
  intro n
  induction n with
  | zero => intro s y  h; cases h
  | succ n ih =>
    intro s y  h hK
    obtain ⟨z, hz, hn⟩ := iter_some h
    refine ok_World_copyFrom_l2 hd v0 t0 v1 t1 s.1 s.2 (fun z => nxt n (fun s => World_copyFrom_l2 v0 v1 s.1 s.2) z y) ?_ ?_ hz hn
    · intro s2  h2
      exact ih s2 y h2 hK
    · intro x z2 h2
      have h3 : x = y := h2
      subst h3
      exact he0 x _ hK
theorem ok_World_copyFrom {l : Launch} {d : Nat} (hd : 4 ≤ d) (v0 : Nat) (t0 : sK SC v0 = 9) (v1 : Nat) (t1 : sK SC v1 = 9) (μ : Mm) {μ' : Mm} (h : World_copyFrom v0 v1 μ = some μ') : Wp l SC d (0, 0) mX9_copyFrom 0 [some (.ref v0), some (.ref v1), none] [] μ (Qv SC μ') := by
  unfold World_copyFrom at h
  refine wp_iconst (nI 0) dX9_copyFrom_0 rfl ?_
  refine wp_istore_n (L2 := [some (.ref v0), some (.ref v1), some (.int (nI 0))]) dX9_copyFrom_1 (by decide) rfl rfl ?_
  obtain ⟨x2, hi, h⟩ := bni_some h
  refine okl_World_copyFrom_l2 hd v0 t0 v1 t1 (fun z => z = x2) ?_ 1000000 ((nI 0), μ) x2 hi rfl
  · intro y0 z2 e0
    have e0 : y0 = x2 := e0
    subst e0
    refine wp_aload_n (x := v0) dX9_copyFrom_31 rfl ?_
    refine wp_aload_n (x := v1) dX9_copyFrom_32 rfl ?_
    refine wp_getI fl_X9_48 (by decide) rfl (kltC t1) t1 dX9_copyFrom_33 ?_
    obtain ⟨μ4, e1, h⟩ := lt_some h
    refine wp_putIe e1 fl_X9_48 (by decide) rfl (kltC t0) t0 dX9_copyFrom_36 ?_
    refine wp_aload_n (x := v0) dX9_copyFrom_39 rfl ?_
    refine wp_getR (v0 + 2) fl_X9_20 (by decide) rfl (kltC t0) t0 (ly9_2 t0).1 dX9_copyFrom_40 ?_
    refine wp_aload_n (x := v1) dX9_copyFrom_43 rfl ?_
    refine wp_getR (v1 + 2) fl_X9_20 (by decide) rfl (kltC t1) t1 (ly9_2 t1).1 dX9_copyFrom_44 ?_
    obtain ⟨μ5, g1, h⟩ := bnd_some h
    refine wp_cVv (d := d - 1) (o := (v0 + 2)) cv_X9_245 (kltC (ly9_2 t0).2.1) (ly9_2 t0).2.1 (as := [.ref (v1 + 2)]) (rest := []) dX9_copyFrom_47 (by omega) cloC rfl rfl (Nat.le_of_ble_eq_true rfl) (Nat.le_of_ble_eq_true rfl) (ok_Versions_copyFrom (by omega) (v0 + 2) ((ly9_2 t0).2.1) (v1 + 2) ((ly9_2 t1).2.1) μ4 g1) ?_ rfl
    refine wp_aload_n (x := v0) dX9_copyFrom_50 rfl ?_
    refine wp_getR (v0 + 7) fl_X9_29 (by decide) rfl (kltC t0) t0 (ly9_3 t0).1 dX9_copyFrom_51 ?_
    refine wp_aload_n (x := v1) dX9_copyFrom_54 rfl ?_
    refine wp_getR (v1 + 7) fl_X9_29 (by decide) rfl (kltC t1) t1 (ly9_3 t1).1 dX9_copyFrom_55 ?_
    obtain ⟨μ6, g1, h⟩ := bnd_some h
    refine wp_cVv (d := d - 1) (o := (v0 + 7)) cv_X9_248 (kltC (ly9_3 t0).2.1) (ly9_3 t0).2.1 (as := [.ref (v1 + 7)]) (rest := []) dX9_copyFrom_58 (by omega) cloC rfl rfl (Nat.le_of_ble_eq_true rfl) (Nat.le_of_ble_eq_true rfl) (ok_Letters_copyFrom (by omega) (v0 + 7) ((ly9_3 t0).2.1) (v1 + 7) ((ly9_3 t1).2.1) μ5 g1) ?_ rfl
    refine wp_aload_n (x := v0) dX9_copyFrom_61 rfl ?_
    refine wp_getR (v0 + 13) fl_X9_36 (by decide) rfl (kltC t0) t0 (ly9_4 t0).1 dX9_copyFrom_62 ?_
    refine wp_aload_n (x := v1) dX9_copyFrom_65 rfl ?_
    refine wp_getR (v1 + 13) fl_X9_36 (by decide) rfl (kltC t1) t1 (ly9_4 t1).1 dX9_copyFrom_66 ?_
    obtain ⟨μ7, g1, h⟩ := bnd_some h
    refine wp_cVv (d := d - 1) (o := (v0 + 13)) cv_X9_251 (kltC (ly9_4 t0).2.1) (ly9_4 t0).2.1 (as := [.ref (v1 + 13)]) (rest := []) dX9_copyFrom_69 (by omega) cloC rfl rfl (Nat.le_of_ble_eq_true rfl) (Nat.le_of_ble_eq_true rfl) (ok_Book_copyFrom (by omega) (v0 + 13) ((ly9_4 t0).2.1) (v1 + 13) ((ly9_4 t1).2.1) μ6 g1) ?_ rfl
    refine wp_aload_n (x := v1) dX9_copyFrom_72 rfl ?_
    refine wp_getR (v1 + 19) fl_X9_40 (by decide) rfl (kltC t1) t1 (ly9_5 t1).1 dX9_copyFrom_73 ?_
    refine wp_iconst (nI 0) dX9_copyFrom_76 rfl ?_
    refine wp_aload_n (x := v0) dX9_copyFrom_77 rfl ?_
    refine wp_getR (v0 + 19) fl_X9_40 (by decide) rfl (kltC t0) t0 (ly9_5 t0).1 dX9_copyFrom_78 ?_
    refine wp_iconst (nI 0) dX9_copyFrom_81 rfl ?_
    refine wp_iconst (nI 4) dX9_copyFrom_82 rfl ?_
    obtain ⟨c1, h⟩ := chc_some h
    obtain ⟨μ8, e1, h⟩ := lt_some h
    refine wp_acopy e1 ac_X9_254 (kltC (ly9_5 t1).2.1) (ly9_5 t1).2.1 (ly9_5 t1).2.2 (kltC (ly9_5 t0).2.1) (ly9_5 t0).2.1 (ly9_5 t0).2.2 c1 (by omega) (Nat.le_of_ble_eq_true rfl) dX9_copyFrom_83 ?_
    refine wp_aload_n (x := v0) dX9_copyFrom_86 rfl ?_
    refine wp_aload_n (x := v1) dX9_copyFrom_87 rfl ?_
    refine wp_getI fl_X9_203 (by decide) rfl (kltC t1) t1 dX9_copyFrom_88 ?_
    obtain ⟨μ9, e1, h⟩ := lt_some h
    refine wp_putIe e1 fl_X9_203 (by decide) rfl (kltC t0) t0 dX9_copyFrom_91 ?_
    refine wp_aload_n (x := v0) dX9_copyFrom_94 rfl ?_
    refine wp_aload_n (x := v1) dX9_copyFrom_95 rfl ?_
    refine wp_getI fl_X9_66 (by decide) rfl (kltC t1) t1 dX9_copyFrom_96 ?_
    obtain ⟨μ10, e1, h⟩ := lt_some h
    refine wp_putIe e1 fl_X9_66 (by decide) rfl (kltC t0) t0 dX9_copyFrom_99 ?_
    refine wp_aload_n (x := v0) dX9_copyFrom_102 rfl ?_
    refine wp_aload_n (x := v1) dX9_copyFrom_103 rfl ?_
    refine wp_getI fl_X9_164 (by decide) rfl (kltC t1) t1 dX9_copyFrom_104 ?_
    obtain ⟨μ11, e1, h⟩ := lt_some h
    refine wp_putIe e1 fl_X9_164 (by decide) rfl (kltC t0) t0 dX9_copyFrom_107 ?_
    refine wp_aload_n (x := v0) dX9_copyFrom_110 rfl ?_
    refine wp_aload_n (x := v1) dX9_copyFrom_111 rfl ?_
    refine wp_getI fl_X9_211 (by decide) rfl (kltC t1) t1 dX9_copyFrom_112 ?_
    obtain ⟨μ12, e1, h⟩ := lt_some h
    refine wp_putIe e1 fl_X9_211 (by decide) rfl (kltC t0) t0 dX9_copyFrom_115 ?_
    refine wp_aload_n (x := v0) dX9_copyFrom_118 rfl ?_
    refine wp_aload_n (x := v1) dX9_copyFrom_119 rfl ?_
    refine wp_getI fl_X9_130 (by decide) rfl (kltC t1) t1 dX9_copyFrom_120 ?_
    obtain ⟨μ13, e1, h⟩ := lt_some h
    refine wp_putIe e1 fl_X9_130 (by decide) rfl (kltC t0) t0 dX9_copyFrom_123 ?_
    refine wp_aload_n (x := v0) dX9_copyFrom_126 rfl ?_
    refine wp_iconst (nI 0) dX9_copyFrom_127 rfl ?_
    obtain ⟨μ14, e1, h⟩ := lt_some h
    refine wp_putIe e1 fl_X9_184 (by decide) rfl (kltC t0) t0 dX9_copyFrom_128 ?_
    obtain rfl := ret1 h
    exact wp_vret rfl dX9_copyFrom_131 ⟨rfl, rfl, rfl⟩
theorem ok_Nine_forgetBefore {l : Launch} {d : Nat} (hd : 1 ≤ d) (μ : Mm) {μ' : Mm} (h : Nine_forgetBefore μ = some μ') : Wp l SC d (0, 0) mX10_forgetBefore 0 [some (.ref 0)] [] μ (Qv SC μ') := by
  unfold Nine_forgetBefore at h
  refine wp_aload_n (x := 0) dX10_forgetBefore_0 rfl ?_
  refine wp_iconst (nI 0) dX10_forgetBefore_1 rfl ?_
  obtain ⟨μ1, e1, h⟩ := lt_some h
  refine wp_putIe e1 fl_X10_309 (by decide) rfl (kltC kRoot) kRoot dX10_forgetBefore_2 ?_
  obtain rfl := ret1 h
  exact wp_vret rfl dX10_forgetBefore_5 ⟨rfl, rfl, rfl⟩
theorem ok_Nine_state {l : Launch} {d : Nat} (hd : 2 ≤ d) (v1 : Int32)  (μ : Mm) {r : Int32} {μ' : Mm} (h : Nine_state v1 μ = some (r, μ')) : Wp l SC d (0, 0) mX10_state 0 [some (.ref 0), some (.int v1), none] [] μ (Qi SC r μ') := by
  unfold Nine_state at h
  refine wp_aload_n (x := 0) dX10_state_0 rfl ?_
  refine wp_getR 1 fl_X10_12 (by decide) rfl (kltC kRoot) kRoot (ly10_0 kRoot).1 dX10_state_1 ?_
  refine wp_getI fl_X10_57 (by decide) rfl (kltC (ly10_0 kRoot).2.1) (ly10_0 kRoot).2.1 dX10_state_4 ?_
  refine wp_istore_n (L2 := [some (.ref 0), some (.int v1), some (.int (μ.1 1 6))]) dX10_state_7 (by decide) rfl rfl ?_
  refine wp_aload_n (x := 0) dX10_state_8 rfl ?_
  refine wp_getR 1 fl_X10_12 (by decide) rfl (kltC kRoot) kRoot (ly10_0 kRoot).1 dX10_state_9 ?_
  refine wp_iload_n (x := v1) dX10_state_12 rfl ?_
  obtain ⟨μ1, e1, h⟩ := lt_some h
  refine wp_putIe e1 fl_X10_57 (by decide) rfl (kltC (ly10_0 kRoot).2.1) (ly10_0 kRoot).2.1 dX10_state_13 ?_
  refine wp_aload_n (x := 0) dX10_state_16 rfl ?_
  obtain ⟨μ2, g1, h⟩ := bnd_some h
  refine wp_cVv (d := d - 1) (o := 0) cv_X10_61 (kltC kRoot) kRoot (as := []) (rest := []) dX10_state_17 (by omega) cloC rfl rfl (Nat.le_of_ble_eq_true rfl) (Nat.le_of_ble_eq_true rfl) (ok_Nine_forgetBefore (by omega) μ1 g1) ?_ rfl
  refine wp_iload_n (x := (μ.1 1 6)) dX10_state_20 rfl ?_
  obtain ⟨rfl, rfl⟩ := ret2 h
  exact wp_iret rfl dX10_state_21 ⟨rfl, rfl, rfl⟩
theorem ok_Nine_canBeTold {l : Launch} {d : Nat} (hd : 1 ≤ d) (v0 : Int32)  (v1 : Int32)  (μ : Mm) {r : Int32} (h : Nine_canBeTold v0 v1 μ = some r) : Wp l SC d (0, 0) mX10_canBeTold 0 [some (.int v0), some (.int v1)] [] μ (Qi SC r μ) := by
  unfold Nine_canBeTold at h
  refine wp_iload_n (x := v0) dX10_canBeTold_0 rfl ?_
  refine wp_if_lt 34 dX10_canBeTold_1 (by decide) (fun c1 => ?_) (fun c1 => ?_)
  · rw [if_pos c1] at h
    refine wp_iconst (nI 0) dX10_canBeTold_34 rfl ?_
    obtain rfl := ret1 h
    exact wp_zret rfl (Or.inl rfl) dX10_canBeTold_35 ⟨rfl, rfl, rfl⟩
  · rw [if_neg c1] at h
    refine wp_iload_n (x := v0) dX10_canBeTold_4 rfl ?_
    refine wp_getLeast gs_X10_348 dX10_canBeTold_5 ?_
    refine wp_alenLeast dX10_canBeTold_8 ?_
    refine wp_icmp_ge 34 dX10_canBeTold_9 (by decide) (fun c1 => ?_) (fun c1 => ?_)
    · rw [if_pos c1] at h
      refine wp_iconst (nI 0) dX10_canBeTold_34 rfl ?_
      obtain rfl := ret1 h
      exact wp_zret rfl (Or.inl rfl) dX10_canBeTold_35 ⟨rfl, rfl, rfl⟩
    · rw [if_neg c1] at h
      refine wp_iload_n (x := v1) dX10_canBeTold_12 rfl ?_
      refine wp_getLeast gs_X10_348 dX10_canBeTold_13 ?_
      refine wp_iload_n (x := v0) dX10_canBeTold_16 rfl ?_
      obtain ⟨c1, h⟩ := chv_some h
      refine wp_ialdLeastX c1 dX10_canBeTold_17 ?_
      refine wp_icmp_lt 34 dX10_canBeTold_18 (by decide) (fun c1 => ?_) (fun c1 => ?_)
      · rw [if_pos c1] at h
        refine wp_iconst (nI 0) dX10_canBeTold_34 rfl ?_
        obtain rfl := ret1 h
        exact wp_zret rfl (Or.inl rfl) dX10_canBeTold_35 ⟨rfl, rfl, rfl⟩
      · rw [if_neg c1] at h
        refine wp_iload_n (x := v1) dX10_canBeTold_21 rfl ?_
        refine wp_getMost gs_X10_351 dX10_canBeTold_22 ?_
        refine wp_iload_n (x := v0) dX10_canBeTold_25 rfl ?_
        obtain ⟨c1, h⟩ := chv_some h
        refine wp_ialdMostX c1 dX10_canBeTold_26 ?_
        refine wp_icmp_gt 34 dX10_canBeTold_27 (by decide) (fun c1 => ?_) (fun c1 => ?_)
        · rw [if_pos c1] at h
          refine wp_iconst (nI 0) dX10_canBeTold_34 rfl ?_
          obtain rfl := ret1 h
          exact wp_zret rfl (Or.inl rfl) dX10_canBeTold_35 ⟨rfl, rfl, rfl⟩
        · rw [if_neg c1] at h
          refine wp_iconst (nI 1) dX10_canBeTold_30 rfl ?_
          refine wp_goto 35 dX10_canBeTold_31 (by decide) ?_
          obtain rfl := ret1 h
          exact wp_zret rfl (Or.inr rfl) dX10_canBeTold_35 ⟨rfl, rfl, rfl⟩
theorem ok_Nine_person {l : Launch} {d : Nat} (hd : 3 ≤ d) (v1 : Int32)  (v2 : Int32)  (v3 : Int32)  (μ : Mm) {r : Int32} {μ' : Mm} (h : Nine_person v1 v2 v3 μ = some (r, μ')) : Wp l SC d (0, 0) mX10_person 0 [some (.ref 0), some (.int v1), some (.int v2), some (.int v3)] [] μ (Qi SC r μ') := by
  unfold Nine_person at h
  refine wp_iconst (nI 0) dX10_person_0 rfl ?_
  refine wp_iload_n (x := v1) dX10_person_1 rfl ?_
  obtain ⟨r1, g1, h⟩ := bnd_some h
  refine wp_cSi (d := d - 1) cs_X10_64 (as := [.int (nI 0), .int v1]) (rest := []) dX10_person_2 (by omega) cloC rfl rfl (Nat.le_of_ble_eq_true rfl) (Nat.le_of_ble_eq_true rfl) (ok_Nine_canBeTold (by omega) (nI 0) v1 μ g1) ?_ rfl
  refine wp_if_eq 24 dX10_person_5 (by decide) (fun c1 => ?_) (fun c1 => ?_)
  · rw [if_pos c1] at h
    refine wp_iconst (-1) dX10_person_24 rfl ?_
    obtain ⟨rfl, rfl⟩ := ret2 h
    exact wp_iret rfl dX10_person_25 ⟨rfl, rfl, rfl⟩
  · rw [if_neg c1] at h
    refine wp_iconst (nI 1) dX10_person_8 rfl ?_
    refine wp_iload_n (x := v2) dX10_person_9 rfl ?_
    obtain ⟨r2, g1, h⟩ := bnd_some h
    refine wp_cSi (d := d - 1) cs_X10_64 (as := [.int (nI 1), .int v2]) (rest := []) dX10_person_10 (by omega) cloC rfl rfl (Nat.le_of_ble_eq_true rfl) (Nat.le_of_ble_eq_true rfl) (ok_Nine_canBeTold (by omega) (nI 1) v2 μ g1) ?_ rfl
    refine wp_if_eq 24 dX10_person_13 (by decide) (fun c1 => ?_) (fun c1 => ?_)
    · rw [if_pos c1] at h
      refine wp_iconst (-1) dX10_person_24 rfl ?_
      obtain ⟨rfl, rfl⟩ := ret2 h
      exact wp_iret rfl dX10_person_25 ⟨rfl, rfl, rfl⟩
    · rw [if_neg c1] at h
      refine wp_iconst (nI 2) dX10_person_16 rfl ?_
      refine wp_iload_n (x := v3) dX10_person_17 rfl ?_
      obtain ⟨r3, g1, h⟩ := bnd_some h
      refine wp_cSi (d := d - 1) cs_X10_64 (as := [.int (nI 2), .int v3]) (rest := []) dX10_person_18 (by omega) cloC rfl rfl (Nat.le_of_ble_eq_true rfl) (Nat.le_of_ble_eq_true rfl) (ok_Nine_canBeTold (by omega) (nI 2) v3 μ g1) ?_ rfl
      refine wp_if_ne 26 dX10_person_21 (by decide) (fun c1 => ?_) (fun c1 => ?_)
      · rw [if_neg c1] at h
        refine wp_aload_n (x := 0) dX10_person_26 rfl ?_
        refine wp_getR 1 fl_X10_12 (by decide) rfl (kltC kRoot) kRoot (ly10_0 kRoot).1 dX10_person_27 ?_
        refine wp_getI fl_X10_68 (by decide) rfl (kltC (ly10_0 kRoot).2.1) (ly10_0 kRoot).2.1 dX10_person_30 ?_
        refine wp_bipush (nI 16) dX10_person_33 rfl ?_
        refine wp_icmp_ne 40 dX10_person_35 (by decide) (fun c1 => ?_) (fun c1 => ?_)
        · rw [if_neg c1] at h
          refine wp_aload_n (x := 0) dX10_person_40 rfl ?_
          obtain ⟨μ4, g1, h⟩ := bnd_some h
          refine wp_cVv (d := d - 1) (o := 0) cv_X10_61 (kltC kRoot) kRoot (as := []) (rest := []) dX10_person_41 (by omega) cloC rfl rfl (Nat.le_of_ble_eq_true rfl) (Nat.le_of_ble_eq_true rfl) (ok_Nine_forgetBefore (by omega) μ g1) ?_ rfl
          refine wp_aload_n (x := 0) dX10_person_44 rfl ?_
          refine wp_getR 1 fl_X10_12 (by decide) rfl (kltC kRoot) kRoot (ly10_0 kRoot).1 dX10_person_45 ?_
          refine wp_iload_n (x := v1) dX10_person_48 rfl ?_
          refine wp_iload_n (x := v2) dX10_person_49 rfl ?_
          refine wp_iload_n (x := v3) dX10_person_50 rfl ?_
          obtain ⟨r6, μ5, g1, h⟩ := bnd2_some h
          refine wp_cVi (d := d - 1) (o := 1) cv_X10_71 (kltC (ly10_0 kRoot).2.1) (ly10_0 kRoot).2.1 (as := [.int v1, .int v2, .int v3]) (rest := []) dX10_person_51 (by omega) cloC rfl rfl (Nat.le_of_ble_eq_true rfl) (Nat.le_of_ble_eq_true rfl) (ok_World_addPerson (by omega) 1 ((ly10_0 kRoot).2.1) v1 v2 v3 μ4 g1) ?_ rfl
          obtain ⟨rfl, rfl⟩ := ret2 h
          exact wp_iret rfl dX10_person_54 ⟨rfl, rfl, rfl⟩
        · rw [if_pos c1] at h
          refine wp_iconst (-1) dX10_person_38 rfl ?_
          obtain ⟨rfl, rfl⟩ := ret2 h
          exact wp_iret rfl dX10_person_39 ⟨rfl, rfl, rfl⟩
      · rw [if_pos c1] at h
        refine wp_iconst (-1) dX10_person_24 rfl ?_
        obtain ⟨rfl, rfl⟩ := ret2 h
        exact wp_iret rfl dX10_person_25 ⟨rfl, rfl, rfl⟩
theorem ok_Nine_set_j63 {l : Launch} {d : Nat} (hd : 2 ≤ d) (μ : Mm) (z1 : Option Value) (z2 : Option Value) (z3 : Option Value) {r : Int32} {μ' : Mm} (h : Nine_set_j63 μ = some (r, μ')) : Wp l SC d (0, 0) mX10_set 63 [some (.ref 0), z1, z2, z3] [] μ (Qi SC r μ') := by
  unfold Nine_set_j63 at h
  refine wp_aload_n (x := 0) dX10_set_63 rfl ?_
  obtain ⟨μ5, g1, h⟩ := bnd_some h
  refine wp_cVv (d := d - 1) (o := 0) cv_X10_61 (kltC kRoot) kRoot (as := []) (rest := []) dX10_set_64 (by omega) cloC rfl rfl (Nat.le_of_ble_eq_true rfl) (Nat.le_of_ble_eq_true rfl) (ok_Nine_forgetBefore (by omega) μ g1) ?_ rfl
  refine wp_iconst (nI 1) dX10_set_67 rfl ?_
  obtain ⟨rfl, rfl⟩ := ret2 h
  exact wp_zret rfl (Or.inr rfl) dX10_set_68 ⟨rfl, rfl, rfl⟩
theorem ok_Nine_set {l : Launch} {d : Nat} (hd : 2 ≤ d) (v1 : Int32)  (v2 : Int32)  (v3 : Int32)  (μ : Mm) {r : Int32} {μ' : Mm} (h : Nine_set v1 v2 v3 μ = some (r, μ')) : Wp l SC d (0, 0) mX10_set 0 [some (.ref 0), some (.int v1), some (.int v2), some (.int v3)] [] μ (Qi SC r μ') := by
  unfold Nine_set at h
  refine wp_iload_n (x := v1) dX10_set_0 rfl ?_
  refine wp_iload_n (x := v3) dX10_set_1 rfl ?_
  obtain ⟨r1, g1, h⟩ := bnd_some h
  refine wp_cSi (d := d - 1) cs_X10_64 (as := [.int v1, .int v3]) (rest := []) dX10_set_2 (by omega) cloC rfl rfl (Nat.le_of_ble_eq_true rfl) (Nat.le_of_ble_eq_true rfl) (ok_Nine_canBeTold (by omega) v1 v3 μ g1) ?_ rfl
  refine wp_if_ne 10 dX10_set_5 (by decide) (fun c1 => ?_) (fun c1 => ?_)
  · rw [if_neg c1] at h
    refine wp_iload_n (x := v1) dX10_set_10 rfl ?_
    refine wp_bipush (nI 6) dX10_set_11 rfl ?_
    refine wp_icmp_lt 32 dX10_set_13 (by decide) (fun c1 => ?_) (fun c1 => ?_)
    · rw [if_pos c1] at h
      refine wp_aload_n (x := 0) dX10_set_32 rfl ?_
      refine wp_getR 1 fl_X10_12 (by decide) rfl (kltC kRoot) kRoot (ly10_0 kRoot).1 dX10_set_33 ?_
      refine wp_iload_n (x := v2) dX10_set_36 rfl ?_
      obtain ⟨r2, g1, h⟩ := bnd_some h
      refine wp_cVi (d := d - 1) (o := 1) cv_X10_78 (kltC (ly10_0 kRoot).2.1) (ly10_0 kRoot).2.1 (as := [.int v2]) (rest := []) dX10_set_37 (by omega) cloC rfl rfl (Nat.le_of_ble_eq_true rfl) (Nat.le_of_ble_eq_true rfl) (ok_World_hasPerson (by omega) 1 ((ly10_0 kRoot).2.1) v2 μ g1) ?_ rfl
      refine wp_if_eq 61 dX10_set_40 (by decide) (fun c1 => ?_) (fun c1 => ?_)
      · rw [if_pos c1] at h
        refine wp_iconst (nI 0) dX10_set_61 rfl ?_
        obtain ⟨rfl, rfl⟩ := ret2 h
        exact wp_zret rfl (Or.inl rfl) dX10_set_62 ⟨rfl, rfl, rfl⟩
      · rw [if_neg c1] at h
        refine wp_aload_n (x := 0) dX10_set_43 rfl ?_
        refine wp_getR 1 fl_X10_12 (by decide) rfl (kltC kRoot) kRoot (ly10_0 kRoot).1 dX10_set_44 ?_
        refine wp_getR 2 fl_X10_82 (by decide) rfl (kltC (ly10_0 kRoot).2.1) (ly10_0 kRoot).2.1 (ly9_0 (ly10_0 kRoot).2.1).1 dX10_set_47 ?_
        refine wp_iload_n (x := v2) dX10_set_50 rfl ?_
        obtain ⟨cp3, h⟩ := chv_some h
        refine wp_aald (1 + (21 + 9 * ix v2)) (kltC (ly9_0 (ly10_0 kRoot).2.1).2.1) (ly9_0 (ly10_0 kRoot).2.1).2.1 (by decide) (by rw [(ly9_0 (ly10_0 kRoot).2.1).2.2]; exact cp3) (lyP (ly10_0 kRoot).2.1 cp3).1 dX10_set_51 ?_
        refine wp_getR ((1 + (21 + 9 * ix v2)) + 1) fl_X10_86 (by decide) rfl (kltC (lyP (ly10_0 kRoot).2.1 cp3).2) (lyP (ly10_0 kRoot).2.1 cp3).2 (ly3_0 (lyP (ly10_0 kRoot).2.1 cp3).2).1 dX10_set_52 ?_
        refine wp_iload_n (x := v1) dX10_set_55 rfl ?_
        refine wp_iload_n (x := v3) dX10_set_56 rfl ?_
        obtain ⟨c1, h⟩ := chv_some h
        obtain ⟨μ4, e1, h⟩ := lt_some h
        refine wp_iaste e1 (kltC (ly3_0 (lyP (ly10_0 kRoot).2.1 cp3).2).2.1) (ly3_0 (lyP (ly10_0 kRoot).2.1 cp3).2).2.1 (ly3_0 (lyP (ly10_0 kRoot).2.1 cp3).2).2.2 c1 dX10_set_57 ?_
        refine wp_goto 63 dX10_set_58 (by decide) ?_
        exact ok_Nine_set_j63 hd μ4 _ _ _ h
    · rw [if_neg c1] at h
      refine wp_aload_n (x := 0) dX10_set_16 rfl ?_
      refine wp_getR 1 fl_X10_12 (by decide) rfl (kltC kRoot) kRoot (ly10_0 kRoot).1 dX10_set_17 ?_
      refine wp_getR 20 fl_X10_75 (by decide) rfl (kltC (ly10_0 kRoot).2.1) (ly10_0 kRoot).2.1 (ly9_5 (ly10_0 kRoot).2.1).1 dX10_set_20 ?_
      refine wp_iload_n (x := v1) dX10_set_23 rfl ?_
      refine wp_bipush (nI 6) dX10_set_24 rfl ?_
      refine wp_isub dX10_set_26 ?_
      refine wp_iload_n (x := v3) dX10_set_27 rfl ?_
      obtain ⟨c1, h⟩ := chv_some h
      obtain ⟨μ6, e1, h⟩ := lt_some h
      refine wp_iaste e1 (kltC (ly9_5 (ly10_0 kRoot).2.1).2.1) (ly9_5 (ly10_0 kRoot).2.1).2.1 (ly9_5 (ly10_0 kRoot).2.1).2.2 c1 dX10_set_28 ?_
      refine wp_goto 63 dX10_set_29 (by decide) ?_
      exact ok_Nine_set_j63 hd μ6 _ _ _ h
  · rw [if_pos c1] at h
    refine wp_iconst (nI 0) dX10_set_8 rfl ?_
    obtain ⟨rfl, rfl⟩ := ret2 h
    exact wp_zret rfl (Or.inl rfl) dX10_set_9 ⟨rfl, rfl, rfl⟩
theorem ok_Nine_address_j91 {l : Launch} {d : Nat} (hd : 2 ≤ d) (v3 : Nat) (t3 : sK SC v3 = 3) (μ : Mm) (z1 : Option Value) (z2 : Option Value) {r : Int32} {μ' : Mm} (h : Nine_address_j91 v3 μ = some (r, μ')) : Wp l SC d (0, 0) mX10_address 91 [some (.ref 0), z1, z2, some (.ref v3)] [] μ (Qi SC r μ') := by
  unfold Nine_address_j91 at h
  refine wp_aload_n (x := 0) dX10_address_91 rfl ?_
  obtain ⟨μ6, g1, h⟩ := bnd_some h
  refine wp_cVv (d := d - 1) (o := 0) cv_X10_61 (kltC kRoot) kRoot (as := []) (rest := []) dX10_address_92 (by omega) cloC rfl rfl (Nat.le_of_ble_eq_true rfl) (Nat.le_of_ble_eq_true rfl) (ok_Nine_forgetBefore (by omega) μ g1) ?_ rfl
  refine wp_aload_n (x := v3) dX10_address_95 rfl ?_
  refine wp_getI fl_X10_91 (by decide) rfl (kltC t3) t3 dX10_address_96 ?_
  obtain ⟨rfl, rfl⟩ := ret2 h
  exact wp_iret rfl dX10_address_99 ⟨rfl, rfl, rfl⟩
theorem ok_Nine_address {l : Launch} {d : Nat} (hd : 2 ≤ d) (v1 : Int32)  (v2 : Int32)  (μ : Mm) {r : Int32} {μ' : Mm} (h : Nine_address v1 v2 μ = some (r, μ')) : Wp l SC d (0, 0) mX10_address 0 [some (.ref 0), some (.int v1), some (.int v2), none] [] μ (Qi SC r μ') := by
  unfold Nine_address at h
  refine wp_aload_n (x := 0) dX10_address_0 rfl ?_
  refine wp_getR 1 fl_X10_12 (by decide) rfl (kltC kRoot) kRoot (ly10_0 kRoot).1 dX10_address_1 ?_
  refine wp_iload_n (x := v1) dX10_address_4 rfl ?_
  obtain ⟨r1, g1, h⟩ := bnd_some h
  refine wp_cVi (d := d - 1) (o := 1) cv_X10_78 (kltC (ly10_0 kRoot).2.1) (ly10_0 kRoot).2.1 (as := [.int v1]) (rest := []) dX10_address_5 (by omega) cloC rfl rfl (Nat.le_of_ble_eq_true rfl) (Nat.le_of_ble_eq_true rfl) (ok_World_hasPerson (by omega) 1 ((ly10_0 kRoot).2.1) v1 μ g1) ?_ rfl
  refine wp_if_ne 13 dX10_address_8 (by decide) (fun c1 => ?_) (fun c1 => ?_)
  · rw [if_neg c1] at h
    refine wp_aload_n (x := 0) dX10_address_13 rfl ?_
    refine wp_getR 1 fl_X10_12 (by decide) rfl (kltC kRoot) kRoot (ly10_0 kRoot).1 dX10_address_14 ?_
    refine wp_getR 2 fl_X10_82 (by decide) rfl (kltC (ly10_0 kRoot).2.1) (ly10_0 kRoot).2.1 (ly9_0 (ly10_0 kRoot).2.1).1 dX10_address_17 ?_
    refine wp_iload_n (x := v1) dX10_address_20 rfl ?_
    obtain ⟨cp2, h⟩ := chv_some h
    refine wp_aald (1 + (21 + 9 * ix v1)) (kltC (ly9_0 (ly10_0 kRoot).2.1).2.1) (ly9_0 (ly10_0 kRoot).2.1).2.1 (by decide) (by rw [(ly9_0 (ly10_0 kRoot).2.1).2.2]; exact cp2) (lyP (ly10_0 kRoot).2.1 cp2).1 dX10_address_21 ?_
    refine wp_astore_n (L2 := [some (.ref 0), some (.int v1), some (.int v2), some (.ref (1 + (21 + 9 * ix v1)))]) dX10_address_22 (by decide) rfl rfl ?_
    refine wp_iload_n (x := v2) dX10_address_23 rfl ?_
    refine wp_iconst (-1) dX10_address_24 rfl ?_
    refine wp_icmp_ne 41 dX10_address_25 (by decide) (fun c1 => ?_) (fun c1 => ?_)
    · rw [if_neg c1] at h
      refine wp_aload_n (x := 0) dX10_address_41 rfl ?_
      refine wp_getR 1 fl_X10_12 (by decide) rfl (kltC kRoot) kRoot (ly10_0 kRoot).1 dX10_address_42 ?_
      refine wp_iload_n (x := v2) dX10_address_45 rfl ?_
      obtain ⟨r3, g1, h⟩ := bnd_some h
      refine wp_cVi (d := d - 1) (o := 1) cv_X10_78 (kltC (ly10_0 kRoot).2.1) (ly10_0 kRoot).2.1 (as := [.int v2]) (rest := []) dX10_address_46 (by omega) cloC rfl rfl (Nat.le_of_ble_eq_true rfl) (Nat.le_of_ble_eq_true rfl) (ok_World_hasPerson (by omega) 1 ((ly10_0 kRoot).2.1) v2 μ g1) ?_ rfl
      refine wp_if_eq 89 dX10_address_49 (by decide) (fun c1 => ?_) (fun c1 => ?_)
      · rw [if_pos c1] at h
        refine wp_iconst (-1) dX10_address_89 rfl ?_
        obtain ⟨rfl, rfl⟩ := ret2 h
        exact wp_iret rfl dX10_address_90 ⟨rfl, rfl, rfl⟩
      · rw [if_neg c1] at h
        refine wp_iload_n (x := v2) dX10_address_52 rfl ?_
        refine wp_iload_n (x := v1) dX10_address_53 rfl ?_
        refine wp_icmp_eq 89 dX10_address_54 (by decide) (fun c1 => ?_) (fun c1 => ?_)
        · rw [if_pos c1] at h
          refine wp_iconst (-1) dX10_address_89 rfl ?_
          obtain ⟨rfl, rfl⟩ := ret2 h
          exact wp_iret rfl dX10_address_90 ⟨rfl, rfl, rfl⟩
        · rw [if_neg c1] at h
          refine wp_aload_n (x := (1 + (21 + 9 * ix v1))) dX10_address_57 rfl ?_
          refine wp_getI fl_X10_91 (by decide) rfl (kltC (lyP (ly10_0 kRoot).2.1 cp2).2) (lyP (ly10_0 kRoot).2.1 cp2).2 dX10_address_58 ?_
          refine wp_bipush (nI 9) dX10_address_61 rfl ?_
          refine wp_icmp_ge 89 dX10_address_63 (by decide) (fun c1 => ?_) (fun c1 => ?_)
          · rw [if_pos c1] at h
            refine wp_iconst (-1) dX10_address_89 rfl ?_
            obtain ⟨rfl, rfl⟩ := ret2 h
            exact wp_iret rfl dX10_address_90 ⟨rfl, rfl, rfl⟩
          · rw [if_neg c1] at h
            refine wp_aload_n (x := (1 + (21 + 9 * ix v1))) dX10_address_66 rfl ?_
            refine wp_getR ((1 + (21 + 9 * ix v1)) + 2) fl_X10_97 (by decide) rfl (kltC (lyP (ly10_0 kRoot).2.1 cp2).2) (lyP (ly10_0 kRoot).2.1 cp2).2 (ly3_1 (lyP (ly10_0 kRoot).2.1 cp2).2).1 dX10_address_67 ?_
            refine wp_aload_n (x := (1 + (21 + 9 * ix v1))) dX10_address_70 rfl ?_
            refine wp_getI fl_X10_91 (by decide) rfl (kltC (lyP (ly10_0 kRoot).2.1 cp2).2) (lyP (ly10_0 kRoot).2.1 cp2).2 dX10_address_71 ?_
            refine wp_iload_n (x := v2) dX10_address_74 rfl ?_
            obtain ⟨c1, h⟩ := chv_some h
            obtain ⟨μ4, e1, h⟩ := lt_some h
            refine wp_iaste e1 (kltC (ly3_1 (lyP (ly10_0 kRoot).2.1 cp2).2).2.1) (ly3_1 (lyP (ly10_0 kRoot).2.1 cp2).2).2.1 (ly3_1 (lyP (ly10_0 kRoot).2.1 cp2).2).2.2 c1 dX10_address_75 ?_
            refine wp_aload_n (x := (1 + (21 + 9 * ix v1))) dX10_address_76 rfl ?_
            refine wp_dup dX10_address_77 rfl ?_
            refine wp_getI fl_X10_91 (by decide) rfl (kltC (lyP (ly10_0 kRoot).2.1 cp2).2) (lyP (ly10_0 kRoot).2.1 cp2).2 dX10_address_78 ?_
            refine wp_iconst (nI 1) dX10_address_81 rfl ?_
            refine wp_iadd dX10_address_82 ?_
            obtain ⟨μ5, e1, h⟩ := lt_some h
            refine wp_putIe e1 fl_X10_91 (by decide) rfl (kltC (lyP (ly10_0 kRoot).2.1 cp2).2) (lyP (ly10_0 kRoot).2.1 cp2).2 dX10_address_83 ?_
            refine wp_goto 91 dX10_address_86 (by decide) ?_
            exact ok_Nine_address_j91 hd (1 + (21 + 9 * ix v1)) ((lyP (ly10_0 kRoot).2.1 cp2).2) μ5 _ _ h
    · rw [if_pos c1] at h
      refine wp_aload_n (x := (1 + (21 + 9 * ix v1))) dX10_address_28 rfl ?_
      refine wp_iconst (nI 0) dX10_address_29 rfl ?_
      obtain ⟨μ7, e1, h⟩ := lt_some h
      refine wp_putIe e1 fl_X10_91 (by decide) rfl (kltC (lyP (ly10_0 kRoot).2.1 cp2).2) (lyP (ly10_0 kRoot).2.1 cp2).2 dX10_address_30 ?_
      refine wp_aload_n (x := (1 + (21 + 9 * ix v1))) dX10_address_33 rfl ?_
      refine wp_iconst (nI 0) dX10_address_34 rfl ?_
      obtain ⟨μ8, e1, h⟩ := lt_some h
      refine wp_putIe e1 fl_X10_94 (by decide) rfl (kltC (lyP (ly10_0 kRoot).2.1 cp2).2) (lyP (ly10_0 kRoot).2.1 cp2).2 dX10_address_35 ?_
      refine wp_goto 91 dX10_address_38 (by decide) ?_
      exact ok_Nine_address_j91 hd (1 + (21 + 9 * ix v1)) ((lyP (ly10_0 kRoot).2.1 cp2).2) μ8 _ _ h
  · rw [if_pos c1] at h
    refine wp_iconst (-1) dX10_address_11 rfl ?_
    obtain ⟨rfl, rfl⟩ := ret2 h
    exact wp_iret rfl dX10_address_12 ⟨rfl, rfl, rfl⟩
theorem ok_Nine_version {l : Launch} {d : Nat} (hd : 3 ≤ d) (v1 : Int32)  (v2 : Int32)  (μ : Mm) {r : Int32} {μ' : Mm} (h : Nine_version v1 v2 μ = some (r, μ')) : Wp l SC d (0, 0) mX10_version 0 [some (.ref 0), some (.int v1), some (.int v2)] [] μ (Qi SC r μ') := by
  unfold Nine_version at h
  refine wp_iload_n (x := v1) dX10_version_0 rfl ?_
  refine wp_if_lt 34 dX10_version_1 (by decide) (fun c1 => ?_) (fun c1 => ?_)
  · rw [if_pos c1] at h
    refine wp_iconst (-1) dX10_version_34 rfl ?_
    obtain ⟨rfl, rfl⟩ := ret2 h
    exact wp_iret rfl dX10_version_35 ⟨rfl, rfl, rfl⟩
  · rw [if_neg c1] at h
    refine wp_iload_n (x := v1) dX10_version_4 rfl ?_
    refine wp_bipush (nI 9) dX10_version_5 rfl ?_
    refine wp_icmp_gt 34 dX10_version_7 (by decide) (fun c1 => ?_) (fun c1 => ?_)
    · rw [if_pos c1] at h
      refine wp_iconst (-1) dX10_version_34 rfl ?_
      obtain ⟨rfl, rfl⟩ := ret2 h
      exact wp_iret rfl dX10_version_35 ⟨rfl, rfl, rfl⟩
    · rw [if_neg c1] at h
      refine wp_iload_n (x := v2) dX10_version_10 rfl ?_
      refine wp_if_lt 34 dX10_version_11 (by decide) (fun c1 => ?_) (fun c1 => ?_)
      · rw [if_pos c1] at h
        refine wp_iconst (-1) dX10_version_34 rfl ?_
        obtain ⟨rfl, rfl⟩ := ret2 h
        exact wp_iret rfl dX10_version_35 ⟨rfl, rfl, rfl⟩
      · rw [if_neg c1] at h
        refine wp_iload_n (x := v2) dX10_version_14 rfl ?_
        refine wp_sipush (nI 1024) dX10_version_15 rfl ?_
        refine wp_icmp_ge 34 dX10_version_18 (by decide) (fun c1 => ?_) (fun c1 => ?_)
        · rw [if_pos c1] at h
          refine wp_iconst (-1) dX10_version_34 rfl ?_
          obtain ⟨rfl, rfl⟩ := ret2 h
          exact wp_iret rfl dX10_version_35 ⟨rfl, rfl, rfl⟩
        · rw [if_neg c1] at h
          refine wp_aload_n (x := 0) dX10_version_21 rfl ?_
          refine wp_getR 1 fl_X10_12 (by decide) rfl (kltC kRoot) kRoot (ly10_0 kRoot).1 dX10_version_22 ?_
          refine wp_getR 3 fl_X10_100 (by decide) rfl (kltC (ly10_0 kRoot).2.1) (ly10_0 kRoot).2.1 (ly9_2 (ly10_0 kRoot).2.1).1 dX10_version_25 ?_
          obtain ⟨r1, g1, h⟩ := bnd_some h
          refine wp_cVi (d := d - 1) (o := 3) cv_X10_104 (kltC (ly9_2 (ly10_0 kRoot).2.1).2.1) (ly9_2 (ly10_0 kRoot).2.1).2.1 (as := []) (rest := []) dX10_version_28 (by omega) cloC rfl rfl (Nat.le_of_ble_eq_true rfl) (Nat.le_of_ble_eq_true rfl) (ok_Versions_isFull (by omega) 3 ((ly9_2 (ly10_0 kRoot).2.1).2.1) μ g1) ?_ rfl
          refine wp_if_eq 36 dX10_version_31 (by decide) (fun c1 => ?_) (fun c1 => ?_)
          · rw [if_pos c1] at h
            refine wp_aload_n (x := 0) dX10_version_36 rfl ?_
            obtain ⟨μ2, g1, h⟩ := bnd_some h
            refine wp_cVv (d := d - 1) (o := 0) cv_X10_61 (kltC kRoot) kRoot (as := []) (rest := []) dX10_version_37 (by omega) cloC rfl rfl (Nat.le_of_ble_eq_true rfl) (Nat.le_of_ble_eq_true rfl) (ok_Nine_forgetBefore (by omega) μ g1) ?_ rfl
            refine wp_aload_n (x := 0) dX10_version_40 rfl ?_
            refine wp_getR 1 fl_X10_12 (by decide) rfl (kltC kRoot) kRoot (ly10_0 kRoot).1 dX10_version_41 ?_
            refine wp_getR 3 fl_X10_100 (by decide) rfl (kltC (ly10_0 kRoot).2.1) (ly10_0 kRoot).2.1 (ly9_2 (ly10_0 kRoot).2.1).1 dX10_version_44 ?_
            refine wp_iload_n (x := v1) dX10_version_47 rfl ?_
            refine wp_iload_n (x := v2) dX10_version_48 rfl ?_
            refine wp_iconst (-1) dX10_version_49 rfl ?_
            refine wp_iconst (-1) dX10_version_50 rfl ?_
            obtain ⟨r4, μ3, g1, h⟩ := bnd2_some h
            refine wp_cVi (d := d - 1) (o := 3) cv_X10_110 (kltC (ly9_2 (ly10_0 kRoot).2.1).2.1) (ly9_2 (ly10_0 kRoot).2.1).2.1 (as := [.int v1, .int v2, .int (-1), .int (-1)]) (rest := []) dX10_version_51 (by omega) cloC rfl rfl (Nat.le_of_ble_eq_true rfl) (Nat.le_of_ble_eq_true rfl) (ok_Versions_add (by omega) 3 ((ly9_2 (ly10_0 kRoot).2.1).2.1) v1 v2 (-1) (-1) μ2 g1) ?_ rfl
            obtain ⟨rfl, rfl⟩ := ret2 h
            exact wp_iret rfl dX10_version_54 ⟨rfl, rfl, rfl⟩
          · rw [if_neg c1] at h
            refine wp_iconst (-1) dX10_version_34 rfl ?_
            obtain ⟨rfl, rfl⟩ := ret2 h
            exact wp_iret rfl dX10_version_35 ⟨rfl, rfl, rfl⟩
theorem ok_Nine_keepBefore {l : Launch} {d : Nat} (hd : 5 ≤ d) (μ : Mm) {μ' : Mm} (h : Nine_keepBefore μ = some μ') : Wp l SC d (0, 0) mX10_keepBefore 0 [some (.ref 0)] [] μ (Qv SC μ') := by
  unfold Nine_keepBefore at h
  refine wp_aload_n (x := 0) dX10_keepBefore_0 rfl ?_
  refine wp_getR 365 fl_X10_39 (by decide) rfl (kltC kRoot) kRoot (ly10_7 kRoot).1 dX10_keepBefore_1 ?_
  refine wp_aload_n (x := 0) dX10_keepBefore_4 rfl ?_
  refine wp_getI fl_X10_312 (by decide) rfl (kltC kRoot) kRoot dX10_keepBefore_5 ?_
  obtain ⟨cp1, h⟩ := chv_some h
  refine wp_aald (545 + 165 * ix (μ.1 0 9)) (kltC (ly10_7 kRoot).2.1) (ly10_7 kRoot).2.1 (by decide) (by rw [(ly10_7 kRoot).2.2]; exact cp1) (lyB cp1).1 dX10_keepBefore_8 ?_
  refine wp_aload_n (x := 0) dX10_keepBefore_9 rfl ?_
  refine wp_getR 1 fl_X10_12 (by decide) rfl (kltC kRoot) kRoot (ly10_0 kRoot).1 dX10_keepBefore_10 ?_
  obtain ⟨μ2, g1, h⟩ := bnd_some h
  refine wp_cVv (d := d - 1) (o := (545 + 165 * ix (μ.1 0 9))) cv_X10_315 (kltC (lyB cp1).2) (lyB cp1).2 (as := [.ref 1]) (rest := []) dX10_keepBefore_13 (by omega) cloC rfl rfl (Nat.le_of_ble_eq_true rfl) (Nat.le_of_ble_eq_true rfl) (ok_World_copyFrom (by omega) (545 + 165 * ix (μ.1 0 9)) ((lyB cp1).2) 1 ((ly10_0 kRoot).2.1) μ g1) ?_ rfl
  refine wp_aload_n (x := 0) dX10_keepBefore_16 rfl ?_
  refine wp_aload_n (x := 0) dX10_keepBefore_17 rfl ?_
  refine wp_getI fl_X10_312 (by decide) rfl (kltC kRoot) kRoot dX10_keepBefore_18 ?_
  refine wp_iconst (nI 1) dX10_keepBefore_21 rfl ?_
  refine wp_iadd dX10_keepBefore_22 ?_
  refine wp_bipush (nI 6) dX10_keepBefore_23 rfl ?_
  obtain ⟨c1, h⟩ := chk_some h
  refine wp_irem dX10_keepBefore_25 c1 ?_
  obtain ⟨μ3, e1, h⟩ := lt_some h
  refine wp_putIe e1 fl_X10_312 (by decide) rfl (kltC kRoot) kRoot dX10_keepBefore_26 ?_
  refine wp_aload_n (x := 0) dX10_keepBefore_29 rfl ?_
  refine wp_bipush (nI 6) dX10_keepBefore_30 rfl ?_
  refine wp_aload_n (x := 0) dX10_keepBefore_32 rfl ?_
  refine wp_getI fl_X10_309 (by decide) rfl (kltC kRoot) kRoot dX10_keepBefore_33 ?_
  refine wp_iconst (nI 1) dX10_keepBefore_36 rfl ?_
  refine wp_iadd dX10_keepBefore_37 ?_
  refine wp_mmin mm_X10_354 (by omega) (Nat.le_of_ble_eq_true rfl) dX10_keepBefore_38 ?_
  obtain ⟨μ4, e1, h⟩ := lt_some h
  refine wp_putIe e1 fl_X10_309 (by decide) rfl (kltC kRoot) kRoot dX10_keepBefore_41 ?_
  obtain rfl := ret1 h
  exact wp_vret rfl dX10_keepBefore_44 ⟨rfl, rfl, rfl⟩
theorem ok_Nine_hand {l : Launch} {d : Nat} (hd : 6 ≤ d) (v1 : Int32)  (v2 : Int32)  (μ : Mm) {r : Int32} {μ' : Mm} (h : Nine_hand v1 v2 μ = some (r, μ')) : Wp l SC d (0, 0) mX10_hand 0 [some (.ref 0), some (.int v1), some (.int v2), none] [] μ (Qi SC r μ') := by
  unfold Nine_hand at h
  refine wp_aload_n (x := 0) dX10_hand_0 rfl ?_
  refine wp_getR 1 fl_X10_12 (by decide) rfl (kltC kRoot) kRoot (ly10_0 kRoot).1 dX10_hand_1 ?_
  refine wp_iload_n (x := v1) dX10_hand_4 rfl ?_
  obtain ⟨r1, g1, h⟩ := bnd_some h
  refine wp_cVi (d := d - 1) (o := 1) cv_X10_78 (kltC (ly10_0 kRoot).2.1) (ly10_0 kRoot).2.1 (as := [.int v1]) (rest := []) dX10_hand_5 (by omega) cloC rfl rfl (Nat.le_of_ble_eq_true rfl) (Nat.le_of_ble_eq_true rfl) (ok_World_hasPerson (by omega) 1 ((ly10_0 kRoot).2.1) v1 μ g1) ?_ rfl
  refine wp_if_eq 25 dX10_hand_8 (by decide) (fun c1 => ?_) (fun c1 => ?_)
  · rw [if_pos c1] at h
    refine wp_iconst (nI 0) dX10_hand_25 rfl ?_
    obtain ⟨rfl, rfl⟩ := ret2 h
    exact wp_zret rfl (Or.inl rfl) dX10_hand_26 ⟨rfl, rfl, rfl⟩
  · rw [if_neg c1] at h
    refine wp_aload_n (x := 0) dX10_hand_11 rfl ?_
    refine wp_getR 1 fl_X10_12 (by decide) rfl (kltC kRoot) kRoot (ly10_0 kRoot).1 dX10_hand_12 ?_
    refine wp_getR 3 fl_X10_100 (by decide) rfl (kltC (ly10_0 kRoot).2.1) (ly10_0 kRoot).2.1 (ly9_2 (ly10_0 kRoot).2.1).1 dX10_hand_15 ?_
    refine wp_iload_n (x := v2) dX10_hand_18 rfl ?_
    obtain ⟨r2, g1, h⟩ := bnd_some h
    refine wp_cVi (d := d - 1) (o := 3) cv_X10_114 (kltC (ly9_2 (ly10_0 kRoot).2.1).2.1) (ly9_2 (ly10_0 kRoot).2.1).2.1 (as := [.int v2]) (rest := []) dX10_hand_19 (by omega) cloC rfl rfl (Nat.le_of_ble_eq_true rfl) (Nat.le_of_ble_eq_true rfl) (ok_Versions_has (by omega) 3 ((ly9_2 (ly10_0 kRoot).2.1).2.1) v2 μ g1) ?_ rfl
    refine wp_if_ne 27 dX10_hand_22 (by decide) (fun c1 => ?_) (fun c1 => ?_)
    · rw [if_neg c1] at h
      refine wp_aload_n (x := 0) dX10_hand_27 rfl ?_
      refine wp_getR 1 fl_X10_12 (by decide) rfl (kltC kRoot) kRoot (ly10_0 kRoot).1 dX10_hand_28 ?_
      refine wp_getR 2 fl_X10_82 (by decide) rfl (kltC (ly10_0 kRoot).2.1) (ly10_0 kRoot).2.1 (ly9_0 (ly10_0 kRoot).2.1).1 dX10_hand_31 ?_
      refine wp_iload_n (x := v1) dX10_hand_34 rfl ?_
      obtain ⟨cp3, h⟩ := chv_some h
      refine wp_aald (1 + (21 + 9 * ix v1)) (kltC (ly9_0 (ly10_0 kRoot).2.1).2.1) (ly9_0 (ly10_0 kRoot).2.1).2.1 (by decide) (by rw [(ly9_0 (ly10_0 kRoot).2.1).2.2]; exact cp3) (lyP (ly10_0 kRoot).2.1 cp3).1 dX10_hand_35 ?_
      refine wp_astore_n (L2 := [some (.ref 0), some (.int v1), some (.int v2), some (.ref (1 + (21 + 9 * ix v1)))]) dX10_hand_36 (by decide) rfl rfl ?_
      refine wp_aload_n (x := (1 + (21 + 9 * ix v1))) dX10_hand_37 rfl ?_
      refine wp_getR ((1 + (21 + 9 * ix v1)) + 1) fl_X10_86 (by decide) rfl (kltC (lyP (ly10_0 kRoot).2.1 cp3).2) (lyP (ly10_0 kRoot).2.1 cp3).2 (ly3_0 (lyP (ly10_0 kRoot).2.1 cp3).2).1 dX10_hand_38 ?_
      refine wp_iconst (nI 1) dX10_hand_41 rfl ?_
      obtain ⟨c1, h⟩ := chv_some h
      refine wp_ialde (kltC (ly3_0 (lyP (ly10_0 kRoot).2.1 cp3).2).2.1) (ly3_0 (lyP (ly10_0 kRoot).2.1 cp3).2).2.1 (ly3_0 (lyP (ly10_0 kRoot).2.1 cp3).2).2.2 c1 dX10_hand_42 ?_
      refine wp_iconst (nI 1) dX10_hand_43 rfl ?_
      refine wp_icmp_eq 57 dX10_hand_44 (by decide) (fun c1 => ?_) (fun c1 => ?_)
      · rw [if_pos c1] at h
        refine wp_iconst (nI 0) dX10_hand_57 rfl ?_
        obtain ⟨rfl, rfl⟩ := ret2 h
        exact wp_zret rfl (Or.inl rfl) dX10_hand_58 ⟨rfl, rfl, rfl⟩
      · rw [if_neg c1] at h
        refine wp_aload_n (x := (1 + (21 + 9 * ix v1))) dX10_hand_47 rfl ?_
        refine wp_getR ((1 + (21 + 9 * ix v1)) + 3) fl_X10_117 (by decide) rfl (kltC (lyP (ly10_0 kRoot).2.1 cp3).2) (lyP (ly10_0 kRoot).2.1 cp3).2 (ly3_2 (lyP (ly10_0 kRoot).2.1 cp3).2).1 dX10_hand_48 ?_
        obtain ⟨r4, g1, h⟩ := bnd_some h
        refine wp_cVi (d := d - 1) (o := ((1 + (21 + 9 * ix v1)) + 3)) cv_X10_121 (kltC (ly3_2 (lyP (ly10_0 kRoot).2.1 cp3).2).2.1) (ly3_2 (lyP (ly10_0 kRoot).2.1 cp3).2).2.1 (as := []) (rest := []) dX10_hand_51 (by omega) cloC rfl rfl (Nat.le_of_ble_eq_true rfl) (Nat.le_of_ble_eq_true rfl) (ok_Letters_isFull (by omega) ((1 + (21 + 9 * ix v1)) + 3) ((ly3_2 (lyP (ly10_0 kRoot).2.1 cp3).2).2.1) μ g1) ?_ rfl
        refine wp_if_eq 59 dX10_hand_54 (by decide) (fun c1 => ?_) (fun c1 => ?_)
        · rw [if_pos c1] at h
          refine wp_aload_n (x := 0) dX10_hand_59 rfl ?_
          obtain ⟨μ5, g1, h⟩ := bnd_some h
          refine wp_cVv (d := d - 1) (o := 0) cv_X10_124 (kltC kRoot) kRoot (as := []) (rest := []) dX10_hand_60 (by omega) cloC rfl rfl (Nat.le_of_ble_eq_true rfl) (Nat.le_of_ble_eq_true rfl) (ok_Nine_keepBefore (by omega) μ g1) ?_ rfl
          refine wp_aload_n (x := 0) dX10_hand_63 rfl ?_
          refine wp_getR 1 fl_X10_12 (by decide) rfl (kltC kRoot) kRoot (ly10_0 kRoot).1 dX10_hand_64 ?_
          refine wp_iload_n (x := v1) dX10_hand_67 rfl ?_
          refine wp_iload_n (x := v2) dX10_hand_68 rfl ?_
          refine wp_iconst (-1) dX10_hand_69 rfl ?_
          obtain ⟨μ6, g1, h⟩ := bnd_some h
          refine wp_cVv (d := d - 1) (o := 1) cv_X10_127 (kltC (ly10_0 kRoot).2.1) (ly10_0 kRoot).2.1 (as := [.int v1, .int v2, .int (-1)]) (rest := []) dX10_hand_70 (by omega) cloC rfl rfl (Nat.le_of_ble_eq_true rfl) (Nat.le_of_ble_eq_true rfl) (ok_World_give (by omega) 1 ((ly10_0 kRoot).2.1) v1 v2 (-1) μ5 g1) ?_ rfl
          refine wp_iconst (nI 1) dX10_hand_73 rfl ?_
          obtain ⟨rfl, rfl⟩ := ret2 h
          exact wp_zret rfl (Or.inr rfl) dX10_hand_74 ⟨rfl, rfl, rfl⟩
        · rw [if_neg c1] at h
          refine wp_iconst (nI 0) dX10_hand_57 rfl ?_
          obtain ⟨rfl, rfl⟩ := ret2 h
          exact wp_zret rfl (Or.inl rfl) dX10_hand_58 ⟨rfl, rfl, rfl⟩
    · rw [if_pos c1] at h
      refine wp_iconst (nI 0) dX10_hand_25 rfl ?_
      obtain ⟨rfl, rfl⟩ := ret2 h
      exact wp_zret rfl (Or.inl rfl) dX10_hand_26 ⟨rfl, rfl, rfl⟩
theorem ok_Nine_burn {l : Launch} {d : Nat} (hd : 6 ≤ d) (v1 : Int32)  (v2 : Int32)  (μ : Mm) {r : Int32} {μ' : Mm} (h : Nine_burn v1 v2 μ = some (r, μ')) : Wp l SC d (0, 0) mX10_burn 0 [some (.ref 0), some (.int v1), some (.int v2)] [] μ (Qi SC r μ') := by
  unfold Nine_burn at h
  refine wp_aload_n (x := 0) dX10_burn_0 rfl ?_
  refine wp_getR 1 fl_X10_12 (by decide) rfl (kltC kRoot) kRoot (ly10_0 kRoot).1 dX10_burn_1 ?_
  refine wp_iload_n (x := v1) dX10_burn_4 rfl ?_
  refine wp_iload_n (x := v2) dX10_burn_5 rfl ?_
  obtain ⟨r1, g1, h⟩ := bnd_some h
  refine wp_cVi (d := d - 1) (o := 1) cv_X10_131 (kltC (ly10_0 kRoot).2.1) (ly10_0 kRoot).2.1 (as := [.int v1, .int v2]) (rest := []) dX10_burn_6 (by omega) cloC rfl rfl (Nat.le_of_ble_eq_true rfl) (Nat.le_of_ble_eq_true rfl) (ok_World_hasLetter (by omega) 1 ((ly10_0 kRoot).2.1) v1 v2 μ g1) ?_ rfl
  refine wp_if_ne 14 dX10_burn_9 (by decide) (fun c1 => ?_) (fun c1 => ?_)
  · rw [if_neg c1] at h
    refine wp_aload_n (x := 0) dX10_burn_14 rfl ?_
    obtain ⟨μ2, g1, h⟩ := bnd_some h
    refine wp_cVv (d := d - 1) (o := 0) cv_X10_124 (kltC kRoot) kRoot (as := []) (rest := []) dX10_burn_15 (by omega) cloC rfl rfl (Nat.le_of_ble_eq_true rfl) (Nat.le_of_ble_eq_true rfl) (ok_Nine_keepBefore (by omega) μ g1) ?_ rfl
    refine wp_aload_n (x := 0) dX10_burn_18 rfl ?_
    refine wp_getR 1 fl_X10_12 (by decide) rfl (kltC kRoot) kRoot (ly10_0 kRoot).1 dX10_burn_19 ?_
    refine wp_getR 2 fl_X10_82 (by decide) rfl (kltC (ly10_0 kRoot).2.1) (ly10_0 kRoot).2.1 (ly9_0 (ly10_0 kRoot).2.1).1 dX10_burn_22 ?_
    refine wp_iload_n (x := v1) dX10_burn_25 rfl ?_
    obtain ⟨cp3, h⟩ := chv_some h
    refine wp_aald (1 + (21 + 9 * ix v1)) (kltC (ly9_0 (ly10_0 kRoot).2.1).2.1) (ly9_0 (ly10_0 kRoot).2.1).2.1 (by decide) (by rw [(ly9_0 (ly10_0 kRoot).2.1).2.2]; exact cp3) (lyP (ly10_0 kRoot).2.1 cp3).1 dX10_burn_26 ?_
    refine wp_getR ((1 + (21 + 9 * ix v1)) + 3) fl_X10_117 (by decide) rfl (kltC (lyP (ly10_0 kRoot).2.1 cp3).2) (lyP (ly10_0 kRoot).2.1 cp3).2 (ly3_2 (lyP (ly10_0 kRoot).2.1 cp3).2).1 dX10_burn_27 ?_
    refine wp_iload_n (x := v2) dX10_burn_30 rfl ?_
    obtain ⟨μ4, g1, h⟩ := bnd_some h
    refine wp_cVv (d := d - 1) (o := ((1 + (21 + 9 * ix v1)) + 3)) cv_X10_134 (kltC (ly3_2 (lyP (ly10_0 kRoot).2.1 cp3).2).2.1) (ly3_2 (lyP (ly10_0 kRoot).2.1 cp3).2).2.1 (as := [.int v2]) (rest := []) dX10_burn_31 (by omega) cloC rfl rfl (Nat.le_of_ble_eq_true rfl) (Nat.le_of_ble_eq_true rfl) (ok_Letters_remove (by omega) ((1 + (21 + 9 * ix v1)) + 3) ((ly3_2 (lyP (ly10_0 kRoot).2.1 cp3).2).2.1) v2 μ2 g1) ?_ rfl
    refine wp_iconst (nI 1) dX10_burn_34 rfl ?_
    obtain ⟨rfl, rfl⟩ := ret2 h
    exact wp_zret rfl (Or.inr rfl) dX10_burn_35 ⟨rfl, rfl, rfl⟩
  · rw [if_pos c1] at h
    refine wp_iconst (nI 0) dX10_burn_12 rfl ?_
    obtain ⟨rfl, rfl⟩ := ret2 h
    exact wp_zret rfl (Or.inl rfl) dX10_burn_13 ⟨rfl, rfl, rfl⟩
theorem ok_Nine_feed {l : Launch} {d : Nat} (hd : 3 ≤ d) (v1 : Int32)  (v2 : Int32)  (v3 : Int32)  (v4 : Int32)  (v5 : Int32)  (μ : Mm) {r : Int32} {μ' : Mm} (h : Nine_feed v1 v2 v3 v4 v5 μ = some (r, μ')) : Wp l SC d (0, 0) mX10_feed 0 [some (.ref 0), some (.int v1), some (.int v2), some (.int v3), some (.int v4), some (.int v5)] [] μ (Qi SC r μ') := by
  unfold Nine_feed at h
  refine wp_aload_n (x := 0) dX10_feed_0 rfl ?_
  refine wp_getR 532 fl_X10_53 (by decide) rfl (kltC kRoot) kRoot (ly10_12 kRoot).1 dX10_feed_1 ?_
  refine wp_iload_n (x := v1) dX10_feed_4 rfl ?_
  refine wp_iload_n (x := v2) dX10_feed_5 rfl ?_
  refine wp_iload_n (x := v3) dX10_feed_6 rfl ?_
  refine wp_iload (x := v4) dX10_feed_7 rfl ?_
  refine wp_iload (x := v5) dX10_feed_9 rfl ?_
  obtain ⟨r2, μ1, g1, h⟩ := bnd2_some h
  refine wp_cVi (d := d - 1) (o := 532) cv_X10_138 (kltC (ly10_12 kRoot).2.1) (ly10_12 kRoot).2.1 (as := [.int v1, .int v2, .int v3, .int v4, .int v5]) (rest := []) dX10_feed_11 (by omega) cloC rfl rfl (Nat.le_of_ble_eq_true rfl) (Nat.le_of_ble_eq_true rfl) (ok_Reader_append (by omega) 532 ((ly10_12 kRoot).2.1) v1 v2 v3 v4 v5 μ g1) ?_ rfl
  obtain ⟨rfl, rfl⟩ := ret2 h
  exact wp_iret rfl dX10_feed_14 ⟨rfl, rfl, rfl⟩
theorem ok_Nine_end {l : Launch} {d : Nat} (hd : 1 ≤ d) (v1 : Int32)  (μ : Mm) {r : Int32} {μ' : Mm} (h : Nine_end v1 μ = some (r, μ')) : Wp l SC d (0, 0) mX10_end 0 [some (.ref 0), some (.int v1)] [] μ (Qi SC r μ') := by
  unfold Nine_end at h
  refine wp_iload_n (x := v1) dX10_end_0 rfl ?_
  refine wp_if_lt 15 dX10_end_1 (by decide) (fun c1 => ?_) (fun c1 => ?_)
  · rw [if_pos c1] at h
    refine wp_iconst (nI 0) dX10_end_15 rfl ?_
    obtain ⟨rfl, rfl⟩ := ret2 h
    exact wp_zret rfl (Or.inl rfl) dX10_end_16 ⟨rfl, rfl, rfl⟩
  · rw [if_neg c1] at h
    refine wp_iload_n (x := v1) dX10_end_4 rfl ?_
    refine wp_aload_n (x := 0) dX10_end_5 rfl ?_
    refine wp_getR 532 fl_X10_53 (by decide) rfl (kltC kRoot) kRoot (ly10_12 kRoot).1 dX10_end_6 ?_
    refine wp_getI fl_X10_142 (by decide) rfl (kltC (ly10_12 kRoot).2.1) (ly10_12 kRoot).2.1 dX10_end_9 ?_
    refine wp_icmp_le 17 dX10_end_12 (by decide) (fun c1 => ?_) (fun c1 => ?_)
    · rw [if_pos c1] at h
      refine wp_aload_n (x := 0) dX10_end_17 rfl ?_
      refine wp_getR 532 fl_X10_53 (by decide) rfl (kltC kRoot) kRoot (ly10_12 kRoot).1 dX10_end_18 ?_
      refine wp_iload_n (x := v1) dX10_end_21 rfl ?_
      obtain ⟨μ1, e1, h⟩ := lt_some h
      refine wp_putIe e1 fl_X10_142 (by decide) rfl (kltC (ly10_12 kRoot).2.1) (ly10_12 kRoot).2.1 dX10_end_22 ?_
      refine wp_iconst (nI 1) dX10_end_25 rfl ?_
      obtain ⟨rfl, rfl⟩ := ret2 h
      exact wp_zret rfl (Or.inr rfl) dX10_end_26 ⟨rfl, rfl, rfl⟩
    · rw [if_neg c1] at h
      refine wp_iconst (nI 0) dX10_end_15 rfl ?_
      obtain ⟨rfl, rfl⟩ := ret2 h
      exact wp_zret rfl (Or.inl rfl) dX10_end_16 ⟨rfl, rfl, rfl⟩
theorem ok_Nine_text_j84 {l : Launch} {d : Nat} (hd : 47 ≤ d) (v2 : Int32)  (μ : Mm) (z1 : Option Value) {r : Int32} {μ' : Mm} (h : Nine_text_j84 v2 μ = some (r, μ')) : Wp l SC d (0, 0) mX10_text 84 [some (.ref 0), z1, some (.int v2)] [] μ (Qi SC r μ') := by
  unfold Nine_text_j84 at h
  refine wp_aload_n (x := 0) dX10_text_84 rfl ?_
  refine wp_getR 532 fl_X10_53 (by decide) rfl (kltC kRoot) kRoot (ly10_12 kRoot).1 dX10_text_85 ?_
  refine wp_iconst (nI 0) dX10_text_88 rfl ?_
  obtain ⟨μ2, e1, h⟩ := lt_some h
  refine wp_putIe e1 fl_X10_142 (by decide) rfl (kltC (ly10_12 kRoot).2.1) (ly10_12 kRoot).2.1 dX10_text_89 ?_
  refine wp_iload_n (x := v2) dX10_text_92 rfl ?_
  obtain ⟨rfl, rfl⟩ := ret2 h
  exact wp_iret rfl dX10_text_93 ⟨rfl, rfl, rfl⟩
theorem ok_Nine_text {l : Launch} {d : Nat} (hd : 47 ≤ d) (v1 : Int32)  (μ : Mm) {r : Int32} {μ' : Mm} (h : Nine_text v1 μ = some (r, μ')) : Wp l SC d (0, 0) mX10_text 0 [some (.ref 0), some (.int v1), none] [] μ (Qi SC r μ') := by
  unfold Nine_text at h
  refine wp_iconst (-1) dX10_text_0 rfl ?_
  refine wp_istore_n (L2 := [some (.ref 0), some (.int v1), some (.int (-1))]) dX10_text_1 (by decide) rfl rfl ?_
  refine wp_aload_n (x := 0) dX10_text_2 rfl ?_
  refine wp_getR 532 fl_X10_53 (by decide) rfl (kltC kRoot) kRoot (ly10_12 kRoot).1 dX10_text_3 ?_
  obtain ⟨μ1, g1, h⟩ := bnd_some h
  refine wp_cVv (d := d - 1) (o := 532) cv_X10_145 (kltC (ly10_12 kRoot).2.1) (ly10_12 kRoot).2.1 (as := []) (rest := []) dX10_text_6 (by omega) cloC rfl rfl (Nat.le_of_ble_eq_true rfl) (Nat.le_of_ble_eq_true rfl) (ok_Reader_begin (by omega) 532 ((ly10_12 kRoot).2.1) μ g1) ?_ rfl
  refine wp_iload_n (x := v1) dX10_text_9 rfl ?_
  refine wp_if_ne 36 dX10_text_10 (by decide) (fun c1 => ?_) (fun c1 => ?_)
  · rw [if_neg c1] at h
    refine wp_iload_n (x := v1) dX10_text_36 rfl ?_
    refine wp_iconst (nI 1) dX10_text_37 rfl ?_
    refine wp_icmp_ne 64 dX10_text_38 (by decide) (fun c1 => ?_) (fun c1 => ?_)
    · rw [if_neg c1] at h
      refine wp_iload_n (x := v1) dX10_text_64 rfl ?_
      refine wp_iconst (nI 2) dX10_text_65 rfl ?_
      refine wp_icmp_ne 84 dX10_text_66 (by decide) (fun c1 => ?_) (fun c1 => ?_)
      · rw [if_neg c1] at h
        exact ok_Nine_text_j84 hd (-1) μ1 _ h
      · rw [if_pos c1] at h
        refine wp_aload_n (x := 0) dX10_text_69 rfl ?_
        refine wp_getR 532 fl_X10_53 (by decide) rfl (kltC kRoot) kRoot (ly10_12 kRoot).1 dX10_text_70 ?_
        refine wp_aload_n (x := 0) dX10_text_73 rfl ?_
        refine wp_getR 166 fl_X10_19 (by decide) rfl (kltC kRoot) kRoot (ly10_1 kRoot).1 dX10_text_74 ?_
        refine wp_getR 179 fl_X10_159 (by decide) rfl (kltC (ly10_1 kRoot).2.1) (ly10_1 kRoot).2.1 (ly7_2 (ly10_1 kRoot).2.1).1 dX10_text_77 ?_
        obtain ⟨r4, μ3, g1, h⟩ := bnd2_some h
        refine wp_cVi (d := d - 1) (o := 532) cv_X10_163 (kltC (ly10_12 kRoot).2.1) (ly10_12 kRoot).2.1 (as := [.ref 179]) (rest := []) dX10_text_80 (by omega) cloC rfl rfl (Nat.le_of_ble_eq_true rfl) (Nat.le_of_ble_eq_true rfl) (ok_Reader_readPost (by omega) 532 ((ly10_12 kRoot).2.1) 179 ((ly7_2 (ly10_1 kRoot).2.1).2.1) μ1 g1) ?_ rfl
        refine wp_istore_n (L2 := [some (.ref 0), some (.int v1), some (.int r4)]) dX10_text_83 (by decide) rfl rfl ?_
        exact ok_Nine_text_j84 hd r4 μ3 _ h
    · rw [if_pos c1] at h
      refine wp_aload_n (x := 0) dX10_text_41 rfl ?_
      refine wp_getR 532 fl_X10_53 (by decide) rfl (kltC kRoot) kRoot (ly10_12 kRoot).1 dX10_text_42 ?_
      refine wp_aload_n (x := 0) dX10_text_45 rfl ?_
      refine wp_getR 166 fl_X10_19 (by decide) rfl (kltC kRoot) kRoot (ly10_1 kRoot).1 dX10_text_46 ?_
      refine wp_getR 173 fl_X10_156 (by decide) rfl (kltC (ly10_1 kRoot).2.1) (ly10_1 kRoot).2.1 (ly7_1 (ly10_1 kRoot).2.1).1 dX10_text_49 ?_
      refine wp_sipush (nI 301) dX10_text_52 rfl ?_
      refine wp_bipush (nI 7) dX10_text_55 rfl ?_
      obtain ⟨r6, μ5, g1, h⟩ := bnd2_some h
      refine wp_cVi (d := d - 1) (o := 532) cv_X10_152 (kltC (ly10_12 kRoot).2.1) (ly10_12 kRoot).2.1 (as := [.ref 173, .int (nI 301), .int (nI 7)]) (rest := []) dX10_text_57 (by omega) cloC rfl rfl (Nat.le_of_ble_eq_true rfl) (Nat.le_of_ble_eq_true rfl) (ok_Reader_readLaw (by omega) 532 ((ly10_12 kRoot).2.1) 173 ((ly7_1 (ly10_1 kRoot).2.1).2.1) (nI 301) (nI 7) μ1 g1) ?_ rfl
      refine wp_istore_n (L2 := [some (.ref 0), some (.int v1), some (.int r6)]) dX10_text_60 (by decide) rfl rfl ?_
      refine wp_goto 84 dX10_text_61 (by decide) ?_
      exact ok_Nine_text_j84 hd r6 μ5 _ h
  · rw [if_pos c1] at h
    refine wp_aload_n (x := 0) dX10_text_13 rfl ?_
    refine wp_getR 532 fl_X10_53 (by decide) rfl (kltC kRoot) kRoot (ly10_12 kRoot).1 dX10_text_14 ?_
    refine wp_aload_n (x := 0) dX10_text_17 rfl ?_
    refine wp_getR 166 fl_X10_19 (by decide) rfl (kltC kRoot) kRoot (ly10_1 kRoot).1 dX10_text_18 ?_
    refine wp_getR 167 fl_X10_148 (by decide) rfl (kltC (ly10_1 kRoot).2.1) (ly10_1 kRoot).2.1 (ly7_0 (ly10_1 kRoot).2.1).1 dX10_text_21 ?_
    refine wp_sipush (nI 300) dX10_text_24 rfl ?_
    refine wp_bipush (nI 11) dX10_text_27 rfl ?_
    obtain ⟨r8, μ7, g1, h⟩ := bnd2_some h
    refine wp_cVi (d := d - 1) (o := 532) cv_X10_152 (kltC (ly10_12 kRoot).2.1) (ly10_12 kRoot).2.1 (as := [.ref 167, .int (nI 300), .int (nI 11)]) (rest := []) dX10_text_29 (by omega) cloC rfl rfl (Nat.le_of_ble_eq_true rfl) (Nat.le_of_ble_eq_true rfl) (ok_Reader_readLaw (by omega) 532 ((ly10_12 kRoot).2.1) 167 ((ly7_0 (ly10_1 kRoot).2.1).2.1) (nI 300) (nI 11) μ1 g1) ?_ rfl
    refine wp_istore_n (L2 := [some (.ref 0), some (.int v1), some (.int r8)]) dX10_text_32 (by decide) rfl rfl ?_
    refine wp_goto 84 dX10_text_33 (by decide) ?_
    exact ok_Nine_text_j84 hd r8 μ7 _ h
theorem ok_Nine_fault {l : Launch} {d : Nat} (hd : 1 ≤ d) (v1 : Int32)  (μ : Mm) {r : Int32} (h : Nine_fault v1 μ = some r) : Wp l SC d (0, 0) mX10_fault 0 [some (.ref 0), some (.int v1)] [] μ (Qi SC r μ) := by
  unfold Nine_fault at h
  refine wp_iload_n (x := v1) dX10_fault_0 rfl ?_
  by_cases c0 : v1 = (nI 0)
  · rw [if_pos c0] at h
    refine wp_lookup (off := 27) (tgt := 28) dX10_fault_1 (by decide) (by rw [c0]; rfl) (by decide) ?_
    refine wp_aload_n (x := 0) dX10_fault_28 rfl ?_
    refine wp_getR 532 fl_X10_53 (by decide) rfl (kltC kRoot) kRoot (ly10_12 kRoot).1 dX10_fault_29 ?_
    refine wp_getI fl_X10_167 (by decide) rfl (kltC (ly10_12 kRoot).2.1) (ly10_12 kRoot).2.1 dX10_fault_32 ?_
    obtain rfl := ret1 h
    exact wp_iret rfl dX10_fault_35 ⟨rfl, rfl, rfl⟩
  · rw [if_neg c0] at h
    by_cases c1 : v1 = (nI 1)
    · rw [if_pos c1] at h
      refine wp_lookup (off := 35) (tgt := 36) dX10_fault_1 (by decide) (by rw [c1]; rfl) (by decide) ?_
      refine wp_aload_n (x := 0) dX10_fault_36 rfl ?_
      refine wp_getR 532 fl_X10_53 (by decide) rfl (kltC kRoot) kRoot (ly10_12 kRoot).1 dX10_fault_37 ?_
      refine wp_getI fl_X10_170 (by decide) rfl (kltC (ly10_12 kRoot).2.1) (ly10_12 kRoot).2.1 dX10_fault_40 ?_
      obtain rfl := ret1 h
      exact wp_iret rfl dX10_fault_43 ⟨rfl, rfl, rfl⟩
    · rw [if_neg c1] at h
      have q0 := nei c0 (z := 0) rfl
      have q1 := nei c1 (z := 1) rfl
      refine wp_lookup (off := 43) (tgt := 44) dX10_fault_1 (by decide) (by simp [Op.lookupswitch.offset, Ne.symm q0, Ne.symm q1]) (by decide) ?_
      refine wp_iconst (-1) dX10_fault_44 rfl ?_
      obtain rfl := ret1 h
      exact wp_iret rfl dX10_fault_45 ⟨rfl, rfl, rfl⟩
theorem ok_Nine_days_j49 {l : Launch} {d : Nat} (hd : 7 ≤ d) (v1 : Int32)  (v2 : Int32)  (v3 : Int32)  (μ : Mm) {Q : Option Value → Sh → Mm → Prop} (K : (Int32 × Int32 × Mm) ⊕ (Int32 × Mm) → Prop) (hb : ∀ (s : (Int32 × Int32 × Mm)), K (Sum.inl s) → Wp l SC d (0, 0) mX10_days 32 [some (.ref 0), some (.int v1), some (.int s.1), some (.int s.2.1)] [] s.2.2 Q) (he0 : ∀ (x : (Int32 × Mm)) (z1 : Option Value) (z3 : Option Value), K (Sum.inr x) → Wp l SC d (0, 0) mX10_days 69 [some (.ref 0), z1, some (.int x.1), z3] [] x.2 Q) {z : (Int32 × Int32 × Mm) ⊕ (Int32 × Mm)} (h : Nine_days_j49 v1 v2 v3 μ = some z) (hz : K z) : Wp l SC d (0, 0) mX10_days 49 [some (.ref 0), some (.int v1), some (.int v2), some (.int v3)] [] μ Q := by
  unfold Nine_days_j49 at h
  refine wp_iload_n (x := v2) dX10_days_49 rfl ?_
  refine wp_aload_n (x := 0) dX10_days_50 rfl ?_
  refine wp_getR 1 fl_X10_12 (by decide) rfl (kltC kRoot) kRoot (ly10_0 kRoot).1 dX10_days_51 ?_
  refine wp_aload_n (x := 0) dX10_days_54 rfl ?_
  refine wp_getR 166 fl_X10_19 (by decide) rfl (kltC kRoot) kRoot (ly10_1 kRoot).1 dX10_days_55 ?_
  obtain ⟨r2, μ1, g1, h⟩ := bnd2_some h
  refine wp_cVi (d := d - 1) (o := 1) cv_X10_176 (kltC (ly10_0 kRoot).2.1) (ly10_0 kRoot).2.1 (as := [.ref 166]) (rest := [.int v2]) dX10_days_58 (by omega) cloC rfl rfl (Nat.le_of_ble_eq_true rfl) (Nat.le_of_ble_eq_true rfl) (ok_World_passDay (by omega) 1 ((ly10_0 kRoot).2.1) 166 ((ly10_1 kRoot).2.1) μ g1) ?_ rfl
  refine wp_iadd dX10_days_61 ?_
  refine wp_istore_n (L2 := [some (.ref 0), some (.int v1), some (.int (v2 + r2)), some (.int v3)]) dX10_days_62 (by decide) rfl rfl ?_
  refine wp_iinc (x := v3) (k0 := (nI 1)) (L2 := [some (.ref 0), some (.int v1), some (.int (v2 + r2)), some (.int (v3 + (nI 1)))]) dX10_days_63 rfl rfl (by decide) rfl rfl ?_
  refine wp_goto 32 dX10_days_66 (by decide) ?_
  obtain rfl := some1 h
  exact hb ((v2 + r2), (v3 + (nI 1)), μ1) hz
theorem ok_Nine_days_l32 {l : Launch} {d : Nat} (hd : 7 ≤ d) (v1 : Int32)  (v2 : Int32)  (v3 : Int32)  (μ : Mm) {Q : Option Value → Sh → Mm → Prop} (K : (Int32 × Int32 × Mm) ⊕ (Int32 × Mm) → Prop) (hb : ∀ (s : (Int32 × Int32 × Mm)), K (Sum.inl s) → Wp l SC d (0, 0) mX10_days 32 [some (.ref 0), some (.int v1), some (.int s.1), some (.int s.2.1)] [] s.2.2 Q) (he0 : ∀ (x : (Int32 × Mm)) (z1 : Option Value) (z3 : Option Value), K (Sum.inr x) → Wp l SC d (0, 0) mX10_days 69 [some (.ref 0), z1, some (.int x.1), z3] [] x.2 Q) {z : (Int32 × Int32 × Mm) ⊕ (Int32 × Mm)} (h : Nine_days_l32 v1 v2 v3 μ = some z) (hz : K z) : Wp l SC d (0, 0) mX10_days 32 [some (.ref 0), some (.int v1), some (.int v2), some (.int v3)] [] μ Q := by
  unfold Nine_days_l32 at h
  refine wp_iload_n (x := v3) dX10_days_32 rfl ?_
  refine wp_iload_n (x := v1) dX10_days_33 rfl ?_
  refine wp_icmp_ge 69 dX10_days_34 (by decide) (fun c1 => ?_) (fun c1 => ?_)
  · rw [if_pos c1] at h
    obtain rfl := some1 h
    exact he0 (v2, μ) _ _ hz
  · rw [if_neg c1] at h
    refine wp_iload_n (x := v1) dX10_days_37 rfl ?_
    refine wp_iload_n (x := v3) dX10_days_38 rfl ?_
    refine wp_isub dX10_days_39 ?_
    refine wp_bipush (nI 6) dX10_days_40 rfl ?_
    refine wp_icmp_gt 49 dX10_days_42 (by decide) (fun c1 => ?_) (fun c1 => ?_)
    · rw [if_pos c1] at h
      exact ok_Nine_days_j49 hd v1 v2 v3 μ K hb he0 h hz
    · rw [if_neg c1] at h
      refine wp_aload_n (x := 0) dX10_days_45 rfl ?_
      obtain ⟨μ3, g1, h⟩ := bnd_some h
      refine wp_cVv (d := d - 1) (o := 0) cv_X10_124 (kltC kRoot) kRoot (as := []) (rest := []) dX10_days_46 (by omega) cloC rfl rfl (Nat.le_of_ble_eq_true rfl) (Nat.le_of_ble_eq_true rfl) (ok_Nine_keepBefore (by omega) μ g1) ?_ rfl
      exact ok_Nine_days_j49 hd v1 v2 v3 μ3 K hb he0 h hz
theorem okl_Nine_days_l32 {l : Launch} {d : Nat} (hd : 7 ≤ d) (v1 : Int32)  {Q : Option Value → Sh → Mm → Prop} (K : (Int32 × Mm) → Prop) (he0 : ∀ (x : (Int32 × Mm)) (z1 : Option Value) (z3 : Option Value), K x → Wp l SC d (0, 0) mX10_days 69 [some (.ref 0), z1, some (.int x.1), z3] [] x.2 Q) : ∀ (n : Nat) (s : (Int32 × Int32 × Mm)) (y : (Int32 × Mm)) , iter n (fun s => Nine_days_l32 v1 s.1 s.2.1 s.2.2) s = some y → K y → Wp l SC d (0, 0) mX10_days 32 [some (.ref 0), some (.int v1), some (.int s.1), some (.int s.2.1)] [] s.2.2 Q := by
  intro n
  induction n with
  | zero => intro s y  h; cases h
  | succ n ih =>
    intro s y  h hK
    obtain ⟨z, hz, hn⟩ := iter_some h
    refine ok_Nine_days_l32 hd v1 s.1 s.2.1 s.2.2 (fun z => nxt n (fun s => Nine_days_l32 v1 s.1 s.2.1 s.2.2) z y) ?_ ?_ hz hn
    · intro s2  h2
      exact ih s2 y h2 hK
    · intro x z1 z3 h2
      have h3 : x = y := h2
      subst h3
      exact he0 x _ _ hK
theorem ok_Nine_days {l : Launch} {d : Nat} (hd : 7 ≤ d) (v1 : Int32)  (μ : Mm) {r : Int32} {μ' : Mm} (h : Nine_days v1 μ = some (r, μ')) : Wp l SC d (0, 0) mX10_days 0 [some (.ref 0), some (.int v1), none, none] [] μ (Qi SC r μ') := by
  unfold Nine_days at h
  refine wp_iload_n (x := v1) dX10_days_0 rfl ?_
  refine wp_iconst (nI 1) dX10_days_1 rfl ?_
  refine wp_icmp_lt 26 dX10_days_2 (by decide) (fun c1 => ?_) (fun c1 => ?_)
  · rw [if_pos c1] at h
    refine wp_iconst (-1) dX10_days_26 rfl ?_
    obtain ⟨rfl, rfl⟩ := ret2 h
    exact wp_iret rfl dX10_days_27 ⟨rfl, rfl, rfl⟩
  · rw [if_neg c1] at h
    refine wp_iload_n (x := v1) dX10_days_5 rfl ?_
    refine wp_bipush (nI 60) dX10_days_6 rfl ?_
    refine wp_icmp_gt 26 dX10_days_8 (by decide) (fun c1 => ?_) (fun c1 => ?_)
    · rw [if_pos c1] at h
      refine wp_iconst (-1) dX10_days_26 rfl ?_
      obtain ⟨rfl, rfl⟩ := ret2 h
      exact wp_iret rfl dX10_days_27 ⟨rfl, rfl, rfl⟩
    · rw [if_neg c1] at h
      refine wp_aload_n (x := 0) dX10_days_11 rfl ?_
      refine wp_getR 1 fl_X10_12 (by decide) rfl (kltC kRoot) kRoot (ly10_0 kRoot).1 dX10_days_12 ?_
      refine wp_getI fl_X10_173 (by decide) rfl (kltC (ly10_0 kRoot).2.1) (ly10_0 kRoot).2.1 dX10_days_15 ?_
      refine wp_iload_n (x := v1) dX10_days_18 rfl ?_
      refine wp_iadd dX10_days_19 ?_
      refine wp_sipush (nI 9999) dX10_days_20 rfl ?_
      refine wp_icmp_le 28 dX10_days_23 (by decide) (fun c1 => ?_) (fun c1 => ?_)
      · rw [if_pos c1] at h
        refine wp_iconst (nI 0) dX10_days_28 rfl ?_
        refine wp_istore_n (L2 := [some (.ref 0), some (.int v1), some (.int (nI 0)), none]) dX10_days_29 (by decide) rfl rfl ?_
        refine wp_iconst (nI 0) dX10_days_30 rfl ?_
        refine wp_istore_n (L2 := [some (.ref 0), some (.int v1), some (.int (nI 0)), some (.int (nI 0))]) dX10_days_31 (by decide) rfl rfl ?_
        obtain ⟨x32, hi, h⟩ := bni_some h
        refine okl_Nine_days_l32 hd v1 (fun z => z = x32) ?_ 1000000 ((nI 0), (nI 0), μ) x32 hi rfl
        · intro y0 z1 z3 e0
          have e0 : y0 = x32 := e0
          subst e0
          refine wp_iload_n (x := y0.1) dX10_days_69 rfl ?_
          obtain ⟨rfl, rfl⟩ := ret2 h
          exact wp_iret rfl dX10_days_70 ⟨rfl, rfl, rfl⟩
      · rw [if_neg c1] at h
        refine wp_iconst (-1) dX10_days_26 rfl ?_
        obtain ⟨rfl, rfl⟩ := ret2 h
        exact wp_iret rfl dX10_days_27 ⟨rfl, rfl, rfl⟩
theorem ok_Nine_of_j66 {l : Launch} {d : Nat} (hd : 2 ≤ d) (v2 : Int32)  (v3 : Nat) (t3 : sK SC v3 = 3) (μ : Mm) (z1 : Option Value) {r : Int32} (h : Nine_of_j66 v2 v3 μ = some r) : Wp l SC d (0, 0) mX10_of 66 [some (.ref 0), z1, some (.int v2), some (.ref v3)] [] μ (Qi SC r μ) := by
  unfold Nine_of_j66 at h
  refine wp_iload_n (x := v2) dX10_of_66 rfl ?_
  by_cases c0 : v2 = (nI 6)
  · rw [if_pos c0] at h
    refine wp_tableIn (off := 33) (tgt := 100) dX10_of_67 (by rw [c0]; decide) (by rw [c0]; decide) (by rw [c0]; rfl) (by decide) ?_
    refine wp_aload_n (x := v3) dX10_of_100 rfl ?_
    refine wp_getR (v3 + 3) fl_X10_117 (by decide) rfl (kltC t3) t3 (ly3_2 t3).1 dX10_of_101 ?_
    refine wp_getI fl_X10_180 (by decide) rfl (kltC (ly3_2 t3).2.1) (ly3_2 t3).2.1 dX10_of_104 ?_
    obtain rfl := ret1 h
    exact wp_iret rfl dX10_of_107 ⟨rfl, rfl, rfl⟩
  · rw [if_neg c0] at h
    by_cases c1 : v2 = (nI 7)
    · rw [if_pos c1] at h
      refine wp_tableIn (off := 41) (tgt := 108) dX10_of_67 (by rw [c1]; decide) (by rw [c1]; decide) (by rw [c1]; rfl) (by decide) ?_
      refine wp_aload_n (x := v3) dX10_of_108 rfl ?_
      refine wp_getI fl_X10_91 (by decide) rfl (kltC t3) t3 dX10_of_109 ?_
      obtain rfl := ret1 h
      exact wp_iret rfl dX10_of_112 ⟨rfl, rfl, rfl⟩
    · rw [if_neg c1] at h
      by_cases c2 : v2 = (nI 8)
      · rw [if_pos c2] at h
        refine wp_tableIn (off := 46) (tgt := 113) dX10_of_67 (by rw [c2]; decide) (by rw [c2]; decide) (by rw [c2]; rfl) (by decide) ?_
        refine wp_aload_n (x := v3) dX10_of_113 rfl ?_
        refine wp_getI fl_X10_94 (by decide) rfl (kltC t3) t3 dX10_of_114 ?_
        obtain rfl := ret1 h
        exact wp_iret rfl dX10_of_117 ⟨rfl, rfl, rfl⟩
      · rw [if_neg c2] at h
        by_cases c3 : v2 = (nI 9)
        · rw [if_pos c3] at h
          refine wp_tableIn (off := 51) (tgt := 118) dX10_of_67 (by rw [c3]; decide) (by rw [c3]; decide) (by rw [c3]; rfl) (by decide) ?_
          refine wp_aload_n (x := v3) dX10_of_118 rfl ?_
          refine wp_getL fl_X10_183 (by decide) rfl (kltC t3) t3 dX10_of_119 ?_
          obtain ⟨r3, g1, h⟩ := bnd_some h
          refine wp_cLi (d := d - 1) cs_X10_187 (x := (μ.2 v3 6)) (rest := []) dX10_of_122 (by omega) cloC (Nat.le_of_ble_eq_true rfl) (ok_JL_bitCount wfC (by omega) (μ.2 v3 6) μ g1) ?_
          obtain rfl := ret1 h
          exact wp_iret rfl dX10_of_125 ⟨rfl, rfl, rfl⟩
        · rw [if_neg c3] at h
          by_cases c4 : v2 = (nI 10)
          · rw [if_pos c4] at h
            refine wp_tableIn (off := 59) (tgt := 126) dX10_of_67 (by rw [c4]; decide) (by rw [c4]; decide) (by rw [c4]; rfl) (by decide) ?_
            refine wp_aload_n (x := v3) dX10_of_126 rfl ?_
            refine wp_getI fl_X10_193 (by decide) rfl (kltC t3) t3 dX10_of_127 ?_
            obtain rfl := ret1 h
            exact wp_iret rfl dX10_of_130 ⟨rfl, rfl, rfl⟩
          · rw [if_neg c4] at h
            have q0 := nei c0 (z := 6) rfl
            have q1 := nei c1 (z := 7) rfl
            have q2 := nei c2 (z := 8) rfl
            have q3 := nei c3 (z := 9) rfl
            have q4 := nei c4 (z := 10) rfl
            refine wp_tableOut dX10_of_67 (by omega) (tgt := 131) (by decide) ?_
            refine wp_iconst (-1) dX10_of_131 rfl ?_
            obtain rfl := ret1 h
            exact wp_iret rfl dX10_of_132 ⟨rfl, rfl, rfl⟩
theorem ok_Nine_of_j50 {l : Launch} {d : Nat} (hd : 2 ≤ d) (v2 : Int32)  (v3 : Nat) (t3 : sK SC v3 = 3) (μ : Mm) (z1 : Option Value) {r : Int32} (h : Nine_of_j50 v2 v3 μ = some r) : Wp l SC d (0, 0) mX10_of 50 [some (.ref 0), z1, some (.int v2), some (.ref v3)] [] μ (Qi SC r μ) := by
  unfold Nine_of_j50 at h
  refine wp_iload_n (x := v2) dX10_of_50 rfl ?_
  refine wp_if_lt 66 dX10_of_51 (by decide) (fun c1 => ?_) (fun c1 => ?_)
  · rw [if_pos c1] at h
    exact ok_Nine_of_j66 hd v2 v3 t3 μ _ h
  · rw [if_neg c1] at h
    refine wp_iload_n (x := v2) dX10_of_54 rfl ?_
    refine wp_iconst (nI 5) dX10_of_55 rfl ?_
    refine wp_icmp_gt 66 dX10_of_56 (by decide) (fun c1 => ?_) (fun c1 => ?_)
    · rw [if_pos c1] at h
      exact ok_Nine_of_j66 hd v2 v3 t3 μ _ h
    · rw [if_neg c1] at h
      refine wp_aload_n (x := v3) dX10_of_59 rfl ?_
      refine wp_getR (v3 + 1) fl_X10_86 (by decide) rfl (kltC t3) t3 (ly3_0 t3).1 dX10_of_60 ?_
      refine wp_iload_n (x := v2) dX10_of_63 rfl ?_
      obtain ⟨c1, h⟩ := chv_some h
      refine wp_ialde (kltC (ly3_0 t3).2.1) (ly3_0 t3).2.1 (ly3_0 t3).2.2 c1 dX10_of_64 ?_
      obtain rfl := ret1 h
      exact wp_iret rfl dX10_of_65 ⟨rfl, rfl, rfl⟩
theorem ok_Nine_of {l : Launch} {d : Nat} (hd : 2 ≤ d) (v1 : Int32)  (v2 : Int32)  (μ : Mm) {r : Int32} (h : Nine_of v1 v2 μ = some r) : Wp l SC d (0, 0) mX10_of 0 [some (.ref 0), some (.int v1), some (.int v2), none] [] μ (Qi SC r μ) := by
  unfold Nine_of at h
  refine wp_aload_n (x := 0) dX10_of_0 rfl ?_
  refine wp_getR 1 fl_X10_12 (by decide) rfl (kltC kRoot) kRoot (ly10_0 kRoot).1 dX10_of_1 ?_
  refine wp_iload_n (x := v1) dX10_of_4 rfl ?_
  obtain ⟨r1, g1, h⟩ := bnd_some h
  refine wp_cVi (d := d - 1) (o := 1) cv_X10_78 (kltC (ly10_0 kRoot).2.1) (ly10_0 kRoot).2.1 (as := [.int v1]) (rest := []) dX10_of_5 (by omega) cloC rfl rfl (Nat.le_of_ble_eq_true rfl) (Nat.le_of_ble_eq_true rfl) (ok_World_hasPerson (by omega) 1 ((ly10_0 kRoot).2.1) v1 μ g1) ?_ rfl
  refine wp_if_ne 13 dX10_of_8 (by decide) (fun c1 => ?_) (fun c1 => ?_)
  · rw [if_neg c1] at h
    refine wp_aload_n (x := 0) dX10_of_13 rfl ?_
    refine wp_getR 1 fl_X10_12 (by decide) rfl (kltC kRoot) kRoot (ly10_0 kRoot).1 dX10_of_14 ?_
    refine wp_getR 2 fl_X10_82 (by decide) rfl (kltC (ly10_0 kRoot).2.1) (ly10_0 kRoot).2.1 (ly9_0 (ly10_0 kRoot).2.1).1 dX10_of_17 ?_
    refine wp_iload_n (x := v1) dX10_of_20 rfl ?_
    obtain ⟨cp2, h⟩ := chv_some h
    refine wp_aald (1 + (21 + 9 * ix v1)) (kltC (ly9_0 (ly10_0 kRoot).2.1).2.1) (ly9_0 (ly10_0 kRoot).2.1).2.1 (by decide) (by rw [(ly9_0 (ly10_0 kRoot).2.1).2.2]; exact cp2) (lyP (ly10_0 kRoot).2.1 cp2).1 dX10_of_21 ?_
    refine wp_astore_n (L2 := [some (.ref 0), some (.int v1), some (.int v2), some (.ref (1 + (21 + 9 * ix v1)))]) dX10_of_22 (by decide) rfl rfl ?_
    refine wp_iload_n (x := v2) dX10_of_23 rfl ?_
    refine wp_bipush (nI 20) dX10_of_24 rfl ?_
    refine wp_icmp_lt 50 dX10_of_26 (by decide) (fun c1 => ?_) (fun c1 => ?_)
    · rw [if_pos c1] at h
      exact ok_Nine_of_j50 hd v2 (1 + (21 + 9 * ix v1)) ((lyP (ly10_0 kRoot).2.1 cp2).2) μ _ h
    · rw [if_neg c1] at h
      refine wp_iload_n (x := v2) dX10_of_29 rfl ?_
      refine wp_bipush (nI 20) dX10_of_30 rfl ?_
      refine wp_isub dX10_of_32 ?_
      refine wp_aload_n (x := (1 + (21 + 9 * ix v1))) dX10_of_33 rfl ?_
      refine wp_getI fl_X10_91 (by decide) rfl (kltC (lyP (ly10_0 kRoot).2.1 cp2).2) (lyP (ly10_0 kRoot).2.1 cp2).2 dX10_of_34 ?_
      refine wp_icmp_ge 50 dX10_of_37 (by decide) (fun c1 => ?_) (fun c1 => ?_)
      · rw [if_pos c1] at h
        exact ok_Nine_of_j50 hd v2 (1 + (21 + 9 * ix v1)) ((lyP (ly10_0 kRoot).2.1 cp2).2) μ _ h
      · rw [if_neg c1] at h
        refine wp_aload_n (x := (1 + (21 + 9 * ix v1))) dX10_of_40 rfl ?_
        refine wp_getR ((1 + (21 + 9 * ix v1)) + 2) fl_X10_97 (by decide) rfl (kltC (lyP (ly10_0 kRoot).2.1 cp2).2) (lyP (ly10_0 kRoot).2.1 cp2).2 (ly3_1 (lyP (ly10_0 kRoot).2.1 cp2).2).1 dX10_of_41 ?_
        refine wp_iload_n (x := v2) dX10_of_44 rfl ?_
        refine wp_bipush (nI 20) dX10_of_45 rfl ?_
        refine wp_isub dX10_of_47 ?_
        obtain ⟨c1, h⟩ := chv_some h
        refine wp_ialde (kltC (ly3_1 (lyP (ly10_0 kRoot).2.1 cp2).2).2.1) (ly3_1 (lyP (ly10_0 kRoot).2.1 cp2).2).2.1 (ly3_1 (lyP (ly10_0 kRoot).2.1 cp2).2).2.2 c1 dX10_of_48 ?_
        obtain rfl := ret1 h
        exact wp_iret rfl dX10_of_49 ⟨rfl, rfl, rfl⟩
  · rw [if_pos c1] at h
    refine wp_iconst (-1) dX10_of_11 rfl ?_
    obtain rfl := ret1 h
    exact wp_iret rfl dX10_of_12 ⟨rfl, rfl, rfl⟩
theorem ok_Nine_letter {l : Launch} {d : Nat} (hd : 5 ≤ d) (v1 : Int32)  (v2 : Int32)  (v3 : Int32)  (μ : Mm) {r : Int32} {μ' : Mm} (h : Nine_letter v1 v2 v3 μ = some (r, μ')) : Wp l SC d (0, 0) mX10_letter 0 [some (.ref 0), some (.int v1), some (.int v2), some (.int v3), none] [] μ (Qi SC r μ') := by
  unfold Nine_letter at h
  refine wp_aload_n (x := 0) dX10_letter_0 rfl ?_
  refine wp_getR 1 fl_X10_12 (by decide) rfl (kltC kRoot) kRoot (ly10_0 kRoot).1 dX10_letter_1 ?_
  refine wp_iload_n (x := v1) dX10_letter_4 rfl ?_
  refine wp_iload_n (x := v2) dX10_letter_5 rfl ?_
  obtain ⟨r1, g1, h⟩ := bnd_some h
  refine wp_cVi (d := d - 1) (o := 1) cv_X10_131 (kltC (ly10_0 kRoot).2.1) (ly10_0 kRoot).2.1 (as := [.int v1, .int v2]) (rest := []) dX10_letter_6 (by omega) cloC rfl rfl (Nat.le_of_ble_eq_true rfl) (Nat.le_of_ble_eq_true rfl) (ok_World_hasLetter (by omega) 1 ((ly10_0 kRoot).2.1) v1 v2 μ g1) ?_ rfl
  refine wp_if_ne 15 dX10_letter_9 (by decide) (fun c1 => ?_) (fun c1 => ?_)
  · rw [if_neg c1] at h
    refine wp_aload_n (x := 0) dX10_letter_15 rfl ?_
    refine wp_getR 1 fl_X10_12 (by decide) rfl (kltC kRoot) kRoot (ly10_0 kRoot).1 dX10_letter_16 ?_
    refine wp_getR 2 fl_X10_82 (by decide) rfl (kltC (ly10_0 kRoot).2.1) (ly10_0 kRoot).2.1 (ly9_0 (ly10_0 kRoot).2.1).1 dX10_letter_19 ?_
    refine wp_iload_n (x := v1) dX10_letter_22 rfl ?_
    obtain ⟨cp2, h⟩ := chv_some h
    refine wp_aald (1 + (21 + 9 * ix v1)) (kltC (ly9_0 (ly10_0 kRoot).2.1).2.1) (ly9_0 (ly10_0 kRoot).2.1).2.1 (by decide) (by rw [(ly9_0 (ly10_0 kRoot).2.1).2.2]; exact cp2) (lyP (ly10_0 kRoot).2.1 cp2).1 dX10_letter_23 ?_
    refine wp_getR ((1 + (21 + 9 * ix v1)) + 3) fl_X10_117 (by decide) rfl (kltC (lyP (ly10_0 kRoot).2.1 cp2).2) (lyP (ly10_0 kRoot).2.1 cp2).2 (ly3_2 (lyP (ly10_0 kRoot).2.1 cp2).2).1 dX10_letter_24 ?_
    refine wp_astore (L2 := [some (.ref 0), some (.int v1), some (.int v2), some (.int v3), some (.ref ((1 + (21 + 9 * ix v1)) + 3))]) dX10_letter_27 (by decide) rfl rfl ?_
    refine wp_iload_n (x := v3) dX10_letter_29 rfl ?_
    by_cases c0 : v3 = (nI 0)
    · rw [if_pos c0] at h
      refine wp_tableIn (off := 42) (tgt := 72) dX10_letter_30 (by rw [c0]; decide) (by rw [c0]; decide) (by rw [c0]; rfl) (by decide) ?_
      refine wp_aload (x := ((1 + (21 + 9 * ix v1)) + 3)) dX10_letter_72 rfl ?_
      refine wp_getR ((1 + (21 + 9 * ix v1)) + 4) fl_X10_196 (by decide) rfl (kltC (ly3_2 (lyP (ly10_0 kRoot).2.1 cp2).2).2.1) (ly3_2 (lyP (ly10_0 kRoot).2.1 cp2).2).2.1 (ly2_0 (ly3_2 (lyP (ly10_0 kRoot).2.1 cp2).2).2.1).1 dX10_letter_74 ?_
      refine wp_iload_n (x := v2) dX10_letter_77 rfl ?_
      obtain ⟨c1, h⟩ := chv_some h
      refine wp_ialde (kltC (ly2_0 (ly3_2 (lyP (ly10_0 kRoot).2.1 cp2).2).2.1).2.1) (ly2_0 (ly3_2 (lyP (ly10_0 kRoot).2.1 cp2).2).2.1).2.1 rfl c1 dX10_letter_78 ?_
      obtain ⟨rfl, rfl⟩ := ret2 h
      exact wp_iret rfl dX10_letter_79 ⟨rfl, rfl, rfl⟩
    · rw [if_neg c0] at h
      by_cases c1 : v3 = (nI 1)
      · rw [if_pos c1] at h
        refine wp_tableIn (off := 50) (tgt := 80) dX10_letter_30 (by rw [c1]; decide) (by rw [c1]; decide) (by rw [c1]; rfl) (by decide) ?_
        refine wp_aload (x := ((1 + (21 + 9 * ix v1)) + 3)) dX10_letter_80 rfl ?_
        refine wp_getR ((1 + (21 + 9 * ix v1)) + 5) fl_X10_199 (by decide) rfl (kltC (ly3_2 (lyP (ly10_0 kRoot).2.1 cp2).2).2.1) (ly3_2 (lyP (ly10_0 kRoot).2.1 cp2).2).2.1 (ly2_1 (ly3_2 (lyP (ly10_0 kRoot).2.1 cp2).2).2.1).1 dX10_letter_82 ?_
        refine wp_iload_n (x := v2) dX10_letter_85 rfl ?_
        obtain ⟨c1, h⟩ := chv_some h
        refine wp_ialde (kltC (ly2_1 (ly3_2 (lyP (ly10_0 kRoot).2.1 cp2).2).2.1).2.1) (ly2_1 (ly3_2 (lyP (ly10_0 kRoot).2.1 cp2).2).2.1).2.1 rfl c1 dX10_letter_86 ?_
        obtain ⟨rfl, rfl⟩ := ret2 h
        exact wp_iret rfl dX10_letter_87 ⟨rfl, rfl, rfl⟩
      · rw [if_neg c1] at h
        by_cases c2 : v3 = (nI 2)
        · rw [if_pos c2] at h
          refine wp_tableIn (off := 58) (tgt := 88) dX10_letter_30 (by rw [c2]; decide) (by rw [c2]; decide) (by rw [c2]; rfl) (by decide) ?_
          refine wp_aload (x := ((1 + (21 + 9 * ix v1)) + 3)) dX10_letter_88 rfl ?_
          refine wp_getR ((1 + (21 + 9 * ix v1)) + 7) fl_X10_202 (by decide) rfl (kltC (ly3_2 (lyP (ly10_0 kRoot).2.1 cp2).2).2.1) (ly3_2 (lyP (ly10_0 kRoot).2.1 cp2).2).2.1 (ly2_3 (ly3_2 (lyP (ly10_0 kRoot).2.1 cp2).2).2.1).1 dX10_letter_90 ?_
          refine wp_iload_n (x := v2) dX10_letter_93 rfl ?_
          obtain ⟨c1, h⟩ := chv_some h
          refine wp_ialde (kltC (ly2_3 (ly3_2 (lyP (ly10_0 kRoot).2.1 cp2).2).2.1).2.1) (ly2_3 (ly3_2 (lyP (ly10_0 kRoot).2.1 cp2).2).2.1).2.1 rfl c1 dX10_letter_94 ?_
          obtain ⟨rfl, rfl⟩ := ret2 h
          exact wp_iret rfl dX10_letter_95 ⟨rfl, rfl, rfl⟩
        · rw [if_neg c2] at h
          by_cases c3 : v3 = (nI 3)
          · rw [if_pos c3] at h
            refine wp_tableIn (off := 66) (tgt := 96) dX10_letter_30 (by rw [c3]; decide) (by rw [c3]; decide) (by rw [c3]; rfl) (by decide) ?_
            refine wp_aload (x := ((1 + (21 + 9 * ix v1)) + 3)) dX10_letter_96 rfl ?_
            refine wp_getR ((1 + (21 + 9 * ix v1)) + 8) fl_X10_204 (by decide) rfl (kltC (ly3_2 (lyP (ly10_0 kRoot).2.1 cp2).2).2.1) (ly3_2 (lyP (ly10_0 kRoot).2.1 cp2).2).2.1 (ly2_4 (ly3_2 (lyP (ly10_0 kRoot).2.1 cp2).2).2.1).1 dX10_letter_98 ?_
            refine wp_iload_n (x := v2) dX10_letter_101 rfl ?_
            obtain ⟨c1, h⟩ := chv_some h
            refine wp_ialde (kltC (ly2_4 (ly3_2 (lyP (ly10_0 kRoot).2.1 cp2).2).2.1).2.1) (ly2_4 (ly3_2 (lyP (ly10_0 kRoot).2.1 cp2).2).2.1).2.1 rfl c1 dX10_letter_102 ?_
            obtain ⟨rfl, rfl⟩ := ret2 h
            exact wp_iret rfl dX10_letter_103 ⟨rfl, rfl, rfl⟩
          · rw [if_neg c3] at h
            by_cases c4 : v3 = (nI 4)
            · rw [if_pos c4] at h
              refine wp_tableIn (off := 74) (tgt := 104) dX10_letter_30 (by rw [c4]; decide) (by rw [c4]; decide) (by rw [c4]; rfl) (by decide) ?_
              refine wp_aload_n (x := 0) dX10_letter_104 rfl ?_
              refine wp_getR 1 fl_X10_12 (by decide) rfl (kltC kRoot) kRoot (ly10_0 kRoot).1 dX10_letter_105 ?_
              refine wp_iload_n (x := v1) dX10_letter_108 rfl ?_
              refine wp_iload_n (x := v2) dX10_letter_109 rfl ?_
              refine wp_aload_n (x := 0) dX10_letter_110 rfl ?_
              refine wp_getR 166 fl_X10_19 (by decide) rfl (kltC kRoot) kRoot (ly10_1 kRoot).1 dX10_letter_111 ?_
              refine wp_getR 167 fl_X10_148 (by decide) rfl (kltC (ly10_1 kRoot).2.1) (ly10_1 kRoot).2.1 (ly7_0 (ly10_1 kRoot).2.1).1 dX10_letter_114 ?_
              obtain ⟨r4, μ3, g1, h⟩ := bnd2_some h
              refine wp_cVi (d := d - 1) (o := 1) cv_X10_207 (kltC (ly10_0 kRoot).2.1) (ly10_0 kRoot).2.1 (as := [.int v1, .int v2, .ref 167]) (rest := []) dX10_letter_117 (by omega) cloC rfl rfl (Nat.le_of_ble_eq_true rfl) (Nat.le_of_ble_eq_true rfl) (ok_World_copiesToWrite (by omega) 1 ((ly10_0 kRoot).2.1) v1 v2 167 ((ly7_0 (ly10_1 kRoot).2.1).2.1) μ g1) ?_ rfl
              obtain ⟨rfl, rfl⟩ := ret2 h
              exact wp_iret rfl dX10_letter_120 ⟨rfl, rfl, rfl⟩
            · rw [if_neg c4] at h
              by_cases c5 : v3 = (nI 5)
              · rw [if_pos c5] at h
                refine wp_tableIn (off := 91) (tgt := 121) dX10_letter_30 (by rw [c5]; decide) (by rw [c5]; decide) (by rw [c5]; rfl) (by decide) ?_
                refine wp_aload_n (x := 0) dX10_letter_121 rfl ?_
                refine wp_getR 1 fl_X10_12 (by decide) rfl (kltC kRoot) kRoot (ly10_0 kRoot).1 dX10_letter_122 ?_
                refine wp_iload_n (x := v1) dX10_letter_125 rfl ?_
                refine wp_iload_n (x := v2) dX10_letter_126 rfl ?_
                refine wp_aload_n (x := 0) dX10_letter_127 rfl ?_
                refine wp_getR 166 fl_X10_19 (by decide) rfl (kltC kRoot) kRoot (ly10_1 kRoot).1 dX10_letter_128 ?_
                refine wp_getR 173 fl_X10_156 (by decide) rfl (kltC (ly10_1 kRoot).2.1) (ly10_1 kRoot).2.1 (ly7_1 (ly10_1 kRoot).2.1).1 dX10_letter_131 ?_
                obtain ⟨r6, μ5, g1, h⟩ := bnd2_some h
                refine wp_cVi (d := d - 1) (o := 1) cv_X10_211 (kltC (ly10_0 kRoot).2.1) (ly10_0 kRoot).2.1 (as := [.int v1, .int v2, .ref 173]) (rest := []) dX10_letter_134 (by omega) cloC rfl rfl (Nat.le_of_ble_eq_true rfl) (Nat.le_of_ble_eq_true rfl) (ok_World_illLuck (by omega) 1 ((ly10_0 kRoot).2.1) v1 v2 173 ((ly7_1 (ly10_1 kRoot).2.1).2.1) μ g1) ?_ rfl
                obtain ⟨rfl, rfl⟩ := ret2 h
                exact wp_iret rfl dX10_letter_137 ⟨rfl, rfl, rfl⟩
              · rw [if_neg c5] at h
                by_cases c6 : v3 = (nI 6)
                · rw [if_pos c6] at h
                  refine wp_tableIn (off := 108) (tgt := 138) dX10_letter_30 (by rw [c6]; decide) (by rw [c6]; decide) (by rw [c6]; rfl) (by decide) ?_
                  refine wp_aload_n (x := 0) dX10_letter_138 rfl ?_
                  refine wp_getR 1 fl_X10_12 (by decide) rfl (kltC kRoot) kRoot (ly10_0 kRoot).1 dX10_letter_139 ?_
                  refine wp_iload_n (x := v1) dX10_letter_142 rfl ?_
                  refine wp_iload_n (x := v2) dX10_letter_143 rfl ?_
                  refine wp_aload_n (x := 0) dX10_letter_144 rfl ?_
                  refine wp_getR 166 fl_X10_19 (by decide) rfl (kltC kRoot) kRoot (ly10_1 kRoot).1 dX10_letter_145 ?_
                  refine wp_getR 179 fl_X10_159 (by decide) rfl (kltC (ly10_1 kRoot).2.1) (ly10_1 kRoot).2.1 (ly7_2 (ly10_1 kRoot).2.1).1 dX10_letter_148 ?_
                  obtain ⟨r7, g1, h⟩ := bnd_some h
                  refine wp_cVi (d := d - 1) (o := 1) cv_X10_214 (kltC (ly10_0 kRoot).2.1) (ly10_0 kRoot).2.1 (as := [.int v1, .int v2, .ref 179]) (rest := []) dX10_letter_151 (by omega) cloC rfl rfl (Nat.le_of_ble_eq_true rfl) (Nat.le_of_ble_eq_true rfl) (ok_World_leastStamps (by omega) 1 ((ly10_0 kRoot).2.1) v1 v2 179 ((ly7_2 (ly10_1 kRoot).2.1).2.1) μ g1) ?_ rfl
                  obtain ⟨rfl, rfl⟩ := ret2 h
                  exact wp_iret rfl dX10_letter_154 ⟨rfl, rfl, rfl⟩
                · rw [if_neg c6] at h
                  have q0 := nei c0 (z := 0) rfl
                  have q1 := nei c1 (z := 1) rfl
                  have q2 := nei c2 (z := 2) rfl
                  have q3 := nei c3 (z := 3) rfl
                  have q4 := nei c4 (z := 4) rfl
                  have q5 := nei c5 (z := 5) rfl
                  have q6 := nei c6 (z := 6) rfl
                  refine wp_tableOut dX10_letter_30 (by omega) (tgt := 155) (by decide) ?_
                  refine wp_bipush (-2) dX10_letter_155 rfl ?_
                  obtain ⟨rfl, rfl⟩ := ret2 h
                  exact wp_iret rfl dX10_letter_157 ⟨rfl, rfl, rfl⟩
  · rw [if_pos c1] at h
    refine wp_bipush (-2) dX10_letter_12 rfl ?_
    obtain ⟨rfl, rfl⟩ := ret2 h
    exact wp_iret rfl dX10_letter_14 ⟨rfl, rfl, rfl⟩
theorem ok_Nine_onWay {l : Launch} {d : Nat} (hd : 2 ≤ d) (v1 : Int32)  (v2 : Int32)  (μ : Mm) {r : Int32} (h : Nine_onWay v1 v2 μ = some r) : Wp l SC d (0, 0) mX10_onWay 0 [some (.ref 0), some (.int v1), some (.int v2), none] [] μ (Qi SC r μ) := by
  unfold Nine_onWay at h
  refine wp_aload_n (x := 0) dX10_onWay_0 rfl ?_
  refine wp_getR 1 fl_X10_12 (by decide) rfl (kltC kRoot) kRoot (ly10_0 kRoot).1 dX10_onWay_1 ?_
  refine wp_getR 8 fl_X10_218 (by decide) rfl (kltC (ly10_0 kRoot).2.1) (ly10_0 kRoot).2.1 (ly9_3 (ly10_0 kRoot).2.1).1 dX10_onWay_4 ?_
  refine wp_astore_n (L2 := [some (.ref 0), some (.int v1), some (.int v2), some (.ref 8)]) dX10_onWay_7 (by decide) rfl rfl ?_
  refine wp_aload_n (x := 8) dX10_onWay_8 rfl ?_
  refine wp_iload_n (x := v1) dX10_onWay_9 rfl ?_
  obtain ⟨r1, g1, h⟩ := bnd_some h
  refine wp_cVi (d := d - 1) (o := 8) cv_X10_221 (kltC (ly9_3 (ly10_0 kRoot).2.1).2.1) (ly9_3 (ly10_0 kRoot).2.1).2.1 (as := [.int v1]) (rest := []) dX10_onWay_10 (by omega) cloC rfl rfl (Nat.le_of_ble_eq_true rfl) (Nat.le_of_ble_eq_true rfl) (ok_Letters_has (by omega) 8 ((ly9_3 (ly10_0 kRoot).2.1).2.1) v1 μ g1) ?_ rfl
  refine wp_if_ne 18 dX10_onWay_13 (by decide) (fun c1 => ?_) (fun c1 => ?_)
  · rw [if_neg c1] at h
    refine wp_iload_n (x := v2) dX10_onWay_18 rfl ?_
    by_cases c0 : v2 = (nI 0)
    · rw [if_pos c0] at h
      refine wp_tableIn (off := 29) (tgt := 48) dX10_onWay_19 (by rw [c0]; decide) (by rw [c0]; decide) (by rw [c0]; rfl) (by decide) ?_
      refine wp_aload_n (x := 8) dX10_onWay_48 rfl ?_
      refine wp_getR 9 fl_X10_196 (by decide) rfl (kltC (ly9_3 (ly10_0 kRoot).2.1).2.1) (ly9_3 (ly10_0 kRoot).2.1).2.1 (ly2_0 (ly9_3 (ly10_0 kRoot).2.1).2.1).1 dX10_onWay_49 ?_
      refine wp_iload_n (x := v1) dX10_onWay_52 rfl ?_
      obtain ⟨c1, h⟩ := chv_some h
      refine wp_ialde (kltC (ly2_0 (ly9_3 (ly10_0 kRoot).2.1).2.1).2.1) (ly2_0 (ly9_3 (ly10_0 kRoot).2.1).2.1).2.1 rfl c1 dX10_onWay_53 ?_
      obtain rfl := ret1 h
      exact wp_iret rfl dX10_onWay_54 ⟨rfl, rfl, rfl⟩
    · rw [if_neg c0] at h
      by_cases c1 : v2 = (nI 1)
      · rw [if_pos c1] at h
        refine wp_tableIn (off := 36) (tgt := 55) dX10_onWay_19 (by rw [c1]; decide) (by rw [c1]; decide) (by rw [c1]; rfl) (by decide) ?_
        refine wp_aload_n (x := 8) dX10_onWay_55 rfl ?_
        refine wp_getR 10 fl_X10_199 (by decide) rfl (kltC (ly9_3 (ly10_0 kRoot).2.1).2.1) (ly9_3 (ly10_0 kRoot).2.1).2.1 (ly2_1 (ly9_3 (ly10_0 kRoot).2.1).2.1).1 dX10_onWay_56 ?_
        refine wp_iload_n (x := v1) dX10_onWay_59 rfl ?_
        obtain ⟨c1, h⟩ := chv_some h
        refine wp_ialde (kltC (ly2_1 (ly9_3 (ly10_0 kRoot).2.1).2.1).2.1) (ly2_1 (ly9_3 (ly10_0 kRoot).2.1).2.1).2.1 rfl c1 dX10_onWay_60 ?_
        obtain rfl := ret1 h
        exact wp_iret rfl dX10_onWay_61 ⟨rfl, rfl, rfl⟩
      · rw [if_neg c1] at h
        by_cases c2 : v2 = (nI 2)
        · rw [if_pos c2] at h
          refine wp_tableIn (off := 43) (tgt := 62) dX10_onWay_19 (by rw [c2]; decide) (by rw [c2]; decide) (by rw [c2]; rfl) (by decide) ?_
          refine wp_aload_n (x := 8) dX10_onWay_62 rfl ?_
          refine wp_getR 11 fl_X10_222 (by decide) rfl (kltC (ly9_3 (ly10_0 kRoot).2.1).2.1) (ly9_3 (ly10_0 kRoot).2.1).2.1 (ly2_2 (ly9_3 (ly10_0 kRoot).2.1).2.1).1 dX10_onWay_63 ?_
          refine wp_iload_n (x := v1) dX10_onWay_66 rfl ?_
          obtain ⟨c1, h⟩ := chv_some h
          refine wp_ialde (kltC (ly2_2 (ly9_3 (ly10_0 kRoot).2.1).2.1).2.1) (ly2_2 (ly9_3 (ly10_0 kRoot).2.1).2.1).2.1 rfl c1 dX10_onWay_67 ?_
          obtain rfl := ret1 h
          exact wp_iret rfl dX10_onWay_68 ⟨rfl, rfl, rfl⟩
        · rw [if_neg c2] at h
          by_cases c3 : v2 = (nI 3)
          · rw [if_pos c3] at h
            refine wp_tableIn (off := 50) (tgt := 69) dX10_onWay_19 (by rw [c3]; decide) (by rw [c3]; decide) (by rw [c3]; rfl) (by decide) ?_
            refine wp_aload_n (x := 8) dX10_onWay_69 rfl ?_
            refine wp_getR 12 fl_X10_202 (by decide) rfl (kltC (ly9_3 (ly10_0 kRoot).2.1).2.1) (ly9_3 (ly10_0 kRoot).2.1).2.1 (ly2_3 (ly9_3 (ly10_0 kRoot).2.1).2.1).1 dX10_onWay_70 ?_
            refine wp_iload_n (x := v1) dX10_onWay_73 rfl ?_
            obtain ⟨c1, h⟩ := chv_some h
            refine wp_ialde (kltC (ly2_3 (ly9_3 (ly10_0 kRoot).2.1).2.1).2.1) (ly2_3 (ly9_3 (ly10_0 kRoot).2.1).2.1).2.1 rfl c1 dX10_onWay_74 ?_
            obtain rfl := ret1 h
            exact wp_iret rfl dX10_onWay_75 ⟨rfl, rfl, rfl⟩
          · rw [if_neg c3] at h
            have q0 := nei c0 (z := 0) rfl
            have q1 := nei c1 (z := 1) rfl
            have q2 := nei c2 (z := 2) rfl
            have q3 := nei c3 (z := 3) rfl
            refine wp_tableOut dX10_onWay_19 (by omega) (tgt := 76) (by decide) ?_
            refine wp_iconst (-1) dX10_onWay_76 rfl ?_
            obtain rfl := ret1 h
            exact wp_iret rfl dX10_onWay_77 ⟨rfl, rfl, rfl⟩
  · rw [if_pos c1] at h
    refine wp_iconst (-1) dX10_onWay_16 rfl ?_
    obtain rfl := ret1 h
    exact wp_iret rfl dX10_onWay_17 ⟨rfl, rfl, rfl⟩
theorem ok_Nine_kind {l : Launch} {d : Nat} (hd : 3 ≤ d) (v1 : Int32)  (v2 : Int32)  (μ : Mm) {r : Int32} (h : Nine_kind v1 v2 μ = some r) : Wp l SC d (0, 0) mX10_kind 0 [some (.ref 0), some (.int v1), some (.int v2), none] [] μ (Qi SC r μ) := by
  unfold Nine_kind at h
  refine wp_aload_n (x := 0) dX10_kind_0 rfl ?_
  refine wp_getR 1 fl_X10_12 (by decide) rfl (kltC kRoot) kRoot (ly10_0 kRoot).1 dX10_kind_1 ?_
  refine wp_getR 3 fl_X10_100 (by decide) rfl (kltC (ly10_0 kRoot).2.1) (ly10_0 kRoot).2.1 (ly9_2 (ly10_0 kRoot).2.1).1 dX10_kind_4 ?_
  refine wp_astore_n (L2 := [some (.ref 0), some (.int v1), some (.int v2), some (.ref 3)]) dX10_kind_7 (by decide) rfl rfl ?_
  refine wp_aload_n (x := 3) dX10_kind_8 rfl ?_
  refine wp_iload_n (x := v1) dX10_kind_9 rfl ?_
  obtain ⟨r1, g1, h⟩ := bnd_some h
  refine wp_cVi (d := d - 1) (o := 3) cv_X10_114 (kltC (ly9_2 (ly10_0 kRoot).2.1).2.1) (ly9_2 (ly10_0 kRoot).2.1).2.1 (as := [.int v1]) (rest := []) dX10_kind_10 (by omega) cloC rfl rfl (Nat.le_of_ble_eq_true rfl) (Nat.le_of_ble_eq_true rfl) (ok_Versions_has (by omega) 3 ((ly9_2 (ly10_0 kRoot).2.1).2.1) v1 μ g1) ?_ rfl
  refine wp_if_ne 19 dX10_kind_13 (by decide) (fun c1 => ?_) (fun c1 => ?_)
  · rw [if_neg c1] at h
    refine wp_iload_n (x := v2) dX10_kind_19 rfl ?_
    by_cases c0 : v2 = (nI 0)
    · rw [if_pos c0] at h
      refine wp_tableIn (off := 44) (tgt := 64) dX10_kind_20 (by rw [c0]; decide) (by rw [c0]; decide) (by rw [c0]; rfl) (by decide) ?_
      refine wp_aload_n (x := 3) dX10_kind_64 rfl ?_
      refine wp_getR 4 fl_X10_225 (by decide) rfl (kltC (ly9_2 (ly10_0 kRoot).2.1).2.1) (ly9_2 (ly10_0 kRoot).2.1).2.1 (ly8_0 (ly9_2 (ly10_0 kRoot).2.1).2.1).1 dX10_kind_65 ?_
      refine wp_iload_n (x := v1) dX10_kind_68 rfl ?_
      obtain ⟨c1, h⟩ := chv_some h
      refine wp_ialde (kltC (ly8_0 (ly9_2 (ly10_0 kRoot).2.1).2.1).2.1) (ly8_0 (ly9_2 (ly10_0 kRoot).2.1).2.1).2.1 (ly8_0 (ly9_2 (ly10_0 kRoot).2.1).2.1).2.2 c1 dX10_kind_69 ?_
      obtain rfl := ret1 h
      exact wp_iret rfl dX10_kind_70 ⟨rfl, rfl, rfl⟩
    · rw [if_neg c0] at h
      by_cases c1 : v2 = (nI 1)
      · rw [if_pos c1] at h
        refine wp_tableIn (off := 51) (tgt := 71) dX10_kind_20 (by rw [c1]; decide) (by rw [c1]; decide) (by rw [c1]; rfl) (by decide) ?_
        refine wp_aload_n (x := 3) dX10_kind_71 rfl ?_
        refine wp_getR 5 fl_X10_228 (by decide) rfl (kltC (ly9_2 (ly10_0 kRoot).2.1).2.1) (ly9_2 (ly10_0 kRoot).2.1).2.1 (ly8_1 (ly9_2 (ly10_0 kRoot).2.1).2.1).1 dX10_kind_72 ?_
        refine wp_iload_n (x := v1) dX10_kind_75 rfl ?_
        obtain ⟨c1, h⟩ := chv_some h
        refine wp_ialde (kltC (ly8_1 (ly9_2 (ly10_0 kRoot).2.1).2.1).2.1) (ly8_1 (ly9_2 (ly10_0 kRoot).2.1).2.1).2.1 (ly8_1 (ly9_2 (ly10_0 kRoot).2.1).2.1).2.2 c1 dX10_kind_76 ?_
        obtain rfl := ret1 h
        exact wp_iret rfl dX10_kind_77 ⟨rfl, rfl, rfl⟩
      · rw [if_neg c1] at h
        by_cases c2 : v2 = (nI 2)
        · rw [if_pos c2] at h
          refine wp_tableIn (off := 58) (tgt := 78) dX10_kind_20 (by rw [c2]; decide) (by rw [c2]; decide) (by rw [c2]; rfl) (by decide) ?_
          refine wp_aload_n (x := 3) dX10_kind_78 rfl ?_
          refine wp_getR 6 fl_X10_231 (by decide) rfl (kltC (ly9_2 (ly10_0 kRoot).2.1).2.1) (ly9_2 (ly10_0 kRoot).2.1).2.1 (ly8_2 (ly9_2 (ly10_0 kRoot).2.1).2.1).1 dX10_kind_79 ?_
          refine wp_iload_n (x := v1) dX10_kind_82 rfl ?_
          obtain ⟨c1, h⟩ := chv_some h
          refine wp_ialde (kltC (ly8_2 (ly9_2 (ly10_0 kRoot).2.1).2.1).2.1) (ly8_2 (ly9_2 (ly10_0 kRoot).2.1).2.1).2.1 (ly8_2 (ly9_2 (ly10_0 kRoot).2.1).2.1).2.2 c1 dX10_kind_83 ?_
          obtain rfl := ret1 h
          exact wp_iret rfl dX10_kind_84 ⟨rfl, rfl, rfl⟩
        · rw [if_neg c2] at h
          by_cases c3 : v2 = (nI 3)
          · rw [if_pos c3] at h
            refine wp_tableIn (off := 65) (tgt := 85) dX10_kind_20 (by rw [c3]; decide) (by rw [c3]; decide) (by rw [c3]; rfl) (by decide) ?_
            refine wp_aload_n (x := 3) dX10_kind_85 rfl ?_
            refine wp_getR 7 fl_X10_234 (by decide) rfl (kltC (ly9_2 (ly10_0 kRoot).2.1).2.1) (ly9_2 (ly10_0 kRoot).2.1).2.1 (ly8_3 (ly9_2 (ly10_0 kRoot).2.1).2.1).1 dX10_kind_86 ?_
            refine wp_iload_n (x := v1) dX10_kind_89 rfl ?_
            obtain ⟨c1, h⟩ := chv_some h
            refine wp_ialde (kltC (ly8_3 (ly9_2 (ly10_0 kRoot).2.1).2.1).2.1) (ly8_3 (ly9_2 (ly10_0 kRoot).2.1).2.1).2.1 (ly8_3 (ly9_2 (ly10_0 kRoot).2.1).2.1).2.2 c1 dX10_kind_90 ?_
            obtain rfl := ret1 h
            exact wp_iret rfl dX10_kind_91 ⟨rfl, rfl, rfl⟩
          · rw [if_neg c3] at h
            by_cases c4 : v2 = (nI 4)
            · rw [if_pos c4] at h
              refine wp_tableIn (off := 72) (tgt := 92) dX10_kind_20 (by rw [c4]; decide) (by rw [c4]; decide) (by rw [c4]; rfl) (by decide) ?_
              refine wp_aload_n (x := 3) dX10_kind_92 rfl ?_
              refine wp_iload_n (x := v1) dX10_kind_93 rfl ?_
              obtain ⟨r2, g1, h⟩ := bnd_some h
              refine wp_cVi (d := d - 1) (o := 3) cv_X10_237 (kltC (ly9_2 (ly10_0 kRoot).2.1).2.1) (ly9_2 (ly10_0 kRoot).2.1).2.1 (as := [.int v1]) (rest := []) dX10_kind_94 (by omega) cloC rfl rfl (Nat.le_of_ble_eq_true rfl) (Nat.le_of_ble_eq_true rfl) (ok_Versions_countChildren (by omega) 3 ((ly9_2 (ly10_0 kRoot).2.1).2.1) v1 μ g1) ?_ rfl
              obtain rfl := ret1 h
              exact wp_iret rfl dX10_kind_97 ⟨rfl, rfl, rfl⟩
            · rw [if_neg c4] at h
              by_cases c5 : v2 = (nI 5)
              · rw [if_pos c5] at h
                refine wp_tableIn (off := 78) (tgt := 98) dX10_kind_20 (by rw [c5]; decide) (by rw [c5]; decide) (by rw [c5]; rfl) (by decide) ?_
                refine wp_aload_n (x := 0) dX10_kind_98 rfl ?_
                refine wp_getR 1 fl_X10_12 (by decide) rfl (kltC kRoot) kRoot (ly10_0 kRoot).1 dX10_kind_99 ?_
                refine wp_iload_n (x := v1) dX10_kind_102 rfl ?_
                obtain ⟨r3, g1, h⟩ := bnd_some h
                refine wp_cVi (d := d - 1) (o := 1) cv_X10_241 (kltC (ly10_0 kRoot).2.1) (ly10_0 kRoot).2.1 (as := [.int v1]) (rest := []) dX10_kind_103 (by omega) cloC rfl rfl (Nat.le_of_ble_eq_true rfl) (Nat.le_of_ble_eq_true rfl) (ok_World_countLettersOf (by omega) 1 ((ly10_0 kRoot).2.1) v1 μ g1) ?_ rfl
                obtain rfl := ret1 h
                exact wp_iret rfl dX10_kind_106 ⟨rfl, rfl, rfl⟩
              · rw [if_neg c5] at h
                by_cases c6 : v2 = (nI 6)
                · rw [if_pos c6] at h
                  refine wp_tableIn (off := 87) (tgt := 107) dX10_kind_20 (by rw [c6]; decide) (by rw [c6]; decide) (by rw [c6]; rfl) (by decide) ?_
                  refine wp_aload_n (x := 0) dX10_kind_107 rfl ?_
                  refine wp_getR 1 fl_X10_12 (by decide) rfl (kltC kRoot) kRoot (ly10_0 kRoot).1 dX10_kind_108 ?_
                  refine wp_iload_n (x := v1) dX10_kind_111 rfl ?_
                  obtain ⟨r4, g1, h⟩ := bnd_some h
                  refine wp_cVi (d := d - 1) (o := 1) cv_X10_244 (kltC (ly10_0 kRoot).2.1) (ly10_0 kRoot).2.1 (as := [.int v1]) (rest := []) dX10_kind_112 (by omega) cloC rfl rfl (Nat.le_of_ble_eq_true rfl) (Nat.le_of_ble_eq_true rfl) (ok_World_isKnown (by omega) 1 ((ly10_0 kRoot).2.1) v1 μ g1) ?_ rfl
                  refine wp_if_eq 122 dX10_kind_115 (by decide) (fun c1 => ?_) (fun c1 => ?_)
                  · rw [if_pos c1] at h
                    refine wp_iconst (nI 0) dX10_kind_122 rfl ?_
                    obtain rfl := ret1 h
                    exact wp_iret rfl dX10_kind_123 ⟨rfl, rfl, rfl⟩
                  · rw [if_neg c1] at h
                    refine wp_iconst (nI 1) dX10_kind_118 rfl ?_
                    refine wp_goto 123 dX10_kind_119 (by decide) ?_
                    obtain rfl := ret1 h
                    exact wp_iret rfl dX10_kind_123 ⟨rfl, rfl, rfl⟩
                · rw [if_neg c6] at h
                  have q0 := nei c0 (z := 0) rfl
                  have q1 := nei c1 (z := 1) rfl
                  have q2 := nei c2 (z := 2) rfl
                  have q3 := nei c3 (z := 3) rfl
                  have q4 := nei c4 (z := 4) rfl
                  have q5 := nei c5 (z := 5) rfl
                  have q6 := nei c6 (z := 6) rfl
                  refine wp_tableOut dX10_kind_20 (by omega) (tgt := 124) (by decide) ?_
                  refine wp_bipush (-2) dX10_kind_124 rfl ?_
                  obtain rfl := ret1 h
                  exact wp_iret rfl dX10_kind_126 ⟨rfl, rfl, rfl⟩
  · rw [if_pos c1] at h
    refine wp_bipush (-2) dX10_kind_16 rfl ?_
    obtain rfl := ret1 h
    exact wp_iret rfl dX10_kind_18 ⟨rfl, rfl, rfl⟩
theorem ok_Nine_post {l : Launch} {d : Nat} (hd : 2 ≤ d) (v1 : Int32)  (v2 : Int32)  (μ : Mm) {r : Int32} (h : Nine_post v1 v2 μ = some r) : Wp l SC d (0, 0) mX10_post 0 [some (.ref 0), some (.int v1), some (.int v2)] [] μ (Qi SC r μ) := by
  unfold Nine_post at h
  refine wp_iconst (nI 0) dX10_post_0 rfl ?_
  refine wp_iload_n (x := v1) dX10_post_1 rfl ?_
  obtain ⟨r1, g1, h⟩ := bnd_some h
  refine wp_cSi (d := d - 1) cs_X10_64 (as := [.int (nI 0), .int v1]) (rest := []) dX10_post_2 (by omega) cloC rfl rfl (Nat.le_of_ble_eq_true rfl) (Nat.le_of_ble_eq_true rfl) (ok_Nine_canBeTold (by omega) (nI 0) v1 μ g1) ?_ rfl
  refine wp_if_eq 16 dX10_post_5 (by decide) (fun c1 => ?_) (fun c1 => ?_)
  · rw [if_pos c1] at h
    refine wp_iconst (-1) dX10_post_16 rfl ?_
    obtain rfl := ret1 h
    exact wp_iret rfl dX10_post_17 ⟨rfl, rfl, rfl⟩
  · rw [if_neg c1] at h
    refine wp_iconst (nI 0) dX10_post_8 rfl ?_
    refine wp_iload_n (x := v2) dX10_post_9 rfl ?_
    obtain ⟨r2, g1, h⟩ := bnd_some h
    refine wp_cSi (d := d - 1) cs_X10_64 (as := [.int (nI 0), .int v2]) (rest := []) dX10_post_10 (by omega) cloC rfl rfl (Nat.le_of_ble_eq_true rfl) (Nat.le_of_ble_eq_true rfl) (ok_Nine_canBeTold (by omega) (nI 0) v2 μ g1) ?_ rfl
    refine wp_if_ne 18 dX10_post_13 (by decide) (fun c1 => ?_) (fun c1 => ?_)
    · rw [if_neg c1] at h
      refine wp_aload_n (x := 0) dX10_post_18 rfl ?_
      refine wp_getR 166 fl_X10_19 (by decide) rfl (kltC kRoot) kRoot (ly10_1 kRoot).1 dX10_post_19 ?_
      refine wp_getR 179 fl_X10_159 (by decide) rfl (kltC (ly10_1 kRoot).2.1) (ly10_1 kRoot).2.1 (ly7_2 (ly10_1 kRoot).2.1).1 dX10_post_22 ?_
      refine wp_iload_n (x := v1) dX10_post_25 rfl ?_
      refine wp_iload_n (x := v2) dX10_post_26 rfl ?_
      obtain ⟨r3, g1, h⟩ := bnd_some h
      refine wp_cVi (d := d - 1) (o := 179) cv_X10_247 (kltC (ly7_2 (ly10_1 kRoot).2.1).2.1) (ly7_2 (ly10_1 kRoot).2.1).2.1 (as := [.int v1, .int v2]) (rest := []) dX10_post_27 (by omega) cloC rfl rfl (Nat.le_of_ble_eq_true rfl) (Nat.le_of_ble_eq_true rfl) (ok_Post_daysBetween (by omega) 179 ((ly7_2 (ly10_1 kRoot).2.1).2.1) v1 v2 μ g1) ?_ rfl
      obtain rfl := ret1 h
      exact wp_iret rfl dX10_post_30 ⟨rfl, rfl, rfl⟩
    · rw [if_pos c1] at h
      refine wp_iconst (-1) dX10_post_16 rfl ?_
      obtain rfl := ret1 h
      exact wp_iret rfl dX10_post_17 ⟨rfl, rfl, rfl⟩
theorem ok_Nine_book {l : Launch} {d : Nat} (hd : 1 ≤ d) (v1 : Int32)  (v2 : Int32)  (μ : Mm) {r : Int32} (h : Nine_book v1 v2 μ = some r) : Wp l SC d (0, 0) mX10_book 0 [some (.ref 0), some (.int v1), some (.int v2), none] [] μ (Qi SC r μ) := by
  unfold Nine_book at h
  refine wp_aload_n (x := 0) dX10_book_0 rfl ?_
  refine wp_getR 1 fl_X10_12 (by decide) rfl (kltC kRoot) kRoot (ly10_0 kRoot).1 dX10_book_1 ?_
  refine wp_getR 14 fl_X10_253 (by decide) rfl (kltC (ly10_0 kRoot).2.1) (ly10_0 kRoot).2.1 (ly9_4 (ly10_0 kRoot).2.1).1 dX10_book_4 ?_
  refine wp_astore_n (L2 := [some (.ref 0), some (.int v1), some (.int v2), some (.ref 14)]) dX10_book_7 (by decide) rfl rfl ?_
  refine wp_iload_n (x := v1) dX10_book_8 rfl ?_
  refine wp_if_lt 20 dX10_book_9 (by decide) (fun c1 => ?_) (fun c1 => ?_)
  · rw [if_pos c1] at h
    refine wp_bipush (-2) dX10_book_20 rfl ?_
    obtain rfl := ret1 h
    exact wp_iret rfl dX10_book_22 ⟨rfl, rfl, rfl⟩
  · rw [if_neg c1] at h
    refine wp_iload_n (x := v1) dX10_book_12 rfl ?_
    refine wp_aload_n (x := 14) dX10_book_13 rfl ?_
    refine wp_getI fl_X10_257 (by decide) rfl (kltC (ly9_4 (ly10_0 kRoot).2.1).2.1) (ly9_4 (ly10_0 kRoot).2.1).2.1 dX10_book_14 ?_
    refine wp_icmp_lt 23 dX10_book_17 (by decide) (fun c1 => ?_) (fun c1 => ?_)
    · rw [if_pos c1] at h
      refine wp_iload_n (x := v2) dX10_book_23 rfl ?_
      by_cases c0 : v2 = (nI 0)
      · rw [if_pos c0] at h
        refine wp_tableIn (off := 36) (tgt := 60) dX10_book_24 (by rw [c0]; decide) (by rw [c0]; decide) (by rw [c0]; rfl) (by decide) ?_
        refine wp_aload_n (x := 14) dX10_book_60 rfl ?_
        refine wp_getR 15 fl_X10_260 (by decide) rfl (kltC (ly9_4 (ly10_0 kRoot).2.1).2.1) (ly9_4 (ly10_0 kRoot).2.1).2.1 (ly0_0 (ly9_4 (ly10_0 kRoot).2.1).2.1).1 dX10_book_61 ?_
        refine wp_iload_n (x := v1) dX10_book_64 rfl ?_
        obtain ⟨c1, h⟩ := chv_some h
        refine wp_ialde (kltC (ly0_0 (ly9_4 (ly10_0 kRoot).2.1).2.1).2.1) (ly0_0 (ly9_4 (ly10_0 kRoot).2.1).2.1).2.1 (ly0_0 (ly9_4 (ly10_0 kRoot).2.1).2.1).2.2 c1 dX10_book_65 ?_
        obtain rfl := ret1 h
        exact wp_iret rfl dX10_book_66 ⟨rfl, rfl, rfl⟩
      · rw [if_neg c0] at h
        by_cases c1 : v2 = (nI 1)
        · rw [if_pos c1] at h
          refine wp_tableIn (off := 43) (tgt := 67) dX10_book_24 (by rw [c1]; decide) (by rw [c1]; decide) (by rw [c1]; rfl) (by decide) ?_
          refine wp_aload_n (x := 14) dX10_book_67 rfl ?_
          refine wp_getR 16 fl_X10_261 (by decide) rfl (kltC (ly9_4 (ly10_0 kRoot).2.1).2.1) (ly9_4 (ly10_0 kRoot).2.1).2.1 (ly0_1 (ly9_4 (ly10_0 kRoot).2.1).2.1).1 dX10_book_68 ?_
          refine wp_iload_n (x := v1) dX10_book_71 rfl ?_
          obtain ⟨c1, h⟩ := chv_some h
          refine wp_ialde (kltC (ly0_1 (ly9_4 (ly10_0 kRoot).2.1).2.1).2.1) (ly0_1 (ly9_4 (ly10_0 kRoot).2.1).2.1).2.1 (ly0_1 (ly9_4 (ly10_0 kRoot).2.1).2.1).2.2 c1 dX10_book_72 ?_
          obtain rfl := ret1 h
          exact wp_iret rfl dX10_book_73 ⟨rfl, rfl, rfl⟩
        · rw [if_neg c1] at h
          by_cases c2 : v2 = (nI 2)
          · rw [if_pos c2] at h
            refine wp_tableIn (off := 50) (tgt := 74) dX10_book_24 (by rw [c2]; decide) (by rw [c2]; decide) (by rw [c2]; rfl) (by decide) ?_
            refine wp_aload_n (x := 14) dX10_book_74 rfl ?_
            refine wp_getR 17 fl_X10_262 (by decide) rfl (kltC (ly9_4 (ly10_0 kRoot).2.1).2.1) (ly9_4 (ly10_0 kRoot).2.1).2.1 (ly0_2 (ly9_4 (ly10_0 kRoot).2.1).2.1).1 dX10_book_75 ?_
            refine wp_iload_n (x := v1) dX10_book_78 rfl ?_
            obtain ⟨c1, h⟩ := chv_some h
            refine wp_ialde (kltC (ly0_2 (ly9_4 (ly10_0 kRoot).2.1).2.1).2.1) (ly0_2 (ly9_4 (ly10_0 kRoot).2.1).2.1).2.1 (ly0_2 (ly9_4 (ly10_0 kRoot).2.1).2.1).2.2 c1 dX10_book_79 ?_
            obtain rfl := ret1 h
            exact wp_iret rfl dX10_book_80 ⟨rfl, rfl, rfl⟩
          · rw [if_neg c2] at h
            by_cases c3 : v2 = (nI 3)
            · rw [if_pos c3] at h
              refine wp_tableIn (off := 57) (tgt := 81) dX10_book_24 (by rw [c3]; decide) (by rw [c3]; decide) (by rw [c3]; rfl) (by decide) ?_
              refine wp_aload_n (x := 14) dX10_book_81 rfl ?_
              refine wp_getR 18 fl_X10_263 (by decide) rfl (kltC (ly9_4 (ly10_0 kRoot).2.1).2.1) (ly9_4 (ly10_0 kRoot).2.1).2.1 (ly0_3 (ly9_4 (ly10_0 kRoot).2.1).2.1).1 dX10_book_82 ?_
              refine wp_iload_n (x := v1) dX10_book_85 rfl ?_
              obtain ⟨c1, h⟩ := chv_some h
              refine wp_ialde (kltC (ly0_3 (ly9_4 (ly10_0 kRoot).2.1).2.1).2.1) (ly0_3 (ly9_4 (ly10_0 kRoot).2.1).2.1).2.1 (ly0_3 (ly9_4 (ly10_0 kRoot).2.1).2.1).2.2 c1 dX10_book_86 ?_
              obtain rfl := ret1 h
              exact wp_iret rfl dX10_book_87 ⟨rfl, rfl, rfl⟩
            · rw [if_neg c3] at h
              by_cases c4 : v2 = (nI 4)
              · rw [if_pos c4] at h
                refine wp_tableIn (off := 64) (tgt := 88) dX10_book_24 (by rw [c4]; decide) (by rw [c4]; decide) (by rw [c4]; rfl) (by decide) ?_
                refine wp_aload_n (x := 14) dX10_book_88 rfl ?_
                refine wp_getR 19 fl_X10_264 (by decide) rfl (kltC (ly9_4 (ly10_0 kRoot).2.1).2.1) (ly9_4 (ly10_0 kRoot).2.1).2.1 (ly0_4 (ly9_4 (ly10_0 kRoot).2.1).2.1).1 dX10_book_89 ?_
                refine wp_iload_n (x := v1) dX10_book_92 rfl ?_
                obtain ⟨c1, h⟩ := chv_some h
                refine wp_ialde (kltC (ly0_4 (ly9_4 (ly10_0 kRoot).2.1).2.1).2.1) (ly0_4 (ly9_4 (ly10_0 kRoot).2.1).2.1).2.1 (ly0_4 (ly9_4 (ly10_0 kRoot).2.1).2.1).2.2 c1 dX10_book_93 ?_
                obtain rfl := ret1 h
                exact wp_iret rfl dX10_book_94 ⟨rfl, rfl, rfl⟩
              · rw [if_neg c4] at h
                have q0 := nei c0 (z := 0) rfl
                have q1 := nei c1 (z := 1) rfl
                have q2 := nei c2 (z := 2) rfl
                have q3 := nei c3 (z := 3) rfl
                have q4 := nei c4 (z := 4) rfl
                refine wp_tableOut dX10_book_24 (by omega) (tgt := 95) (by decide) ?_
                refine wp_bipush (-2) dX10_book_95 rfl ?_
                obtain rfl := ret1 h
                exact wp_iret rfl dX10_book_97 ⟨rfl, rfl, rfl⟩
    · rw [if_neg c1] at h
      refine wp_bipush (-2) dX10_book_20 rfl ?_
      obtain rfl := ret1 h
      exact wp_iret rfl dX10_book_22 ⟨rfl, rfl, rfl⟩
theorem ok_Nine_beginThought {l : Launch} {d : Nat} (hd : 5 ≤ d) (μ : Mm) {μ' : Mm} (h : Nine_beginThought μ = some μ') : Wp l SC d (0, 0) mX10_beginThought 0 [some (.ref 0)] [] μ (Qv SC μ') := by
  unfold Nine_beginThought at h
  refine wp_aload_n (x := 0) dX10_beginThought_0 rfl ?_
  refine wp_getR 366 fl_X10_43 (by decide) rfl (kltC kRoot) kRoot (ly10_10 kRoot).1 dX10_beginThought_1 ?_
  refine wp_aload_n (x := 0) dX10_beginThought_4 rfl ?_
  refine wp_getR 1 fl_X10_12 (by decide) rfl (kltC kRoot) kRoot (ly10_0 kRoot).1 dX10_beginThought_5 ?_
  obtain ⟨μ1, g1, h⟩ := bnd_some h
  refine wp_cVv (d := d - 1) (o := 366) cv_X10_315 (kltC (ly10_10 kRoot).2.1) (ly10_10 kRoot).2.1 (as := [.ref 1]) (rest := []) dX10_beginThought_8 (by omega) cloC rfl rfl (Nat.le_of_ble_eq_true rfl) (Nat.le_of_ble_eq_true rfl) (ok_World_copyFrom (by omega) 366 ((ly10_10 kRoot).2.1) 1 ((ly10_0 kRoot).2.1) μ g1) ?_ rfl
  refine wp_aload_n (x := 0) dX10_beginThought_11 rfl ?_
  refine wp_getR 366 fl_X10_43 (by decide) rfl (kltC kRoot) kRoot (ly10_10 kRoot).1 dX10_beginThought_12 ?_
  refine wp_getR 385 fl_X10_75 (by decide) rfl (kltC (ly10_10 kRoot).2.1) (ly10_10 kRoot).2.1 (ly9_5 (ly10_10 kRoot).2.1).1 dX10_beginThought_15 ?_
  refine wp_iconst (nI 2) dX10_beginThought_18 rfl ?_
  refine wp_iconst (nI 0) dX10_beginThought_19 rfl ?_
  obtain ⟨c1, h⟩ := chv_some h
  obtain ⟨μ2, e1, h⟩ := lt_some h
  refine wp_iaste e1 (kltC (ly9_5 (ly10_10 kRoot).2.1).2.1) (ly9_5 (ly10_10 kRoot).2.1).2.1 (ly9_5 (ly10_10 kRoot).2.1).2.2 c1 dX10_beginThought_20 ?_
  obtain rfl := ret1 h
  exact wp_vret rfl dX10_beginThought_21 ⟨rfl, rfl, rfl⟩
theorem ok_Nine_thinkAhead_l18 {l : Launch} {d : Nat} (hd : 7 ≤ d) (v1 : Int32)  (v2 : Int32)  (μ : Mm) {Q : Option Value → Sh → Mm → Prop} (K : (Int32 × Mm) ⊕ Mm → Prop) (hb : ∀ (s : (Int32 × Mm)), K (Sum.inl s) → Wp l SC d (0, 0) mX10_thinkAhead 18 [some (.ref 0), some (.int v1), some (.int s.1)] [] s.2 Q) (he0 : ∀ (x : Mm) (z1 : Option Value) (z2 : Option Value), K (Sum.inr x) → Wp l SC d (0, 0) mX10_thinkAhead 41 [some (.ref 0), z1, z2] [] x Q) {z : (Int32 × Mm) ⊕ Mm} (h : Nine_thinkAhead_l18 v1 v2 μ = some z) (hz : K z) : Wp l SC d (0, 0) mX10_thinkAhead 18 [some (.ref 0), some (.int v1), some (.int v2)] [] μ Q := by
  unfold Nine_thinkAhead_l18 at h
  refine wp_iload_n (x := v2) dX10_thinkAhead_18 rfl ?_
  refine wp_iload_n (x := v1) dX10_thinkAhead_19 rfl ?_
  refine wp_icmp_ge 41 dX10_thinkAhead_20 (by decide) (fun c1 => ?_) (fun c1 => ?_)
  · rw [if_pos c1] at h
    obtain rfl := some1 h
    exact he0 μ _ _ hz
  · rw [if_neg c1] at h
    refine wp_aload_n (x := 0) dX10_thinkAhead_23 rfl ?_
    refine wp_getR 366 fl_X10_43 (by decide) rfl (kltC kRoot) kRoot (ly10_10 kRoot).1 dX10_thinkAhead_24 ?_
    refine wp_aload_n (x := 0) dX10_thinkAhead_27 rfl ?_
    refine wp_getR 166 fl_X10_19 (by decide) rfl (kltC kRoot) kRoot (ly10_1 kRoot).1 dX10_thinkAhead_28 ?_
    obtain ⟨r3, μ2, g1, h⟩ := bnd2_some h
    refine wp_cVi (d := d - 1) (o := 366) cv_X10_176 (kltC (ly10_10 kRoot).2.1) (ly10_10 kRoot).2.1 (as := [.ref 166]) (rest := []) dX10_thinkAhead_31 (by omega) cloC rfl rfl (Nat.le_of_ble_eq_true rfl) (Nat.le_of_ble_eq_true rfl) (ok_World_passDay (by omega) 366 ((ly10_10 kRoot).2.1) 166 ((ly10_1 kRoot).2.1) μ g1) ?_ rfl
    refine wp_pop dX10_thinkAhead_34 rfl ?_
    refine wp_iinc (x := v2) (k0 := (nI 1)) (L2 := [some (.ref 0), some (.int v1), some (.int (v2 + (nI 1)))]) dX10_thinkAhead_35 rfl rfl (by decide) rfl rfl ?_
    refine wp_goto 18 dX10_thinkAhead_38 (by decide) ?_
    obtain rfl := some1 h
    exact hb ((v2 + (nI 1)), μ2) hz
theorem okl_Nine_thinkAhead_l18 {l : Launch} {d : Nat} (hd : 7 ≤ d) (v1 : Int32)  {Q : Option Value → Sh → Mm → Prop} (K : Mm → Prop) (he0 : ∀ (x : Mm) (z1 : Option Value) (z2 : Option Value), K x → Wp l SC d (0, 0) mX10_thinkAhead 41 [some (.ref 0), z1, z2] [] x Q) : ∀ (n : Nat) (s : (Int32 × Mm)) (y : Mm) , iter n (fun s => Nine_thinkAhead_l18 v1 s.1 s.2) s = some y → K y → Wp l SC d (0, 0) mX10_thinkAhead 18 [some (.ref 0), some (.int v1), some (.int s.1)] [] s.2 Q := by
  intro n
  induction n with
  | zero => intro s y  h; cases h
  | succ n ih =>
    intro s y  h hK
    obtain ⟨z, hz, hn⟩ := iter_some h
    refine ok_Nine_thinkAhead_l18 hd v1 s.1 s.2 (fun z => nxt n (fun s => Nine_thinkAhead_l18 v1 s.1 s.2) z y) ?_ ?_ hz hn
    · intro s2  h2
      exact ih s2 y h2 hK
    · intro x z1 z2 h2
      have h3 : x = y := h2
      subst h3
      exact he0 x _ _ hK
theorem ok_Nine_thinkAhead {l : Launch} {d : Nat} (hd : 7 ≤ d) (v1 : Int32)  (μ : Mm) {r : Int32} {μ' : Mm} (h : Nine_thinkAhead v1 μ = some (r, μ')) : Wp l SC d (0, 0) mX10_thinkAhead 0 [some (.ref 0), some (.int v1), none] [] μ (Qi SC r μ') := by
  unfold Nine_thinkAhead at h
  refine wp_iload_n (x := v1) dX10_thinkAhead_0 rfl ?_
  refine wp_if_lt 10 dX10_thinkAhead_1 (by decide) (fun c1 => ?_) (fun c1 => ?_)
  · rw [if_pos c1] at h
    refine wp_iconst (nI 0) dX10_thinkAhead_10 rfl ?_
    obtain ⟨rfl, rfl⟩ := ret2 h
    exact wp_zret rfl (Or.inl rfl) dX10_thinkAhead_11 ⟨rfl, rfl, rfl⟩
  · rw [if_neg c1] at h
    refine wp_iload_n (x := v1) dX10_thinkAhead_4 rfl ?_
    refine wp_bipush (nI 99) dX10_thinkAhead_5 rfl ?_
    refine wp_icmp_le 12 dX10_thinkAhead_7 (by decide) (fun c1 => ?_) (fun c1 => ?_)
    · rw [if_pos c1] at h
      refine wp_aload_n (x := 0) dX10_thinkAhead_12 rfl ?_
      obtain ⟨μ1, g1, h⟩ := bnd_some h
      refine wp_cVv (d := d - 1) (o := 0) cv_X10_273 (kltC kRoot) kRoot (as := []) (rest := []) dX10_thinkAhead_13 (by omega) cloC rfl rfl (Nat.le_of_ble_eq_true rfl) (Nat.le_of_ble_eq_true rfl) (ok_Nine_beginThought (by omega) μ g1) ?_ rfl
      refine wp_iconst (nI 0) dX10_thinkAhead_16 rfl ?_
      refine wp_istore_n (L2 := [some (.ref 0), some (.int v1), some (.int (nI 0))]) dX10_thinkAhead_17 (by decide) rfl rfl ?_
      obtain ⟨x18, hi, h⟩ := bni_some h
      refine okl_Nine_thinkAhead_l18 hd v1 (fun z => z = x18) ?_ 1000000 ((nI 0), μ1) x18 hi rfl
      · intro y0 z1 z2 e0
        have e0 : y0 = x18 := e0
        subst e0
        refine wp_iconst (nI 1) dX10_thinkAhead_41 rfl ?_
        obtain ⟨rfl, rfl⟩ := ret2 h
        exact wp_zret rfl (Or.inr rfl) dX10_thinkAhead_42 ⟨rfl, rfl, rfl⟩
    · rw [if_neg c1] at h
      refine wp_iconst (nI 0) dX10_thinkAhead_10 rfl ?_
      obtain ⟨rfl, rfl⟩ := ret2 h
      exact wp_zret rfl (Or.inl rfl) dX10_thinkAhead_11 ⟨rfl, rfl, rfl⟩
theorem ok_Nine_many_j13 {l : Launch} {d : Nat} (hd : 8 ≤ d) (v1 : Int32)  (v2 : Int32)  (μ : Mm) {r : Int32} {μ' : Mm} (h : Nine_many_j13 v1 v2 μ = some (r, μ')) : Wp l SC d (0, 0) mX10_many 13 [some (.ref 0), some (.int v1), some (.int v2)] [] μ (Qi SC r μ') := by
  unfold Nine_many_j13 at h
  refine wp_aload_n (x := 0) dX10_many_13 rfl ?_
  refine wp_iload_n (x := v1) dX10_many_14 rfl ?_
  obtain ⟨r2, μ1, g1, h⟩ := bnd2_some h
  refine wp_cVi (d := d - 1) (o := 0) cv_X10_267 (kltC kRoot) kRoot (as := [.int v1]) (rest := []) dX10_many_15 (by omega) cloC rfl rfl (Nat.le_of_ble_eq_true rfl) (Nat.le_of_ble_eq_true rfl) (ok_Nine_thinkAhead (by omega) v1 μ g1) ?_ rfl
  refine wp_if_ne 23 dX10_many_18 (by decide) (fun c1 => ?_) (fun c1 => ?_)
  · rw [if_neg c1] at h
    refine wp_aload_n (x := 0) dX10_many_23 rfl ?_
    refine wp_getR 366 fl_X10_43 (by decide) rfl (kltC kRoot) kRoot (ly10_10 kRoot).1 dX10_many_24 ?_
    refine wp_iload_n (x := v2) dX10_many_27 rfl ?_
    obtain ⟨r3, g1, h⟩ := bnd_some h
    refine wp_cVi (d := d - 1) (o := 366) cv_X10_270 (kltC (ly10_10 kRoot).2.1) (ly10_10 kRoot).2.1 (as := [.int v2]) (rest := []) dX10_many_28 (by omega) cloC rfl rfl (Nat.le_of_ble_eq_true rfl) (Nat.le_of_ble_eq_true rfl) (ok_World_countHeld (by omega) 366 ((ly10_10 kRoot).2.1) v2 μ1 g1) ?_ rfl
    obtain ⟨rfl, rfl⟩ := ret2 h
    exact wp_iret rfl dX10_many_31 ⟨rfl, rfl, rfl⟩
  · rw [if_pos c1] at h
    refine wp_iconst (-1) dX10_many_21 rfl ?_
    obtain ⟨rfl, rfl⟩ := ret2 h
    exact wp_iret rfl dX10_many_22 ⟨rfl, rfl, rfl⟩
theorem ok_Nine_many {l : Launch} {d : Nat} (hd : 8 ≤ d) (v1 : Int32)  (v2 : Int32)  (μ : Mm) {r : Int32} {μ' : Mm} (h : Nine_many v1 v2 μ = some (r, μ')) : Wp l SC d (0, 0) mX10_many 0 [some (.ref 0), some (.int v1), some (.int v2)] [] μ (Qi SC r μ') := by
  unfold Nine_many at h
  refine wp_iload_n (x := v2) dX10_many_0 rfl ?_
  refine wp_iconst (-1) dX10_many_1 rfl ?_
  refine wp_icmp_eq 13 dX10_many_2 (by decide) (fun c1 => ?_) (fun c1 => ?_)
  · rw [if_pos c1] at h
    exact ok_Nine_many_j13 hd v1 v2 μ h
  · rw [if_neg c1] at h
    refine wp_iconst (nI 0) dX10_many_5 rfl ?_
    refine wp_iload_n (x := v2) dX10_many_6 rfl ?_
    obtain ⟨r4, g1, h⟩ := bnd_some h
    refine wp_cSi (d := d - 1) cs_X10_64 (as := [.int (nI 0), .int v2]) (rest := []) dX10_many_7 (by omega) cloC rfl rfl (Nat.le_of_ble_eq_true rfl) (Nat.le_of_ble_eq_true rfl) (ok_Nine_canBeTold (by omega) (nI 0) v2 μ g1) ?_ rfl
    refine wp_if_eq 21 dX10_many_10 (by decide) (fun c1 => ?_) (fun c1 => ?_)
    · rw [if_pos c1] at h
      refine wp_iconst (-1) dX10_many_21 rfl ?_
      obtain ⟨rfl, rfl⟩ := ret2 h
      exact wp_iret rfl dX10_many_22 ⟨rfl, rfl, rfl⟩
    · rw [if_neg c1] at h
      exact ok_Nine_many_j13 hd v1 v2 μ h
