theorem ok_Nine_over_l6 {l : Launch} {d : Nat} (hd : 7 ≤ d) (v1 : Int32)  (μ : Mm) {Q : Option Value → Sh → Mm → Prop} (K : (Int32 × Mm) ⊕ ((Int32 × Mm) ⊕ Mm) → Prop) (hb : ∀ (s : (Int32 × Mm)), K (Sum.inl s) → Wp l SC d (0, 0) mX10_over 6 [some (.ref 0), some (.int s.1)] [] s.2 Q) (he0 : ∀ (x : (Int32 × Mm)), K (Sum.inr (Sum.inl x)) → Wp l SC d (0, 0) mX10_over 23 [some (.ref 0), some (.int x.1)] [] x.2 Q) (he1 : ∀ (x : Mm) (z1 : Option Value), K (Sum.inr (Sum.inr x)) → Wp l SC d (0, 0) mX10_over 43 [some (.ref 0), z1] [] x Q) {z : (Int32 × Mm) ⊕ ((Int32 × Mm) ⊕ Mm)} (h : Nine_over_l6 v1 μ = some z) (hz : K z) : Wp l SC d (0, 0) mX10_over 6 [some (.ref 0), some (.int v1)] [] μ Q := by
  unfold Nine_over_l6 at h
  refine wp_iload_n (x := v1) dX10_over_6 rfl ?_
  refine wp_sipush (nI 200) dX10_over_7 rfl ?_
  refine wp_icmp_gt 43 dX10_over_10 (by decide) (fun c1 => ?_) (fun c1 => ?_)
  · rw [if_pos c1] at h
    obtain rfl := some1 h
    exact he1 μ _ hz
  · rw [if_neg c1] at h
    refine wp_aload_n (x := 0) dX10_over_13 rfl ?_
    refine wp_getR 366 fl_X10_43 (by decide) rfl (kltC kRoot) kRoot (ly10_10 kRoot).1 dX10_over_14 ?_
    obtain ⟨r2, g1, h⟩ := bnd_some h
    refine wp_cVi (d := d - 1) (o := 366) cv_X10_276 (kltC (ly10_10 kRoot).2.1) (ly10_10 kRoot).2.1 (as := []) (rest := []) dX10_over_17 (by omega) cloC rfl rfl (Nat.le_of_ble_eq_true rfl) (Nat.le_of_ble_eq_true rfl) (ok_World_isOver (by omega) 366 ((ly10_10 kRoot).2.1) μ g1) ?_ rfl
    refine wp_if_eq 25 dX10_over_20 (by decide) (fun c1 => ?_) (fun c1 => ?_)
    · rw [if_pos c1] at h
      refine wp_aload_n (x := 0) dX10_over_25 rfl ?_
      refine wp_getR 366 fl_X10_43 (by decide) rfl (kltC kRoot) kRoot (ly10_10 kRoot).1 dX10_over_26 ?_
      refine wp_aload_n (x := 0) dX10_over_29 rfl ?_
      refine wp_getR 166 fl_X10_19 (by decide) rfl (kltC kRoot) kRoot (ly10_1 kRoot).1 dX10_over_30 ?_
      obtain ⟨r4, μ3, g1, h⟩ := bnd2_some h
      refine wp_cVi (d := d - 1) (o := 366) cv_X10_176 (kltC (ly10_10 kRoot).2.1) (ly10_10 kRoot).2.1 (as := [.ref 166]) (rest := []) dX10_over_33 (by omega) cloC rfl rfl (Nat.le_of_ble_eq_true rfl) (Nat.le_of_ble_eq_true rfl) (ok_World_passDay (by omega) 366 ((ly10_10 kRoot).2.1) 166 ((ly10_1 kRoot).2.1) μ g1) ?_ rfl
      refine wp_pop dX10_over_36 rfl ?_
      refine wp_iinc (x := v1) (k0 := (nI 1)) (L2 := [some (.ref 0), some (.int (v1 + (nI 1)))]) dX10_over_37 rfl rfl (by decide) rfl rfl ?_
      refine wp_goto 6 dX10_over_40 (by decide) ?_
      obtain rfl := some1 h
      exact hb ((v1 + (nI 1)), μ3) hz
    · rw [if_neg c1] at h
      obtain rfl := some1 h
      exact he0 (v1, μ) hz
theorem okl_Nine_over_l6 {l : Launch} {d : Nat} (hd : 7 ≤ d) {Q : Option Value → Sh → Mm → Prop} (K : ((Int32 × Mm) ⊕ Mm) → Prop) (he0 : ∀ (x : (Int32 × Mm)), K (Sum.inl x) → Wp l SC d (0, 0) mX10_over 23 [some (.ref 0), some (.int x.1)] [] x.2 Q) (he1 : ∀ (x : Mm) (z1 : Option Value), K (Sum.inr x) → Wp l SC d (0, 0) mX10_over 43 [some (.ref 0), z1] [] x Q) : ∀ (n : Nat) (s : (Int32 × Mm)) (y : ((Int32 × Mm) ⊕ Mm)) , iter n (fun s => Nine_over_l6 s.1 s.2) s = some y → K y → Wp l SC d (0, 0) mX10_over 6 [some (.ref 0), some (.int s.1)] [] s.2 Q := by
  intro n
  induction n with
  | zero => intro s y  h; cases h
  | succ n ih =>
    intro s y  h hK
    obtain ⟨z, hz, hn⟩ := iter_some h
    refine ok_Nine_over_l6 hd s.1 s.2 (fun z => nxt n (fun s => Nine_over_l6 s.1 s.2) z y) ?_ ?_ ?_ hz hn
    · intro s2  h2
      exact ih s2 y h2 hK
    · intro x  h2
      have h3 : (Sum.inl x) = y := h2
      subst h3
      exact he0 x hK
    · intro x z1 h2
      have h3 : (Sum.inr x) = y := h2
      subst h3
      exact he1 x _ hK
theorem ok_Nine_over {l : Launch} {d : Nat} (hd : 7 ≤ d) (μ : Mm) {r : Int32} {μ' : Mm} (h : Nine_over μ = some (r, μ')) : Wp l SC d (0, 0) mX10_over 0 [some (.ref 0), none] [] μ (Qi SC r μ') := by
  unfold Nine_over at h
  refine wp_aload_n (x := 0) dX10_over_0 rfl ?_
  obtain ⟨μ1, g1, h⟩ := bnd_some h
  refine wp_cVv (d := d - 1) (o := 0) cv_X10_273 (kltC kRoot) kRoot (as := []) (rest := []) dX10_over_1 (by omega) cloC rfl rfl (Nat.le_of_ble_eq_true rfl) (Nat.le_of_ble_eq_true rfl) (ok_Nine_beginThought (by omega) μ g1) ?_ rfl
  refine wp_iconst (nI 0) dX10_over_4 rfl ?_
  refine wp_istore_n (L2 := [some (.ref 0), some (.int (nI 0))]) dX10_over_5 (by decide) rfl rfl ?_
  obtain ⟨x6, hi, h⟩ := bni_some h
  refine okl_Nine_over_l6 hd  (fun z => z = x6) ?_ ?_ 1000000 ((nI 0), μ1) x6 hi rfl
  · intro x6a  e0
    have e0 : (Sum.inl x6a) = x6 := e0
    subst e0
    replace h := eL h
    refine wp_iload_n (x := x6a.1) dX10_over_23 rfl ?_
    obtain ⟨rfl, rfl⟩ := ret2 h
    exact wp_iret rfl dX10_over_24 ⟨rfl, rfl, rfl⟩
  · intro x6b z1 e0
    have e0 : (Sum.inr x6b) = x6 := e0
    subst e0
    replace h := eR h
    refine wp_iconst (-1) dX10_over_43 rfl ?_
    obtain ⟨rfl, rfl⟩ := ret2 h
    exact wp_iret rfl dX10_over_44 ⟨rfl, rfl, rfl⟩
theorem ok_Nine_writerSlot_j39 {l : Launch} {d : Nat} (hd : 2 ≤ d) (v0 : Int32)  (v1 : Int32)  (v2 : Int32)  (μ : Mm) {Q : Option Value → Sh → Mm → Prop} (K : (Int32 × Int32) ⊕ Int32 → Prop) (hb : ∀ (s : (Int32 × Int32)), K (Sum.inl s) → Wp l SC d (0, 0) mX10_writerSlot 16 [some (.int v0), some (.int s.1), some (.int s.2)] [] μ Q) (he0 : ∀ (x : Int32) (z0 : Option Value) (z2 : Option Value), K (Sum.inr x) → Wp l SC d (0, 0) mX10_writerSlot 45 [z0, some (.int x), z2] [] μ Q) {z : (Int32 × Int32) ⊕ Int32} (h : Nine_writerSlot_j39 v0 v1 v2 = some z) (hz : K z) : Wp l SC d (0, 0) mX10_writerSlot 39 [some (.int v0), some (.int v1), some (.int v2)] [] μ Q := by
  unfold Nine_writerSlot_j39 at h
  refine wp_iinc (x := v2) (k0 := (nI 1)) (L2 := [some (.int v0), some (.int v1), some (.int (v2 + (nI 1)))]) dX10_writerSlot_39 rfl rfl (by decide) rfl rfl ?_
  refine wp_goto 16 dX10_writerSlot_42 (by decide) ?_
  obtain rfl := some1 h
  exact hb (v1, (v2 + (nI 1))) hz
theorem ok_Nine_writerSlot_l16 {l : Launch} {d : Nat} (hd : 2 ≤ d) (v0 : Int32)  (v1 : Int32)  (v2 : Int32)  (μ : Mm) {Q : Option Value → Sh → Mm → Prop} (K : (Int32 × Int32) ⊕ Int32 → Prop) (hb : ∀ (s : (Int32 × Int32)), K (Sum.inl s) → Wp l SC d (0, 0) mX10_writerSlot 16 [some (.int v0), some (.int s.1), some (.int s.2)] [] μ Q) (he0 : ∀ (x : Int32) (z0 : Option Value) (z2 : Option Value), K (Sum.inr x) → Wp l SC d (0, 0) mX10_writerSlot 45 [z0, some (.int x), z2] [] μ Q) {z : (Int32 × Int32) ⊕ Int32} (h : Nine_writerSlot_l16 v0 v1 v2 = some z) (hz : K z) : Wp l SC d (0, 0) mX10_writerSlot 16 [some (.int v0), some (.int v1), some (.int v2)] [] μ Q := by
  unfold Nine_writerSlot_l16 at h
  refine wp_iload_n (x := v2) dX10_writerSlot_16 rfl ?_
  refine wp_bipush (nI 16) dX10_writerSlot_17 rfl ?_
  refine wp_icmp_ge 45 dX10_writerSlot_19 (by decide) (fun c1 => ?_) (fun c1 => ?_)
  · rw [if_pos c1] at h
    obtain rfl := some1 h
    exact he0 v1 _ _ hz
  · rw [if_neg c1] at h
    refine wp_iload_n (x := v0) dX10_writerSlot_22 rfl ?_
    refine wp_iload_n (x := v2) dX10_writerSlot_23 rfl ?_
    obtain ⟨r2, g1, h⟩ := bnd_some h
    refine wp_cSi (d := d - 1) cs_X10_288 (as := [.int v0, .int v2]) (rest := []) dX10_writerSlot_24 (by omega) cloC rfl rfl (Nat.le_of_ble_eq_true rfl) (Nat.le_of_ble_eq_true rfl) (ok_Nine_hasBit (by omega) v0 v2 μ g1) ?_ rfl
    refine wp_if_eq 39 dX10_writerSlot_27 (by decide) (fun c1 => ?_) (fun c1 => ?_)
    · rw [if_pos c1] at h
      exact ok_Nine_writerSlot_j39 hd v0 v1 v2 μ K hb he0 h hz
    · rw [if_neg c1] at h
      refine wp_iload_n (x := v1) dX10_writerSlot_30 rfl ?_
      refine wp_bipush (nI 17) dX10_writerSlot_31 rfl ?_
      refine wp_imul dX10_writerSlot_33 ?_
      refine wp_iload_n (x := v2) dX10_writerSlot_34 rfl ?_
      refine wp_iadd dX10_writerSlot_35 ?_
      refine wp_iconst (nI 1) dX10_writerSlot_36 rfl ?_
      refine wp_iadd dX10_writerSlot_37 ?_
      refine wp_istore_n (L2 := [some (.int v0), some (.int (((v1 * (nI 17)) + v2) + (nI 1))), some (.int v2)]) dX10_writerSlot_38 (by decide) rfl rfl ?_
      exact ok_Nine_writerSlot_j39 hd v0 (((v1 * (nI 17)) + v2) + (nI 1)) v2 μ K hb he0 h hz
theorem okl_Nine_writerSlot_l16 {l : Launch} {d : Nat} (hd : 2 ≤ d) (v0 : Int32)  (μ : Mm) {Q : Option Value → Sh → Mm → Prop} (K : Int32 → Prop) (he0 : ∀ (x : Int32) (z0 : Option Value) (z2 : Option Value), K x → Wp l SC d (0, 0) mX10_writerSlot 45 [z0, some (.int x), z2] [] μ Q) : ∀ (n : Nat) (s : (Int32 × Int32)) (y : Int32) , iter n (fun s => Nine_writerSlot_l16 v0 s.1 s.2) s = some y → K y → Wp l SC d (0, 0) mX10_writerSlot 16 [some (.int v0), some (.int s.1), some (.int s.2)] [] μ Q := by
  intro n
  induction n with
  | zero => intro s y  h; cases h
  | succ n ih =>
    intro s y  h hK
    obtain ⟨z, hz, hn⟩ := iter_some h
    refine ok_Nine_writerSlot_l16 hd v0 s.1 s.2 μ (fun z => nxt n (fun s => Nine_writerSlot_l16 v0 s.1 s.2) z y) ?_ ?_ hz hn
    · intro s2  h2
      exact ih s2 y h2 hK
    · intro x z0 z2 h2
      have h3 : x = y := h2
      subst h3
      exact he0 x _ _ hK
theorem ok_Nine_writerSlot {l : Launch} {d : Nat} (hd : 2 ≤ d) (v0 : Int32)  (μ : Mm) {r : Int32} (h : Nine_writerSlot v0 = some r) : Wp l SC d (0, 0) mX10_writerSlot 0 [some (.int v0), none, none] [] μ (Qi SC r μ) := by
  unfold Nine_writerSlot at h
  refine wp_iload_n (x := v0) dX10_writerSlot_0 rfl ?_
  obtain ⟨r1, g1, h⟩ := bnd_some h
  refine wp_cSi (d := d - 1) cs_X10_368 (as := [.int v0]) (rest := []) dX10_writerSlot_1 (by omega) cloC rfl rfl (Nat.le_of_ble_eq_true rfl) (Nat.le_of_ble_eq_true rfl) (ok_JI_bitCount wfC (by omega) v0 μ g1) ?_ rfl
  refine wp_iconst (nI 3) dX10_writerSlot_4 rfl ?_
  refine wp_icmp_lt 12 dX10_writerSlot_5 (by decide) (fun c1 => ?_) (fun c1 => ?_)
  · rw [if_pos c1] at h
    refine wp_iconst (nI 0) dX10_writerSlot_12 rfl ?_
    refine wp_istore_n (L2 := [some (.int v0), some (.int (nI 0)), none]) dX10_writerSlot_13 (by decide) rfl rfl ?_
    refine wp_iconst (nI 0) dX10_writerSlot_14 rfl ?_
    refine wp_istore_n (L2 := [some (.int v0), some (.int (nI 0)), some (.int (nI 0))]) dX10_writerSlot_15 (by decide) rfl rfl ?_
    obtain ⟨x16, hi, h⟩ := bni_some h
    refine okl_Nine_writerSlot_l16 hd v0 μ (fun z => z = x16) ?_ 1000000 ((nI 0), (nI 0)) x16 hi rfl
    · intro y0 z0 z2 e0
      have e0 : y0 = x16 := e0
      subst e0
      refine wp_iload_n (x := y0) dX10_writerSlot_45 rfl ?_
      obtain rfl := ret1 h
      exact wp_iret rfl dX10_writerSlot_46 ⟨rfl, rfl, rfl⟩
  · rw [if_neg c1] at h
    refine wp_sipush (nI 289) dX10_writerSlot_8 rfl ?_
    obtain rfl := ret1 h
    exact wp_iret rfl dX10_writerSlot_11 ⟨rfl, rfl, rfl⟩
theorem ok_Nine_endsWithout_j58 {l : Launch} {d : Nat} (hd : 7 ≤ d) (v1 : Int32)  (v2 : Int32)  (v3 : Int32)  (μ : Mm) (z4 : Option Value) {Q : Option Value → Sh → Mm → Prop} (K : Int32 ⊕ (Int32 ⊕ Unit) → Prop) (hb : ∀ (s : Int32) (z4 : Option Value), K (Sum.inl s) → Wp l SC d (0, 0) mX10_endsWithout 2 [some (.ref 0), some (.int v1), some (.int v2), some (.int s), z4] [] μ Q) (he0 : ∀ (x : Int32) (z2 : Option Value) (z3 : Option Value), K (Sum.inr (Sum.inl x)) → Wp l SC d (0, 0) mX10_endsWithout 45 [some (.ref 0), some (.int v1), z2, z3, some (.int x)] [] μ Q) (he1 : ∀ (x : Unit) (z3 : Option Value) (z4 : Option Value), K (Sum.inr (Sum.inr x)) → Wp l SC d (0, 0) mX10_endsWithout 64 [some (.ref 0), some (.int v1), some (.int v2), z3, z4] [] μ Q) {z : Int32 ⊕ (Int32 ⊕ Unit)} (h : Nine_endsWithout_j58 v1 v2 v3 μ = some z) (hz : K z) : Wp l SC d (0, 0) mX10_endsWithout 58 [some (.ref 0), some (.int v1), some (.int v2), some (.int v3), z4] [] μ Q := by
  unfold Nine_endsWithout_j58 at h
  refine wp_iinc (x := v3) (k0 := (nI 1)) (L2 := [some (.ref 0), some (.int v1), some (.int v2), some (.int (v3 + (nI 1))), z4]) dX10_endsWithout_58 rfl rfl (by decide) rfl rfl ?_
  refine wp_goto 2 dX10_endsWithout_61 (by decide) ?_
  obtain rfl := some1 h
  exact hb (v3 + (nI 1)) _ hz
theorem ok_Nine_endsWithout_l2 {l : Launch} {d : Nat} (hd : 7 ≤ d) (v1 : Int32)  (v2 : Int32)  (v3 : Int32)  (μ : Mm) (z4 : Option Value) {Q : Option Value → Sh → Mm → Prop} (K : Int32 ⊕ (Int32 ⊕ Unit) → Prop) (hb : ∀ (s : Int32) (z4 : Option Value), K (Sum.inl s) → Wp l SC d (0, 0) mX10_endsWithout 2 [some (.ref 0), some (.int v1), some (.int v2), some (.int s), z4] [] μ Q) (he0 : ∀ (x : Int32) (z2 : Option Value) (z3 : Option Value), K (Sum.inr (Sum.inl x)) → Wp l SC d (0, 0) mX10_endsWithout 45 [some (.ref 0), some (.int v1), z2, z3, some (.int x)] [] μ Q) (he1 : ∀ (x : Unit) (z3 : Option Value) (z4 : Option Value), K (Sum.inr (Sum.inr x)) → Wp l SC d (0, 0) mX10_endsWithout 64 [some (.ref 0), some (.int v1), some (.int v2), z3, z4] [] μ Q) {z : Int32 ⊕ (Int32 ⊕ Unit)} (h : Nine_endsWithout_l2 v1 v2 v3 μ = some z) (hz : K z) : Wp l SC d (0, 0) mX10_endsWithout 2 [some (.ref 0), some (.int v1), some (.int v2), some (.int v3), z4] [] μ Q := by
  unfold Nine_endsWithout_l2 at h
  refine wp_iload_n (x := v3) dX10_endsWithout_2 rfl ?_
  refine wp_aload_n (x := 0) dX10_endsWithout_3 rfl ?_
  refine wp_getR 1 fl_X10_12 (by decide) rfl (kltC kRoot) kRoot (ly10_0 kRoot).1 dX10_endsWithout_4 ?_
  refine wp_getI fl_X10_68 (by decide) rfl (kltC (ly10_0 kRoot).2.1) (ly10_0 kRoot).2.1 dX10_endsWithout_7 ?_
  refine wp_icmp_ge 64 dX10_endsWithout_10 (by decide) (fun c1 => ?_) (fun c1 => ?_)
  · rw [if_pos c1] at h
    obtain rfl := some1 h
    exact he1 () _ _ hz
  · rw [if_neg c1] at h
    refine wp_iload_n (x := v1) dX10_endsWithout_13 rfl ?_
    refine wp_iload_n (x := v3) dX10_endsWithout_14 rfl ?_
    obtain ⟨r1, g1, h⟩ := bnd_some h
    refine wp_cSi (d := d - 1) cs_X10_288 (as := [.int v1, .int v3]) (rest := []) dX10_endsWithout_15 (by omega) cloC rfl rfl (Nat.le_of_ble_eq_true rfl) (Nat.le_of_ble_eq_true rfl) (ok_Nine_hasBit (by omega) v1 v3 μ g1) ?_ rfl
    refine wp_if_eq 58 dX10_endsWithout_18 (by decide) (fun c1 => ?_) (fun c1 => ?_)
    · rw [if_pos c1] at h
      exact ok_Nine_endsWithout_j58 hd v1 v2 v3 μ _ K hb he0 he1 h hz
    · rw [if_neg c1] at h
      refine wp_aload_n (x := 0) dX10_endsWithout_21 rfl ?_
      refine wp_getR 531 fl_X10_46 (by decide) rfl (kltC kRoot) kRoot (ly10_11 kRoot).1 dX10_endsWithout_22 ?_
      refine wp_iload_n (x := v1) dX10_endsWithout_25 rfl ?_
      refine wp_iconst (nI 1) dX10_endsWithout_26 rfl ?_
      refine wp_iload_n (x := v3) dX10_endsWithout_27 rfl ?_
      refine wp_ishl dX10_endsWithout_28 ?_
      refine wp_ixor dX10_endsWithout_29 ?_
      obtain ⟨r2, g1, h⟩ := bnd_some h
      refine wp_cSi (d := d - 1) cs_X10_362 (as := [.int (v1 ^^^ ((nI 1) <<< (v3 &&& 31)))]) (rest := [.ref 531]) dX10_endsWithout_30 (by omega) cloC rfl rfl (Nat.le_of_ble_eq_true rfl) (Nat.le_of_ble_eq_true rfl) (ok_Nine_writerSlot (by omega) (v1 ^^^ ((nI 1) <<< (v3 &&& 31))) μ g1) ?_ rfl
      obtain ⟨c1, h⟩ := chv_some h
      refine wp_ialde (kltC (ly10_11 kRoot).2.1) (ly10_11 kRoot).2.1 (ly10_11 kRoot).2.2 c1 dX10_endsWithout_33 ?_
      refine wp_istore (L2 := [some (.ref 0), some (.int v1), some (.int v2), some (.int v3), some (.int (μ.1 531 (ix r2)))]) dX10_endsWithout_34 (by decide) rfl rfl ?_
      refine wp_iload (x := (μ.1 531 (ix r2))) dX10_endsWithout_36 rfl ?_
      refine wp_iload_n (x := v3) dX10_endsWithout_38 rfl ?_
      obtain ⟨r3, g1, h⟩ := bnd_some h
      refine wp_cSi (d := d - 1) cs_X10_288 (as := [.int (μ.1 531 (ix r2)), .int v3]) (rest := []) dX10_endsWithout_39 (by omega) cloC rfl rfl (Nat.le_of_ble_eq_true rfl) (Nat.le_of_ble_eq_true rfl) (ok_Nine_hasBit (by omega) (μ.1 531 (ix r2)) v3 μ g1) ?_ rfl
      refine wp_if_ne 58 dX10_endsWithout_42 (by decide) (fun c1 => ?_) (fun c1 => ?_)
      · rw [if_neg c1] at h
        exact ok_Nine_endsWithout_j58 hd v1 v2 v3 μ _ K hb he0 he1 h hz
      · rw [if_pos c1] at h
        obtain rfl := some1 h
        exact he0 (μ.1 531 (ix r2)) _ _ hz
theorem okl_Nine_endsWithout_l2 {l : Launch} {d : Nat} (hd : 7 ≤ d) (v1 : Int32)  (v2 : Int32)  (μ : Mm) {Q : Option Value → Sh → Mm → Prop} (K : (Int32 ⊕ Unit) → Prop) (he0 : ∀ (x : Int32) (z2 : Option Value) (z3 : Option Value), K (Sum.inl x) → Wp l SC d (0, 0) mX10_endsWithout 45 [some (.ref 0), some (.int v1), z2, z3, some (.int x)] [] μ Q) (he1 : ∀ (x : Unit) (z3 : Option Value) (z4 : Option Value), K (Sum.inr x) → Wp l SC d (0, 0) mX10_endsWithout 64 [some (.ref 0), some (.int v1), some (.int v2), z3, z4] [] μ Q) : ∀ (n : Nat) (s : Int32) (y : (Int32 ⊕ Unit)) (z4 : Option Value) , iter n (fun s => Nine_endsWithout_l2 v1 v2 s μ) s = some y → K y → Wp l SC d (0, 0) mX10_endsWithout 2 [some (.ref 0), some (.int v1), some (.int v2), some (.int s), z4] [] μ Q := by
  intro n
  induction n with
  | zero => intro s y z4 h; cases h
  | succ n ih =>
    intro s y z4 h hK
    obtain ⟨z, hz, hn⟩ := iter_some h
    refine ok_Nine_endsWithout_l2 hd v1 v2 s μ _ (fun z => nxt n (fun s => Nine_endsWithout_l2 v1 v2 s μ) z y) ?_ ?_ ?_ hz hn
    · intro s2 z4 h2
      exact ih s2 y _ h2 hK
    · intro x z2 z3 h2
      have h3 : (Sum.inl x) = y := h2
      subst h3
      exact he0 x _ _ hK
    · intro x z3 z4 h2
      have h3 : (Sum.inr x) = y := h2
      subst h3
      exact he1 x _ _ hK
theorem ok_Nine_endsWithout_j104 {l : Launch} {d : Nat} (hd : 7 ≤ d) (v1 : Int32)  (v2 : Int32)  (v3 : Int32)  (μ : Mm) (z4 : Option Value) {Q : Option Value → Sh → Mm → Prop} (K : (Int32 × Mm) ⊕ Mm → Prop) (hb : ∀ (s : (Int32 × Mm)) (z4 : Option Value), K (Sum.inl s) → Wp l SC d (0, 0) mX10_endsWithout 70 [some (.ref 0), some (.int v1), some (.int v2), some (.int s.1), z4] [] s.2 Q) (he0 : ∀ (x : Mm) (z3 : Option Value) (z4 : Option Value), K (Sum.inr x) → Wp l SC d (0, 0) mX10_endsWithout 110 [some (.ref 0), some (.int v1), some (.int v2), z3, z4] [] x Q) {z : (Int32 × Mm) ⊕ Mm} (h : Nine_endsWithout_j104 v1 v2 v3 μ = some z) (hz : K z) : Wp l SC d (0, 0) mX10_endsWithout 104 [some (.ref 0), some (.int v1), some (.int v2), some (.int v3), z4] [] μ Q := by
  unfold Nine_endsWithout_j104 at h
  refine wp_iinc (x := v3) (k0 := (nI 1)) (L2 := [some (.ref 0), some (.int v1), some (.int v2), some (.int (v3 + (nI 1))), z4]) dX10_endsWithout_104 rfl rfl (by decide) rfl rfl ?_
  refine wp_goto 70 dX10_endsWithout_107 (by decide) ?_
  obtain rfl := some1 h
  exact hb ((v3 + (nI 1)), μ) _ hz
theorem ok_Nine_endsWithout_l70 {l : Launch} {d : Nat} (hd : 7 ≤ d) (v1 : Int32)  (v2 : Int32)  (v3 : Int32)  (μ : Mm) (z4 : Option Value) {Q : Option Value → Sh → Mm → Prop} (K : (Int32 × Mm) ⊕ Mm → Prop) (hb : ∀ (s : (Int32 × Mm)) (z4 : Option Value), K (Sum.inl s) → Wp l SC d (0, 0) mX10_endsWithout 70 [some (.ref 0), some (.int v1), some (.int v2), some (.int s.1), z4] [] s.2 Q) (he0 : ∀ (x : Mm) (z3 : Option Value) (z4 : Option Value), K (Sum.inr x) → Wp l SC d (0, 0) mX10_endsWithout 110 [some (.ref 0), some (.int v1), some (.int v2), z3, z4] [] x Q) {z : (Int32 × Mm) ⊕ Mm} (h : Nine_endsWithout_l70 v1 v2 v3 μ = some z) (hz : K z) : Wp l SC d (0, 0) mX10_endsWithout 70 [some (.ref 0), some (.int v1), some (.int v2), some (.int v3), z4] [] μ Q := by
  unfold Nine_endsWithout_l70 at h
  refine wp_iload_n (x := v3) dX10_endsWithout_70 rfl ?_
  refine wp_aload_n (x := 0) dX10_endsWithout_71 rfl ?_
  refine wp_getR 1 fl_X10_12 (by decide) rfl (kltC kRoot) kRoot (ly10_0 kRoot).1 dX10_endsWithout_72 ?_
  refine wp_getI fl_X10_68 (by decide) rfl (kltC (ly10_0 kRoot).2.1) (ly10_0 kRoot).2.1 dX10_endsWithout_75 ?_
  refine wp_icmp_ge 110 dX10_endsWithout_78 (by decide) (fun c1 => ?_) (fun c1 => ?_)
  · rw [if_pos c1] at h
    obtain rfl := some1 h
    exact he0 μ _ _ hz
  · rw [if_neg c1] at h
    refine wp_iload_n (x := v1) dX10_endsWithout_81 rfl ?_
    refine wp_iload_n (x := v3) dX10_endsWithout_82 rfl ?_
    obtain ⟨r7, g1, h⟩ := bnd_some h
    refine wp_cSi (d := d - 1) cs_X10_288 (as := [.int v1, .int v3]) (rest := []) dX10_endsWithout_83 (by omega) cloC rfl rfl (Nat.le_of_ble_eq_true rfl) (Nat.le_of_ble_eq_true rfl) (ok_Nine_hasBit (by omega) v1 v3 μ g1) ?_ rfl
    refine wp_if_eq 104 dX10_endsWithout_86 (by decide) (fun c1 => ?_) (fun c1 => ?_)
    · rw [if_pos c1] at h
      exact ok_Nine_endsWithout_j104 hd v1 v2 v3 μ _ K hb he0 h hz
    · rw [if_neg c1] at h
      refine wp_aload_n (x := 0) dX10_endsWithout_89 rfl ?_
      refine wp_getR 366 fl_X10_43 (by decide) rfl (kltC kRoot) kRoot (ly10_10 kRoot).1 dX10_endsWithout_90 ?_
      refine wp_getR 367 fl_X10_82 (by decide) rfl (kltC (ly10_10 kRoot).2.1) (ly10_10 kRoot).2.1 (ly9_0 (ly10_10 kRoot).2.1).1 dX10_endsWithout_93 ?_
      refine wp_iload_n (x := v3) dX10_endsWithout_96 rfl ?_
      obtain ⟨cp8, h⟩ := chv_some h
      refine wp_aald (366 + (21 + 9 * ix v3)) (kltC (ly9_0 (ly10_10 kRoot).2.1).2.1) (ly9_0 (ly10_10 kRoot).2.1).2.1 (by decide) (by rw [(ly9_0 (ly10_10 kRoot).2.1).2.2]; exact cp8) (lyP (ly10_10 kRoot).2.1 cp8).1 dX10_endsWithout_97 ?_
      refine wp_getR ((366 + (21 + 9 * ix v3)) + 1) fl_X10_86 (by decide) rfl (kltC (lyP (ly10_10 kRoot).2.1 cp8).2) (lyP (ly10_10 kRoot).2.1 cp8).2 (ly3_0 (lyP (ly10_10 kRoot).2.1 cp8).2).1 dX10_endsWithout_98 ?_
      refine wp_iconst (nI 5) dX10_endsWithout_101 rfl ?_
      refine wp_iconst (nI 1) dX10_endsWithout_102 rfl ?_
      obtain ⟨c1, h⟩ := chv_some h
      obtain ⟨μ9, e1, h⟩ := lt_some h
      refine wp_iaste e1 (kltC (ly3_0 (lyP (ly10_10 kRoot).2.1 cp8).2).2.1) (ly3_0 (lyP (ly10_10 kRoot).2.1 cp8).2).2.1 (ly3_0 (lyP (ly10_10 kRoot).2.1 cp8).2).2.2 c1 dX10_endsWithout_103 ?_
      exact ok_Nine_endsWithout_j104 hd v1 v2 v3 μ9 _ K hb he0 h hz
theorem okl_Nine_endsWithout_l70 {l : Launch} {d : Nat} (hd : 7 ≤ d) (v1 : Int32)  (v2 : Int32)  {Q : Option Value → Sh → Mm → Prop} (K : Mm → Prop) (he0 : ∀ (x : Mm) (z3 : Option Value) (z4 : Option Value), K x → Wp l SC d (0, 0) mX10_endsWithout 110 [some (.ref 0), some (.int v1), some (.int v2), z3, z4] [] x Q) : ∀ (n : Nat) (s : (Int32 × Mm)) (y : Mm) (z4 : Option Value) , iter n (fun s => Nine_endsWithout_l70 v1 v2 s.1 s.2) s = some y → K y → Wp l SC d (0, 0) mX10_endsWithout 70 [some (.ref 0), some (.int v1), some (.int v2), some (.int s.1), z4] [] s.2 Q := by
  intro n
  induction n with
  | zero => intro s y z4 h; cases h
  | succ n ih =>
    intro s y z4 h hK
    obtain ⟨z, hz, hn⟩ := iter_some h
    refine ok_Nine_endsWithout_l70 hd v1 v2 s.1 s.2 _ (fun z => nxt n (fun s => Nine_endsWithout_l70 v1 v2 s.1 s.2) z y) ?_ ?_ hz hn
    · intro s2 z4 h2
      exact ih s2 y _ h2 hK
    · intro x z3 z4 h2
      have h3 : x = y := h2
      subst h3
      exact he0 x _ _ hK
theorem ok_Nine_endsWithout_l112 {l : Launch} {d : Nat} (hd : 7 ≤ d) (v1 : Int32)  (v2 : Int32)  (v3 : Int32)  (μ : Mm) (z4 : Option Value) {Q : Option Value → Sh → Mm → Prop} (K : (Int32 × Mm) ⊕ Mm → Prop) (hb : ∀ (s : (Int32 × Mm)) (z4 : Option Value), K (Sum.inl s) → Wp l SC d (0, 0) mX10_endsWithout 112 [some (.ref 0), some (.int v1), some (.int v2), some (.int s.1), z4] [] s.2 Q) (he0 : ∀ (x : Mm) (z2 : Option Value) (z3 : Option Value) (z4 : Option Value), K (Sum.inr x) → Wp l SC d (0, 0) mX10_endsWithout 145 [some (.ref 0), some (.int v1), z2, z3, z4] [] x Q) {z : (Int32 × Mm) ⊕ Mm} (h : Nine_endsWithout_l112 v1 v2 v3 μ = some z) (hz : K z) : Wp l SC d (0, 0) mX10_endsWithout 112 [some (.ref 0), some (.int v1), some (.int v2), some (.int v3), z4] [] μ Q := by
  unfold Nine_endsWithout_l112 at h
  refine wp_iload_n (x := v3) dX10_endsWithout_112 rfl ?_
  refine wp_iload_n (x := v2) dX10_endsWithout_113 rfl ?_
  refine wp_icmp_ge 145 dX10_endsWithout_114 (by decide) (fun c1 => ?_) (fun c1 => ?_)
  · rw [if_pos c1] at h
    obtain rfl := some1 h
    exact he0 μ _ _ _ hz
  · rw [if_neg c1] at h
    refine wp_aload_n (x := 0) dX10_endsWithout_117 rfl ?_
    refine wp_getR 366 fl_X10_43 (by decide) rfl (kltC kRoot) kRoot (ly10_10 kRoot).1 dX10_endsWithout_118 ?_
    obtain ⟨r10, g1, h⟩ := bnd_some h
    refine wp_cVi (d := d - 1) (o := 366) cv_X10_276 (kltC (ly10_10 kRoot).2.1) (ly10_10 kRoot).2.1 (as := []) (rest := []) dX10_endsWithout_121 (by omega) cloC rfl rfl (Nat.le_of_ble_eq_true rfl) (Nat.le_of_ble_eq_true rfl) (ok_World_isOver (by omega) 366 ((ly10_10 kRoot).2.1) μ g1) ?_ rfl
    refine wp_if_ne 145 dX10_endsWithout_124 (by decide) (fun c1 => ?_) (fun c1 => ?_)
    · rw [if_neg c1] at h
      obtain rfl := some1 h
      exact he0 μ _ _ _ hz
    · rw [if_pos c1] at h
      refine wp_aload_n (x := 0) dX10_endsWithout_127 rfl ?_
      refine wp_getR 366 fl_X10_43 (by decide) rfl (kltC kRoot) kRoot (ly10_10 kRoot).1 dX10_endsWithout_128 ?_
      refine wp_aload_n (x := 0) dX10_endsWithout_131 rfl ?_
      refine wp_getR 166 fl_X10_19 (by decide) rfl (kltC kRoot) kRoot (ly10_1 kRoot).1 dX10_endsWithout_132 ?_
      obtain ⟨r12, μ11, g1, h⟩ := bnd2_some h
      refine wp_cVi (d := d - 1) (o := 366) cv_X10_176 (kltC (ly10_10 kRoot).2.1) (ly10_10 kRoot).2.1 (as := [.ref 166]) (rest := []) dX10_endsWithout_135 (by omega) cloC rfl rfl (Nat.le_of_ble_eq_true rfl) (Nat.le_of_ble_eq_true rfl) (ok_World_passDay (by omega) 366 ((ly10_10 kRoot).2.1) 166 ((ly10_1 kRoot).2.1) μ g1) ?_ rfl
      refine wp_pop dX10_endsWithout_138 rfl ?_
      refine wp_iinc (x := v3) (k0 := (nI 1)) (L2 := [some (.ref 0), some (.int v1), some (.int v2), some (.int (v3 + (nI 1))), z4]) dX10_endsWithout_139 rfl rfl (by decide) rfl rfl ?_
      refine wp_goto 112 dX10_endsWithout_142 (by decide) ?_
      obtain rfl := some1 h
      exact hb ((v3 + (nI 1)), μ11) _ hz
theorem okl_Nine_endsWithout_l112 {l : Launch} {d : Nat} (hd : 7 ≤ d) (v1 : Int32)  (v2 : Int32)  {Q : Option Value → Sh → Mm → Prop} (K : Mm → Prop) (he0 : ∀ (x : Mm) (z2 : Option Value) (z3 : Option Value) (z4 : Option Value), K x → Wp l SC d (0, 0) mX10_endsWithout 145 [some (.ref 0), some (.int v1), z2, z3, z4] [] x Q) : ∀ (n : Nat) (s : (Int32 × Mm)) (y : Mm) (z4 : Option Value) , iter n (fun s => Nine_endsWithout_l112 v1 v2 s.1 s.2) s = some y → K y → Wp l SC d (0, 0) mX10_endsWithout 112 [some (.ref 0), some (.int v1), some (.int v2), some (.int s.1), z4] [] s.2 Q := by
  intro n
  induction n with
  | zero => intro s y z4 h; cases h
  | succ n ih =>
    intro s y z4 h hK
    obtain ⟨z, hz, hn⟩ := iter_some h
    refine ok_Nine_endsWithout_l112 hd v1 v2 s.1 s.2 _ (fun z => nxt n (fun s => Nine_endsWithout_l112 v1 v2 s.1 s.2) z y) ?_ ?_ hz hn
    · intro s2 z4 h2
      exact ih s2 y _ h2 hK
    · intro x z2 z3 z4 h2
      have h3 : x = y := h2
      subst h3
      exact he0 x _ _ _ hK
theorem ok_Nine_endsWithout_j145 {l : Launch} {d : Nat} (hd : 7 ≤ d) (v1 : Int32)  (μ : Mm) (z2 : Option Value) (z3 : Option Value) (z4 : Option Value) {r : Int32} {μ' : Mm} (h : Nine_endsWithout_j145 v1 μ = some (r, μ')) : Wp l SC d (0, 0) mX10_endsWithout 145 [some (.ref 0), some (.int v1), z2, z3, z4] [] μ (Qi SC r μ') := by
  unfold Nine_endsWithout_j145 at h
  refine wp_aload_n (x := 0) dX10_endsWithout_145 rfl ?_
  refine wp_getR 531 fl_X10_46 (by decide) rfl (kltC kRoot) kRoot (ly10_11 kRoot).1 dX10_endsWithout_146 ?_
  refine wp_iload_n (x := v1) dX10_endsWithout_149 rfl ?_
  obtain ⟨r13, g1, h⟩ := bnd_some h
  refine wp_cSi (d := d - 1) cs_X10_362 (as := [.int v1]) (rest := [.ref 531]) dX10_endsWithout_150 (by omega) cloC rfl rfl (Nat.le_of_ble_eq_true rfl) (Nat.le_of_ble_eq_true rfl) (ok_Nine_writerSlot (by omega) v1 μ g1) ?_ rfl
  refine wp_aload_n (x := 0) dX10_endsWithout_153 rfl ?_
  refine wp_getR 366 fl_X10_43 (by decide) rfl (kltC kRoot) kRoot (ly10_10 kRoot).1 dX10_endsWithout_154 ?_
  refine wp_getI fl_X10_365 (by decide) rfl (kltC (ly10_10 kRoot).2.1) (ly10_10 kRoot).2.1 dX10_endsWithout_157 ?_
  obtain ⟨c1, h⟩ := chv_some h
  obtain ⟨μ14, e1, h⟩ := lt_some h
  refine wp_iaste e1 (kltC (ly10_11 kRoot).2.1) (ly10_11 kRoot).2.1 (ly10_11 kRoot).2.2 c1 dX10_endsWithout_160 ?_
  refine wp_aload_n (x := 0) dX10_endsWithout_161 rfl ?_
  refine wp_getR 366 fl_X10_43 (by decide) rfl (kltC kRoot) kRoot (ly10_10 kRoot).1 dX10_endsWithout_162 ?_
  obtain ⟨r15, g1, h⟩ := bnd_some h
  refine wp_cVi (d := d - 1) (o := 366) cv_X10_276 (kltC (ly10_10 kRoot).2.1) (ly10_10 kRoot).2.1 (as := []) (rest := []) dX10_endsWithout_165 (by omega) cloC rfl rfl (Nat.le_of_ble_eq_true rfl) (Nat.le_of_ble_eq_true rfl) (ok_World_isOver (by omega) 366 ((ly10_10 kRoot).2.1) μ14 g1) ?_ rfl
  obtain ⟨c1, h⟩ := chk_some h
  obtain ⟨rfl, rfl⟩ := ret2 h
  exact wp_zret rfl c1 dX10_endsWithout_168 ⟨rfl, rfl, rfl⟩
theorem ok_Nine_endsWithout {l : Launch} {d : Nat} (hd : 7 ≤ d) (v1 : Int32)  (v2 : Int32)  (μ : Mm) {r : Int32} {μ' : Mm} (h : Nine_endsWithout v1 v2 μ = some (r, μ')) : Wp l SC d (0, 0) mX10_endsWithout 0 [some (.ref 0), some (.int v1), some (.int v2), none, none] [] μ (Qi SC r μ') := by
  unfold Nine_endsWithout at h
  refine wp_iconst (nI 0) dX10_endsWithout_0 rfl ?_
  refine wp_istore_n (L2 := [some (.ref 0), some (.int v1), some (.int v2), some (.int (nI 0)), none]) dX10_endsWithout_1 (by decide) rfl rfl ?_
  obtain ⟨x2, hi, h⟩ := bni_some h
  refine okl_Nine_endsWithout_l2 hd v1 v2 μ (fun z => z = x2) ?_ ?_ 1000000 (nI 0) x2 _ hi rfl
  · intro x2a z2 z3 e0
    have e0 : (Sum.inl x2a) = x2 := e0
    subst e0
    replace h := eL h
    refine wp_aload_n (x := 0) dX10_endsWithout_45 rfl ?_
    refine wp_getR 531 fl_X10_46 (by decide) rfl (kltC kRoot) kRoot (ly10_11 kRoot).1 dX10_endsWithout_46 ?_
    refine wp_iload_n (x := v1) dX10_endsWithout_49 rfl ?_
    obtain ⟨r4, g1, h⟩ := bnd_some h
    refine wp_cSi (d := d - 1) cs_X10_362 (as := [.int v1]) (rest := [.ref 531]) dX10_endsWithout_50 (by omega) cloC rfl rfl (Nat.le_of_ble_eq_true rfl) (Nat.le_of_ble_eq_true rfl) (ok_Nine_writerSlot (by omega) v1 μ g1) ?_ rfl
    refine wp_iload (x := x2a) dX10_endsWithout_53 rfl ?_
    obtain ⟨c1, h⟩ := chv_some h
    obtain ⟨μ5, e1, h⟩ := lt_some h
    refine wp_iaste e1 (kltC (ly10_11 kRoot).2.1) (ly10_11 kRoot).2.1 (ly10_11 kRoot).2.2 c1 dX10_endsWithout_55 ?_
    refine wp_iconst (nI 0) dX10_endsWithout_56 rfl ?_
    obtain ⟨rfl, rfl⟩ := ret2 h
    exact wp_zret rfl (Or.inl rfl) dX10_endsWithout_57 ⟨rfl, rfl, rfl⟩
  · intro x2b z3 z4 e0
    have e0 : (Sum.inr x2b) = x2 := e0
    subst e0
    replace h := eR h
    refine wp_aload_n (x := 0) dX10_endsWithout_64 rfl ?_
    obtain ⟨μ6, g1, h⟩ := bnd_some h
    refine wp_cVv (d := d - 1) (o := 0) cv_X10_273 (kltC kRoot) kRoot (as := []) (rest := []) dX10_endsWithout_65 (by omega) cloC rfl rfl (Nat.le_of_ble_eq_true rfl) (Nat.le_of_ble_eq_true rfl) (ok_Nine_beginThought (by omega) μ g1) ?_ rfl
    refine wp_iconst (nI 0) dX10_endsWithout_68 rfl ?_
    refine wp_istore_n (L2 := [some (.ref 0), some (.int v1), some (.int v2), some (.int (nI 0)), z4]) dX10_endsWithout_69 (by decide) rfl rfl ?_
    obtain ⟨x70, hi, h⟩ := bni_some h
    refine okl_Nine_endsWithout_l70 hd v1 v2 (fun z => z = x70) ?_ 1000000 ((nI 0), μ6) x70 _ hi rfl
    · intro y0 z3 z4 e0
      have e0 : y0 = x70 := e0
      subst e0
      refine wp_iconst (nI 0) dX10_endsWithout_110 rfl ?_
      refine wp_istore_n (L2 := [some (.ref 0), some (.int v1), some (.int v2), some (.int (nI 0)), z4]) dX10_endsWithout_111 (by decide) rfl rfl ?_
      obtain ⟨x112, hi, h⟩ := bni_some h
      refine okl_Nine_endsWithout_l112 hd v1 v2 (fun z => z = x112) ?_ 1000000 ((nI 0), y0) x112 _ hi rfl
      · intro y0 z2 z3 z4 e0
        have e0 : y0 = x112 := e0
        subst e0
        exact ok_Nine_endsWithout_j145 hd v1 y0 _ _ _ h
theorem ok_Nine_setBehind_j52 {l : Launch} {d : Nat} (hd : 2 ≤ d) (μ : Mm) (z0 : Option Value) (z1 : Option Value) (z2 : Option Value) (z3 : Option Value) (z4 : Option Value) {r : Int32} (h : Nine_setBehind_j52 = some r) : Wp l SC d (0, 0) mX10_setBehind 52 [z0, z1, z2, z3, z4] [] μ (Qi SC r μ) := by
  unfold Nine_setBehind_j52 at h
  refine wp_iconst (-1) dX10_setBehind_52 rfl ?_
  refine wp_goto 61 dX10_setBehind_53 (by decide) ?_
  obtain rfl := ret1 h
  exact wp_iret rfl dX10_setBehind_61 ⟨rfl, rfl, rfl⟩
theorem ok_Nine_setBehind_j35 {l : Launch} {d : Nat} (hd : 2 ≤ d) (v0 : Int32)  (v1 : Int32)  (μ : Mm) (z2 : Option Value) (z3 : Option Value) (z4 : Option Value) {r : Int32} (h : Nine_setBehind_j35 v0 v1 = some r) : Wp l SC d (0, 0) mX10_setBehind 35 [some (.int v0), some (.int v1), z2, z3, z4] [] μ (Qi SC r μ) := by
  unfold Nine_setBehind_j35 at h
  refine wp_iload_n (x := v0) dX10_setBehind_35 rfl ?_
  obtain ⟨r1, g1, h⟩ := bnd_some h
  refine wp_cSi (d := d - 1) cs_X10_368 (as := [.int v0]) (rest := []) dX10_setBehind_36 (by omega) cloC rfl rfl (Nat.le_of_ble_eq_true rfl) (Nat.le_of_ble_eq_true rfl) (ok_JI_bitCount wfC (by omega) v0 μ g1) ?_ rfl
  refine wp_iconst (nI 1) dX10_setBehind_39 rfl ?_
  refine wp_iadd dX10_setBehind_40 ?_
  refine wp_istore_n (L2 := [some (.int v0), some (.int v1), some (.int (r1 + (nI 1))), z3, z4]) dX10_setBehind_41 (by decide) rfl rfl ?_
  refine wp_iload_n (x := (r1 + (nI 1))) dX10_setBehind_42 rfl ?_
  refine wp_iconst (nI 3) dX10_setBehind_43 rfl ?_
  refine wp_icmp_gt 52 dX10_setBehind_44 (by decide) (fun c1 => ?_) (fun c1 => ?_)
  · rw [if_pos c1] at h
    exact ok_Nine_setBehind_j52 hd μ _ _ _ _ _ h
  · rw [if_neg c1] at h
    refine wp_iload_n (x := (r1 + (nI 1))) dX10_setBehind_47 rfl ?_
    refine wp_iload_n (x := v1) dX10_setBehind_48 rfl ?_
    refine wp_icmp_le 56 dX10_setBehind_49 (by decide) (fun c1 => ?_) (fun c1 => ?_)
    · rw [if_pos c1] at h
      refine wp_iconst (nI 1) dX10_setBehind_56 rfl ?_
      refine wp_iload_n (x := (r1 + (nI 1))) dX10_setBehind_57 rfl ?_
      refine wp_ishl dX10_setBehind_58 ?_
      refine wp_iconst (nI 1) dX10_setBehind_59 rfl ?_
      refine wp_isub dX10_setBehind_60 ?_
      obtain rfl := ret1 h
      exact wp_iret rfl dX10_setBehind_61 ⟨rfl, rfl, rfl⟩
    · rw [if_neg c1] at h
      exact ok_Nine_setBehind_j52 hd μ _ _ _ _ _ h
theorem ok_Nine_setBehind {l : Launch} {d : Nat} (hd : 2 ≤ d) (v0 : Int32)  (v1 : Int32)  (μ : Mm) {r : Int32} (h : Nine_setBehind v0 v1 = some r) : Wp l SC d (0, 0) mX10_setBehind 0 [some (.int v0), some (.int v1), none, none, none] [] μ (Qi SC r μ) := by
  unfold Nine_setBehind at h
  refine wp_iload_n (x := v0) dX10_setBehind_0 rfl ?_
  refine wp_if_eq 35 dX10_setBehind_1 (by decide) (fun c1 => ?_) (fun c1 => ?_)
  · rw [if_pos c1] at h
    exact ok_Nine_setBehind_j35 hd v0 v1 μ _ _ _ h
  · rw [if_neg c1] at h
    refine wp_iload_n (x := v0) dX10_setBehind_4 rfl ?_
    refine wp_iload_n (x := v0) dX10_setBehind_5 rfl ?_
    refine wp_ineg dX10_setBehind_6 ?_
    refine wp_iand dX10_setBehind_7 ?_
    refine wp_istore_n (L2 := [some (.int v0), some (.int v1), some (.int (v0 &&& (-v0))), none, none]) dX10_setBehind_8 (by decide) rfl rfl ?_
    refine wp_iload_n (x := v0) dX10_setBehind_9 rfl ?_
    refine wp_iload_n (x := (v0 &&& (-v0))) dX10_setBehind_10 rfl ?_
    refine wp_iadd dX10_setBehind_11 ?_
    refine wp_istore_n (L2 := [some (.int v0), some (.int v1), some (.int (v0 &&& (-v0))), some (.int (v0 + (v0 &&& (-v0)))), none]) dX10_setBehind_12 (by decide) rfl rfl ?_
    refine wp_iload_n (x := (v0 + (v0 &&& (-v0)))) dX10_setBehind_13 rfl ?_
    refine wp_iload_n (x := v0) dX10_setBehind_14 rfl ?_
    refine wp_iload_n (x := (v0 + (v0 &&& (-v0)))) dX10_setBehind_15 rfl ?_
    refine wp_ixor dX10_setBehind_16 ?_
    refine wp_iload_n (x := (v0 &&& (-v0))) dX10_setBehind_17 rfl ?_
    obtain ⟨c1, h⟩ := chk_some h
    refine wp_idiv dX10_setBehind_18 c1 ?_
    refine wp_iconst (nI 2) dX10_setBehind_19 rfl ?_
    refine wp_iushr dX10_setBehind_20 ?_
    refine wp_ior dX10_setBehind_21 ?_
    obtain ⟨u2, e1, h⟩ := lt_some h
    rw [← e1]
    refine wp_istore (L2 := [some (.int v0), some (.int v1), some (.int (v0 &&& (-v0))), some (.int (v0 + (v0 &&& (-v0)))), some (.int u2)]) dX10_setBehind_22 (by decide) rfl rfl ?_
    refine wp_iload (x := u2) dX10_setBehind_24 rfl ?_
    refine wp_iconst (nI 1) dX10_setBehind_26 rfl ?_
    refine wp_iload_n (x := v1) dX10_setBehind_27 rfl ?_
    refine wp_ishl dX10_setBehind_28 ?_
    refine wp_icmp_ge 35 dX10_setBehind_29 (by decide) (fun c1 => ?_) (fun c1 => ?_)
    · rw [if_pos c1] at h
      exact ok_Nine_setBehind_j35 hd v0 v1 μ _ _ _ h
    · rw [if_neg c1] at h
      refine wp_iload (x := u2) dX10_setBehind_32 rfl ?_
      obtain rfl := ret1 h
      exact wp_iret rfl dX10_setBehind_34 ⟨rfl, rfl, rfl⟩
theorem ok_Nine_stop_l16 {l : Launch} {d : Nat} (hd : 8 ≤ d) (v1 : Int32)  (v2 : Int32)  (v3 : Int32)  (μ : Mm) {Q : Option Value → Sh → Mm → Prop} (K : (Int32 × Int32 × Mm) ⊕ ((Int32 × Mm) ⊕ Mm) → Prop) (hb : ∀ (s : (Int32 × Int32 × Mm)), K (Sum.inl s) → Wp l SC d (0, 0) mX10_stop 16 [some (.ref 0), some (.int v1), some (.int s.1), some (.int s.2.1)] [] s.2.2 Q) (he0 : ∀ (x : (Int32 × Mm)) (z1 : Option Value) (z3 : Option Value), K (Sum.inr (Sum.inl x)) → Wp l SC d (0, 0) mX10_stop 37 [some (.ref 0), z1, some (.int x.1), z3] [] x.2 Q) (he1 : ∀ (x : Mm) (z1 : Option Value) (z2 : Option Value) (z3 : Option Value), K (Sum.inr (Sum.inr x)) → Wp l SC d (0, 0) mX10_stop 57 [some (.ref 0), z1, z2, z3] [] x Q) {z : (Int32 × Int32 × Mm) ⊕ ((Int32 × Mm) ⊕ Mm)} (h : Nine_stop_l16 v1 v2 v3 μ = some z) (hz : K z) : Wp l SC d (0, 0) mX10_stop 16 [some (.ref 0), some (.int v1), some (.int v2), some (.int v3)] [] μ Q := by
  unfold Nine_stop_l16 at h
  refine wp_iload_n (x := v3) dX10_stop_16 rfl ?_
  refine wp_sipush (nI 697) dX10_stop_17 rfl ?_
  refine wp_icmp_ge 57 dX10_stop_20 (by decide) (fun c1 => ?_) (fun c1 => ?_)
  · rw [if_pos c1] at h
    obtain rfl := some1 h
    exact he1 μ _ _ _ hz
  · rw [if_neg c1] at h
    refine wp_iload_n (x := v2) dX10_stop_23 rfl ?_
    refine wp_iconst (-1) dX10_stop_24 rfl ?_
    refine wp_icmp_eq 57 dX10_stop_25 (by decide) (fun c1 => ?_) (fun c1 => ?_)
    · rw [if_pos c1] at h
      obtain rfl := some1 h
      exact he1 μ _ _ _ hz
    · rw [if_neg c1] at h
      refine wp_aload_n (x := 0) dX10_stop_28 rfl ?_
      refine wp_iload_n (x := v2) dX10_stop_29 rfl ?_
      refine wp_iload_n (x := v1) dX10_stop_30 rfl ?_
      obtain ⟨r2, μ1, g1, h⟩ := bnd2_some h
      refine wp_cVi (d := d - 1) (o := 0) cv_X10_279 (kltC kRoot) kRoot (as := [.int v2, .int v1]) (rest := []) dX10_stop_31 (by omega) cloC rfl rfl (Nat.le_of_ble_eq_true rfl) (Nat.le_of_ble_eq_true rfl) (ok_Nine_endsWithout (by omega) v2 v1 μ g1) ?_ rfl
      refine wp_if_eq 39 dX10_stop_34 (by decide) (fun c1 => ?_) (fun c1 => ?_)
      · rw [if_pos c1] at h
        refine wp_iload_n (x := v2) dX10_stop_39 rfl ?_
        refine wp_aload_n (x := 0) dX10_stop_40 rfl ?_
        refine wp_getR 1 fl_X10_12 (by decide) rfl (kltC kRoot) kRoot (ly10_0 kRoot).1 dX10_stop_41 ?_
        refine wp_getI fl_X10_68 (by decide) rfl (kltC (ly10_0 kRoot).2.1) (ly10_0 kRoot).2.1 dX10_stop_44 ?_
        obtain ⟨r3, g1, h⟩ := bnd_some h
        refine wp_cSi (d := d - 1) cs_X10_282 (as := [.int v2, .int (μ1.1 1 1)]) (rest := []) dX10_stop_47 (by omega) cloC rfl rfl (Nat.le_of_ble_eq_true rfl) (Nat.le_of_ble_eq_true rfl) (ok_Nine_setBehind (by omega) v2 (μ1.1 1 1) μ1 g1) ?_ rfl
        refine wp_istore_n (L2 := [some (.ref 0), some (.int v1), some (.int r3), some (.int v3)]) dX10_stop_50 (by decide) rfl rfl ?_
        refine wp_iinc (x := v3) (k0 := (nI 1)) (L2 := [some (.ref 0), some (.int v1), some (.int r3), some (.int (v3 + (nI 1)))]) dX10_stop_51 rfl rfl (by decide) rfl rfl ?_
        refine wp_goto 16 dX10_stop_54 (by decide) ?_
        obtain rfl := some1 h
        exact hb (r3, (v3 + (nI 1)), μ1) hz
      · rw [if_neg c1] at h
        obtain rfl := some1 h
        exact he0 (v2, μ1) _ _ hz
theorem okl_Nine_stop_l16 {l : Launch} {d : Nat} (hd : 8 ≤ d) (v1 : Int32)  {Q : Option Value → Sh → Mm → Prop} (K : ((Int32 × Mm) ⊕ Mm) → Prop) (he0 : ∀ (x : (Int32 × Mm)) (z1 : Option Value) (z3 : Option Value), K (Sum.inl x) → Wp l SC d (0, 0) mX10_stop 37 [some (.ref 0), z1, some (.int x.1), z3] [] x.2 Q) (he1 : ∀ (x : Mm) (z1 : Option Value) (z2 : Option Value) (z3 : Option Value), K (Sum.inr x) → Wp l SC d (0, 0) mX10_stop 57 [some (.ref 0), z1, z2, z3] [] x Q) : ∀ (n : Nat) (s : (Int32 × Int32 × Mm)) (y : ((Int32 × Mm) ⊕ Mm)) , iter n (fun s => Nine_stop_l16 v1 s.1 s.2.1 s.2.2) s = some y → K y → Wp l SC d (0, 0) mX10_stop 16 [some (.ref 0), some (.int v1), some (.int s.1), some (.int s.2.1)] [] s.2.2 Q := by
  intro n
  induction n with
  | zero => intro s y  h; cases h
  | succ n ih =>
    intro s y  h hK
    obtain ⟨z, hz, hn⟩ := iter_some h
    refine ok_Nine_stop_l16 hd v1 s.1 s.2.1 s.2.2 (fun z => nxt n (fun s => Nine_stop_l16 v1 s.1 s.2.1 s.2.2) z y) ?_ ?_ ?_ hz hn
    · intro s2  h2
      exact ih s2 y h2 hK
    · intro x z1 z3 h2
      have h3 : (Sum.inl x) = y := h2
      subst h3
      exact he0 x _ _ hK
    · intro x z1 z2 z3 h2
      have h3 : (Sum.inr x) = y := h2
      subst h3
      exact he1 x _ _ _ hK
theorem ok_Nine_stop {l : Launch} {d : Nat} (hd : 8 ≤ d) (v1 : Int32)  (μ : Mm) {r : Int32} {μ' : Mm} (h : Nine_stop v1 μ = some (r, μ')) : Wp l SC d (0, 0) mX10_stop 0 [some (.ref 0), some (.int v1), none, none] [] μ (Qi SC r μ') := by
  unfold Nine_stop at h
  refine wp_iload_n (x := v1) dX10_stop_0 rfl ?_
  refine wp_if_lt 10 dX10_stop_1 (by decide) (fun c1 => ?_) (fun c1 => ?_)
  · rw [if_pos c1] at h
    refine wp_iconst (-1) dX10_stop_10 rfl ?_
    obtain ⟨rfl, rfl⟩ := ret2 h
    exact wp_iret rfl dX10_stop_11 ⟨rfl, rfl, rfl⟩
  · rw [if_neg c1] at h
    refine wp_iload_n (x := v1) dX10_stop_4 rfl ?_
    refine wp_bipush (nI 99) dX10_stop_5 rfl ?_
    refine wp_icmp_le 12 dX10_stop_7 (by decide) (fun c1 => ?_) (fun c1 => ?_)
    · rw [if_pos c1] at h
      refine wp_iconst (nI 0) dX10_stop_12 rfl ?_
      refine wp_istore_n (L2 := [some (.ref 0), some (.int v1), some (.int (nI 0)), none]) dX10_stop_13 (by decide) rfl rfl ?_
      refine wp_iconst (nI 0) dX10_stop_14 rfl ?_
      refine wp_istore_n (L2 := [some (.ref 0), some (.int v1), some (.int (nI 0)), some (.int (nI 0))]) dX10_stop_15 (by decide) rfl rfl ?_
      obtain ⟨x16, hi, h⟩ := bni_some h
      refine okl_Nine_stop_l16 hd v1 (fun z => z = x16) ?_ ?_ 1000000 ((nI 0), (nI 0), μ) x16 hi rfl
      · intro x16a z1 z3 e0
        have e0 : (Sum.inl x16a) = x16 := e0
        subst e0
        replace h := eL h
        refine wp_iload_n (x := x16a.1) dX10_stop_37 rfl ?_
        obtain ⟨rfl, rfl⟩ := ret2 h
        exact wp_iret rfl dX10_stop_38 ⟨rfl, rfl, rfl⟩
      · intro x16b z1 z2 z3 e0
        have e0 : (Sum.inr x16b) = x16 := e0
        subst e0
        replace h := eR h
        refine wp_iconst (-1) dX10_stop_57 rfl ?_
        obtain ⟨rfl, rfl⟩ := ret2 h
        exact wp_iret rfl dX10_stop_58 ⟨rfl, rfl, rfl⟩
    · rw [if_neg c1] at h
      refine wp_iconst (-1) dX10_stop_10 rfl ?_
      obtain ⟨rfl, rfl⟩ := ret2 h
      exact wp_iret rfl dX10_stop_11 ⟨rfl, rfl, rfl⟩
theorem ok_Nine_reach {l : Launch} {d : Nat} (hd : 3 ≤ d) (v1 : Int32)  (μ : Mm) {r : Int32} (h : Nine_reach v1 μ = some r) : Wp l SC d (0, 0) mX10_reach 0 [some (.ref 0), some (.int v1)] [] μ (Qi SC r μ) := by
  unfold Nine_reach at h
  refine wp_aload_n (x := 0) dX10_reach_0 rfl ?_
  refine wp_getR 1 fl_X10_12 (by decide) rfl (kltC kRoot) kRoot (ly10_0 kRoot).1 dX10_reach_1 ?_
  refine wp_iload_n (x := v1) dX10_reach_4 rfl ?_
  obtain ⟨r1, g1, h⟩ := bnd_some h
  refine wp_cVi (d := d - 1) (o := 1) cv_X10_78 (kltC (ly10_0 kRoot).2.1) (ly10_0 kRoot).2.1 (as := [.int v1]) (rest := []) dX10_reach_5 (by omega) cloC rfl rfl (Nat.le_of_ble_eq_true rfl) (Nat.le_of_ble_eq_true rfl) (ok_World_hasPerson (by omega) 1 ((ly10_0 kRoot).2.1) v1 μ g1) ?_ rfl
  refine wp_if_eq 24 dX10_reach_8 (by decide) (fun c1 => ?_) (fun c1 => ?_)
  · rw [if_pos c1] at h
    refine wp_iconst (-1) dX10_reach_24 rfl ?_
    obtain rfl := ret1 h
    exact wp_iret rfl dX10_reach_25 ⟨rfl, rfl, rfl⟩
  · rw [if_neg c1] at h
    refine wp_aload_n (x := 0) dX10_reach_11 rfl ?_
    refine wp_getR 1 fl_X10_12 (by decide) rfl (kltC kRoot) kRoot (ly10_0 kRoot).1 dX10_reach_12 ?_
    refine wp_iload_n (x := v1) dX10_reach_15 rfl ?_
    refine wp_bipush (nI 16) dX10_reach_16 rfl ?_
    obtain ⟨r2, g1, h⟩ := bnd_some h
    refine wp_cVi (d := d - 1) (o := 1) cv_X10_285 (kltC (ly10_0 kRoot).2.1) (ly10_0 kRoot).2.1 (as := [.int v1, .int (nI 16)]) (rest := []) dX10_reach_18 (by omega) cloC rfl rfl (Nat.le_of_ble_eq_true rfl) (Nat.le_of_ble_eq_true rfl) (ok_World_reachedFrom (by omega) 1 ((ly10_0 kRoot).2.1) v1 (nI 16) μ g1) ?_ rfl
    refine wp_goto 25 dX10_reach_21 (by decide) ?_
    obtain rfl := ret1 h
    exact wp_iret rfl dX10_reach_25 ⟨rfl, rfl, rfl⟩
theorem ok_Nine_sources_j82 {l : Launch} {d : Nat} (hd : 3 ≤ d) (v1 : Int32)  (v2 : Int32)  (v3 : Int32)  (v4 : Int32)  (μ : Mm) (z5 : Option Value) {Q : Option Value → Sh → Mm → Prop} (K : (Int32 × Int32) ⊕ Int32 → Prop) (hb : ∀ (s : (Int32 × Int32)) (z5 : Option Value), K (Sum.inl s) → Wp l SC d (0, 0) mX10_sources 35 [some (.ref 0), some (.int v1), some (.int v2), some (.int s.1), some (.int s.2), z5] [] μ Q) (he0 : ∀ (x : Int32) (z1 : Option Value) (z2 : Option Value) (z4 : Option Value) (z5 : Option Value), K (Sum.inr x) → Wp l SC d (0, 0) mX10_sources 88 [some (.ref 0), z1, z2, some (.int x), z4, z5] [] μ Q) {z : (Int32 × Int32) ⊕ Int32} (h : Nine_sources_j82 v1 v2 v3 v4 μ = some z) (hz : K z) : Wp l SC d (0, 0) mX10_sources 82 [some (.ref 0), some (.int v1), some (.int v2), some (.int v3), some (.int v4), z5] [] μ Q := by
  unfold Nine_sources_j82 at h
  refine wp_iinc (x := v4) (k0 := (nI 1)) (L2 := [some (.ref 0), some (.int v1), some (.int v2), some (.int v3), some (.int (v4 + (nI 1))), z5]) dX10_sources_82 rfl rfl (by decide) rfl rfl ?_
  refine wp_goto 35 dX10_sources_85 (by decide) ?_
  obtain rfl := some1 h
  exact hb (v3, (v4 + (nI 1))) _ hz
theorem ok_Nine_sources_l35 {l : Launch} {d : Nat} (hd : 3 ≤ d) (v1 : Int32)  (v2 : Int32)  (v3 : Int32)  (v4 : Int32)  (μ : Mm) (z5 : Option Value) {Q : Option Value → Sh → Mm → Prop} (K : (Int32 × Int32) ⊕ Int32 → Prop) (hb : ∀ (s : (Int32 × Int32)) (z5 : Option Value), K (Sum.inl s) → Wp l SC d (0, 0) mX10_sources 35 [some (.ref 0), some (.int v1), some (.int v2), some (.int s.1), some (.int s.2), z5] [] μ Q) (he0 : ∀ (x : Int32) (z1 : Option Value) (z2 : Option Value) (z4 : Option Value) (z5 : Option Value), K (Sum.inr x) → Wp l SC d (0, 0) mX10_sources 88 [some (.ref 0), z1, z2, some (.int x), z4, z5] [] μ Q) {z : (Int32 × Int32) ⊕ Int32} (h : Nine_sources_l35 v1 v2 v3 v4 μ = some z) (hz : K z) : Wp l SC d (0, 0) mX10_sources 35 [some (.ref 0), some (.int v1), some (.int v2), some (.int v3), some (.int v4), z5] [] μ Q := by
  unfold Nine_sources_l35 at h
  refine wp_iload (x := v4) dX10_sources_35 rfl ?_
  refine wp_aload_n (x := 0) dX10_sources_37 rfl ?_
  refine wp_getR 1 fl_X10_12 (by decide) rfl (kltC kRoot) kRoot (ly10_0 kRoot).1 dX10_sources_38 ?_
  refine wp_getI fl_X10_68 (by decide) rfl (kltC (ly10_0 kRoot).2.1) (ly10_0 kRoot).2.1 dX10_sources_41 ?_
  refine wp_icmp_ge 88 dX10_sources_44 (by decide) (fun c1 => ?_) (fun c1 => ?_)
  · rw [if_pos c1] at h
    obtain rfl := some1 h
    exact he0 v3 _ _ _ _ hz
  · rw [if_neg c1] at h
    refine wp_iload_n (x := v1) dX10_sources_47 rfl ?_
    refine wp_iconst (nI 1) dX10_sources_48 rfl ?_
    refine wp_iload (x := v4) dX10_sources_49 rfl ?_
    refine wp_ishl dX10_sources_51 ?_
    refine wp_iconst (-1) dX10_sources_52 rfl ?_
    refine wp_ixor dX10_sources_53 ?_
    refine wp_iand dX10_sources_54 ?_
    refine wp_istore (L2 := [some (.ref 0), some (.int v1), some (.int v2), some (.int v3), some (.int v4), some (.int (v1 &&& (((nI 1) <<< (v4 &&& 31)) ^^^ (-1))))]) dX10_sources_55 (by decide) rfl rfl ?_
    refine wp_aload_n (x := 0) dX10_sources_57 rfl ?_
    refine wp_getR 1 fl_X10_12 (by decide) rfl (kltC kRoot) kRoot (ly10_0 kRoot).1 dX10_sources_58 ?_
    refine wp_iload (x := v4) dX10_sources_61 rfl ?_
    refine wp_iload_n (x := v2) dX10_sources_63 rfl ?_
    obtain ⟨r1, g1, h⟩ := bnd_some h
    refine wp_cVi (d := d - 1) (o := 1) cv_X10_285 (kltC (ly10_0 kRoot).2.1) (ly10_0 kRoot).2.1 (as := [.int v4, .int v2]) (rest := []) dX10_sources_64 (by omega) cloC rfl rfl (Nat.le_of_ble_eq_true rfl) (Nat.le_of_ble_eq_true rfl) (ok_World_reachedFrom (by omega) 1 ((ly10_0 kRoot).2.1) v4 v2 μ g1) ?_ rfl
    refine wp_iload (x := (v1 &&& (((nI 1) <<< (v4 &&& 31)) ^^^ (-1)))) dX10_sources_67 rfl ?_
    refine wp_iand dX10_sources_69 ?_
    refine wp_iload (x := (v1 &&& (((nI 1) <<< (v4 &&& 31)) ^^^ (-1)))) dX10_sources_70 rfl ?_
    refine wp_icmp_ne 82 dX10_sources_72 (by decide) (fun c1 => ?_) (fun c1 => ?_)
    · rw [if_neg c1] at h
      exact ok_Nine_sources_j82 hd v1 v2 v3 v4 μ _ K hb he0 h hz
    · rw [if_pos c1] at h
      refine wp_iload_n (x := v3) dX10_sources_75 rfl ?_
      refine wp_iconst (nI 1) dX10_sources_76 rfl ?_
      refine wp_iload (x := v4) dX10_sources_77 rfl ?_
      refine wp_ishl dX10_sources_79 ?_
      refine wp_ior dX10_sources_80 ?_
      refine wp_istore_n (L2 := [some (.ref 0), some (.int v1), some (.int v2), some (.int (v3 ||| ((nI 1) <<< (v4 &&& 31)))), some (.int v4), some (.int (v1 &&& (((nI 1) <<< (v4 &&& 31)) ^^^ (-1))))]) dX10_sources_81 (by decide) rfl rfl ?_
      exact ok_Nine_sources_j82 hd v1 v2 (v3 ||| ((nI 1) <<< (v4 &&& 31))) v4 μ _ K hb he0 h hz
theorem okl_Nine_sources_l35 {l : Launch} {d : Nat} (hd : 3 ≤ d) (v1 : Int32)  (v2 : Int32)  (μ : Mm) {Q : Option Value → Sh → Mm → Prop} (K : Int32 → Prop) (he0 : ∀ (x : Int32) (z1 : Option Value) (z2 : Option Value) (z4 : Option Value) (z5 : Option Value), K x → Wp l SC d (0, 0) mX10_sources 88 [some (.ref 0), z1, z2, some (.int x), z4, z5] [] μ Q) : ∀ (n : Nat) (s : (Int32 × Int32)) (y : Int32) (z5 : Option Value) , iter n (fun s => Nine_sources_l35 v1 v2 s.1 s.2 μ) s = some y → K y → Wp l SC d (0, 0) mX10_sources 35 [some (.ref 0), some (.int v1), some (.int v2), some (.int s.1), some (.int s.2), z5] [] μ Q := by
  intro n
  induction n with
  | zero => intro s y z5 h; cases h
  | succ n ih =>
    intro s y z5 h hK
    obtain ⟨z, hz, hn⟩ := iter_some h
    refine ok_Nine_sources_l35 hd v1 v2 s.1 s.2 μ _ (fun z => nxt n (fun s => Nine_sources_l35 v1 v2 s.1 s.2 μ) z y) ?_ ?_ hz hn
    · intro s2 z5 h2
      exact ih s2 y _ h2 hK
    · intro x z1 z2 z4 z5 h2
      have h3 : x = y := h2
      subst h3
      exact he0 x _ _ _ _ hK
theorem ok_Nine_sources {l : Launch} {d : Nat} (hd : 3 ≤ d) (v1 : Int32)  (v2 : Int32)  (μ : Mm) {r : Int32} (h : Nine_sources v1 v2 μ = some r) : Wp l SC d (0, 0) mX10_sources 0 [some (.ref 0), some (.int v1), some (.int v2), none, none, none] [] μ (Qi SC r μ) := by
  unfold Nine_sources at h
  refine wp_iload_n (x := v1) dX10_sources_0 rfl ?_
  refine wp_if_le 28 dX10_sources_1 (by decide) (fun c1 => ?_) (fun c1 => ?_)
  · rw [if_pos c1] at h
    refine wp_iconst (-1) dX10_sources_28 rfl ?_
    obtain rfl := ret1 h
    exact wp_iret rfl dX10_sources_29 ⟨rfl, rfl, rfl⟩
  · rw [if_neg c1] at h
    refine wp_iload_n (x := v1) dX10_sources_4 rfl ?_
    refine wp_iconst (nI 1) dX10_sources_5 rfl ?_
    refine wp_aload_n (x := 0) dX10_sources_6 rfl ?_
    refine wp_getR 1 fl_X10_12 (by decide) rfl (kltC kRoot) kRoot (ly10_0 kRoot).1 dX10_sources_7 ?_
    refine wp_getI fl_X10_68 (by decide) rfl (kltC (ly10_0 kRoot).2.1) (ly10_0 kRoot).2.1 dX10_sources_10 ?_
    refine wp_ishl dX10_sources_13 ?_
    refine wp_icmp_ge 28 dX10_sources_14 (by decide) (fun c1 => ?_) (fun c1 => ?_)
    · rw [if_pos c1] at h
      refine wp_iconst (-1) dX10_sources_28 rfl ?_
      obtain rfl := ret1 h
      exact wp_iret rfl dX10_sources_29 ⟨rfl, rfl, rfl⟩
    · rw [if_neg c1] at h
      refine wp_iload_n (x := v2) dX10_sources_17 rfl ?_
      refine wp_iconst (nI 1) dX10_sources_18 rfl ?_
      refine wp_icmp_lt 28 dX10_sources_19 (by decide) (fun c1 => ?_) (fun c1 => ?_)
      · rw [if_pos c1] at h
        refine wp_iconst (-1) dX10_sources_28 rfl ?_
        obtain rfl := ret1 h
        exact wp_iret rfl dX10_sources_29 ⟨rfl, rfl, rfl⟩
      · rw [if_neg c1] at h
        refine wp_iload_n (x := v2) dX10_sources_22 rfl ?_
        refine wp_bipush (nI 15) dX10_sources_23 rfl ?_
        refine wp_icmp_le 30 dX10_sources_25 (by decide) (fun c1 => ?_) (fun c1 => ?_)
        · rw [if_pos c1] at h
          refine wp_iconst (nI 0) dX10_sources_30 rfl ?_
          refine wp_istore_n (L2 := [some (.ref 0), some (.int v1), some (.int v2), some (.int (nI 0)), none, none]) dX10_sources_31 (by decide) rfl rfl ?_
          refine wp_iconst (nI 0) dX10_sources_32 rfl ?_
          refine wp_istore (L2 := [some (.ref 0), some (.int v1), some (.int v2), some (.int (nI 0)), some (.int (nI 0)), none]) dX10_sources_33 (by decide) rfl rfl ?_
          obtain ⟨x35, hi, h⟩ := bni_some h
          refine okl_Nine_sources_l35 hd v1 v2 μ (fun z => z = x35) ?_ 1000000 ((nI 0), (nI 0)) x35 _ hi rfl
          · intro y0 z1 z2 z4 z5 e0
            have e0 : y0 = x35 := e0
            subst e0
            refine wp_iload_n (x := y0) dX10_sources_88 rfl ?_
            obtain rfl := ret1 h
            exact wp_iret rfl dX10_sources_89 ⟨rfl, rfl, rfl⟩
        · rw [if_neg c1] at h
          refine wp_iconst (-1) dX10_sources_28 rfl ?_
          obtain rfl := ret1 h
          exact wp_iret rfl dX10_sources_29 ⟨rfl, rfl, rfl⟩
theorem ok_Nine_circle_l15 {l : Launch} {d : Nat} (hd : 3 ≤ d) (v1 : Int32)  (v2 : Int32)  (μ : Mm) {Q : Option Value → Sh → Mm → Prop} (K : Int32 ⊕ (Int32 ⊕ Unit) → Prop) (hb : ∀ (s : Int32), K (Sum.inl s) → Wp l SC d (0, 0) mX10_circle 15 [some (.ref 0), some (.int v1), some (.int s)] [] μ Q) (he0 : ∀ (x : Int32) (z1 : Option Value), K (Sum.inr (Sum.inl x)) → Wp l SC d (0, 0) mX10_circle 37 [some (.ref 0), z1, some (.int x)] [] μ Q) (he1 : ∀ (x : Unit) (z1 : Option Value) (z2 : Option Value), K (Sum.inr (Sum.inr x)) → Wp l SC d (0, 0) mX10_circle 45 [some (.ref 0), z1, z2] [] μ Q) {z : Int32 ⊕ (Int32 ⊕ Unit)} (h : Nine_circle_l15 v1 v2 μ = some z) (hz : K z) : Wp l SC d (0, 0) mX10_circle 15 [some (.ref 0), some (.int v1), some (.int v2)] [] μ Q := by
  unfold Nine_circle_l15 at h
  refine wp_iload_n (x := v2) dX10_circle_15 rfl ?_
  refine wp_bipush (nI 16) dX10_circle_16 rfl ?_
  refine wp_icmp_gt 45 dX10_circle_18 (by decide) (fun c1 => ?_) (fun c1 => ?_)
  · rw [if_pos c1] at h
    obtain rfl := some1 h
    exact he1 () _ _ hz
  · rw [if_neg c1] at h
    refine wp_aload_n (x := 0) dX10_circle_21 rfl ?_
    refine wp_getR 1 fl_X10_12 (by decide) rfl (kltC kRoot) kRoot (ly10_0 kRoot).1 dX10_circle_22 ?_
    refine wp_iload_n (x := v1) dX10_circle_25 rfl ?_
    refine wp_iload_n (x := v2) dX10_circle_26 rfl ?_
    obtain ⟨r2, g1, h⟩ := bnd_some h
    refine wp_cVi (d := d - 1) (o := 1) cv_X10_285 (kltC (ly10_0 kRoot).2.1) (ly10_0 kRoot).2.1 (as := [.int v1, .int v2]) (rest := []) dX10_circle_27 (by omega) cloC rfl rfl (Nat.le_of_ble_eq_true rfl) (Nat.le_of_ble_eq_true rfl) (ok_World_reachedFrom (by omega) 1 ((ly10_0 kRoot).2.1) v1 v2 μ g1) ?_ rfl
    refine wp_iload_n (x := v1) dX10_circle_30 rfl ?_
    obtain ⟨r3, g1, h⟩ := bnd_some h
    refine wp_cSi (d := d - 1) cs_X10_288 (as := [.int r2, .int v1]) (rest := []) dX10_circle_31 (by omega) cloC rfl rfl (Nat.le_of_ble_eq_true rfl) (Nat.le_of_ble_eq_true rfl) (ok_Nine_hasBit (by omega) r2 v1 μ g1) ?_ rfl
    refine wp_if_eq 39 dX10_circle_34 (by decide) (fun c1 => ?_) (fun c1 => ?_)
    · rw [if_pos c1] at h
      refine wp_iinc (x := v2) (k0 := (nI 1)) (L2 := [some (.ref 0), some (.int v1), some (.int (v2 + (nI 1)))]) dX10_circle_39 rfl rfl (by decide) rfl rfl ?_
      refine wp_goto 15 dX10_circle_42 (by decide) ?_
      obtain rfl := some1 h
      exact hb (v2 + (nI 1)) hz
    · rw [if_neg c1] at h
      obtain rfl := some1 h
      exact he0 v2 _ hz
theorem okl_Nine_circle_l15 {l : Launch} {d : Nat} (hd : 3 ≤ d) (v1 : Int32)  (μ : Mm) {Q : Option Value → Sh → Mm → Prop} (K : (Int32 ⊕ Unit) → Prop) (he0 : ∀ (x : Int32) (z1 : Option Value), K (Sum.inl x) → Wp l SC d (0, 0) mX10_circle 37 [some (.ref 0), z1, some (.int x)] [] μ Q) (he1 : ∀ (x : Unit) (z1 : Option Value) (z2 : Option Value), K (Sum.inr x) → Wp l SC d (0, 0) mX10_circle 45 [some (.ref 0), z1, z2] [] μ Q) : ∀ (n : Nat) (s : Int32) (y : (Int32 ⊕ Unit)) , iter n (fun s => Nine_circle_l15 v1 s μ) s = some y → K y → Wp l SC d (0, 0) mX10_circle 15 [some (.ref 0), some (.int v1), some (.int s)] [] μ Q := by
  intro n
  induction n with
  | zero => intro s y  h; cases h
  | succ n ih =>
    intro s y  h hK
    obtain ⟨z, hz, hn⟩ := iter_some h
    refine ok_Nine_circle_l15 hd v1 s μ (fun z => nxt n (fun s => Nine_circle_l15 v1 s μ) z y) ?_ ?_ ?_ hz hn
    · intro s2  h2
      exact ih s2 y h2 hK
    · intro x z1 h2
      have h3 : (Sum.inl x) = y := h2
      subst h3
      exact he0 x _ hK
    · intro x z1 z2 h2
      have h3 : (Sum.inr x) = y := h2
      subst h3
      exact he1 x _ _ hK
theorem ok_Nine_circle {l : Launch} {d : Nat} (hd : 3 ≤ d) (v1 : Int32)  (μ : Mm) {r : Int32} (h : Nine_circle v1 μ = some r) : Wp l SC d (0, 0) mX10_circle 0 [some (.ref 0), some (.int v1), none] [] μ (Qi SC r μ) := by
  unfold Nine_circle at h
  refine wp_aload_n (x := 0) dX10_circle_0 rfl ?_
  refine wp_getR 1 fl_X10_12 (by decide) rfl (kltC kRoot) kRoot (ly10_0 kRoot).1 dX10_circle_1 ?_
  refine wp_iload_n (x := v1) dX10_circle_4 rfl ?_
  obtain ⟨r1, g1, h⟩ := bnd_some h
  refine wp_cVi (d := d - 1) (o := 1) cv_X10_78 (kltC (ly10_0 kRoot).2.1) (ly10_0 kRoot).2.1 (as := [.int v1]) (rest := []) dX10_circle_5 (by omega) cloC rfl rfl (Nat.le_of_ble_eq_true rfl) (Nat.le_of_ble_eq_true rfl) (ok_World_hasPerson (by omega) 1 ((ly10_0 kRoot).2.1) v1 μ g1) ?_ rfl
  refine wp_if_ne 13 dX10_circle_8 (by decide) (fun c1 => ?_) (fun c1 => ?_)
  · rw [if_neg c1] at h
    refine wp_iconst (nI 1) dX10_circle_13 rfl ?_
    refine wp_istore_n (L2 := [some (.ref 0), some (.int v1), some (.int (nI 1))]) dX10_circle_14 (by decide) rfl rfl ?_
    obtain ⟨x15, hi, h⟩ := bni_some h
    refine okl_Nine_circle_l15 hd v1 μ (fun z => z = x15) ?_ ?_ 1000000 (nI 1) x15 hi rfl
    · intro x15a z1 e0
      have e0 : (Sum.inl x15a) = x15 := e0
      subst e0
      replace h := eL h
      refine wp_iload_n (x := x15a) dX10_circle_37 rfl ?_
      obtain rfl := ret1 h
      exact wp_iret rfl dX10_circle_38 ⟨rfl, rfl, rfl⟩
    · intro x15b z1 z2 e0
      have e0 : (Sum.inr x15b) = x15 := e0
      subst e0
      replace h := eR h
      refine wp_iconst (-1) dX10_circle_45 rfl ?_
      obtain rfl := ret1 h
      exact wp_iret rfl dX10_circle_46 ⟨rfl, rfl, rfl⟩
  · rw [if_pos c1] at h
    refine wp_iconst (-1) dX10_circle_11 rfl ?_
    obtain rfl := ret1 h
    exact wp_iret rfl dX10_circle_12 ⟨rfl, rfl, rfl⟩
theorem ok_Nine_pick_j54 {l : Launch} {d : Nat} (hd : 2 ≤ d) (μ : Mm) (z1 : Option Value) {r : Int32} {μ' : Mm} (h : Nine_pick_j54 μ = some (r, μ')) : Wp l SC d (0, 0) mX10_pick 54 [some (.ref 0), z1] [] μ (Qi SC r μ') := by
  unfold Nine_pick_j54 at h
  refine wp_aload_n (x := 0) dX10_pick_54 rfl ?_
  refine wp_getR 181 fl_X10_26 (by decide) rfl (kltC kRoot) kRoot (ly10_2 kRoot).1 dX10_pick_55 ?_
  refine wp_getI fl_X10_291 (by decide) rfl (kltC (ly10_2 kRoot).2.1) (ly10_2 kRoot).2.1 dX10_pick_58 ?_
  obtain ⟨rfl, rfl⟩ := ret2 h
  exact wp_iret rfl dX10_pick_61 ⟨rfl, rfl, rfl⟩
theorem ok_Nine_pick {l : Launch} {d : Nat} (hd : 2 ≤ d) (v1 : Int32)  (μ : Mm) {r : Int32} {μ' : Mm} (h : Nine_pick v1 μ = some (r, μ')) : Wp l SC d (0, 0) mX10_pick 0 [some (.ref 0), some (.int v1)] [] μ (Qi SC r μ') := by
  unfold Nine_pick at h
  refine wp_iload_n (x := v1) dX10_pick_0 rfl ?_
  refine wp_iconst (-1) dX10_pick_1 rfl ?_
  refine wp_icmp_ne 16 dX10_pick_2 (by decide) (fun c1 => ?_) (fun c1 => ?_)
  · rw [if_neg c1] at h
    refine wp_aload_n (x := 0) dX10_pick_16 rfl ?_
    refine wp_getR 1 fl_X10_12 (by decide) rfl (kltC kRoot) kRoot (ly10_0 kRoot).1 dX10_pick_17 ?_
    refine wp_getR 3 fl_X10_100 (by decide) rfl (kltC (ly10_0 kRoot).2.1) (ly10_0 kRoot).2.1 (ly9_2 (ly10_0 kRoot).2.1).1 dX10_pick_20 ?_
    refine wp_iload_n (x := v1) dX10_pick_23 rfl ?_
    obtain ⟨r1, g1, h⟩ := bnd_some h
    refine wp_cVi (d := d - 1) (o := 3) cv_X10_114 (kltC (ly9_2 (ly10_0 kRoot).2.1).2.1) (ly9_2 (ly10_0 kRoot).2.1).2.1 (as := [.int v1]) (rest := []) dX10_pick_24 (by omega) cloC rfl rfl (Nat.le_of_ble_eq_true rfl) (Nat.le_of_ble_eq_true rfl) (ok_Versions_has (by omega) 3 ((ly9_2 (ly10_0 kRoot).2.1).2.1) v1 μ g1) ?_ rfl
    refine wp_if_eq 52 dX10_pick_27 (by decide) (fun c1 => ?_) (fun c1 => ?_)
    · rw [if_pos c1] at h
      refine wp_iconst (-1) dX10_pick_52 rfl ?_
      obtain ⟨rfl, rfl⟩ := ret2 h
      exact wp_iret rfl dX10_pick_53 ⟨rfl, rfl, rfl⟩
    · rw [if_neg c1] at h
      refine wp_aload_n (x := 0) dX10_pick_30 rfl ?_
      refine wp_getR 181 fl_X10_26 (by decide) rfl (kltC kRoot) kRoot (ly10_2 kRoot).1 dX10_pick_31 ?_
      refine wp_iload_n (x := v1) dX10_pick_34 rfl ?_
      obtain ⟨r2, g1, h⟩ := bnd_some h
      refine wp_cVi (d := d - 1) (o := 181) cv_X10_292 (kltC (ly10_2 kRoot).2.1) (ly10_2 kRoot).2.1 (as := [.int v1]) (rest := []) dX10_pick_35 (by omega) cloC rfl rfl (Nat.le_of_ble_eq_true rfl) (Nat.le_of_ble_eq_true rfl) (ok_Picks_canTake (by omega) 181 ((ly10_2 kRoot).2.1) v1 μ g1) ?_ rfl
      refine wp_if_eq 52 dX10_pick_38 (by decide) (fun c1 => ?_) (fun c1 => ?_)
      · rw [if_pos c1] at h
        refine wp_iconst (-1) dX10_pick_52 rfl ?_
        obtain ⟨rfl, rfl⟩ := ret2 h
        exact wp_iret rfl dX10_pick_53 ⟨rfl, rfl, rfl⟩
      · rw [if_neg c1] at h
        refine wp_aload_n (x := 0) dX10_pick_41 rfl ?_
        refine wp_getR 181 fl_X10_26 (by decide) rfl (kltC kRoot) kRoot (ly10_2 kRoot).1 dX10_pick_42 ?_
        refine wp_iload_n (x := v1) dX10_pick_45 rfl ?_
        obtain ⟨μ3, g1, h⟩ := bnd_some h
        refine wp_cVv (d := d - 1) (o := 181) cv_X10_295 (kltC (ly10_2 kRoot).2.1) (ly10_2 kRoot).2.1 (as := [.int v1]) (rest := []) dX10_pick_46 (by omega) cloC rfl rfl (Nat.le_of_ble_eq_true rfl) (Nat.le_of_ble_eq_true rfl) (ok_Picks_take (by omega) 181 ((ly10_2 kRoot).2.1) v1 μ g1) ?_ rfl
        refine wp_goto 54 dX10_pick_49 (by decide) ?_
        exact ok_Nine_pick_j54 hd μ3 _ h
  · rw [if_pos c1] at h
    refine wp_aload_n (x := 0) dX10_pick_5 rfl ?_
    refine wp_getR 181 fl_X10_26 (by decide) rfl (kltC kRoot) kRoot (ly10_2 kRoot).1 dX10_pick_6 ?_
    refine wp_iconst (nI 0) dX10_pick_9 rfl ?_
    obtain ⟨μ4, e1, h⟩ := lt_some h
    refine wp_putIe e1 fl_X10_291 (by decide) rfl (kltC (ly10_2 kRoot).2.1) (ly10_2 kRoot).2.1 dX10_pick_10 ?_
    refine wp_goto 54 dX10_pick_13 (by decide) ?_
    exact ok_Nine_pick_j54 hd μ4 _ h
theorem ok_Nine_join {l : Launch} {d : Nat} (hd : 4 ≤ d) (μ : Mm) {r : Int32} (h : Nine_join μ = some r) : Wp l SC d (0, 0) mX10_join 0 [some (.ref 0)] [] μ (Qi SC r μ) := by
  unfold Nine_join at h
  refine wp_aload_n (x := 0) dX10_join_0 rfl ?_
  refine wp_getR 181 fl_X10_26 (by decide) rfl (kltC kRoot) kRoot (ly10_2 kRoot).1 dX10_join_1 ?_
  refine wp_aload_n (x := 0) dX10_join_4 rfl ?_
  refine wp_getR 1 fl_X10_12 (by decide) rfl (kltC kRoot) kRoot (ly10_0 kRoot).1 dX10_join_5 ?_
  refine wp_getR 3 fl_X10_100 (by decide) rfl (kltC (ly10_0 kRoot).2.1) (ly10_0 kRoot).2.1 (ly9_2 (ly10_0 kRoot).2.1).1 dX10_join_8 ?_
  obtain ⟨r1, g1, h⟩ := bnd_some h
  refine wp_cVi (d := d - 1) (o := 181) cv_X10_298 (kltC (ly10_2 kRoot).2.1) (ly10_2 kRoot).2.1 (as := [.ref 3]) (rest := []) dX10_join_11 (by omega) cloC rfl rfl (Nat.le_of_ble_eq_true rfl) (Nat.le_of_ble_eq_true rfl) (ok_Picks_leastJoin (by omega) 181 ((ly10_2 kRoot).2.1) 3 ((ly9_2 (ly10_0 kRoot).2.1).2.1) μ g1) ?_ rfl
  obtain rfl := ret1 h
  exact wp_iret rfl dX10_join_14 ⟨rfl, rfl, rfl⟩
theorem ok_Nine_forebear {l : Launch} {d : Nat} (hd : 2 ≤ d) (v1 : Int32)  (v2 : Int32)  (μ : Mm) {r : Int32} (h : Nine_forebear v1 v2 μ = some r) : Wp l SC d (0, 0) mX10_forebear 0 [some (.ref 0), some (.int v1), some (.int v2)] [] μ (Qi SC r μ) := by
  unfold Nine_forebear at h
  refine wp_aload_n (x := 0) dX10_forebear_0 rfl ?_
  refine wp_getR 1 fl_X10_12 (by decide) rfl (kltC kRoot) kRoot (ly10_0 kRoot).1 dX10_forebear_1 ?_
  refine wp_getR 3 fl_X10_100 (by decide) rfl (kltC (ly10_0 kRoot).2.1) (ly10_0 kRoot).2.1 (ly9_2 (ly10_0 kRoot).2.1).1 dX10_forebear_4 ?_
  refine wp_iload_n (x := v1) dX10_forebear_7 rfl ?_
  obtain ⟨r1, g1, h⟩ := bnd_some h
  refine wp_cVi (d := d - 1) (o := 3) cv_X10_114 (kltC (ly9_2 (ly10_0 kRoot).2.1).2.1) (ly9_2 (ly10_0 kRoot).2.1).2.1 (as := [.int v1]) (rest := []) dX10_forebear_8 (by omega) cloC rfl rfl (Nat.le_of_ble_eq_true rfl) (Nat.le_of_ble_eq_true rfl) (ok_Versions_has (by omega) 3 ((ly9_2 (ly10_0 kRoot).2.1).2.1) v1 μ g1) ?_ rfl
  refine wp_if_eq 28 dX10_forebear_11 (by decide) (fun c1 => ?_) (fun c1 => ?_)
  · rw [if_pos c1] at h
    refine wp_iconst (-1) dX10_forebear_28 rfl ?_
    obtain rfl := ret1 h
    exact wp_iret rfl dX10_forebear_29 ⟨rfl, rfl, rfl⟩
  · rw [if_neg c1] at h
    refine wp_aload_n (x := 0) dX10_forebear_14 rfl ?_
    refine wp_getR 1 fl_X10_12 (by decide) rfl (kltC kRoot) kRoot (ly10_0 kRoot).1 dX10_forebear_15 ?_
    refine wp_getR 3 fl_X10_100 (by decide) rfl (kltC (ly10_0 kRoot).2.1) (ly10_0 kRoot).2.1 (ly9_2 (ly10_0 kRoot).2.1).1 dX10_forebear_18 ?_
    refine wp_iload_n (x := v2) dX10_forebear_21 rfl ?_
    obtain ⟨r2, g1, h⟩ := bnd_some h
    refine wp_cVi (d := d - 1) (o := 3) cv_X10_114 (kltC (ly9_2 (ly10_0 kRoot).2.1).2.1) (ly9_2 (ly10_0 kRoot).2.1).2.1 (as := [.int v2]) (rest := []) dX10_forebear_22 (by omega) cloC rfl rfl (Nat.le_of_ble_eq_true rfl) (Nat.le_of_ble_eq_true rfl) (ok_Versions_has (by omega) 3 ((ly9_2 (ly10_0 kRoot).2.1).2.1) v2 μ g1) ?_ rfl
    refine wp_if_ne 30 dX10_forebear_25 (by decide) (fun c1 => ?_) (fun c1 => ?_)
    · rw [if_neg c1] at h
      refine wp_aload_n (x := 0) dX10_forebear_30 rfl ?_
      refine wp_getR 1 fl_X10_12 (by decide) rfl (kltC kRoot) kRoot (ly10_0 kRoot).1 dX10_forebear_31 ?_
      refine wp_getR 3 fl_X10_100 (by decide) rfl (kltC (ly10_0 kRoot).2.1) (ly10_0 kRoot).2.1 (ly9_2 (ly10_0 kRoot).2.1).1 dX10_forebear_34 ?_
      refine wp_iload_n (x := v1) dX10_forebear_37 rfl ?_
      refine wp_iload_n (x := v2) dX10_forebear_38 rfl ?_
      obtain ⟨r3, g1, h⟩ := bnd_some h
      refine wp_cVi (d := d - 1) (o := 3) cv_X10_302 (kltC (ly9_2 (ly10_0 kRoot).2.1).2.1) (ly9_2 (ly10_0 kRoot).2.1).2.1 (as := [.int v1, .int v2]) (rest := []) dX10_forebear_39 (by omega) cloC rfl rfl (Nat.le_of_ble_eq_true rfl) (Nat.le_of_ble_eq_true rfl) (ok_Versions_commonForebear (by omega) 3 ((ly9_2 (ly10_0 kRoot).2.1).2.1) v1 v2 μ g1) ?_ rfl
      obtain rfl := ret1 h
      exact wp_iret rfl dX10_forebear_42 ⟨rfl, rfl, rfl⟩
    · rw [if_pos c1] at h
      refine wp_iconst (-1) dX10_forebear_28 rfl ?_
      obtain rfl := ret1 h
      exact wp_iret rfl dX10_forebear_29 ⟨rfl, rfl, rfl⟩
theorem ok_Nine_lasts {l : Launch} {d : Nat} (hd : 8 ≤ d) (v1 : Int32)  (μ : Mm) {r : Int32} {μ' : Mm} (h : Nine_lasts v1 μ = some (r, μ')) : Wp l SC d (0, 0) mX10_lasts 0 [some (.ref 0), some (.int v1)] [] μ (Qi SC r μ') := by
  unfold Nine_lasts at h
  refine wp_aload_n (x := 0) dX10_lasts_0 rfl ?_
  refine wp_iload_n (x := v1) dX10_lasts_1 rfl ?_
  obtain ⟨r2, μ1, g1, h⟩ := bnd2_some h
  refine wp_cVi (d := d - 1) (o := 0) cv_X10_267 (kltC kRoot) kRoot (as := [.int v1]) (rest := []) dX10_lasts_2 (by omega) cloC rfl rfl (Nat.le_of_ble_eq_true rfl) (Nat.le_of_ble_eq_true rfl) (ok_Nine_thinkAhead (by omega) v1 μ g1) ?_ rfl
  refine wp_if_eq 18 dX10_lasts_5 (by decide) (fun c1 => ?_) (fun c1 => ?_)
  · rw [if_pos c1] at h
    refine wp_iconst (-1) dX10_lasts_18 rfl ?_
    obtain ⟨rfl, rfl⟩ := ret2 h
    exact wp_iret rfl dX10_lasts_19 ⟨rfl, rfl, rfl⟩
  · rw [if_neg c1] at h
    refine wp_aload_n (x := 0) dX10_lasts_8 rfl ?_
    refine wp_getR 366 fl_X10_43 (by decide) rfl (kltC kRoot) kRoot (ly10_10 kRoot).1 dX10_lasts_9 ?_
    obtain ⟨r3, g1, h⟩ := bnd_some h
    refine wp_cVi (d := d - 1) (o := 366) cv_X10_305 (kltC (ly10_10 kRoot).2.1) (ly10_10 kRoot).2.1 (as := []) (rest := []) dX10_lasts_12 (by omega) cloC rfl rfl (Nat.le_of_ble_eq_true rfl) (Nat.le_of_ble_eq_true rfl) (ok_World_commonestCurse (by omega) 366 ((ly10_10 kRoot).2.1) μ1 g1) ?_ rfl
    refine wp_goto 19 dX10_lasts_15 (by decide) ?_
    obtain ⟨rfl, rfl⟩ := ret2 h
    exact wp_iret rfl dX10_lasts_19 ⟨rfl, rfl, rfl⟩
theorem ok_Nine_knows_j52 {l : Launch} {d : Nat} (hd : 2 ≤ d) (v1 : Int32)  (v2 : Int32)  (v3 : Int32)  (μ : Mm) {Q : Option Value → Sh → Mm → Prop} (K : (Int32 × Int32) ⊕ Int32 → Prop) (hb : ∀ (s : (Int32 × Int32)), K (Sum.inl s) → Wp l SC d (0, 0) mX10_knows 16 [some (.ref 0), some (.int v1), some (.int s.1), some (.int s.2)] [] μ Q) (he0 : ∀ (x : Int32) (z1 : Option Value) (z3 : Option Value), K (Sum.inr x) → Wp l SC d (0, 0) mX10_knows 58 [some (.ref 0), z1, some (.int x), z3] [] μ Q) {z : (Int32 × Int32) ⊕ Int32} (h : Nine_knows_j52 v1 v2 v3 μ = some z) (hz : K z) : Wp l SC d (0, 0) mX10_knows 52 [some (.ref 0), some (.int v1), some (.int v2), some (.int v3)] [] μ Q := by
  unfold Nine_knows_j52 at h
  refine wp_iinc (x := v3) (k0 := (nI 1)) (L2 := [some (.ref 0), some (.int v1), some (.int v2), some (.int (v3 + (nI 1)))]) dX10_knows_52 rfl rfl (by decide) rfl rfl ?_
  refine wp_goto 16 dX10_knows_55 (by decide) ?_
  obtain rfl := some1 h
  exact hb (v2, (v3 + (nI 1))) hz
theorem ok_Nine_knows_l16 {l : Launch} {d : Nat} (hd : 2 ≤ d) (v1 : Int32)  (v2 : Int32)  (v3 : Int32)  (μ : Mm) {Q : Option Value → Sh → Mm → Prop} (K : (Int32 × Int32) ⊕ Int32 → Prop) (hb : ∀ (s : (Int32 × Int32)), K (Sum.inl s) → Wp l SC d (0, 0) mX10_knows 16 [some (.ref 0), some (.int v1), some (.int s.1), some (.int s.2)] [] μ Q) (he0 : ∀ (x : Int32) (z1 : Option Value) (z3 : Option Value), K (Sum.inr x) → Wp l SC d (0, 0) mX10_knows 58 [some (.ref 0), z1, some (.int x), z3] [] μ Q) {z : (Int32 × Int32) ⊕ Int32} (h : Nine_knows_l16 v1 v2 v3 μ = some z) (hz : K z) : Wp l SC d (0, 0) mX10_knows 16 [some (.ref 0), some (.int v1), some (.int v2), some (.int v3)] [] μ Q := by
  unfold Nine_knows_l16 at h
  refine wp_iload_n (x := v3) dX10_knows_16 rfl ?_
  refine wp_aload_n (x := 0) dX10_knows_17 rfl ?_
  refine wp_getR 1 fl_X10_12 (by decide) rfl (kltC kRoot) kRoot (ly10_0 kRoot).1 dX10_knows_18 ?_
  refine wp_getI fl_X10_68 (by decide) rfl (kltC (ly10_0 kRoot).2.1) (ly10_0 kRoot).2.1 dX10_knows_21 ?_
  refine wp_icmp_ge 58 dX10_knows_24 (by decide) (fun c1 => ?_) (fun c1 => ?_)
  · rw [if_pos c1] at h
    obtain rfl := some1 h
    exact he0 v2 _ _ hz
  · rw [if_neg c1] at h
    refine wp_aload_n (x := 0) dX10_knows_27 rfl ?_
    refine wp_getR 1 fl_X10_12 (by decide) rfl (kltC kRoot) kRoot (ly10_0 kRoot).1 dX10_knows_28 ?_
    refine wp_getR 2 fl_X10_82 (by decide) rfl (kltC (ly10_0 kRoot).2.1) (ly10_0 kRoot).2.1 (ly9_0 (ly10_0 kRoot).2.1).1 dX10_knows_31 ?_
    refine wp_iload_n (x := v3) dX10_knows_34 rfl ?_
    obtain ⟨cp1, h⟩ := chv_some h
    refine wp_aald (1 + (21 + 9 * ix v3)) (kltC (ly9_0 (ly10_0 kRoot).2.1).2.1) (ly9_0 (ly10_0 kRoot).2.1).2.1 (by decide) (by rw [(ly9_0 (ly10_0 kRoot).2.1).2.2]; exact cp1) (lyP (ly10_0 kRoot).2.1 cp1).1 dX10_knows_35 ?_
    refine wp_getL fl_X10_183 (by decide) rfl (kltC (lyP (ly10_0 kRoot).2.1 cp1).2) (lyP (ly10_0 kRoot).2.1 cp1).2 dX10_knows_36 ?_
    obtain ⟨r2, g1, h⟩ := bnd_some h
    refine wp_cLi (d := d - 1) cs_X10_187 (x := (μ.2 (1 + (21 + 9 * ix v3)) 6)) (rest := []) dX10_knows_39 (by omega) cloC (Nat.le_of_ble_eq_true rfl) (ok_JL_bitCount wfC (by omega) (μ.2 (1 + (21 + 9 * ix v3)) 6) μ g1) ?_
    refine wp_iload_n (x := v1) dX10_knows_42 rfl ?_
    refine wp_icmp_lt 52 dX10_knows_43 (by decide) (fun c1 => ?_) (fun c1 => ?_)
    · rw [if_pos c1] at h
      exact ok_Nine_knows_j52 hd v1 v2 v3 μ K hb he0 h hz
    · rw [if_neg c1] at h
      refine wp_iload_n (x := v2) dX10_knows_46 rfl ?_
      refine wp_iconst (nI 1) dX10_knows_47 rfl ?_
      refine wp_iload_n (x := v3) dX10_knows_48 rfl ?_
      refine wp_ishl dX10_knows_49 ?_
      refine wp_ior dX10_knows_50 ?_
      refine wp_istore_n (L2 := [some (.ref 0), some (.int v1), some (.int (v2 ||| ((nI 1) <<< (v3 &&& 31)))), some (.int v3)]) dX10_knows_51 (by decide) rfl rfl ?_
      exact ok_Nine_knows_j52 hd v1 (v2 ||| ((nI 1) <<< (v3 &&& 31))) v3 μ K hb he0 h hz
theorem okl_Nine_knows_l16 {l : Launch} {d : Nat} (hd : 2 ≤ d) (v1 : Int32)  (μ : Mm) {Q : Option Value → Sh → Mm → Prop} (K : Int32 → Prop) (he0 : ∀ (x : Int32) (z1 : Option Value) (z3 : Option Value), K x → Wp l SC d (0, 0) mX10_knows 58 [some (.ref 0), z1, some (.int x), z3] [] μ Q) : ∀ (n : Nat) (s : (Int32 × Int32)) (y : Int32) , iter n (fun s => Nine_knows_l16 v1 s.1 s.2 μ) s = some y → K y → Wp l SC d (0, 0) mX10_knows 16 [some (.ref 0), some (.int v1), some (.int s.1), some (.int s.2)] [] μ Q := by
  intro n
  induction n with
  | zero => intro s y  h; cases h
  | succ n ih =>
    intro s y  h hK
    obtain ⟨z, hz, hn⟩ := iter_some h
    refine ok_Nine_knows_l16 hd v1 s.1 s.2 μ (fun z => nxt n (fun s => Nine_knows_l16 v1 s.1 s.2 μ) z y) ?_ ?_ hz hn
    · intro s2  h2
      exact ih s2 y h2 hK
    · intro x z1 z3 h2
      have h3 : x = y := h2
      subst h3
      exact he0 x _ _ hK
theorem ok_Nine_knows {l : Launch} {d : Nat} (hd : 2 ≤ d) (v1 : Int32)  (μ : Mm) {r : Int32} (h : Nine_knows v1 μ = some r) : Wp l SC d (0, 0) mX10_knows 0 [some (.ref 0), some (.int v1), none, none] [] μ (Qi SC r μ) := by
  unfold Nine_knows at h
  refine wp_iload_n (x := v1) dX10_knows_0 rfl ?_
  refine wp_if_lt 10 dX10_knows_1 (by decide) (fun c1 => ?_) (fun c1 => ?_)
  · rw [if_pos c1] at h
    refine wp_iconst (-1) dX10_knows_10 rfl ?_
    obtain rfl := ret1 h
    exact wp_iret rfl dX10_knows_11 ⟨rfl, rfl, rfl⟩
  · rw [if_neg c1] at h
    refine wp_iload_n (x := v1) dX10_knows_4 rfl ?_
    refine wp_bipush (nI 40) dX10_knows_5 rfl ?_
    refine wp_icmp_le 12 dX10_knows_7 (by decide) (fun c1 => ?_) (fun c1 => ?_)
    · rw [if_pos c1] at h
      refine wp_iconst (nI 0) dX10_knows_12 rfl ?_
      refine wp_istore_n (L2 := [some (.ref 0), some (.int v1), some (.int (nI 0)), none]) dX10_knows_13 (by decide) rfl rfl ?_
      refine wp_iconst (nI 0) dX10_knows_14 rfl ?_
      refine wp_istore_n (L2 := [some (.ref 0), some (.int v1), some (.int (nI 0)), some (.int (nI 0))]) dX10_knows_15 (by decide) rfl rfl ?_
      obtain ⟨x16, hi, h⟩ := bni_some h
      refine okl_Nine_knows_l16 hd v1 μ (fun z => z = x16) ?_ 1000000 ((nI 0), (nI 0)) x16 hi rfl
      · intro y0 z1 z3 e0
        have e0 : y0 = x16 := e0
        subst e0
        refine wp_iload_n (x := y0) dX10_knows_58 rfl ?_
        obtain rfl := ret1 h
        exact wp_iret rfl dX10_knows_59 ⟨rfl, rfl, rfl⟩
    · rw [if_neg c1] at h
      refine wp_iconst (-1) dX10_knows_10 rfl ?_
      obtain rfl := ret1 h
      exact wp_iret rfl dX10_knows_11 ⟨rfl, rfl, rfl⟩
theorem ok_Nine_undo {l : Launch} {d : Nat} (hd : 5 ≤ d) (μ : Mm) {r : Int32} {μ' : Mm} (h : Nine_undo μ = some (r, μ')) : Wp l SC d (0, 0) mX10_undo 0 [some (.ref 0)] [] μ (Qi SC r μ') := by
  unfold Nine_undo at h
  refine wp_aload_n (x := 0) dX10_undo_0 rfl ?_
  refine wp_getI fl_X10_309 (by decide) rfl (kltC kRoot) kRoot dX10_undo_1 ?_
  refine wp_if_ne 9 dX10_undo_4 (by decide) (fun c1 => ?_) (fun c1 => ?_)
  · rw [if_neg c1] at h
    refine wp_aload_n (x := 0) dX10_undo_9 rfl ?_
    refine wp_dup dX10_undo_10 rfl ?_
    refine wp_getI fl_X10_309 (by decide) rfl (kltC kRoot) kRoot dX10_undo_11 ?_
    refine wp_iconst (nI 1) dX10_undo_14 rfl ?_
    refine wp_isub dX10_undo_15 ?_
    obtain ⟨μ1, e1, h⟩ := lt_some h
    refine wp_putIe e1 fl_X10_309 (by decide) rfl (kltC kRoot) kRoot dX10_undo_16 ?_
    refine wp_aload_n (x := 0) dX10_undo_19 rfl ?_
    refine wp_aload_n (x := 0) dX10_undo_20 rfl ?_
    refine wp_getI fl_X10_312 (by decide) rfl (kltC kRoot) kRoot dX10_undo_21 ?_
    refine wp_bipush (nI 6) dX10_undo_24 rfl ?_
    refine wp_iadd dX10_undo_26 ?_
    refine wp_iconst (nI 1) dX10_undo_27 rfl ?_
    refine wp_isub dX10_undo_28 ?_
    refine wp_bipush (nI 6) dX10_undo_29 rfl ?_
    obtain ⟨c1, h⟩ := chk_some h
    refine wp_irem dX10_undo_31 c1 ?_
    obtain ⟨μ2, e1, h⟩ := lt_some h
    refine wp_putIe e1 fl_X10_312 (by decide) rfl (kltC kRoot) kRoot dX10_undo_32 ?_
    refine wp_aload_n (x := 0) dX10_undo_35 rfl ?_
    refine wp_getR 1 fl_X10_12 (by decide) rfl (kltC kRoot) kRoot (ly10_0 kRoot).1 dX10_undo_36 ?_
    refine wp_aload_n (x := 0) dX10_undo_39 rfl ?_
    refine wp_getR 365 fl_X10_39 (by decide) rfl (kltC kRoot) kRoot (ly10_7 kRoot).1 dX10_undo_40 ?_
    refine wp_aload_n (x := 0) dX10_undo_43 rfl ?_
    refine wp_getI fl_X10_312 (by decide) rfl (kltC kRoot) kRoot dX10_undo_44 ?_
    obtain ⟨cp3, h⟩ := chv_some h
    refine wp_aald (545 + 165 * ix (μ2.1 0 9)) (kltC (ly10_7 kRoot).2.1) (ly10_7 kRoot).2.1 (by decide) (by rw [(ly10_7 kRoot).2.2]; exact cp3) (lyB cp3).1 dX10_undo_47 ?_
    obtain ⟨μ4, g1, h⟩ := bnd_some h
    refine wp_cVv (d := d - 1) (o := 1) cv_X10_315 (kltC (ly10_0 kRoot).2.1) (ly10_0 kRoot).2.1 (as := [.ref (545 + 165 * ix (μ2.1 0 9))]) (rest := []) dX10_undo_48 (by omega) cloC rfl rfl (Nat.le_of_ble_eq_true rfl) (Nat.le_of_ble_eq_true rfl) (ok_World_copyFrom (by omega) 1 ((ly10_0 kRoot).2.1) (545 + 165 * ix (μ2.1 0 9)) ((lyB cp3).2) μ2 g1) ?_ rfl
    refine wp_aload_n (x := 0) dX10_undo_51 rfl ?_
    refine wp_getR 181 fl_X10_26 (by decide) rfl (kltC kRoot) kRoot (ly10_2 kRoot).1 dX10_undo_52 ?_
    refine wp_aload_n (x := 0) dX10_undo_55 rfl ?_
    refine wp_getR 1 fl_X10_12 (by decide) rfl (kltC kRoot) kRoot (ly10_0 kRoot).1 dX10_undo_56 ?_
    refine wp_getR 3 fl_X10_100 (by decide) rfl (kltC (ly10_0 kRoot).2.1) (ly10_0 kRoot).2.1 (ly9_2 (ly10_0 kRoot).2.1).1 dX10_undo_59 ?_
    refine wp_getI fl_X10_319 (by decide) rfl (kltC (ly9_2 (ly10_0 kRoot).2.1).2.1) (ly9_2 (ly10_0 kRoot).2.1).2.1 dX10_undo_62 ?_
    obtain ⟨μ5, g1, h⟩ := bnd_some h
    refine wp_cVv (d := d - 1) (o := 181) cv_X10_320 (kltC (ly10_2 kRoot).2.1) (ly10_2 kRoot).2.1 (as := [.int (μ4.1 3 4)]) (rest := []) dX10_undo_65 (by omega) cloC rfl rfl (Nat.le_of_ble_eq_true rfl) (Nat.le_of_ble_eq_true rfl) (ok_Picks_keepBelow (by omega) 181 ((ly10_2 kRoot).2.1) (μ4.1 3 4) μ4 g1) ?_ rfl
    refine wp_iconst (nI 1) dX10_undo_68 rfl ?_
    obtain ⟨rfl, rfl⟩ := ret2 h
    exact wp_zret rfl (Or.inr rfl) dX10_undo_69 ⟨rfl, rfl, rfl⟩
  · rw [if_pos c1] at h
    refine wp_iconst (nI 0) dX10_undo_7 rfl ?_
    obtain ⟨rfl, rfl⟩ := ret2 h
    exact wp_zret rfl (Or.inl rfl) dX10_undo_8 ⟨rfl, rfl, rfl⟩
theorem ok_Nine_image {l : Launch} {d : Nat} (hd : 5 ≤ d) (v1 : Int32)  (μ : Mm) {r : Int32} {μ' : Mm} (h : Nine_image v1 μ = some (r, μ')) : Wp l SC d (0, 0) mX10_image 0 [some (.ref 0), some (.int v1)] [] μ (Qi SC r μ') := by
  unfold Nine_image at h
  refine wp_iload_n (x := v1) dX10_image_0 rfl ?_
  refine wp_if_eq 44 dX10_image_1 (by decide) (fun c1 => ?_) (fun c1 => ?_)
  · rw [if_pos c1] at h
    refine wp_aload_n (x := 0) dX10_image_44 rfl ?_
    refine wp_getI fl_X10_329 (by decide) rfl (kltC kRoot) kRoot dX10_image_45 ?_
    refine wp_if_ne 53 dX10_image_48 (by decide) (fun c1 => ?_) (fun c1 => ?_)
    · rw [if_neg c1] at h
      refine wp_aload_n (x := 0) dX10_image_53 rfl ?_
      refine wp_getR 1 fl_X10_12 (by decide) rfl (kltC kRoot) kRoot (ly10_0 kRoot).1 dX10_image_54 ?_
      refine wp_aload_n (x := 0) dX10_image_57 rfl ?_
      refine wp_getR 183 fl_X10_30 (by decide) rfl (kltC kRoot) kRoot (ly10_3 kRoot).1 dX10_image_58 ?_
      obtain ⟨μ1, g1, h⟩ := bnd_some h
      refine wp_cVv (d := d - 1) (o := 1) cv_X10_315 (kltC (ly10_0 kRoot).2.1) (ly10_0 kRoot).2.1 (as := [.ref 183]) (rest := []) dX10_image_61 (by omega) cloC rfl rfl (Nat.le_of_ble_eq_true rfl) (Nat.le_of_ble_eq_true rfl) (ok_World_copyFrom (by omega) 1 ((ly10_0 kRoot).2.1) 183 ((ly10_3 kRoot).2.1) μ g1) ?_ rfl
      refine wp_aload_n (x := 0) dX10_image_64 rfl ?_
      refine wp_getR 166 fl_X10_19 (by decide) rfl (kltC kRoot) kRoot (ly10_1 kRoot).1 dX10_image_65 ?_
      refine wp_aload_n (x := 0) dX10_image_68 rfl ?_
      refine wp_getR 348 fl_X10_33 (by decide) rfl (kltC kRoot) kRoot (ly10_4 kRoot).1 dX10_image_69 ?_
      obtain ⟨μ2, g1, h⟩ := bnd_some h
      refine wp_cVv (d := d - 1) (o := 166) cv_X10_323 (kltC (ly10_1 kRoot).2.1) (ly10_1 kRoot).2.1 (as := [.ref 348]) (rest := []) dX10_image_72 (by omega) cloC rfl rfl (Nat.le_of_ble_eq_true rfl) (Nat.le_of_ble_eq_true rfl) (ok_Texts_copyFrom (by omega) 166 ((ly10_1 kRoot).2.1) 348 ((ly10_4 kRoot).2.1) μ1 g1) ?_ rfl
      refine wp_aload_n (x := 0) dX10_image_75 rfl ?_
      refine wp_getR 181 fl_X10_26 (by decide) rfl (kltC kRoot) kRoot (ly10_2 kRoot).1 dX10_image_76 ?_
      refine wp_aload_n (x := 0) dX10_image_79 rfl ?_
      refine wp_getR 363 fl_X10_36 (by decide) rfl (kltC kRoot) kRoot (ly10_5 kRoot).1 dX10_image_80 ?_
      obtain ⟨μ3, g1, h⟩ := bnd_some h
      refine wp_cVv (d := d - 1) (o := 181) cv_X10_326 (kltC (ly10_2 kRoot).2.1) (ly10_2 kRoot).2.1 (as := [.ref 363]) (rest := []) dX10_image_83 (by omega) cloC rfl rfl (Nat.le_of_ble_eq_true rfl) (Nat.le_of_ble_eq_true rfl) (ok_Picks_copyFrom (by omega) 181 ((ly10_2 kRoot).2.1) 363 ((ly10_5 kRoot).2.1) μ2 g1) ?_ rfl
      refine wp_aload_n (x := 0) dX10_image_86 rfl ?_
      obtain ⟨μ4, g1, h⟩ := bnd_some h
      refine wp_cVv (d := d - 1) (o := 0) cv_X10_61 (kltC kRoot) kRoot (as := []) (rest := []) dX10_image_87 (by omega) cloC rfl rfl (Nat.le_of_ble_eq_true rfl) (Nat.le_of_ble_eq_true rfl) (ok_Nine_forgetBefore (by omega) μ3 g1) ?_ rfl
      refine wp_iconst (nI 1) dX10_image_90 rfl ?_
      obtain ⟨rfl, rfl⟩ := ret2 h
      exact wp_zret rfl (Or.inr rfl) dX10_image_91 ⟨rfl, rfl, rfl⟩
    · rw [if_pos c1] at h
      refine wp_iconst (nI 0) dX10_image_51 rfl ?_
      obtain ⟨rfl, rfl⟩ := ret2 h
      exact wp_zret rfl (Or.inl rfl) dX10_image_52 ⟨rfl, rfl, rfl⟩
  · rw [if_neg c1] at h
    refine wp_aload_n (x := 0) dX10_image_4 rfl ?_
    refine wp_getR 183 fl_X10_30 (by decide) rfl (kltC kRoot) kRoot (ly10_3 kRoot).1 dX10_image_5 ?_
    refine wp_aload_n (x := 0) dX10_image_8 rfl ?_
    refine wp_getR 1 fl_X10_12 (by decide) rfl (kltC kRoot) kRoot (ly10_0 kRoot).1 dX10_image_9 ?_
    obtain ⟨μ5, g1, h⟩ := bnd_some h
    refine wp_cVv (d := d - 1) (o := 183) cv_X10_315 (kltC (ly10_3 kRoot).2.1) (ly10_3 kRoot).2.1 (as := [.ref 1]) (rest := []) dX10_image_12 (by omega) cloC rfl rfl (Nat.le_of_ble_eq_true rfl) (Nat.le_of_ble_eq_true rfl) (ok_World_copyFrom (by omega) 183 ((ly10_3 kRoot).2.1) 1 ((ly10_0 kRoot).2.1) μ g1) ?_ rfl
    refine wp_aload_n (x := 0) dX10_image_15 rfl ?_
    refine wp_getR 348 fl_X10_33 (by decide) rfl (kltC kRoot) kRoot (ly10_4 kRoot).1 dX10_image_16 ?_
    refine wp_aload_n (x := 0) dX10_image_19 rfl ?_
    refine wp_getR 166 fl_X10_19 (by decide) rfl (kltC kRoot) kRoot (ly10_1 kRoot).1 dX10_image_20 ?_
    obtain ⟨μ6, g1, h⟩ := bnd_some h
    refine wp_cVv (d := d - 1) (o := 348) cv_X10_323 (kltC (ly10_4 kRoot).2.1) (ly10_4 kRoot).2.1 (as := [.ref 166]) (rest := []) dX10_image_23 (by omega) cloC rfl rfl (Nat.le_of_ble_eq_true rfl) (Nat.le_of_ble_eq_true rfl) (ok_Texts_copyFrom (by omega) 348 ((ly10_4 kRoot).2.1) 166 ((ly10_1 kRoot).2.1) μ5 g1) ?_ rfl
    refine wp_aload_n (x := 0) dX10_image_26 rfl ?_
    refine wp_getR 363 fl_X10_36 (by decide) rfl (kltC kRoot) kRoot (ly10_5 kRoot).1 dX10_image_27 ?_
    refine wp_aload_n (x := 0) dX10_image_30 rfl ?_
    refine wp_getR 181 fl_X10_26 (by decide) rfl (kltC kRoot) kRoot (ly10_2 kRoot).1 dX10_image_31 ?_
    obtain ⟨μ7, g1, h⟩ := bnd_some h
    refine wp_cVv (d := d - 1) (o := 363) cv_X10_326 (kltC (ly10_5 kRoot).2.1) (ly10_5 kRoot).2.1 (as := [.ref 181]) (rest := []) dX10_image_34 (by omega) cloC rfl rfl (Nat.le_of_ble_eq_true rfl) (Nat.le_of_ble_eq_true rfl) (ok_Picks_copyFrom (by omega) 363 ((ly10_5 kRoot).2.1) 181 ((ly10_2 kRoot).2.1) μ6 g1) ?_ rfl
    refine wp_aload_n (x := 0) dX10_image_37 rfl ?_
    refine wp_iconst (nI 1) dX10_image_38 rfl ?_
    obtain ⟨μ8, e1, h⟩ := lt_some h
    refine wp_putZe e1 fl_X10_329 (by decide) rfl (kltC kRoot) kRoot (Or.inr rfl) dX10_image_39 ?_
    refine wp_iconst (nI 1) dX10_image_42 rfl ?_
    obtain ⟨rfl, rfl⟩ := ret2 h
    exact wp_zret rfl (Or.inr rfl) dX10_image_43 ⟨rfl, rfl, rfl⟩
theorem ok_Nine_look_j25 {l : Launch} {d : Nat} (hd : 2 ≤ d) (v1 : Int32)  (μ : Mm) {r : Int32} (h : Nine_look_j25 v1 μ = some r) : Wp l SC d (0, 0) mX10_look 25 [some (.ref 0), some (.int v1)] [] μ (Qi SC r μ) := by
  unfold Nine_look_j25 at h
  refine wp_iload_n (x := v1) dX10_look_25 rfl ?_
  by_cases c0 : v1 = (nI 0)
  · rw [if_pos c0] at h
    refine wp_tableIn (off := 74) (tgt := 100) dX10_look_26 (by rw [c0]; decide) (by rw [c0]; decide) (by rw [c0]; rfl) (by decide) ?_
    refine wp_aload_n (x := 0) dX10_look_100 rfl ?_
    refine wp_getR 1 fl_X10_12 (by decide) rfl (kltC kRoot) kRoot (ly10_0 kRoot).1 dX10_look_101 ?_
    refine wp_getI fl_X10_68 (by decide) rfl (kltC (ly10_0 kRoot).2.1) (ly10_0 kRoot).2.1 dX10_look_104 ?_
    obtain rfl := ret1 h
    exact wp_iret rfl dX10_look_107 ⟨rfl, rfl, rfl⟩
  · rw [if_neg c0] at h
    by_cases c1 : v1 = (nI 1)
    · rw [if_pos c1] at h
      refine wp_tableIn (off := 82) (tgt := 108) dX10_look_26 (by rw [c1]; decide) (by rw [c1]; decide) (by rw [c1]; rfl) (by decide) ?_
      refine wp_aload_n (x := 0) dX10_look_108 rfl ?_
      refine wp_getR 1 fl_X10_12 (by decide) rfl (kltC kRoot) kRoot (ly10_0 kRoot).1 dX10_look_109 ?_
      refine wp_getR 3 fl_X10_100 (by decide) rfl (kltC (ly10_0 kRoot).2.1) (ly10_0 kRoot).2.1 (ly9_2 (ly10_0 kRoot).2.1).1 dX10_look_112 ?_
      refine wp_getI fl_X10_319 (by decide) rfl (kltC (ly9_2 (ly10_0 kRoot).2.1).2.1) (ly9_2 (ly10_0 kRoot).2.1).2.1 dX10_look_115 ?_
      obtain rfl := ret1 h
      exact wp_iret rfl dX10_look_118 ⟨rfl, rfl, rfl⟩
    · rw [if_neg c1] at h
      by_cases c2 : v1 = (nI 2)
      · rw [if_pos c2] at h
        refine wp_tableIn (off := 93) (tgt := 119) dX10_look_26 (by rw [c2]; decide) (by rw [c2]; decide) (by rw [c2]; rfl) (by decide) ?_
        refine wp_aload_n (x := 0) dX10_look_119 rfl ?_
        refine wp_getR 1 fl_X10_12 (by decide) rfl (kltC kRoot) kRoot (ly10_0 kRoot).1 dX10_look_120 ?_
        refine wp_getI fl_X10_173 (by decide) rfl (kltC (ly10_0 kRoot).2.1) (ly10_0 kRoot).2.1 dX10_look_123 ?_
        obtain rfl := ret1 h
        exact wp_iret rfl dX10_look_126 ⟨rfl, rfl, rfl⟩
      · rw [if_neg c2] at h
        by_cases c3 : v1 = (nI 3)
        · rw [if_pos c3] at h
          refine wp_tableIn (off := 101) (tgt := 127) dX10_look_26 (by rw [c3]; decide) (by rw [c3]; decide) (by rw [c3]; rfl) (by decide) ?_
          refine wp_aload_n (x := 0) dX10_look_127 rfl ?_
          refine wp_getR 1 fl_X10_12 (by decide) rfl (kltC kRoot) kRoot (ly10_0 kRoot).1 dX10_look_128 ?_
          refine wp_getR 8 fl_X10_218 (by decide) rfl (kltC (ly10_0 kRoot).2.1) (ly10_0 kRoot).2.1 (ly9_3 (ly10_0 kRoot).2.1).1 dX10_look_131 ?_
          refine wp_getI fl_X10_180 (by decide) rfl (kltC (ly9_3 (ly10_0 kRoot).2.1).2.1) (ly9_3 (ly10_0 kRoot).2.1).2.1 dX10_look_134 ?_
          obtain rfl := ret1 h
          exact wp_iret rfl dX10_look_137 ⟨rfl, rfl, rfl⟩
        · rw [if_neg c3] at h
          by_cases c4 : v1 = (nI 4)
          · rw [if_pos c4] at h
            refine wp_tableIn (off := 112) (tgt := 138) dX10_look_26 (by rw [c4]; decide) (by rw [c4]; decide) (by rw [c4]; rfl) (by decide) ?_
            refine wp_aload_n (x := 0) dX10_look_138 rfl ?_
            refine wp_getR 1 fl_X10_12 (by decide) rfl (kltC kRoot) kRoot (ly10_0 kRoot).1 dX10_look_139 ?_
            refine wp_iconst (-1) dX10_look_142 rfl ?_
            obtain ⟨r1, g1, h⟩ := bnd_some h
            refine wp_cVi (d := d - 1) (o := 1) cv_X10_270 (kltC (ly10_0 kRoot).2.1) (ly10_0 kRoot).2.1 (as := [.int (-1)]) (rest := []) dX10_look_143 (by omega) cloC rfl rfl (Nat.le_of_ble_eq_true rfl) (Nat.le_of_ble_eq_true rfl) (ok_World_countHeld (by omega) 1 ((ly10_0 kRoot).2.1) (-1) μ g1) ?_ rfl
            obtain rfl := ret1 h
            exact wp_iret rfl dX10_look_146 ⟨rfl, rfl, rfl⟩
          · rw [if_neg c4] at h
            by_cases c5 : v1 = (nI 5)
            · rw [if_pos c5] at h
              refine wp_tableIn (off := 121) (tgt := 147) dX10_look_26 (by rw [c5]; decide) (by rw [c5]; decide) (by rw [c5]; rfl) (by decide) ?_
              refine wp_aload_n (x := 0) dX10_look_147 rfl ?_
              refine wp_getR 1 fl_X10_12 (by decide) rfl (kltC kRoot) kRoot (ly10_0 kRoot).1 dX10_look_148 ?_
              refine wp_getR 14 fl_X10_253 (by decide) rfl (kltC (ly10_0 kRoot).2.1) (ly10_0 kRoot).2.1 (ly9_4 (ly10_0 kRoot).2.1).1 dX10_look_151 ?_
              refine wp_getI fl_X10_257 (by decide) rfl (kltC (ly9_4 (ly10_0 kRoot).2.1).2.1) (ly9_4 (ly10_0 kRoot).2.1).2.1 dX10_look_154 ?_
              obtain rfl := ret1 h
              exact wp_iret rfl dX10_look_157 ⟨rfl, rfl, rfl⟩
            · rw [if_neg c5] at h
              by_cases c6 : v1 = (nI 6)
              · rw [if_pos c6] at h
                refine wp_tableIn (off := 132) (tgt := 158) dX10_look_26 (by rw [c6]; decide) (by rw [c6]; decide) (by rw [c6]; rfl) (by decide) ?_
                refine wp_aload_n (x := 0) dX10_look_158 rfl ?_
                refine wp_getR 1 fl_X10_12 (by decide) rfl (kltC kRoot) kRoot (ly10_0 kRoot).1 dX10_look_159 ?_
                refine wp_getI fl_X10_57 (by decide) rfl (kltC (ly10_0 kRoot).2.1) (ly10_0 kRoot).2.1 dX10_look_162 ?_
                obtain rfl := ret1 h
                exact wp_iret rfl dX10_look_165 ⟨rfl, rfl, rfl⟩
              · rw [if_neg c6] at h
                by_cases c7 : v1 = (nI 7)
                · rw [if_pos c7] at h
                  refine wp_tableIn (off := 140) (tgt := 166) dX10_look_26 (by rw [c7]; decide) (by rw [c7]; decide) (by rw [c7]; rfl) (by decide) ?_
                  refine wp_aload_n (x := 0) dX10_look_166 rfl ?_
                  refine wp_getR 1 fl_X10_12 (by decide) rfl (kltC kRoot) kRoot (ly10_0 kRoot).1 dX10_look_167 ?_
                  refine wp_getI fl_X10_333 (by decide) rfl (kltC (ly10_0 kRoot).2.1) (ly10_0 kRoot).2.1 dX10_look_170 ?_
                  obtain rfl := ret1 h
                  exact wp_iret rfl dX10_look_173 ⟨rfl, rfl, rfl⟩
                · rw [if_neg c7] at h
                  by_cases c8 : v1 = (nI 8)
                  · rw [if_pos c8] at h
                    refine wp_tableIn (off := 148) (tgt := 174) dX10_look_26 (by rw [c8]; decide) (by rw [c8]; decide) (by rw [c8]; rfl) (by decide) ?_
                    refine wp_aload_n (x := 0) dX10_look_174 rfl ?_
                    refine wp_getR 1 fl_X10_12 (by decide) rfl (kltC kRoot) kRoot (ly10_0 kRoot).1 dX10_look_175 ?_
                    refine wp_getI fl_X10_336 (by decide) rfl (kltC (ly10_0 kRoot).2.1) (ly10_0 kRoot).2.1 dX10_look_178 ?_
                    obtain rfl := ret1 h
                    exact wp_iret rfl dX10_look_181 ⟨rfl, rfl, rfl⟩
                  · rw [if_neg c8] at h
                    by_cases c9 : v1 = (nI 9)
                    · rw [if_pos c9] at h
                      refine wp_tableIn (off := 156) (tgt := 182) dX10_look_26 (by rw [c9]; decide) (by rw [c9]; decide) (by rw [c9]; rfl) (by decide) ?_
                      refine wp_aload_n (x := 0) dX10_look_182 rfl ?_
                      refine wp_getR 1 fl_X10_12 (by decide) rfl (kltC kRoot) kRoot (ly10_0 kRoot).1 dX10_look_183 ?_
                      refine wp_getI fl_X10_339 (by decide) rfl (kltC (ly10_0 kRoot).2.1) (ly10_0 kRoot).2.1 dX10_look_186 ?_
                      obtain rfl := ret1 h
                      exact wp_iret rfl dX10_look_189 ⟨rfl, rfl, rfl⟩
                    · rw [if_neg c9] at h
                      by_cases c10 : v1 = (nI 10)
                      · rw [if_pos c10] at h
                        refine wp_tableIn (off := 164) (tgt := 190) dX10_look_26 (by rw [c10]; decide) (by rw [c10]; decide) (by rw [c10]; rfl) (by decide) ?_
                        refine wp_aload_n (x := 0) dX10_look_190 rfl ?_
                        refine wp_getR 166 fl_X10_19 (by decide) rfl (kltC kRoot) kRoot (ly10_1 kRoot).1 dX10_look_191 ?_
                        refine wp_getR 167 fl_X10_148 (by decide) rfl (kltC (ly10_1 kRoot).2.1) (ly10_1 kRoot).2.1 (ly7_0 (ly10_1 kRoot).2.1).1 dX10_look_194 ?_
                        refine wp_getI fl_X10_342 (by decide) rfl (kltC (ly7_0 (ly10_1 kRoot).2.1).2.1) (ly7_0 (ly10_1 kRoot).2.1).2.1 dX10_look_197 ?_
                        obtain rfl := ret1 h
                        exact wp_iret rfl dX10_look_200 ⟨rfl, rfl, rfl⟩
                      · rw [if_neg c10] at h
                        by_cases c11 : v1 = (nI 11)
                        · rw [if_pos c11] at h
                          refine wp_tableIn (off := 175) (tgt := 201) dX10_look_26 (by rw [c11]; decide) (by rw [c11]; decide) (by rw [c11]; rfl) (by decide) ?_
                          refine wp_aload_n (x := 0) dX10_look_201 rfl ?_
                          refine wp_getR 166 fl_X10_19 (by decide) rfl (kltC kRoot) kRoot (ly10_1 kRoot).1 dX10_look_202 ?_
                          refine wp_getR 173 fl_X10_156 (by decide) rfl (kltC (ly10_1 kRoot).2.1) (ly10_1 kRoot).2.1 (ly7_1 (ly10_1 kRoot).2.1).1 dX10_look_205 ?_
                          refine wp_getI fl_X10_342 (by decide) rfl (kltC (ly7_1 (ly10_1 kRoot).2.1).2.1) (ly7_1 (ly10_1 kRoot).2.1).2.1 dX10_look_208 ?_
                          obtain rfl := ret1 h
                          exact wp_iret rfl dX10_look_211 ⟨rfl, rfl, rfl⟩
                        · rw [if_neg c11] at h
                          by_cases c12 : v1 = (nI 12)
                          · rw [if_pos c12] at h
                            refine wp_tableIn (off := 186) (tgt := 212) dX10_look_26 (by rw [c12]; decide) (by rw [c12]; decide) (by rw [c12]; rfl) (by decide) ?_
                            refine wp_aload_n (x := 0) dX10_look_212 rfl ?_
                            refine wp_getR 166 fl_X10_19 (by decide) rfl (kltC kRoot) kRoot (ly10_1 kRoot).1 dX10_look_213 ?_
                            refine wp_getR 179 fl_X10_159 (by decide) rfl (kltC (ly10_1 kRoot).2.1) (ly10_1 kRoot).2.1 (ly7_2 (ly10_1 kRoot).2.1).1 dX10_look_216 ?_
                            refine wp_getI fl_X10_347 (by decide) rfl (kltC (ly7_2 (ly10_1 kRoot).2.1).2.1) (ly7_2 (ly10_1 kRoot).2.1).2.1 dX10_look_219 ?_
                            obtain rfl := ret1 h
                            exact wp_iret rfl dX10_look_222 ⟨rfl, rfl, rfl⟩
                          · rw [if_neg c12] at h
                            by_cases c13 : v1 = (nI 13)
                            · rw [if_pos c13] at h
                              refine wp_tableIn (off := 197) (tgt := 223) dX10_look_26 (by rw [c13]; decide) (by rw [c13]; decide) (by rw [c13]; rfl) (by decide) ?_
                              refine wp_aload_n (x := 0) dX10_look_223 rfl ?_
                              refine wp_getI fl_X10_309 (by decide) rfl (kltC kRoot) kRoot dX10_look_224 ?_
                              obtain rfl := ret1 h
                              exact wp_iret rfl dX10_look_227 ⟨rfl, rfl, rfl⟩
                            · rw [if_neg c13] at h
                              by_cases c14 : v1 = (nI 14)
                              · rw [if_pos c14] at h
                                refine wp_tableIn (off := 202) (tgt := 228) dX10_look_26 (by rw [c14]; decide) (by rw [c14]; decide) (by rw [c14]; rfl) (by decide) ?_
                                refine wp_aload_n (x := 0) dX10_look_228 rfl ?_
                                refine wp_getR 181 fl_X10_26 (by decide) rfl (kltC kRoot) kRoot (ly10_2 kRoot).1 dX10_look_229 ?_
                                refine wp_getI fl_X10_291 (by decide) rfl (kltC (ly10_2 kRoot).2.1) (ly10_2 kRoot).2.1 dX10_look_232 ?_
                                obtain rfl := ret1 h
                                exact wp_iret rfl dX10_look_235 ⟨rfl, rfl, rfl⟩
                              · rw [if_neg c14] at h
                                have q0 := nei c0 (z := 0) rfl
                                have q1 := nei c1 (z := 1) rfl
                                have q2 := nei c2 (z := 2) rfl
                                have q3 := nei c3 (z := 3) rfl
                                have q4 := nei c4 (z := 4) rfl
                                have q5 := nei c5 (z := 5) rfl
                                have q6 := nei c6 (z := 6) rfl
                                have q7 := nei c7 (z := 7) rfl
                                have q8 := nei c8 (z := 8) rfl
                                have q9 := nei c9 (z := 9) rfl
                                have q10 := nei c10 (z := 10) rfl
                                have q11 := nei c11 (z := 11) rfl
                                have q12 := nei c12 (z := 12) rfl
                                have q13 := nei c13 (z := 13) rfl
                                have q14 := nei c14 (z := 14) rfl
                                refine wp_tableOut dX10_look_26 (by omega) (tgt := 236) (by decide) ?_
                                refine wp_iconst (-1) dX10_look_236 rfl ?_
                                obtain rfl := ret1 h
                                exact wp_iret rfl dX10_look_237 ⟨rfl, rfl, rfl⟩
theorem ok_Nine_look {l : Launch} {d : Nat} (hd : 2 ≤ d) (v1 : Int32)  (μ : Mm) {r : Int32} (h : Nine_look v1 μ = some r) : Wp l SC d (0, 0) mX10_look 0 [some (.ref 0), some (.int v1)] [] μ (Qi SC r μ) := by
  unfold Nine_look at h
  refine wp_iload_n (x := v1) dX10_look_0 rfl ?_
  refine wp_bipush (nI 20) dX10_look_1 rfl ?_
  refine wp_icmp_lt 25 dX10_look_3 (by decide) (fun c1 => ?_) (fun c1 => ?_)
  · rw [if_pos c1] at h
    exact ok_Nine_look_j25 hd v1 μ h
  · rw [if_neg c1] at h
    refine wp_iload_n (x := v1) dX10_look_6 rfl ?_
    refine wp_bipush (nI 24) dX10_look_7 rfl ?_
    refine wp_icmp_ge 25 dX10_look_9 (by decide) (fun c1 => ?_) (fun c1 => ?_)
    · rw [if_pos c1] at h
      exact ok_Nine_look_j25 hd v1 μ h
    · rw [if_neg c1] at h
      refine wp_aload_n (x := 0) dX10_look_12 rfl ?_
      refine wp_getR 1 fl_X10_12 (by decide) rfl (kltC kRoot) kRoot (ly10_0 kRoot).1 dX10_look_13 ?_
      refine wp_getR 20 fl_X10_75 (by decide) rfl (kltC (ly10_0 kRoot).2.1) (ly10_0 kRoot).2.1 (ly9_5 (ly10_0 kRoot).2.1).1 dX10_look_16 ?_
      refine wp_iload_n (x := v1) dX10_look_19 rfl ?_
      refine wp_bipush (nI 20) dX10_look_20 rfl ?_
      refine wp_isub dX10_look_22 ?_
      obtain ⟨c1, h⟩ := chv_some h
      refine wp_ialde (kltC (ly9_5 (ly10_0 kRoot).2.1).2.1) (ly9_5 (ly10_0 kRoot).2.1).2.1 (ly9_5 (ly10_0 kRoot).2.1).2.2 c1 dX10_look_23 ?_
      obtain rfl := ret1 h
      exact wp_iret rfl dX10_look_24 ⟨rfl, rfl, rfl⟩
theorem ok_M_isIn {l : Launch} {d : Nat} (hd : 1 ≤ d) (v1 : Int32)  (v2 : Int32)  (v3 : Int32)  (μ : Mm) {r : Int32} (h : M_isIn v1 v2 v3 = some r) : Wp l SM d (0, 0) mX11_isIn 0 [some (.ref 0), some (.int v1), some (.int v2), some (.int v3)] [] μ (Qi SM r μ) := by
  unfold M_isIn at h
  refine wp_iload_n (x := v1) dX11_isIn_0 rfl ?_
  refine wp_iload_n (x := v2) dX11_isIn_1 rfl ?_
  refine wp_icmp_lt 14 dX11_isIn_2 (by decide) (fun c1 => ?_) (fun c1 => ?_)
  · rw [if_pos c1] at h
    refine wp_iconst (nI 0) dX11_isIn_14 rfl ?_
    obtain rfl := ret1 h
    exact wp_zret rfl (Or.inl rfl) dX11_isIn_15 ⟨rfl, rfl, rfl⟩
  · rw [if_neg c1] at h
    refine wp_iload_n (x := v1) dX11_isIn_5 rfl ?_
    refine wp_iload_n (x := v3) dX11_isIn_6 rfl ?_
    refine wp_icmp_gt 14 dX11_isIn_7 (by decide) (fun c1 => ?_) (fun c1 => ?_)
    · rw [if_pos c1] at h
      refine wp_iconst (nI 0) dX11_isIn_14 rfl ?_
      obtain rfl := ret1 h
      exact wp_zret rfl (Or.inl rfl) dX11_isIn_15 ⟨rfl, rfl, rfl⟩
    · rw [if_neg c1] at h
      refine wp_iconst (nI 1) dX11_isIn_10 rfl ?_
      refine wp_goto 15 dX11_isIn_11 (by decide) ?_
      obtain rfl := ret1 h
      exact wp_zret rfl (Or.inr rfl) dX11_isIn_15 ⟨rfl, rfl, rfl⟩
theorem ok_M_ones_l4 {l : Launch} {d : Nat} (hd : 1 ≤ d) (v2 : Int32)  (v3 : Int32)  (μ : Mm) (z1 : Option Value) {Q : Option Value → Sh → Mm → Prop} (K : (Int32 × Int32) ⊕ Int32 → Prop) (hb : ∀ (s : (Int32 × Int32)) (z1 : Option Value), K (Sum.inl s) → Wp l SM d (0, 0) mX11_ones 4 [some (.ref 0), z1, some (.int s.1), some (.int s.2)] [] μ Q) (he0 : ∀ (x : Int32) (z1 : Option Value) (z3 : Option Value), K (Sum.inr x) → Wp l SM d (0, 0) mX11_ones 21 [some (.ref 0), z1, some (.int x), z3] [] μ Q) {z : (Int32 × Int32) ⊕ Int32} (h : M_ones_l4 v2 v3 = some z) (hz : K z) : Wp l SM d (0, 0) mX11_ones 4 [some (.ref 0), z1, some (.int v2), some (.int v3)] [] μ Q := by
  unfold M_ones_l4 at h
  refine wp_iload_n (x := v3) dX11_ones_4 rfl ?_
  refine wp_if_eq 21 dX11_ones_5 (by decide) (fun c1 => ?_) (fun c1 => ?_)
  · rw [if_pos c1] at h
    obtain rfl := some1 h
    exact he0 v2 _ _ hz
  · rw [if_neg c1] at h
    refine wp_iload_n (x := v2) dX11_ones_8 rfl ?_
    refine wp_iconst (nI 1) dX11_ones_9 rfl ?_
    refine wp_iadd dX11_ones_10 ?_
    refine wp_istore_nF (L2 := [some (.ref 0), none, some (.int (v2 + (nI 1))), some (.int v3)]) dX11_ones_11 (by decide) rfl ?_
    refine wp_iload_n (x := v3) dX11_ones_12 rfl ?_
    refine wp_iload_n (x := v3) dX11_ones_13 rfl ?_
    refine wp_iconst (nI 1) dX11_ones_14 rfl ?_
    refine wp_isub dX11_ones_15 ?_
    refine wp_iand dX11_ones_16 ?_
    refine wp_istore_n (L2 := [some (.ref 0), none, some (.int (v2 + (nI 1))), some (.int (v3 &&& (v3 - (nI 1))))]) dX11_ones_17 (by decide) rfl rfl ?_
    refine wp_goto 4 dX11_ones_18 (by decide) ?_
    obtain rfl := some1 h
    exact hb ((v2 + (nI 1)), (v3 &&& (v3 - (nI 1)))) _ hz
theorem okl_M_ones_l4 {l : Launch} {d : Nat} (hd : 1 ≤ d) (μ : Mm) {Q : Option Value → Sh → Mm → Prop} (K : Int32 → Prop) (he0 : ∀ (x : Int32) (z1 : Option Value) (z3 : Option Value), K x → Wp l SM d (0, 0) mX11_ones 21 [some (.ref 0), z1, some (.int x), z3] [] μ Q) : ∀ (n : Nat) (s : (Int32 × Int32)) (y : Int32) (z1 : Option Value) , iter n (fun s => M_ones_l4 s.1 s.2) s = some y → K y → Wp l SM d (0, 0) mX11_ones 4 [some (.ref 0), z1, some (.int s.1), some (.int s.2)] [] μ Q := by
  intro n
  induction n with
  | zero => intro s y z1 h; cases h
  | succ n ih =>
    intro s y z1 h hK
    obtain ⟨z, hz, hn⟩ := iter_some h
    refine ok_M_ones_l4 hd s.1 s.2 μ _ (fun z => nxt n (fun s => M_ones_l4 s.1 s.2) z y) ?_ ?_ hz hn
    · intro s2 z1 h2
      exact ih s2 y _ h2 hK
    · intro x z1 z3 h2
      have h3 : x = y := h2
      subst h3
      exact he0 x _ _ hK
theorem ok_M_ones {l : Launch} {d : Nat} (hd : 1 ≤ d) (v1 : Int32)  (μ : Mm) {r : Int32} (h : M_ones v1 = some r) : Wp l SM d (0, 0) mX11_ones 0 [some (.ref 0), some (.int v1), none, none] [] μ (Qi SM r μ) := by
  unfold M_ones at h
  refine wp_iconst (nI 0) dX11_ones_0 rfl ?_
  refine wp_istore_n (L2 := [some (.ref 0), some (.int v1), some (.int (nI 0)), none]) dX11_ones_1 (by decide) rfl rfl ?_
  refine wp_iload_n (x := v1) dX11_ones_2 rfl ?_
  refine wp_istore_n (L2 := [some (.ref 0), some (.int v1), some (.int (nI 0)), some (.int v1)]) dX11_ones_3 (by decide) rfl rfl ?_
  obtain ⟨x4, hi, h⟩ := bni_some h
  refine okl_M_ones_l4 hd  μ (fun z => z = x4) ?_ 1000000 ((nI 0), v1) x4 _ hi rfl
  · intro y0 z1 z3 e0
    have e0 : y0 = x4 := e0
    subst e0
    refine wp_iload_n (x := y0) dX11_ones_21 rfl ?_
    obtain rfl := ret1 h
    exact wp_iret rfl dX11_ones_22 ⟨rfl, rfl, rfl⟩
theorem ok_M_keepsAhead_l57 {l : Launch} {d : Nat} (hd : 1 ≤ d) (v1 : Int32)  (μ : Mm) {Q : Option Value → Sh → Mm → Prop} (K : (Int32 × Mm) ⊕ Mm → Prop) (hb : ∀ (s : (Int32 × Mm)), K (Sum.inl s) → Wp l SM d (0, 0) mX11_keepsAhead 57 [some (.ref 0), some (.int s.1)] [] s.2 Q) (he0 : ∀ (x : Mm) (z1 : Option Value), K (Sum.inr x) → Wp l SM d (0, 0) mX11_keepsAhead 91 [some (.ref 0), z1] [] x Q) {z : (Int32 × Mm) ⊕ Mm} (h : M_keepsAhead_l57 v1 μ = some z) (hz : K z) : Wp l SM d (0, 0) mX11_keepsAhead 57 [some (.ref 0), some (.int v1)] [] μ Q := by
  unfold M_keepsAhead_l57 at h
  refine wp_iload_n (x := v1) dX11_keepsAhead_57 rfl ?_
  refine wp_sipush (nI 712) dX11_keepsAhead_58 rfl ?_
  refine wp_icmp_ge 91 dX11_keepsAhead_61 (by decide) (fun c1 => ?_) (fun c1 => ?_)
  · rw [if_pos c1] at h
    obtain rfl := some1 h
    exact he0 μ _ hz
  · rw [if_neg c1] at h
    refine wp_aload_n (x := 0) dX11_keepsAhead_64 rfl ?_
    refine wp_getR 2 fl_X11_13 (by decide) rfl (kltM kRootM) kRootM (ly11_2 kRootM).1 dX11_keepsAhead_65 ?_
    refine wp_sipush (nI 712) dX11_keepsAhead_68 rfl ?_
    refine wp_aload_n (x := 0) dX11_keepsAhead_71 rfl ?_
    refine wp_getI fl_X11_89 (by decide) rfl (kltM kRootM) kRootM dX11_keepsAhead_72 ?_
    refine wp_imul dX11_keepsAhead_75 ?_
    refine wp_iload_n (x := v1) dX11_keepsAhead_76 rfl ?_
    refine wp_iadd dX11_keepsAhead_77 ?_
    refine wp_aload_n (x := 0) dX11_keepsAhead_78 rfl ?_
    refine wp_getR 1 fl_X11_7 (by decide) rfl (kltM kRootM) kRootM (ly11_1 kRootM).1 dX11_keepsAhead_79 ?_
    refine wp_iload_n (x := v1) dX11_keepsAhead_82 rfl ?_
    obtain ⟨c1, h⟩ := chv_some h
    refine wp_ialde (kltM (ly11_1 kRootM).2.1) (ly11_1 kRootM).2.1 (ly11_1 kRootM).2.2 c1 dX11_keepsAhead_83 ?_
    obtain ⟨c1, h⟩ := chv_some h
    obtain ⟨μ1, e1, h⟩ := lt_some h
    refine wp_iaste e1 (kltM (ly11_2 kRootM).2.1) (ly11_2 kRootM).2.1 (ly11_2 kRootM).2.2 c1 dX11_keepsAhead_84 ?_
    refine wp_iinc (x := v1) (k0 := (nI 1)) (L2 := [some (.ref 0), some (.int (v1 + (nI 1)))]) dX11_keepsAhead_85 rfl rfl (by decide) rfl rfl ?_
    refine wp_goto 57 dX11_keepsAhead_88 (by decide) ?_
    obtain rfl := some1 h
    exact hb ((v1 + (nI 1)), μ1) hz
theorem okl_M_keepsAhead_l57 {l : Launch} {d : Nat} (hd : 1 ≤ d) {Q : Option Value → Sh → Mm → Prop} (K : Mm → Prop) (he0 : ∀ (x : Mm) (z1 : Option Value), K x → Wp l SM d (0, 0) mX11_keepsAhead 91 [some (.ref 0), z1] [] x Q) : ∀ (n : Nat) (s : (Int32 × Mm)) (y : Mm) , iter n (fun s => M_keepsAhead_l57 s.1 s.2) s = some y → K y → Wp l SM d (0, 0) mX11_keepsAhead 57 [some (.ref 0), some (.int s.1)] [] s.2 Q := by
  intro n
  induction n with
  | zero => intro s y  h; cases h
  | succ n ih =>
    intro s y  h hK
    obtain ⟨z, hz, hn⟩ := iter_some h
    refine ok_M_keepsAhead_l57 hd s.1 s.2 (fun z => nxt n (fun s => M_keepsAhead_l57 s.1 s.2) z y) ?_ ?_ hz hn
    · intro s2  h2
      exact ih s2 y h2 hK
    · intro x z1 h2
      have h3 : x = y := h2
      subst h3
      exact he0 x _ hK
theorem ok_M_keepsAhead_j55 {l : Launch} {d : Nat} (hd : 1 ≤ d) (μ : Mm) (z1 : Option Value) {μ' : Mm} (h : M_keepsAhead_j55 μ = some μ') : Wp l SM d (0, 0) mX11_keepsAhead 55 [some (.ref 0), z1] [] μ (Qv SM μ') := by
  unfold M_keepsAhead_j55 at h
  refine wp_iconst (nI 0) dX11_keepsAhead_55 rfl ?_
  refine wp_istore_n (L2 := [some (.ref 0), some (.int (nI 0))]) dX11_keepsAhead_56 (by decide) rfl rfl ?_
  obtain ⟨x57, hi, h⟩ := bni_some h
  refine okl_M_keepsAhead_l57 hd  (fun z => z = x57) ?_ 1000000 ((nI 0), μ) x57 hi rfl
  · intro y0 z1 e0
    have e0 : y0 = x57 := e0
    subst e0
    refine wp_aload_n (x := 0) dX11_keepsAhead_91 rfl ?_
    refine wp_aload_n (x := 0) dX11_keepsAhead_92 rfl ?_
    refine wp_getI fl_X11_89 (by decide) rfl (kltM kRootM) kRootM dX11_keepsAhead_93 ?_
    refine wp_iconst (nI 1) dX11_keepsAhead_96 rfl ?_
    refine wp_iadd dX11_keepsAhead_97 ?_
    obtain ⟨μ2, e1, h⟩ := lt_some h
    refine wp_putIe e1 fl_X11_89 (by decide) rfl (kltM kRootM) kRootM dX11_keepsAhead_98 ?_
    obtain rfl := ret1 h
    exact wp_vret rfl dX11_keepsAhead_101 ⟨rfl, rfl, rfl⟩
theorem ok_M_keepsAhead_l21 {l : Launch} {d : Nat} (hd : 1 ≤ d) (v1 : Int32)  (μ : Mm) {Q : Option Value → Sh → Mm → Prop} (K : (Int32 × Mm) ⊕ Mm → Prop) (hb : ∀ (s : (Int32 × Mm)), K (Sum.inl s) → Wp l SM d (0, 0) mX11_keepsAhead 21 [some (.ref 0), some (.int s.1)] [] s.2 Q) (he0 : ∀ (x : Mm) (z1 : Option Value), K (Sum.inr x) → Wp l SM d (0, 0) mX11_keepsAhead 55 [some (.ref 0), z1] [] x Q) {z : (Int32 × Mm) ⊕ Mm} (h : M_keepsAhead_l21 v1 μ = some z) (hz : K z) : Wp l SM d (0, 0) mX11_keepsAhead 21 [some (.ref 0), some (.int v1)] [] μ Q := by
  unfold M_keepsAhead_l21 at h
  refine wp_iload_n (x := v1) dX11_keepsAhead_21 rfl ?_
  refine wp_sipush (nI 712) dX11_keepsAhead_22 rfl ?_
  refine wp_aload_n (x := 0) dX11_keepsAhead_25 rfl ?_
  refine wp_getI fl_X11_89 (by decide) rfl (kltM kRootM) kRootM dX11_keepsAhead_26 ?_
  refine wp_imul dX11_keepsAhead_29 ?_
  refine wp_icmp_ge 55 dX11_keepsAhead_30 (by decide) (fun c1 => ?_) (fun c1 => ?_)
  · rw [if_pos c1] at h
    obtain rfl := some1 h
    exact he0 μ _ hz
  · rw [if_neg c1] at h
    refine wp_aload_n (x := 0) dX11_keepsAhead_33 rfl ?_
    refine wp_getR 2 fl_X11_13 (by decide) rfl (kltM kRootM) kRootM (ly11_2 kRootM).1 dX11_keepsAhead_34 ?_
    refine wp_iload_n (x := v1) dX11_keepsAhead_37 rfl ?_
    refine wp_aload_n (x := 0) dX11_keepsAhead_38 rfl ?_
    refine wp_getR 2 fl_X11_13 (by decide) rfl (kltM kRootM) kRootM (ly11_2 kRootM).1 dX11_keepsAhead_39 ?_
    refine wp_iload_n (x := v1) dX11_keepsAhead_42 rfl ?_
    refine wp_sipush (nI 712) dX11_keepsAhead_43 rfl ?_
    refine wp_iadd dX11_keepsAhead_46 ?_
    obtain ⟨c1, h⟩ := chv_some h
    refine wp_ialde (kltM (ly11_2 kRootM).2.1) (ly11_2 kRootM).2.1 (ly11_2 kRootM).2.2 c1 dX11_keepsAhead_47 ?_
    obtain ⟨c1, h⟩ := chv_some h
    obtain ⟨μ4, e1, h⟩ := lt_some h
    refine wp_iaste e1 (kltM (ly11_2 kRootM).2.1) (ly11_2 kRootM).2.1 (ly11_2 kRootM).2.2 c1 dX11_keepsAhead_48 ?_
    refine wp_iinc (x := v1) (k0 := (nI 1)) (L2 := [some (.ref 0), some (.int (v1 + (nI 1)))]) dX11_keepsAhead_49 rfl rfl (by decide) rfl rfl ?_
    refine wp_goto 21 dX11_keepsAhead_52 (by decide) ?_
    obtain rfl := some1 h
    exact hb ((v1 + (nI 1)), μ4) hz
theorem okl_M_keepsAhead_l21 {l : Launch} {d : Nat} (hd : 1 ≤ d) {Q : Option Value → Sh → Mm → Prop} (K : Mm → Prop) (he0 : ∀ (x : Mm) (z1 : Option Value), K x → Wp l SM d (0, 0) mX11_keepsAhead 55 [some (.ref 0), z1] [] x Q) : ∀ (n : Nat) (s : (Int32 × Mm)) (y : Mm) , iter n (fun s => M_keepsAhead_l21 s.1 s.2) s = some y → K y → Wp l SM d (0, 0) mX11_keepsAhead 21 [some (.ref 0), some (.int s.1)] [] s.2 Q := by
  intro n
  induction n with
  | zero => intro s y  h; cases h
  | succ n ih =>
    intro s y  h hK
    obtain ⟨z, hz, hn⟩ := iter_some h
    refine ok_M_keepsAhead_l21 hd s.1 s.2 (fun z => nxt n (fun s => M_keepsAhead_l21 s.1 s.2) z y) ?_ ?_ hz hn
    · intro s2  h2
      exact ih s2 y h2 hK
    · intro x z1 h2
      have h3 : x = y := h2
      subst h3
      exact he0 x _ hK
theorem ok_M_keepsAhead {l : Launch} {d : Nat} (hd : 1 ≤ d) (μ : Mm) {μ' : Mm} (h : M_keepsAhead μ = some μ') : Wp l SM d (0, 0) mX11_keepsAhead 0 [some (.ref 0), none] [] μ (Qv SM μ') := by
  unfold M_keepsAhead at h
  refine wp_aload_n (x := 0) dX11_keepsAhead_0 rfl ?_
  refine wp_getI fl_X11_89 (by decide) rfl (kltM kRootM) kRootM dX11_keepsAhead_1 ?_
  refine wp_bipush (nI 6) dX11_keepsAhead_4 rfl ?_
  refine wp_icmp_ne 55 dX11_keepsAhead_6 (by decide) (fun c1 => ?_) (fun c1 => ?_)
  · rw [if_neg c1] at h
    exact ok_M_keepsAhead_j55 hd μ _ h
  · rw [if_pos c1] at h
    refine wp_aload_n (x := 0) dX11_keepsAhead_9 rfl ?_
    refine wp_aload_n (x := 0) dX11_keepsAhead_10 rfl ?_
    refine wp_getI fl_X11_89 (by decide) rfl (kltM kRootM) kRootM dX11_keepsAhead_11 ?_
    refine wp_iconst (nI 1) dX11_keepsAhead_14 rfl ?_
    refine wp_isub dX11_keepsAhead_15 ?_
    obtain ⟨μ3, e1, h⟩ := lt_some h
    refine wp_putIe e1 fl_X11_89 (by decide) rfl (kltM kRootM) kRootM dX11_keepsAhead_16 ?_
    refine wp_iconst (nI 0) dX11_keepsAhead_19 rfl ?_
    refine wp_istore_n (L2 := [some (.ref 0), some (.int (nI 0))]) dX11_keepsAhead_20 (by decide) rfl rfl ?_
    obtain ⟨x21, hi, h⟩ := bni_some h
    refine okl_M_keepsAhead_l21 hd  (fun z => z = x21) ?_ 1000000 ((nI 0), μ3) x21 hi rfl
    · intro y0 z1 e0
      have e0 : y0 = x21 := e0
      subst e0
      exact ok_M_keepsAhead_j55 hd y0 _ h
theorem ok_M_unpicks_j47 {l : Launch} {d : Nat} (hd : 1 ≤ d) (v1 : Int32)  (v2 : Int32)  (μ : Mm) {Q : Option Value → Sh → Mm → Prop} (K : (Int32 × Int32 × Mm) ⊕ (Int32 × Mm) → Prop) (hb : ∀ (s : (Int32 × Int32 × Mm)), K (Sum.inl s) → Wp l SM d (0, 0) mX11_unpicks 4 [some (.ref 0), some (.int s.1), some (.int s.2.1)] [] s.2.2 Q) (he0 : ∀ (x : (Int32 × Mm)) (z2 : Option Value), K (Sum.inr x) → Wp l SM d (0, 0) mX11_unpicks 53 [some (.ref 0), some (.int x.1), z2] [] x.2 Q) {z : (Int32 × Int32 × Mm) ⊕ (Int32 × Mm)} (h : M_unpicks_j47 v1 v2 μ = some z) (hz : K z) : Wp l SM d (0, 0) mX11_unpicks 47 [some (.ref 0), some (.int v1), some (.int v2)] [] μ Q := by
  unfold M_unpicks_j47 at h
  refine wp_iinc (x := v2) (k0 := (nI 1)) (L2 := [some (.ref 0), some (.int v1), some (.int (v2 + (nI 1)))]) dX11_unpicks_47 rfl rfl (by decide) rfl rfl ?_
  refine wp_goto 4 dX11_unpicks_50 (by decide) ?_
  obtain rfl := some1 h
  exact hb (v1, (v2 + (nI 1)), μ) hz
theorem ok_M_unpicks_l4 {l : Launch} {d : Nat} (hd : 1 ≤ d) (v1 : Int32)  (v2 : Int32)  (μ : Mm) {Q : Option Value → Sh → Mm → Prop} (K : (Int32 × Int32 × Mm) ⊕ (Int32 × Mm) → Prop) (hb : ∀ (s : (Int32 × Int32 × Mm)), K (Sum.inl s) → Wp l SM d (0, 0) mX11_unpicks 4 [some (.ref 0), some (.int s.1), some (.int s.2.1)] [] s.2.2 Q) (he0 : ∀ (x : (Int32 × Mm)) (z2 : Option Value), K (Sum.inr x) → Wp l SM d (0, 0) mX11_unpicks 53 [some (.ref 0), some (.int x.1), z2] [] x.2 Q) {z : (Int32 × Int32 × Mm) ⊕ (Int32 × Mm)} (h : M_unpicks_l4 v1 v2 μ = some z) (hz : K z) : Wp l SM d (0, 0) mX11_unpicks 4 [some (.ref 0), some (.int v1), some (.int v2)] [] μ Q := by
  unfold M_unpicks_l4 at h
  refine wp_iload_n (x := v2) dX11_unpicks_4 rfl ?_
  refine wp_aload_n (x := 0) dX11_unpicks_5 rfl ?_
  refine wp_getI fl_X11_95 (by decide) rfl (kltM kRootM) kRootM dX11_unpicks_6 ?_
  refine wp_icmp_ge 53 dX11_unpicks_9 (by decide) (fun c1 => ?_) (fun c1 => ?_)
  · rw [if_pos c1] at h
    obtain rfl := some1 h
    exact he0 (v1, μ) _ hz
  · rw [if_neg c1] at h
    refine wp_aload_n (x := 0) dX11_unpicks_12 rfl ?_
    refine wp_getR 9 fl_X11_34 (by decide) rfl (kltM kRootM) kRootM (ly11_18 kRootM).1 dX11_unpicks_13 ?_
    refine wp_iload_n (x := v2) dX11_unpicks_16 rfl ?_
    obtain ⟨c1, h⟩ := chv_some h
    refine wp_ialde (kltM (ly11_18 kRootM).2.1) (ly11_18 kRootM).2.1 (ly11_18 kRootM).2.2 c1 dX11_unpicks_17 ?_
    refine wp_aload_n (x := 0) dX11_unpicks_18 rfl ?_
    refine wp_getR 1 fl_X11_7 (by decide) rfl (kltM kRootM) kRootM (ly11_1 kRootM).1 dX11_unpicks_19 ?_
    refine wp_bipush (nI 6) dX11_unpicks_22 rfl ?_
    obtain ⟨c1, h⟩ := chv_some h
    refine wp_ialde (kltM (ly11_1 kRootM).2.1) (ly11_1 kRootM).2.1 (ly11_1 kRootM).2.2 c1 dX11_unpicks_24 ?_
    refine wp_icmp_lt 31 dX11_unpicks_25 (by decide) (fun c1 => ?_) (fun c1 => ?_)
    · rw [if_pos c1] at h
      refine wp_aload_n (x := 0) dX11_unpicks_31 rfl ?_
      refine wp_getR 9 fl_X11_34 (by decide) rfl (kltM kRootM) kRootM (ly11_18 kRootM).1 dX11_unpicks_32 ?_
      refine wp_iload_n (x := v1) dX11_unpicks_35 rfl ?_
      refine wp_aload_n (x := 0) dX11_unpicks_36 rfl ?_
      refine wp_getR 9 fl_X11_34 (by decide) rfl (kltM kRootM) kRootM (ly11_18 kRootM).1 dX11_unpicks_37 ?_
      refine wp_iload_n (x := v2) dX11_unpicks_40 rfl ?_
      obtain ⟨c1, h⟩ := chv_some h
      refine wp_ialde (kltM (ly11_18 kRootM).2.1) (ly11_18 kRootM).2.1 (ly11_18 kRootM).2.2 c1 dX11_unpicks_41 ?_
      obtain ⟨c1, h⟩ := chv_some h
      obtain ⟨μ1, e1, h⟩ := lt_some h
      refine wp_iaste e1 (kltM (ly11_18 kRootM).2.1) (ly11_18 kRootM).2.1 (ly11_18 kRootM).2.2 c1 dX11_unpicks_42 ?_
      refine wp_iload_n (x := v1) dX11_unpicks_43 rfl ?_
      refine wp_iconst (nI 1) dX11_unpicks_44 rfl ?_
      refine wp_iadd dX11_unpicks_45 ?_
      refine wp_istore_n (L2 := [some (.ref 0), some (.int (v1 + (nI 1))), some (.int v2)]) dX11_unpicks_46 (by decide) rfl rfl ?_
      exact ok_M_unpicks_j47 hd (v1 + (nI 1)) v2 μ1 K hb he0 h hz
    · rw [if_neg c1] at h
      refine wp_goto 47 dX11_unpicks_28 (by decide) ?_
      exact ok_M_unpicks_j47 hd v1 v2 μ K hb he0 h hz
theorem okl_M_unpicks_l4 {l : Launch} {d : Nat} (hd : 1 ≤ d) {Q : Option Value → Sh → Mm → Prop} (K : (Int32 × Mm) → Prop) (he0 : ∀ (x : (Int32 × Mm)) (z2 : Option Value), K x → Wp l SM d (0, 0) mX11_unpicks 53 [some (.ref 0), some (.int x.1), z2] [] x.2 Q) : ∀ (n : Nat) (s : (Int32 × Int32 × Mm)) (y : (Int32 × Mm)) , iter n (fun s => M_unpicks_l4 s.1 s.2.1 s.2.2) s = some y → K y → Wp l SM d (0, 0) mX11_unpicks 4 [some (.ref 0), some (.int s.1), some (.int s.2.1)] [] s.2.2 Q := by
  intro n
  induction n with
  | zero => intro s y  h; cases h
  | succ n ih =>
    intro s y  h hK
    obtain ⟨z, hz, hn⟩ := iter_some h
    refine ok_M_unpicks_l4 hd s.1 s.2.1 s.2.2 (fun z => nxt n (fun s => M_unpicks_l4 s.1 s.2.1 s.2.2) z y) ?_ ?_ hz hn
    · intro s2  h2
      exact ih s2 y h2 hK
    · intro x z2 h2
      have h3 : x = y := h2
      subst h3
      exact he0 x _ hK
theorem ok_M_unpicks {l : Launch} {d : Nat} (hd : 1 ≤ d) (μ : Mm) {μ' : Mm} (h : M_unpicks μ = some μ') : Wp l SM d (0, 0) mX11_unpicks 0 [some (.ref 0), none, none] [] μ (Qv SM μ') := by
  unfold M_unpicks at h
  refine wp_iconst (nI 0) dX11_unpicks_0 rfl ?_
  refine wp_istore_n (L2 := [some (.ref 0), some (.int (nI 0)), none]) dX11_unpicks_1 (by decide) rfl rfl ?_
  refine wp_iconst (nI 0) dX11_unpicks_2 rfl ?_
  refine wp_istore_n (L2 := [some (.ref 0), some (.int (nI 0)), some (.int (nI 0))]) dX11_unpicks_3 (by decide) rfl rfl ?_
  obtain ⟨x4, hi, h⟩ := bni_some h
  refine okl_M_unpicks_l4 hd  (fun z => z = x4) ?_ 1000000 ((nI 0), (nI 0), μ) x4 hi rfl
  · intro y0 z2 e0
    have e0 : y0 = x4 := e0
    subst e0
    refine wp_aload_n (x := 0) dX11_unpicks_53 rfl ?_
    refine wp_iload_n (x := y0.1) dX11_unpicks_54 rfl ?_
    obtain ⟨μ2, e1, h⟩ := lt_some h
    refine wp_putIe e1 fl_X11_95 (by decide) rfl (kltM kRootM) kRootM dX11_unpicks_55 ?_
    obtain rfl := ret1 h
    exact wp_vret rfl dX11_unpicks_58 ⟨rfl, rfl, rfl⟩
theorem ok_M_undo_l26 {l : Launch} {d : Nat} (hd : 2 ≤ d) (v1 : Int32)  (μ : Mm) {Q : Option Value → Sh → Mm → Prop} (K : (Int32 × Mm) ⊕ Mm → Prop) (hb : ∀ (s : (Int32 × Mm)), K (Sum.inl s) → Wp l SM d (0, 0) mX11_undo 26 [some (.ref 0), some (.int s.1)] [] s.2 Q) (he0 : ∀ (x : Mm) (z1 : Option Value), K (Sum.inr x) → Wp l SM d (0, 0) mX11_undo 60 [some (.ref 0), z1] [] x Q) {z : (Int32 × Mm) ⊕ Mm} (h : M_undo_l26 v1 μ = some z) (hz : K z) : Wp l SM d (0, 0) mX11_undo 26 [some (.ref 0), some (.int v1)] [] μ Q := by
  unfold M_undo_l26 at h
  refine wp_iload_n (x := v1) dX11_undo_26 rfl ?_
  refine wp_sipush (nI 712) dX11_undo_27 rfl ?_
  refine wp_icmp_ge 60 dX11_undo_30 (by decide) (fun c1 => ?_) (fun c1 => ?_)
  · rw [if_pos c1] at h
    obtain rfl := some1 h
    exact he0 μ _ hz
  · rw [if_neg c1] at h
    refine wp_aload_n (x := 0) dX11_undo_33 rfl ?_
    refine wp_getR 1 fl_X11_7 (by decide) rfl (kltM kRootM) kRootM (ly11_1 kRootM).1 dX11_undo_34 ?_
    refine wp_iload_n (x := v1) dX11_undo_37 rfl ?_
    refine wp_aload_n (x := 0) dX11_undo_38 rfl ?_
    refine wp_getR 2 fl_X11_13 (by decide) rfl (kltM kRootM) kRootM (ly11_2 kRootM).1 dX11_undo_39 ?_
    refine wp_sipush (nI 712) dX11_undo_42 rfl ?_
    refine wp_aload_n (x := 0) dX11_undo_45 rfl ?_
    refine wp_getI fl_X11_89 (by decide) rfl (kltM kRootM) kRootM dX11_undo_46 ?_
    refine wp_imul dX11_undo_49 ?_
    refine wp_iload_n (x := v1) dX11_undo_50 rfl ?_
    refine wp_iadd dX11_undo_51 ?_
    obtain ⟨c1, h⟩ := chv_some h
    refine wp_ialde (kltM (ly11_2 kRootM).2.1) (ly11_2 kRootM).2.1 (ly11_2 kRootM).2.2 c1 dX11_undo_52 ?_
    obtain ⟨c1, h⟩ := chv_some h
    obtain ⟨μ3, e1, h⟩ := lt_some h
    refine wp_iaste e1 (kltM (ly11_1 kRootM).2.1) (ly11_1 kRootM).2.1 (ly11_1 kRootM).2.2 c1 dX11_undo_53 ?_
    refine wp_iinc (x := v1) (k0 := (nI 1)) (L2 := [some (.ref 0), some (.int (v1 + (nI 1)))]) dX11_undo_54 rfl rfl (by decide) rfl rfl ?_
    refine wp_goto 26 dX11_undo_57 (by decide) ?_
    obtain rfl := some1 h
    exact hb ((v1 + (nI 1)), μ3) hz
theorem okl_M_undo_l26 {l : Launch} {d : Nat} (hd : 2 ≤ d) {Q : Option Value → Sh → Mm → Prop} (K : Mm → Prop) (he0 : ∀ (x : Mm) (z1 : Option Value), K x → Wp l SM d (0, 0) mX11_undo 60 [some (.ref 0), z1] [] x Q) : ∀ (n : Nat) (s : (Int32 × Mm)) (y : Mm) , iter n (fun s => M_undo_l26 s.1 s.2) s = some y → K y → Wp l SM d (0, 0) mX11_undo 26 [some (.ref 0), some (.int s.1)] [] s.2 Q := by
  intro n
  induction n with
  | zero => intro s y  h; cases h
  | succ n ih =>
    intro s y  h hK
    obtain ⟨z, hz, hn⟩ := iter_some h
    refine ok_M_undo_l26 hd s.1 s.2 (fun z => nxt n (fun s => M_undo_l26 s.1 s.2) z y) ?_ ?_ hz hn
    · intro s2  h2
      exact ih s2 y h2 hK
    · intro x z1 h2
      have h3 : x = y := h2
      subst h3
      exact he0 x _ hK
theorem ok_M_undo {l : Launch} {d : Nat} (hd : 2 ≤ d) (μ : Mm) {r : Int32} {μ' : Mm} (h : M_undo μ = some (r, μ')) : Wp l SM d (0, 0) mX11_undo 0 [some (.ref 0), none] [] μ (Qi SM r μ') := by
  unfold M_undo at h
  refine wp_aload_n (x := 0) dX11_undo_0 rfl ?_
  refine wp_iconst (nI 0) dX11_undo_1 rfl ?_
  obtain ⟨μ1, e1, h⟩ := lt_some h
  refine wp_putIe e1 fl_X11_86 (by decide) rfl (kltM kRootM) kRootM dX11_undo_2 ?_
  refine wp_aload_n (x := 0) dX11_undo_5 rfl ?_
  refine wp_getI fl_X11_89 (by decide) rfl (kltM kRootM) kRootM dX11_undo_6 ?_
  refine wp_if_ne 14 dX11_undo_9 (by decide) (fun c1 => ?_) (fun c1 => ?_)
  · rw [if_neg c1] at h
    refine wp_aload_n (x := 0) dX11_undo_14 rfl ?_
    refine wp_aload_n (x := 0) dX11_undo_15 rfl ?_
    refine wp_getI fl_X11_89 (by decide) rfl (kltM kRootM) kRootM dX11_undo_16 ?_
    refine wp_iconst (nI 1) dX11_undo_19 rfl ?_
    refine wp_isub dX11_undo_20 ?_
    obtain ⟨μ2, e1, h⟩ := lt_some h
    refine wp_putIe e1 fl_X11_89 (by decide) rfl (kltM kRootM) kRootM dX11_undo_21 ?_
    refine wp_iconst (nI 0) dX11_undo_24 rfl ?_
    refine wp_istore_n (L2 := [some (.ref 0), some (.int (nI 0))]) dX11_undo_25 (by decide) rfl rfl ?_
    obtain ⟨x26, hi, h⟩ := bni_some h
    refine okl_M_undo_l26 hd  (fun z => z = x26) ?_ 1000000 ((nI 0), μ2) x26 hi rfl
    · intro y0 z1 e0
      have e0 : y0 = x26 := e0
      subst e0
      refine wp_aload_n (x := 0) dX11_undo_60 rfl ?_
      obtain ⟨μ4, g1, h⟩ := bnd_some h
      refine wp_cVv (d := d - 1) (o := 0) cv_X11_92 (kltM kRootM) kRootM (as := []) (rest := []) dX11_undo_61 (by omega) cloM rfl rfl (Nat.le_of_ble_eq_true rfl) (Nat.le_of_ble_eq_true rfl) (ok_M_unpicks (by omega) y0 g1) ?_ rfl
      refine wp_iconst (nI 1) dX11_undo_64 rfl ?_
      obtain ⟨rfl, rfl⟩ := ret2 h
      exact wp_zret rfl (Or.inr rfl) dX11_undo_65 ⟨rfl, rfl, rfl⟩
  · rw [if_pos c1] at h
    refine wp_iconst (nI 0) dX11_undo_12 rfl ?_
    obtain ⟨rfl, rfl⟩ := ret2 h
    exact wp_zret rfl (Or.inl rfl) dX11_undo_13 ⟨rfl, rfl, rfl⟩
theorem ok_M_thinks_l2 {l : Launch} {d : Nat} (hd : 1 ≤ d) (v1 : Int32)  (μ : Mm) {Q : Option Value → Sh → Mm → Prop} (K : (Int32 × Mm) ⊕ Mm → Prop) (hb : ∀ (s : (Int32 × Mm)), K (Sum.inl s) → Wp l SM d (0, 0) mX11_thinks 2 [some (.ref 0), some (.int s.1)] [] s.2 Q) (he0 : ∀ (x : Mm) (z1 : Option Value), K (Sum.inr x) → Wp l SM d (0, 0) mX11_thinks 27 [some (.ref 0), z1] [] x Q) {z : (Int32 × Mm) ⊕ Mm} (h : M_thinks_l2 v1 μ = some z) (hz : K z) : Wp l SM d (0, 0) mX11_thinks 2 [some (.ref 0), some (.int v1)] [] μ Q := by
  unfold M_thinks_l2 at h
  refine wp_iload_n (x := v1) dX11_thinks_2 rfl ?_
  refine wp_sipush (nI 712) dX11_thinks_3 rfl ?_
  refine wp_icmp_ge 27 dX11_thinks_6 (by decide) (fun c1 => ?_) (fun c1 => ?_)
  · rw [if_pos c1] at h
    obtain rfl := some1 h
    exact he0 μ _ hz
  · rw [if_neg c1] at h
    refine wp_aload_n (x := 0) dX11_thinks_9 rfl ?_
    refine wp_getR 3 fl_X11_16 (by decide) rfl (kltM kRootM) kRootM (ly11_4 kRootM).1 dX11_thinks_10 ?_
    refine wp_iload_n (x := v1) dX11_thinks_13 rfl ?_
    refine wp_aload_n (x := 0) dX11_thinks_14 rfl ?_
    refine wp_getR 1 fl_X11_7 (by decide) rfl (kltM kRootM) kRootM (ly11_1 kRootM).1 dX11_thinks_15 ?_
    refine wp_iload_n (x := v1) dX11_thinks_18 rfl ?_
    obtain ⟨c1, h⟩ := chv_some h
    refine wp_ialde (kltM (ly11_1 kRootM).2.1) (ly11_1 kRootM).2.1 (ly11_1 kRootM).2.2 c1 dX11_thinks_19 ?_
    obtain ⟨c1, h⟩ := chv_some h
    obtain ⟨μ1, e1, h⟩ := lt_some h
    refine wp_iaste e1 (kltM (ly11_4 kRootM).2.1) (ly11_4 kRootM).2.1 (ly11_4 kRootM).2.2 c1 dX11_thinks_20 ?_
    refine wp_iinc (x := v1) (k0 := (nI 1)) (L2 := [some (.ref 0), some (.int (v1 + (nI 1)))]) dX11_thinks_21 rfl rfl (by decide) rfl rfl ?_
    refine wp_goto 2 dX11_thinks_24 (by decide) ?_
    obtain rfl := some1 h
    exact hb ((v1 + (nI 1)), μ1) hz
theorem okl_M_thinks_l2 {l : Launch} {d : Nat} (hd : 1 ≤ d) {Q : Option Value → Sh → Mm → Prop} (K : Mm → Prop) (he0 : ∀ (x : Mm) (z1 : Option Value), K x → Wp l SM d (0, 0) mX11_thinks 27 [some (.ref 0), z1] [] x Q) : ∀ (n : Nat) (s : (Int32 × Mm)) (y : Mm) , iter n (fun s => M_thinks_l2 s.1 s.2) s = some y → K y → Wp l SM d (0, 0) mX11_thinks 2 [some (.ref 0), some (.int s.1)] [] s.2 Q := by
  intro n
  induction n with
  | zero => intro s y  h; cases h
  | succ n ih =>
    intro s y  h hK
    obtain ⟨z, hz, hn⟩ := iter_some h
    refine ok_M_thinks_l2 hd s.1 s.2 (fun z => nxt n (fun s => M_thinks_l2 s.1 s.2) z y) ?_ ?_ hz hn
    · intro s2  h2
      exact ih s2 y h2 hK
    · intro x z1 h2
      have h3 : x = y := h2
      subst h3
      exact he0 x _ hK
theorem ok_M_thinks {l : Launch} {d : Nat} (hd : 1 ≤ d) (μ : Mm) {μ' : Mm} (h : M_thinks μ = some μ') : Wp l SM d (0, 0) mX11_thinks 0 [some (.ref 0), none] [] μ (Qv SM μ') := by
  unfold M_thinks at h
  refine wp_iconst (nI 0) dX11_thinks_0 rfl ?_
  refine wp_istore_n (L2 := [some (.ref 0), some (.int (nI 0))]) dX11_thinks_1 (by decide) rfl rfl ?_
  obtain ⟨x2, hi, h⟩ := bni_some h
  refine okl_M_thinks_l2 hd  (fun z => z = x2) ?_ 1000000 ((nI 0), μ) x2 hi rfl
  · intro y0 z1 e0
    have e0 : y0 = x2 := e0
    subst e0
    refine wp_aload_n (x := 0) dX11_thinks_27 rfl ?_
    refine wp_iconst (nI 1) dX11_thinks_28 rfl ?_
    obtain ⟨μ2, e1, h⟩ := lt_some h
    refine wp_putZe e1 fl_X11_98 (by decide) rfl (kltM kRootM) kRootM (Or.inr rfl) dX11_thinks_29 ?_
    obtain rfl := ret1 h
    exact wp_vret rfl dX11_thinks_32 ⟨rfl, rfl, rfl⟩
theorem ok_M_thinksAnew_l2 {l : Launch} {d : Nat} (hd : 1 ≤ d) (v1 : Int32)  (μ : Mm) {Q : Option Value → Sh → Mm → Prop} (K : (Int32 × Mm) ⊕ Mm → Prop) (hb : ∀ (s : (Int32 × Mm)), K (Sum.inl s) → Wp l SM d (0, 0) mX11_thinksAnew 2 [some (.ref 0), some (.int s.1)] [] s.2 Q) (he0 : ∀ (x : Mm) (z1 : Option Value), K (Sum.inr x) → Wp l SM d (0, 0) mX11_thinksAnew 27 [some (.ref 0), z1] [] x Q) {z : (Int32 × Mm) ⊕ Mm} (h : M_thinksAnew_l2 v1 μ = some z) (hz : K z) : Wp l SM d (0, 0) mX11_thinksAnew 2 [some (.ref 0), some (.int v1)] [] μ Q := by
  unfold M_thinksAnew_l2 at h
  refine wp_iload_n (x := v1) dX11_thinksAnew_2 rfl ?_
  refine wp_sipush (nI 712) dX11_thinksAnew_3 rfl ?_
  refine wp_icmp_ge 27 dX11_thinksAnew_6 (by decide) (fun c1 => ?_) (fun c1 => ?_)
  · rw [if_pos c1] at h
    obtain rfl := some1 h
    exact he0 μ _ hz
  · rw [if_neg c1] at h
    refine wp_aload_n (x := 0) dX11_thinksAnew_9 rfl ?_
    refine wp_getR 1 fl_X11_7 (by decide) rfl (kltM kRootM) kRootM (ly11_1 kRootM).1 dX11_thinksAnew_10 ?_
    refine wp_iload_n (x := v1) dX11_thinksAnew_13 rfl ?_
    refine wp_aload_n (x := 0) dX11_thinksAnew_14 rfl ?_
    refine wp_getR 3 fl_X11_16 (by decide) rfl (kltM kRootM) kRootM (ly11_4 kRootM).1 dX11_thinksAnew_15 ?_
    refine wp_iload_n (x := v1) dX11_thinksAnew_18 rfl ?_
    obtain ⟨c1, h⟩ := chv_some h
    refine wp_ialde (kltM (ly11_4 kRootM).2.1) (ly11_4 kRootM).2.1 (ly11_4 kRootM).2.2 c1 dX11_thinksAnew_19 ?_
    obtain ⟨c1, h⟩ := chv_some h
    obtain ⟨μ1, e1, h⟩ := lt_some h
    refine wp_iaste e1 (kltM (ly11_1 kRootM).2.1) (ly11_1 kRootM).2.1 (ly11_1 kRootM).2.2 c1 dX11_thinksAnew_20 ?_
    refine wp_iinc (x := v1) (k0 := (nI 1)) (L2 := [some (.ref 0), some (.int (v1 + (nI 1)))]) dX11_thinksAnew_21 rfl rfl (by decide) rfl rfl ?_
    refine wp_goto 2 dX11_thinksAnew_24 (by decide) ?_
    obtain rfl := some1 h
    exact hb ((v1 + (nI 1)), μ1) hz
theorem okl_M_thinksAnew_l2 {l : Launch} {d : Nat} (hd : 1 ≤ d) {Q : Option Value → Sh → Mm → Prop} (K : Mm → Prop) (he0 : ∀ (x : Mm) (z1 : Option Value), K x → Wp l SM d (0, 0) mX11_thinksAnew 27 [some (.ref 0), z1] [] x Q) : ∀ (n : Nat) (s : (Int32 × Mm)) (y : Mm) , iter n (fun s => M_thinksAnew_l2 s.1 s.2) s = some y → K y → Wp l SM d (0, 0) mX11_thinksAnew 2 [some (.ref 0), some (.int s.1)] [] s.2 Q := by
  intro n
  induction n with
  | zero => intro s y  h; cases h
  | succ n ih =>
    intro s y  h hK
    obtain ⟨z, hz, hn⟩ := iter_some h
    refine ok_M_thinksAnew_l2 hd s.1 s.2 (fun z => nxt n (fun s => M_thinksAnew_l2 s.1 s.2) z y) ?_ ?_ hz hn
    · intro s2  h2
      exact ih s2 y h2 hK
    · intro x z1 h2
      have h3 : x = y := h2
      subst h3
      exact he0 x _ hK
theorem ok_M_thinksAnew {l : Launch} {d : Nat} (hd : 1 ≤ d) (μ : Mm) {μ' : Mm} (h : M_thinksAnew μ = some μ') : Wp l SM d (0, 0) mX11_thinksAnew 0 [some (.ref 0), none] [] μ (Qv SM μ') := by
  unfold M_thinksAnew at h
  refine wp_iconst (nI 0) dX11_thinksAnew_0 rfl ?_
  refine wp_istore_n (L2 := [some (.ref 0), some (.int (nI 0))]) dX11_thinksAnew_1 (by decide) rfl rfl ?_
  obtain ⟨x2, hi, h⟩ := bni_some h
  refine okl_M_thinksAnew_l2 hd  (fun z => z = x2) ?_ 1000000 ((nI 0), μ) x2 hi rfl
  · intro y0 z1 e0
    have e0 : y0 = x2 := e0
    subst e0
    obtain rfl := ret1 h
    exact wp_vret rfl dX11_thinksAnew_27 ⟨rfl, rfl, rfl⟩
theorem ok_M_endsThought {l : Launch} {d : Nat} (hd : 2 ≤ d) (μ : Mm) {μ' : Mm} (h : M_endsThought μ = some μ') : Wp l SM d (0, 0) mX11_endsThought 0 [some (.ref 0)] [] μ (Qv SM μ') := by
  unfold M_endsThought at h
  refine wp_aload_n (x := 0) dX11_endsThought_0 rfl ?_
  obtain ⟨μ1, g1, h⟩ := bnd_some h
  refine wp_cVv (d := d - 1) (o := 0) cv_X11_102 (kltM kRootM) kRootM (as := []) (rest := []) dX11_endsThought_1 (by omega) cloM rfl rfl (Nat.le_of_ble_eq_true rfl) (Nat.le_of_ble_eq_true rfl) (ok_M_thinksAnew (by omega) μ g1) ?_ rfl
  refine wp_aload_n (x := 0) dX11_endsThought_4 rfl ?_
  refine wp_iconst (nI 0) dX11_endsThought_5 rfl ?_
  obtain ⟨μ2, e1, h⟩ := lt_some h
  refine wp_putZe e1 fl_X11_98 (by decide) rfl (kltM kRootM) kRootM (Or.inl rfl) dX11_endsThought_6 ?_
  obtain rfl := ret1 h
  exact wp_vret rfl dX11_endsThought_9 ⟨rfl, rfl, rfl⟩
theorem ok_M_state {l : Launch} {d : Nat} (hd : 1 ≤ d) (v1 : Int32)  (μ : Mm) {r : Int32} {μ' : Mm} (h : M_state v1 μ = some (r, μ')) : Wp l SM d (0, 0) mX11_state 0 [some (.ref 0), some (.int v1), none] [] μ (Qi SM r μ') := by
  unfold M_state at h
  refine wp_aload_n (x := 0) dX11_state_0 rfl ?_
  refine wp_iconst (nI 0) dX11_state_1 rfl ?_
  obtain ⟨μ1, e1, h⟩ := lt_some h
  refine wp_putIe e1 fl_X11_86 (by decide) rfl (kltM kRootM) kRootM dX11_state_2 ?_
  refine wp_aload_n (x := 0) dX11_state_5 rfl ?_
  refine wp_getR 1 fl_X11_7 (by decide) rfl (kltM kRootM) kRootM (ly11_1 kRootM).1 dX11_state_6 ?_
  refine wp_iconst (nI 1) dX11_state_9 rfl ?_
  obtain ⟨c1, h⟩ := chv_some h
  refine wp_ialde (kltM (ly11_1 kRootM).2.1) (ly11_1 kRootM).2.1 (ly11_1 kRootM).2.2 c1 dX11_state_10 ?_
  refine wp_istore_n (L2 := [some (.ref 0), some (.int v1), some (.int (μ1.1 1 (ix (nI 1))))]) dX11_state_11 (by decide) rfl rfl ?_
  refine wp_aload_n (x := 0) dX11_state_12 rfl ?_
  refine wp_getR 1 fl_X11_7 (by decide) rfl (kltM kRootM) kRootM (ly11_1 kRootM).1 dX11_state_13 ?_
  refine wp_iconst (nI 1) dX11_state_16 rfl ?_
  refine wp_iload_n (x := v1) dX11_state_17 rfl ?_
  obtain ⟨c1, h⟩ := chv_some h
  obtain ⟨μ2, e1, h⟩ := lt_some h
  refine wp_iaste e1 (kltM (ly11_1 kRootM).2.1) (ly11_1 kRootM).2.1 (ly11_1 kRootM).2.2 c1 dX11_state_18 ?_
  refine wp_aload_n (x := 0) dX11_state_19 rfl ?_
  refine wp_iconst (nI 0) dX11_state_20 rfl ?_
  obtain ⟨μ3, e1, h⟩ := lt_some h
  refine wp_putIe e1 fl_X11_89 (by decide) rfl (kltM kRootM) kRootM dX11_state_21 ?_
  refine wp_iload_n (x := (μ1.1 1 (ix (nI 1)))) dX11_state_24 rfl ?_
  obtain ⟨rfl, rfl⟩ := ret2 h
  exact wp_iret rfl dX11_state_25 ⟨rfl, rfl, rfl⟩
theorem ok_M_draw {l : Launch} {d : Nat} (hd : 1 ≤ d) (v1 : Int32)  (μ : Mm) {r : Int32} {μ' : Mm} (h : M_draw v1 μ = some (r, μ')) : Wp l SM d (0, 0) mX11_draw 0 [some (.ref 0), some (.int v1)] [] μ (Qi SM r μ') := by
  unfold M_draw at h
  refine wp_aload_n (x := 0) dX11_draw_0 rfl ?_
  refine wp_getR 1 fl_X11_7 (by decide) rfl (kltM kRootM) kRootM (ly11_1 kRootM).1 dX11_draw_1 ?_
  refine wp_iconst (nI 1) dX11_draw_4 rfl ?_
  refine wp_ldc (v := (nI 1664525)) dX11_draw_5 kc_X11_105 ?_
  refine wp_aload_n (x := 0) dX11_draw_7 rfl ?_
  refine wp_getR 1 fl_X11_7 (by decide) rfl (kltM kRootM) kRootM (ly11_1 kRootM).1 dX11_draw_8 ?_
  refine wp_iconst (nI 1) dX11_draw_11 rfl ?_
  obtain ⟨c1, h⟩ := chv_some h
  refine wp_ialde (kltM (ly11_1 kRootM).2.1) (ly11_1 kRootM).2.1 (ly11_1 kRootM).2.2 c1 dX11_draw_12 ?_
  refine wp_imul dX11_draw_13 ?_
  refine wp_ldc (v := (nI 1013904223)) dX11_draw_14 kc_X11_106 ?_
  refine wp_iadd dX11_draw_16 ?_
  obtain ⟨c1, h⟩ := chv_some h
  obtain ⟨μ1, e1, h⟩ := lt_some h
  refine wp_iaste e1 (kltM (ly11_1 kRootM).2.1) (ly11_1 kRootM).2.1 (ly11_1 kRootM).2.2 c1 dX11_draw_17 ?_
  refine wp_aload_n (x := 0) dX11_draw_18 rfl ?_
  refine wp_getR 1 fl_X11_7 (by decide) rfl (kltM kRootM) kRootM (ly11_1 kRootM).1 dX11_draw_19 ?_
  refine wp_iconst (nI 1) dX11_draw_22 rfl ?_
  obtain ⟨c1, h⟩ := chv_some h
  refine wp_ialde (kltM (ly11_1 kRootM).2.1) (ly11_1 kRootM).2.1 (ly11_1 kRootM).2.2 c1 dX11_draw_23 ?_
  refine wp_bipush (nI 8) dX11_draw_24 rfl ?_
  refine wp_iushr dX11_draw_26 ?_
  refine wp_iload_n (x := v1) dX11_draw_27 rfl ?_
  obtain ⟨c1, h⟩ := chk_some h
  refine wp_irem dX11_draw_28 c1 ?_
  obtain ⟨rfl, rfl⟩ := ret2 h
  exact wp_iret rfl dX11_draw_29 ⟨rfl, rfl, rfl⟩
theorem ok_M_isPerson {l : Launch} {d : Nat} (hd : 1 ≤ d) (v1 : Int32)  (μ : Mm) {r : Int32} (h : M_isPerson v1 μ = some r) : Wp l SM d (0, 0) mX11_isPerson 0 [some (.ref 0), some (.int v1)] [] μ (Qi SM r μ) := by
  unfold M_isPerson at h
  refine wp_iload_n (x := v1) dX11_isPerson_0 rfl ?_
  refine wp_if_lt 16 dX11_isPerson_1 (by decide) (fun c1 => ?_) (fun c1 => ?_)
  · rw [if_pos c1] at h
    refine wp_iconst (nI 0) dX11_isPerson_16 rfl ?_
    obtain rfl := ret1 h
    exact wp_zret rfl (Or.inl rfl) dX11_isPerson_17 ⟨rfl, rfl, rfl⟩
  · rw [if_neg c1] at h
    refine wp_iload_n (x := v1) dX11_isPerson_4 rfl ?_
    refine wp_aload_n (x := 0) dX11_isPerson_5 rfl ?_
    refine wp_getI fl_X11_107 (by decide) rfl (kltM kRootM) kRootM dX11_isPerson_6 ?_
    refine wp_icmp_ge 16 dX11_isPerson_9 (by decide) (fun c1 => ?_) (fun c1 => ?_)
    · rw [if_pos c1] at h
      refine wp_iconst (nI 0) dX11_isPerson_16 rfl ?_
      obtain rfl := ret1 h
      exact wp_zret rfl (Or.inl rfl) dX11_isPerson_17 ⟨rfl, rfl, rfl⟩
    · rw [if_neg c1] at h
      refine wp_iconst (nI 1) dX11_isPerson_12 rfl ?_
      refine wp_goto 17 dX11_isPerson_13 (by decide) ?_
      obtain rfl := ret1 h
      exact wp_zret rfl (Or.inr rfl) dX11_isPerson_17 ⟨rfl, rfl, rfl⟩
theorem ok_M_isVersion {l : Launch} {d : Nat} (hd : 1 ≤ d) (v1 : Int32)  (μ : Mm) {r : Int32} (h : M_isVersion v1 μ = some r) : Wp l SM d (0, 0) mX11_isVersion 0 [some (.ref 0), some (.int v1)] [] μ (Qi SM r μ) := by
  unfold M_isVersion at h
  refine wp_iload_n (x := v1) dX11_isVersion_0 rfl ?_
  refine wp_if_lt 19 dX11_isVersion_1 (by decide) (fun c1 => ?_) (fun c1 => ?_)
  · rw [if_pos c1] at h
    refine wp_iconst (nI 0) dX11_isVersion_19 rfl ?_
    obtain rfl := ret1 h
    exact wp_zret rfl (Or.inl rfl) dX11_isVersion_20 ⟨rfl, rfl, rfl⟩
  · rw [if_neg c1] at h
    refine wp_iload_n (x := v1) dX11_isVersion_4 rfl ?_
    refine wp_aload_n (x := 0) dX11_isVersion_5 rfl ?_
    refine wp_getR 1 fl_X11_7 (by decide) rfl (kltM kRootM) kRootM (ly11_1 kRootM).1 dX11_isVersion_6 ?_
    refine wp_bipush (nI 6) dX11_isVersion_9 rfl ?_
    obtain ⟨c1, h⟩ := chv_some h
    refine wp_ialde (kltM (ly11_1 kRootM).2.1) (ly11_1 kRootM).2.1 (ly11_1 kRootM).2.2 c1 dX11_isVersion_11 ?_
    refine wp_icmp_ge 19 dX11_isVersion_12 (by decide) (fun c1 => ?_) (fun c1 => ?_)
    · rw [if_pos c1] at h
      refine wp_iconst (nI 0) dX11_isVersion_19 rfl ?_
      obtain rfl := ret1 h
      exact wp_zret rfl (Or.inl rfl) dX11_isVersion_20 ⟨rfl, rfl, rfl⟩
    · rw [if_neg c1] at h
      refine wp_iconst (nI 1) dX11_isVersion_15 rfl ?_
      refine wp_goto 20 dX11_isVersion_16 (by decide) ?_
      obtain rfl := ret1 h
      exact wp_zret rfl (Or.inr rfl) dX11_isVersion_20 ⟨rfl, rfl, rfl⟩
theorem ok_M_isStopped {l : Launch} {d : Nat} (hd : 1 ≤ d) (v1 : Int32)  (μ : Mm) {r : Int32} (h : M_isStopped v1 μ = some r) : Wp l SM d (0, 0) mX11_isStopped 0 [some (.ref 0), some (.int v1)] [] μ (Qi SM r μ) := by
  unfold M_isStopped at h
  refine wp_aload_n (x := 0) dX11_isStopped_0 rfl ?_
  refine wp_getI fl_X11_110 (by decide) rfl (kltM kRootM) kRootM dX11_isStopped_1 ?_
  refine wp_iload_n (x := v1) dX11_isStopped_4 rfl ?_
  refine wp_ishr dX11_isStopped_5 ?_
  refine wp_iconst (nI 1) dX11_isStopped_6 rfl ?_
  refine wp_iand dX11_isStopped_7 ?_
  refine wp_iconst (nI 1) dX11_isStopped_8 rfl ?_
  refine wp_icmp_ne 16 dX11_isStopped_9 (by decide) (fun c1 => ?_) (fun c1 => ?_)
  · rw [if_neg c1] at h
    refine wp_iconst (nI 0) dX11_isStopped_16 rfl ?_
    obtain rfl := ret1 h
    exact wp_zret rfl (Or.inl rfl) dX11_isStopped_17 ⟨rfl, rfl, rfl⟩
  · rw [if_pos c1] at h
    refine wp_iconst (nI 1) dX11_isStopped_12 rfl ?_
    refine wp_goto 17 dX11_isStopped_13 (by decide) ?_
    obtain rfl := ret1 h
    exact wp_zret rfl (Or.inr rfl) dX11_isStopped_17 ⟨rfl, rfl, rfl⟩
theorem ok_M_person {l : Launch} {d : Nat} (hd : 2 ≤ d) (v1 : Int32)  (v2 : Int32)  (v3 : Int32)  (μ : Mm) {r : Int32} {μ' : Mm} (h : M_person v1 v2 v3 μ = some (r, μ')) : Wp l SM d (0, 0) mX11_person 0 [some (.ref 0), some (.int v1), some (.int v2), some (.int v3), none] [] μ (Qi SM r μ') := by
  unfold M_person at h
  refine wp_aload_n (x := 0) dX11_person_0 rfl ?_
  refine wp_iconst (nI 0) dX11_person_1 rfl ?_
  obtain ⟨μ1, e1, h⟩ := lt_some h
  refine wp_putIe e1 fl_X11_86 (by decide) rfl (kltM kRootM) kRootM dX11_person_2 ?_
  refine wp_aload_n (x := 0) dX11_person_5 rfl ?_
  refine wp_iload_n (x := v1) dX11_person_6 rfl ?_
  refine wp_iconst (nI 0) dX11_person_7 rfl ?_
  refine wp_iconst (nI 5) dX11_person_8 rfl ?_
  obtain ⟨r2, g1, h⟩ := bnd_some h
  refine wp_cVi (d := d - 1) (o := 0) cv_X11_113 (kltM kRootM) kRootM (as := [.int v1, .int (nI 0), .int (nI 5)]) (rest := []) dX11_person_9 (by omega) cloM rfl rfl (Nat.le_of_ble_eq_true rfl) (Nat.le_of_ble_eq_true rfl) (ok_M_isIn (by omega) v1 (nI 0) (nI 5) μ1 g1) ?_ rfl
  refine wp_if_eq 45 dX11_person_12 (by decide) (fun c1 => ?_) (fun c1 => ?_)
  · rw [if_pos c1] at h
    refine wp_iconst (-1) dX11_person_45 rfl ?_
    obtain ⟨rfl, rfl⟩ := ret2 h
    exact wp_iret rfl dX11_person_46 ⟨rfl, rfl, rfl⟩
  · rw [if_neg c1] at h
    refine wp_aload_n (x := 0) dX11_person_15 rfl ?_
    refine wp_iload_n (x := v2) dX11_person_16 rfl ?_
    refine wp_iconst (nI 0) dX11_person_17 rfl ?_
    refine wp_iconst (nI 2) dX11_person_18 rfl ?_
    obtain ⟨r3, g1, h⟩ := bnd_some h
    refine wp_cVi (d := d - 1) (o := 0) cv_X11_113 (kltM kRootM) kRootM (as := [.int v2, .int (nI 0), .int (nI 2)]) (rest := []) dX11_person_19 (by omega) cloM rfl rfl (Nat.le_of_ble_eq_true rfl) (Nat.le_of_ble_eq_true rfl) (ok_M_isIn (by omega) v2 (nI 0) (nI 2) μ1 g1) ?_ rfl
    refine wp_if_eq 45 dX11_person_22 (by decide) (fun c1 => ?_) (fun c1 => ?_)
    · rw [if_pos c1] at h
      refine wp_iconst (-1) dX11_person_45 rfl ?_
      obtain ⟨rfl, rfl⟩ := ret2 h
      exact wp_iret rfl dX11_person_46 ⟨rfl, rfl, rfl⟩
    · rw [if_neg c1] at h
      refine wp_aload_n (x := 0) dX11_person_25 rfl ?_
      refine wp_iload_n (x := v3) dX11_person_26 rfl ?_
      refine wp_iconst (nI 0) dX11_person_27 rfl ?_
      refine wp_bipush (nI 99) dX11_person_28 rfl ?_
      obtain ⟨r4, g1, h⟩ := bnd_some h
      refine wp_cVi (d := d - 1) (o := 0) cv_X11_113 (kltM kRootM) kRootM (as := [.int v3, .int (nI 0), .int (nI 99)]) (rest := []) dX11_person_30 (by omega) cloM rfl rfl (Nat.le_of_ble_eq_true rfl) (Nat.le_of_ble_eq_true rfl) (ok_M_isIn (by omega) v3 (nI 0) (nI 99) μ1 g1) ?_ rfl
      refine wp_if_eq 45 dX11_person_33 (by decide) (fun c1 => ?_) (fun c1 => ?_)
      · rw [if_pos c1] at h
        refine wp_iconst (-1) dX11_person_45 rfl ?_
        obtain ⟨rfl, rfl⟩ := ret2 h
        exact wp_iret rfl dX11_person_46 ⟨rfl, rfl, rfl⟩
      · rw [if_neg c1] at h
        refine wp_aload_n (x := 0) dX11_person_36 rfl ?_
        refine wp_getI fl_X11_107 (by decide) rfl (kltM kRootM) kRootM dX11_person_37 ?_
        refine wp_bipush (nI 16) dX11_person_40 rfl ?_
        refine wp_icmp_ne 47 dX11_person_42 (by decide) (fun c1 => ?_) (fun c1 => ?_)
        · rw [if_neg c1] at h
          refine wp_aload_n (x := 0) dX11_person_47 rfl ?_
          refine wp_getI fl_X11_107 (by decide) rfl (kltM kRootM) kRootM dX11_person_48 ?_
          refine wp_istore (L2 := [some (.ref 0), some (.int v1), some (.int v2), some (.int v3), some (.int (μ1.1 0 6))]) dX11_person_51 (by decide) rfl rfl ?_
          refine wp_aload_n (x := 0) dX11_person_53 rfl ?_
          refine wp_getR 4 fl_X11_19 (by decide) rfl (kltM kRootM) kRootM (ly11_7 kRootM).1 dX11_person_54 ?_
          refine wp_iload (x := (μ1.1 0 6)) dX11_person_57 rfl ?_
          refine wp_iload_n (x := v1) dX11_person_59 rfl ?_
          obtain ⟨c1, h⟩ := chv_some h
          obtain ⟨μ5, e1, h⟩ := lt_some h
          refine wp_iaste e1 (kltM (ly11_7 kRootM).2.1) (ly11_7 kRootM).2.1 (ly11_7 kRootM).2.2 c1 dX11_person_60 ?_
          refine wp_aload_n (x := 0) dX11_person_61 rfl ?_
          refine wp_getR 5 fl_X11_22 (by decide) rfl (kltM kRootM) kRootM (ly11_8 kRootM).1 dX11_person_62 ?_
          refine wp_iload (x := (μ1.1 0 6)) dX11_person_65 rfl ?_
          refine wp_iload_n (x := v2) dX11_person_67 rfl ?_
          obtain ⟨c1, h⟩ := chv_some h
          obtain ⟨μ6, e1, h⟩ := lt_some h
          refine wp_iaste e1 (kltM (ly11_8 kRootM).2.1) (ly11_8 kRootM).2.1 (ly11_8 kRootM).2.2 c1 dX11_person_68 ?_
          refine wp_aload_n (x := 0) dX11_person_69 rfl ?_
          refine wp_getR 6 fl_X11_25 (by decide) rfl (kltM kRootM) kRootM (ly11_9 kRootM).1 dX11_person_70 ?_
          refine wp_iload (x := (μ1.1 0 6)) dX11_person_73 rfl ?_
          refine wp_iload_n (x := v3) dX11_person_75 rfl ?_
          obtain ⟨c1, h⟩ := chv_some h
          obtain ⟨μ7, e1, h⟩ := lt_some h
          refine wp_iaste e1 (kltM (ly11_9 kRootM).2.1) (ly11_9 kRootM).2.1 (ly11_9 kRootM).2.2 c1 dX11_person_76 ?_
          refine wp_aload_n (x := 0) dX11_person_77 rfl ?_
          refine wp_aload_n (x := 0) dX11_person_78 rfl ?_
          refine wp_getI fl_X11_110 (by decide) rfl (kltM kRootM) kRootM dX11_person_79 ?_
          refine wp_iconst (nI 1) dX11_person_82 rfl ?_
          refine wp_iload (x := (μ1.1 0 6)) dX11_person_83 rfl ?_
          refine wp_ishl dX11_person_85 ?_
          refine wp_iconst (-1) dX11_person_86 rfl ?_
          refine wp_ixor dX11_person_87 ?_
          refine wp_iand dX11_person_88 ?_
          obtain ⟨μ8, e1, h⟩ := lt_some h
          refine wp_putIe e1 fl_X11_110 (by decide) rfl (kltM kRootM) kRootM dX11_person_89 ?_
          refine wp_aload_n (x := 0) dX11_person_92 rfl ?_
          refine wp_getR 7 fl_X11_28 (by decide) rfl (kltM kRootM) kRootM (ly11_11 kRootM).1 dX11_person_93 ?_
          refine wp_iload (x := (μ1.1 0 6)) dX11_person_96 rfl ?_
          refine wp_iconst (nI 0) dX11_person_98 rfl ?_
          obtain ⟨c1, h⟩ := chv_some h
          obtain ⟨μ9, e1, h⟩ := lt_some h
          refine wp_iaste e1 (kltM (ly11_11 kRootM).2.1) (ly11_11 kRootM).2.1 (ly11_11 kRootM).2.2 c1 dX11_person_99 ?_
          refine wp_aload_n (x := 0) dX11_person_100 rfl ?_
          refine wp_getR 1 fl_X11_7 (by decide) rfl (kltM kRootM) kRootM (ly11_1 kRootM).1 dX11_person_101 ?_
          refine wp_sipush (nI 167) dX11_person_104 rfl ?_
          refine wp_iload (x := (μ1.1 0 6)) dX11_person_107 rfl ?_
          refine wp_iadd dX11_person_109 ?_
          refine wp_iconst (nI 0) dX11_person_110 rfl ?_
          obtain ⟨c1, h⟩ := chv_some h
          obtain ⟨μ10, e1, h⟩ := lt_some h
          refine wp_iaste e1 (kltM (ly11_1 kRootM).2.1) (ly11_1 kRootM).2.1 (ly11_1 kRootM).2.2 c1 dX11_person_111 ?_
          refine wp_aload_n (x := 0) dX11_person_112 rfl ?_
          refine wp_getR 1 fl_X11_7 (by decide) rfl (kltM kRootM) kRootM (ly11_1 kRootM).1 dX11_person_113 ?_
          refine wp_sipush (nI 183) dX11_person_116 rfl ?_
          refine wp_iload (x := (μ1.1 0 6)) dX11_person_119 rfl ?_
          refine wp_iadd dX11_person_121 ?_
          refine wp_iconst (nI 0) dX11_person_122 rfl ?_
          obtain ⟨c1, h⟩ := chv_some h
          obtain ⟨μ11, e1, h⟩ := lt_some h
          refine wp_iaste e1 (kltM (ly11_1 kRootM).2.1) (ly11_1 kRootM).2.1 (ly11_1 kRootM).2.2 c1 dX11_person_123 ?_
          refine wp_aload_n (x := 0) dX11_person_124 rfl ?_
          refine wp_getR 1 fl_X11_7 (by decide) rfl (kltM kRootM) kRootM (ly11_1 kRootM).1 dX11_person_125 ?_
          refine wp_sipush (nI 199) dX11_person_128 rfl ?_
          refine wp_iload (x := (μ1.1 0 6)) dX11_person_131 rfl ?_
          refine wp_iadd dX11_person_133 ?_
          refine wp_iconst (nI 0) dX11_person_134 rfl ?_
          obtain ⟨c1, h⟩ := chv_some h
          obtain ⟨μ12, e1, h⟩ := lt_some h
          refine wp_iaste e1 (kltM (ly11_1 kRootM).2.1) (ly11_1 kRootM).2.1 (ly11_1 kRootM).2.2 c1 dX11_person_135 ?_
          refine wp_aload_n (x := 0) dX11_person_136 rfl ?_
          refine wp_getR 1 fl_X11_7 (by decide) rfl (kltM kRootM) kRootM (ly11_1 kRootM).1 dX11_person_137 ?_
          refine wp_sipush (nI 215) dX11_person_140 rfl ?_
          refine wp_iload (x := (μ1.1 0 6)) dX11_person_143 rfl ?_
          refine wp_iadd dX11_person_145 ?_
          refine wp_iconst (nI 0) dX11_person_146 rfl ?_
          obtain ⟨c1, h⟩ := chv_some h
          obtain ⟨μ13, e1, h⟩ := lt_some h
          refine wp_iaste e1 (kltM (ly11_1 kRootM).2.1) (ly11_1 kRootM).2.1 (ly11_1 kRootM).2.2 c1 dX11_person_147 ?_
          refine wp_aload_n (x := 0) dX11_person_148 rfl ?_
          refine wp_getR 1 fl_X11_7 (by decide) rfl (kltM kRootM) kRootM (ly11_1 kRootM).1 dX11_person_149 ?_
          refine wp_sipush (nI 231) dX11_person_152 rfl ?_
          refine wp_iload (x := (μ1.1 0 6)) dX11_person_155 rfl ?_
          refine wp_iadd dX11_person_157 ?_
          refine wp_iconst (nI 0) dX11_person_158 rfl ?_
          obtain ⟨c1, h⟩ := chv_some h
          obtain ⟨μ14, e1, h⟩ := lt_some h
          refine wp_iaste e1 (kltM (ly11_1 kRootM).2.1) (ly11_1 kRootM).2.1 (ly11_1 kRootM).2.2 c1 dX11_person_159 ?_
          refine wp_aload_n (x := 0) dX11_person_160 rfl ?_
          refine wp_getR 1 fl_X11_7 (by decide) rfl (kltM kRootM) kRootM (ly11_1 kRootM).1 dX11_person_161 ?_
          refine wp_sipush (nI 247) dX11_person_164 rfl ?_
          refine wp_iload (x := (μ1.1 0 6)) dX11_person_167 rfl ?_
          refine wp_iadd dX11_person_169 ?_
          refine wp_iconst (nI 0) dX11_person_170 rfl ?_
          obtain ⟨c1, h⟩ := chv_some h
          obtain ⟨μ15, e1, h⟩ := lt_some h
          refine wp_iaste e1 (kltM (ly11_1 kRootM).2.1) (ly11_1 kRootM).2.1 (ly11_1 kRootM).2.2 c1 dX11_person_171 ?_
          refine wp_aload_n (x := 0) dX11_person_172 rfl ?_
          refine wp_getR 1 fl_X11_7 (by decide) rfl (kltM kRootM) kRootM (ly11_1 kRootM).1 dX11_person_173 ?_
          refine wp_sipush (nI 263) dX11_person_176 rfl ?_
          refine wp_iload (x := (μ1.1 0 6)) dX11_person_179 rfl ?_
          refine wp_iadd dX11_person_181 ?_
          refine wp_iconst (nI 0) dX11_person_182 rfl ?_
          obtain ⟨c1, h⟩ := chv_some h
          obtain ⟨μ16, e1, h⟩ := lt_some h
          refine wp_iaste e1 (kltM (ly11_1 kRootM).2.1) (ly11_1 kRootM).2.1 (ly11_1 kRootM).2.2 c1 dX11_person_183 ?_
          refine wp_aload_n (x := 0) dX11_person_184 rfl ?_
          refine wp_aload_n (x := 0) dX11_person_185 rfl ?_
          refine wp_getI fl_X11_107 (by decide) rfl (kltM kRootM) kRootM dX11_person_186 ?_
          refine wp_iconst (nI 1) dX11_person_189 rfl ?_
          refine wp_iadd dX11_person_190 ?_
          obtain ⟨μ17, e1, h⟩ := lt_some h
          refine wp_putIe e1 fl_X11_107 (by decide) rfl (kltM kRootM) kRootM dX11_person_191 ?_
          refine wp_aload_n (x := 0) dX11_person_194 rfl ?_
          refine wp_iconst (nI 0) dX11_person_195 rfl ?_
          obtain ⟨μ18, e1, h⟩ := lt_some h
          refine wp_putIe e1 fl_X11_89 (by decide) rfl (kltM kRootM) kRootM dX11_person_196 ?_
          refine wp_iload (x := (μ1.1 0 6)) dX11_person_199 rfl ?_
          obtain ⟨rfl, rfl⟩ := ret2 h
          exact wp_iret rfl dX11_person_201 ⟨rfl, rfl, rfl⟩
        · rw [if_pos c1] at h
          refine wp_iconst (-1) dX11_person_45 rfl ?_
          obtain ⟨rfl, rfl⟩ := ret2 h
          exact wp_iret rfl dX11_person_46 ⟨rfl, rfl, rfl⟩
theorem ok_M_mostOf {l : Launch} {d : Nat} (hd : 1 ≤ d) (v1 : Int32)  (μ : Mm) {r : Int32} (h : M_mostOf v1 = some r) : Wp l SM d (0, 0) mX11_mostOf 0 [some (.ref 0), some (.int v1)] [] μ (Qi SM r μ) := by
  unfold M_mostOf at h
  refine wp_iload_n (x := v1) dX11_mostOf_0 rfl ?_
  refine wp_if_ne 6 dX11_mostOf_1 (by decide) (fun c1 => ?_) (fun c1 => ?_)
  · rw [if_neg c1] at h
    refine wp_iload_n (x := v1) dX11_mostOf_6 rfl ?_
    refine wp_iconst (nI 1) dX11_mostOf_7 rfl ?_
    refine wp_icmp_ne 13 dX11_mostOf_8 (by decide) (fun c1 => ?_) (fun c1 => ?_)
    · rw [if_neg c1] at h
      refine wp_iload_n (x := v1) dX11_mostOf_13 rfl ?_
      refine wp_iconst (nI 4) dX11_mostOf_14 rfl ?_
      refine wp_icmp_ne 22 dX11_mostOf_15 (by decide) (fun c1 => ?_) (fun c1 => ?_)
      · rw [if_neg c1] at h
        refine wp_iload_n (x := v1) dX11_mostOf_22 rfl ?_
        refine wp_iconst (nI 5) dX11_mostOf_23 rfl ?_
        refine wp_icmp_eq 33 dX11_mostOf_24 (by decide) (fun c1 => ?_) (fun c1 => ?_)
        · rw [if_pos c1] at h
          refine wp_iconst (nI 1) dX11_mostOf_33 rfl ?_
          obtain rfl := ret1 h
          exact wp_iret rfl dX11_mostOf_34 ⟨rfl, rfl, rfl⟩
        · rw [if_neg c1] at h
          refine wp_iload_n (x := v1) dX11_mostOf_27 rfl ?_
          refine wp_bipush (nI 9) dX11_mostOf_28 rfl ?_
          refine wp_icmp_ne 35 dX11_mostOf_30 (by decide) (fun c1 => ?_) (fun c1 => ?_)
          · rw [if_neg c1] at h
            refine wp_iload_n (x := v1) dX11_mostOf_35 rfl ?_
            refine wp_bipush (nI 6) dX11_mostOf_36 rfl ?_
            refine wp_icmp_ne 44 dX11_mostOf_38 (by decide) (fun c1 => ?_) (fun c1 => ?_)
            · rw [if_neg c1] at h
              refine wp_iload_n (x := v1) dX11_mostOf_44 rfl ?_
              refine wp_bipush (nI 7) dX11_mostOf_45 rfl ?_
              refine wp_icmp_ne 55 dX11_mostOf_47 (by decide) (fun c1 => ?_) (fun c1 => ?_)
              · rw [if_neg c1] at h
                refine wp_iload_n (x := v1) dX11_mostOf_55 rfl ?_
                refine wp_bipush (nI 8) dX11_mostOf_56 rfl ?_
                refine wp_icmp_ne 67 dX11_mostOf_58 (by decide) (fun c1 => ?_) (fun c1 => ?_)
                · rw [if_neg c1] at h
                  refine wp_bipush (nI 99) dX11_mostOf_67 rfl ?_
                  obtain rfl := ret1 h
                  exact wp_iret rfl dX11_mostOf_69 ⟨rfl, rfl, rfl⟩
                · rw [if_pos c1] at h
                  refine wp_sipush (nI 1000) dX11_mostOf_61 rfl ?_
                  refine wp_goto 69 dX11_mostOf_64 (by decide) ?_
                  obtain rfl := ret1 h
                  exact wp_iret rfl dX11_mostOf_69 ⟨rfl, rfl, rfl⟩
              · rw [if_pos c1] at h
                refine wp_bipush (nI 20) dX11_mostOf_50 rfl ?_
                refine wp_goto 69 dX11_mostOf_52 (by decide) ?_
                obtain rfl := ret1 h
                exact wp_iret rfl dX11_mostOf_69 ⟨rfl, rfl, rfl⟩
            · rw [if_pos c1] at h
              refine wp_bipush (nI 9) dX11_mostOf_41 rfl ?_
              obtain rfl := ret1 h
              exact wp_iret rfl dX11_mostOf_43 ⟨rfl, rfl, rfl⟩
          · rw [if_pos c1] at h
            refine wp_iconst (nI 1) dX11_mostOf_33 rfl ?_
            obtain rfl := ret1 h
            exact wp_iret rfl dX11_mostOf_34 ⟨rfl, rfl, rfl⟩
      · rw [if_pos c1] at h
        refine wp_sipush (nI 9999) dX11_mostOf_18 rfl ?_
        obtain rfl := ret1 h
        exact wp_iret rfl dX11_mostOf_21 ⟨rfl, rfl, rfl⟩
    · rw [if_pos c1] at h
      refine wp_iconst (nI 2) dX11_mostOf_11 rfl ?_
      obtain rfl := ret1 h
      exact wp_iret rfl dX11_mostOf_12 ⟨rfl, rfl, rfl⟩
  · rw [if_pos c1] at h
    refine wp_iconst (nI 5) dX11_mostOf_4 rfl ?_
    obtain rfl := ret1 h
    exact wp_iret rfl dX11_mostOf_5 ⟨rfl, rfl, rfl⟩
theorem ok_M_canSet_j46 {l : Launch} {d : Nat} (hd : 2 ≤ d) (v1 : Int32)  (s1 : Int32) (s2 : Int32) (μ : Mm) (z2 : Option Value) (z3 : Option Value) {r : Int32} (h : M_canSet_j46 v1 s1 s2 μ = some r) : Wp l SM d (0, 0) mX11_canSet 46 [some (.ref 0), some (.int v1), z2, z3] [.int s2, .int s1, .ref 0] μ (Qi SM r μ) := by
  unfold M_canSet_j46 at h
  refine wp_aload_n (x := 0) dX11_canSet_46 rfl ?_
  refine wp_iload_n (x := v1) dX11_canSet_47 rfl ?_
  obtain ⟨r2, g1, h⟩ := bnd_some h
  refine wp_cVi (d := d - 1) (o := 0) cv_X11_121 (kltM kRootM) kRootM (as := [.int v1]) (rest := [.int s2, .int s1, .ref 0]) dX11_canSet_48 (by omega) cloM rfl rfl (Nat.le_of_ble_eq_true rfl) (Nat.le_of_ble_eq_true rfl) (ok_M_mostOf (by omega) v1 μ g1) ?_ rfl
  obtain ⟨r3, g1, h⟩ := bnd_some h
  refine wp_cVi (d := d - 1) (o := 0) cv_X11_113 (kltM kRootM) kRootM (as := [.int s1, .int s2, .int r2]) (rest := []) dX11_canSet_51 (by omega) cloM rfl rfl (Nat.le_of_ble_eq_true rfl) (Nat.le_of_ble_eq_true rfl) (ok_M_isIn (by omega) s1 s2 r2 μ g1) ?_ rfl
  obtain ⟨c1, h⟩ := chk_some h
  obtain rfl := ret1 h
  exact wp_zret rfl c1 dX11_canSet_54 ⟨rfl, rfl, rfl⟩
theorem ok_M_canSet_j41 {l : Launch} {d : Nat} (hd : 2 ≤ d) (v1 : Int32)  (s1 : Int32) (μ : Mm) (z2 : Option Value) (z3 : Option Value) {r : Int32} (h : M_canSet_j41 v1 s1 μ = some r) : Wp l SM d (0, 0) mX11_canSet 41 [some (.ref 0), some (.int v1), z2, z3] [.int s1, .ref 0] μ (Qi SM r μ) := by
  unfold M_canSet_j41 at h
  refine wp_iconst (nI 1) dX11_canSet_41 rfl ?_
  refine wp_goto 46 dX11_canSet_42 (by decide) ?_
  exact ok_M_canSet_j46 hd v1 s1 (nI 1) μ _ _ h
theorem ok_M_canSet_j27 {l : Launch} {d : Nat} (hd : 2 ≤ d) (v1 : Int32)  (v3 : Int32)  (μ : Mm) (z2 : Option Value) {r : Int32} (h : M_canSet_j27 v1 v3 μ = some r) : Wp l SM d (0, 0) mX11_canSet 27 [some (.ref 0), some (.int v1), z2, some (.int v3)] [] μ (Qi SM r μ) := by
  unfold M_canSet_j27 at h
  refine wp_aload_n (x := 0) dX11_canSet_27 rfl ?_
  refine wp_iload_n (x := v3) dX11_canSet_28 rfl ?_
  refine wp_iload_n (x := v1) dX11_canSet_29 rfl ?_
  refine wp_bipush (nI 6) dX11_canSet_30 rfl ?_
  refine wp_icmp_eq 41 dX11_canSet_32 (by decide) (fun c1 => ?_) (fun c1 => ?_)
  · rw [if_pos c1] at h
    exact ok_M_canSet_j41 hd v1 v3 μ _ _ h
  · rw [if_neg c1] at h
    refine wp_iload_n (x := v1) dX11_canSet_35 rfl ?_
    refine wp_bipush (nI 7) dX11_canSet_36 rfl ?_
    refine wp_icmp_ne 45 dX11_canSet_38 (by decide) (fun c1 => ?_) (fun c1 => ?_)
    · rw [if_neg c1] at h
      refine wp_iconst (nI 0) dX11_canSet_45 rfl ?_
      exact ok_M_canSet_j46 hd v1 v3 (nI 0) μ _ _ h
    · rw [if_pos c1] at h
      exact ok_M_canSet_j41 hd v1 v3 μ _ _ h
theorem ok_M_canSet {l : Launch} {d : Nat} (hd : 2 ≤ d) (v1 : Int32)  (v2 : Int32)  (v3 : Int32)  (μ : Mm) {r : Int32} (h : M_canSet v1 v2 v3 μ = some r) : Wp l SM d (0, 0) mX11_canSet 0 [some (.ref 0), some (.int v1), some (.int v2), some (.int v3)] [] μ (Qi SM r μ) := by
  unfold M_canSet at h
  refine wp_aload_n (x := 0) dX11_canSet_0 rfl ?_
  refine wp_iload_n (x := v1) dX11_canSet_1 rfl ?_
  refine wp_iconst (nI 0) dX11_canSet_2 rfl ?_
  refine wp_bipush (nI 9) dX11_canSet_3 rfl ?_
  obtain ⟨r1, g1, h⟩ := bnd_some h
  refine wp_cVi (d := d - 1) (o := 0) cv_X11_113 (kltM kRootM) kRootM (as := [.int v1, .int (nI 0), .int (nI 9)]) (rest := []) dX11_canSet_5 (by omega) cloM rfl rfl (Nat.le_of_ble_eq_true rfl) (Nat.le_of_ble_eq_true rfl) (ok_M_isIn (by omega) v1 (nI 0) (nI 9) μ g1) ?_ rfl
  refine wp_if_eq 25 dX11_canSet_8 (by decide) (fun c1 => ?_) (fun c1 => ?_)
  · rw [if_pos c1] at h
    refine wp_iconst (nI 0) dX11_canSet_25 rfl ?_
    obtain rfl := ret1 h
    exact wp_zret rfl (Or.inl rfl) dX11_canSet_26 ⟨rfl, rfl, rfl⟩
  · rw [if_neg c1] at h
    refine wp_iload_n (x := v1) dX11_canSet_11 rfl ?_
    refine wp_bipush (nI 6) dX11_canSet_12 rfl ?_
    refine wp_icmp_ge 27 dX11_canSet_14 (by decide) (fun c1 => ?_) (fun c1 => ?_)
    · rw [if_pos c1] at h
      exact ok_M_canSet_j27 hd v1 v3 μ _ h
    · rw [if_neg c1] at h
      refine wp_aload_n (x := 0) dX11_canSet_17 rfl ?_
      refine wp_iload_n (x := v2) dX11_canSet_18 rfl ?_
      obtain ⟨r4, g1, h⟩ := bnd_some h
      refine wp_cVi (d := d - 1) (o := 0) cv_X11_117 (kltM kRootM) kRootM (as := [.int v2]) (rest := []) dX11_canSet_19 (by omega) cloM rfl rfl (Nat.le_of_ble_eq_true rfl) (Nat.le_of_ble_eq_true rfl) (ok_M_isPerson (by omega) v2 μ g1) ?_ rfl
      refine wp_if_ne 27 dX11_canSet_22 (by decide) (fun c1 => ?_) (fun c1 => ?_)
      · rw [if_neg c1] at h
        exact ok_M_canSet_j27 hd v1 v3 μ _ h
      · rw [if_pos c1] at h
        refine wp_iconst (nI 0) dX11_canSet_25 rfl ?_
        obtain rfl := ret1 h
        exact wp_zret rfl (Or.inl rfl) dX11_canSet_26 ⟨rfl, rfl, rfl⟩
theorem ok_M_set_j157 {l : Launch} {d : Nat} (hd : 3 ≤ d) (μ : Mm) (z1 : Option Value) (z2 : Option Value) (z3 : Option Value) {r : Int32} {μ' : Mm} (h : M_set_j157 μ = some (r, μ')) : Wp l SM d (0, 0) mX11_set 157 [some (.ref 0), z1, z2, z3] [] μ (Qi SM r μ') := by
  unfold M_set_j157 at h
  refine wp_aload_n (x := 0) dX11_set_157 rfl ?_
  refine wp_iconst (nI 0) dX11_set_158 rfl ?_
  obtain ⟨μ3, e1, h⟩ := lt_some h
  refine wp_putIe e1 fl_X11_89 (by decide) rfl (kltM kRootM) kRootM dX11_set_159 ?_
  refine wp_iconst (nI 1) dX11_set_162 rfl ?_
  obtain ⟨rfl, rfl⟩ := ret2 h
  exact wp_zret rfl (Or.inr rfl) dX11_set_163 ⟨rfl, rfl, rfl⟩
theorem ok_M_set_j146 {l : Launch} {d : Nat} (hd : 3 ≤ d) (v1 : Int32)  (v3 : Int32)  (μ : Mm) (z2 : Option Value) {r : Int32} {μ' : Mm} (h : M_set_j146 v1 v3 μ = some (r, μ')) : Wp l SM d (0, 0) mX11_set 146 [some (.ref 0), some (.int v1), z2, some (.int v3)] [] μ (Qi SM r μ') := by
  unfold M_set_j146 at h
  refine wp_iload_n (x := v1) dX11_set_146 rfl ?_
  refine wp_bipush (nI 9) dX11_set_147 rfl ?_
  refine wp_icmp_ne 157 dX11_set_149 (by decide) (fun c1 => ?_) (fun c1 => ?_)
  · rw [if_neg c1] at h
    exact ok_M_set_j157 hd μ _ _ _ h
  · rw [if_pos c1] at h
    refine wp_aload_n (x := 0) dX11_set_152 rfl ?_
    refine wp_iload_n (x := v3) dX11_set_153 rfl ?_
    obtain ⟨μ4, e1, h⟩ := lt_some h
    refine wp_putIe e1 fl_X11_137 (by decide) rfl (kltM kRootM) kRootM dX11_set_154 ?_
    exact ok_M_set_j157 hd μ4 _ _ _ h
theorem ok_M_set_j135 {l : Launch} {d : Nat} (hd : 3 ≤ d) (v1 : Int32)  (v3 : Int32)  (μ : Mm) (z2 : Option Value) {r : Int32} {μ' : Mm} (h : M_set_j135 v1 v3 μ = some (r, μ')) : Wp l SM d (0, 0) mX11_set 135 [some (.ref 0), some (.int v1), z2, some (.int v3)] [] μ (Qi SM r μ') := by
  unfold M_set_j135 at h
  refine wp_iload_n (x := v1) dX11_set_135 rfl ?_
  refine wp_bipush (nI 8) dX11_set_136 rfl ?_
  refine wp_icmp_ne 146 dX11_set_138 (by decide) (fun c1 => ?_) (fun c1 => ?_)
  · rw [if_neg c1] at h
    exact ok_M_set_j146 hd v1 v3 μ _ h
  · rw [if_pos c1] at h
    refine wp_aload_n (x := 0) dX11_set_141 rfl ?_
    refine wp_iload_n (x := v3) dX11_set_142 rfl ?_
    obtain ⟨μ5, e1, h⟩ := lt_some h
    refine wp_putIe e1 fl_X11_134 (by decide) rfl (kltM kRootM) kRootM dX11_set_143 ?_
    exact ok_M_set_j146 hd v1 v3 μ5 _ h
theorem ok_M_set_j121 {l : Launch} {d : Nat} (hd : 3 ≤ d) (v1 : Int32)  (v3 : Int32)  (μ : Mm) (z2 : Option Value) {r : Int32} {μ' : Mm} (h : M_set_j121 v1 v3 μ = some (r, μ')) : Wp l SM d (0, 0) mX11_set 121 [some (.ref 0), some (.int v1), z2, some (.int v3)] [] μ (Qi SM r μ') := by
  unfold M_set_j121 at h
  refine wp_iload_n (x := v1) dX11_set_121 rfl ?_
  refine wp_bipush (nI 7) dX11_set_122 rfl ?_
  refine wp_icmp_ne 135 dX11_set_124 (by decide) (fun c1 => ?_) (fun c1 => ?_)
  · rw [if_neg c1] at h
    exact ok_M_set_j135 hd v1 v3 μ _ h
  · rw [if_pos c1] at h
    refine wp_aload_n (x := 0) dX11_set_127 rfl ?_
    refine wp_iload_n (x := v3) dX11_set_128 rfl ?_
    refine wp_bipush (nI 9) dX11_set_129 rfl ?_
    refine wp_isub dX11_set_131 ?_
    obtain ⟨μ6, e1, h⟩ := lt_some h
    refine wp_putIe e1 fl_X11_131 (by decide) rfl (kltM kRootM) kRootM dX11_set_132 ?_
    exact ok_M_set_j135 hd v1 v3 μ6 _ h
theorem ok_M_set_j107 {l : Launch} {d : Nat} (hd : 3 ≤ d) (v1 : Int32)  (v3 : Int32)  (μ : Mm) (z2 : Option Value) {r : Int32} {μ' : Mm} (h : M_set_j107 v1 v3 μ = some (r, μ')) : Wp l SM d (0, 0) mX11_set 107 [some (.ref 0), some (.int v1), z2, some (.int v3)] [] μ (Qi SM r μ') := by
  unfold M_set_j107 at h
  refine wp_iload_n (x := v1) dX11_set_107 rfl ?_
  refine wp_bipush (nI 6) dX11_set_108 rfl ?_
  refine wp_icmp_ne 121 dX11_set_110 (by decide) (fun c1 => ?_) (fun c1 => ?_)
  · rw [if_neg c1] at h
    exact ok_M_set_j121 hd v1 v3 μ _ h
  · rw [if_pos c1] at h
    refine wp_aload_n (x := 0) dX11_set_113 rfl ?_
    refine wp_iload_n (x := v3) dX11_set_114 rfl ?_
    refine wp_bipush (nI 9) dX11_set_115 rfl ?_
    refine wp_isub dX11_set_117 ?_
    obtain ⟨μ7, e1, h⟩ := lt_some h
    refine wp_putIe e1 fl_X11_128 (by decide) rfl (kltM kRootM) kRootM dX11_set_118 ?_
    exact ok_M_set_j121 hd v1 v3 μ7 _ h
theorem ok_M_set_j84 {l : Launch} {d : Nat} (hd : 3 ≤ d) (v1 : Int32)  (v2 : Int32)  (v3 : Int32)  (μ : Mm) {r : Int32} {μ' : Mm} (h : M_set_j84 v1 v2 v3 μ = some (r, μ')) : Wp l SM d (0, 0) mX11_set 84 [some (.ref 0), some (.int v1), some (.int v2), some (.int v3)] [] μ (Qi SM r μ') := by
  unfold M_set_j84 at h
  refine wp_iload_n (x := v1) dX11_set_84 rfl ?_
  refine wp_iconst (nI 5) dX11_set_85 rfl ?_
  refine wp_icmp_ne 107 dX11_set_86 (by decide) (fun c1 => ?_) (fun c1 => ?_)
  · rw [if_neg c1] at h
    exact ok_M_set_j107 hd v1 v3 μ _ h
  · rw [if_pos c1] at h
    refine wp_aload_n (x := 0) dX11_set_89 rfl ?_
    refine wp_aload_n (x := 0) dX11_set_90 rfl ?_
    refine wp_getI fl_X11_110 (by decide) rfl (kltM kRootM) kRootM dX11_set_91 ?_
    refine wp_iconst (nI 1) dX11_set_94 rfl ?_
    refine wp_iload_n (x := v2) dX11_set_95 rfl ?_
    refine wp_ishl dX11_set_96 ?_
    refine wp_iconst (-1) dX11_set_97 rfl ?_
    refine wp_ixor dX11_set_98 ?_
    refine wp_iand dX11_set_99 ?_
    refine wp_iload_n (x := v3) dX11_set_100 rfl ?_
    refine wp_iload_n (x := v2) dX11_set_101 rfl ?_
    refine wp_ishl dX11_set_102 ?_
    refine wp_ior dX11_set_103 ?_
    obtain ⟨μ8, e1, h⟩ := lt_some h
    refine wp_putIe e1 fl_X11_110 (by decide) rfl (kltM kRootM) kRootM dX11_set_104 ?_
    exact ok_M_set_j107 hd v1 v3 μ8 _ h
theorem ok_M_set_j68 {l : Launch} {d : Nat} (hd : 3 ≤ d) (v1 : Int32)  (v2 : Int32)  (v3 : Int32)  (μ : Mm) {r : Int32} {μ' : Mm} (h : M_set_j68 v1 v2 v3 μ = some (r, μ')) : Wp l SM d (0, 0) mX11_set 68 [some (.ref 0), some (.int v1), some (.int v2), some (.int v3)] [] μ (Qi SM r μ') := by
  unfold M_set_j68 at h
  refine wp_iload_n (x := v1) dX11_set_68 rfl ?_
  refine wp_iconst (nI 4) dX11_set_69 rfl ?_
  refine wp_icmp_ne 84 dX11_set_70 (by decide) (fun c1 => ?_) (fun c1 => ?_)
  · rw [if_neg c1] at h
    exact ok_M_set_j84 hd v1 v2 v3 μ h
  · rw [if_pos c1] at h
    refine wp_aload_n (x := 0) dX11_set_73 rfl ?_
    refine wp_getR 1 fl_X11_7 (by decide) rfl (kltM kRootM) kRootM (ly11_1 kRootM).1 dX11_set_74 ?_
    refine wp_sipush (nI 199) dX11_set_77 rfl ?_
    refine wp_iload_n (x := v2) dX11_set_80 rfl ?_
    refine wp_iadd dX11_set_81 ?_
    refine wp_iload_n (x := v3) dX11_set_82 rfl ?_
    obtain ⟨c1, h⟩ := chv_some h
    obtain ⟨μ9, e1, h⟩ := lt_some h
    refine wp_iaste e1 (kltM (ly11_1 kRootM).2.1) (ly11_1 kRootM).2.1 (ly11_1 kRootM).2.2 c1 dX11_set_83 ?_
    exact ok_M_set_j84 hd v1 v2 v3 μ9 h
theorem ok_M_set_j52 {l : Launch} {d : Nat} (hd : 3 ≤ d) (v1 : Int32)  (v2 : Int32)  (v3 : Int32)  (μ : Mm) {r : Int32} {μ' : Mm} (h : M_set_j52 v1 v2 v3 μ = some (r, μ')) : Wp l SM d (0, 0) mX11_set 52 [some (.ref 0), some (.int v1), some (.int v2), some (.int v3)] [] μ (Qi SM r μ') := by
  unfold M_set_j52 at h
  refine wp_iload_n (x := v1) dX11_set_52 rfl ?_
  refine wp_iconst (nI 3) dX11_set_53 rfl ?_
  refine wp_icmp_ne 68 dX11_set_54 (by decide) (fun c1 => ?_) (fun c1 => ?_)
  · rw [if_neg c1] at h
    exact ok_M_set_j68 hd v1 v2 v3 μ h
  · rw [if_pos c1] at h
    refine wp_aload_n (x := 0) dX11_set_57 rfl ?_
    refine wp_getR 1 fl_X11_7 (by decide) rfl (kltM kRootM) kRootM (ly11_1 kRootM).1 dX11_set_58 ?_
    refine wp_sipush (nI 183) dX11_set_61 rfl ?_
    refine wp_iload_n (x := v2) dX11_set_64 rfl ?_
    refine wp_iadd dX11_set_65 ?_
    refine wp_iload_n (x := v3) dX11_set_66 rfl ?_
    obtain ⟨c1, h⟩ := chv_some h
    obtain ⟨μ10, e1, h⟩ := lt_some h
    refine wp_iaste e1 (kltM (ly11_1 kRootM).2.1) (ly11_1 kRootM).2.1 (ly11_1 kRootM).2.2 c1 dX11_set_67 ?_
    exact ok_M_set_j68 hd v1 v2 v3 μ10 h
theorem ok_M_set_j40 {l : Launch} {d : Nat} (hd : 3 ≤ d) (v1 : Int32)  (v2 : Int32)  (v3 : Int32)  (μ : Mm) {r : Int32} {μ' : Mm} (h : M_set_j40 v1 v2 v3 μ = some (r, μ')) : Wp l SM d (0, 0) mX11_set 40 [some (.ref 0), some (.int v1), some (.int v2), some (.int v3)] [] μ (Qi SM r μ') := by
  unfold M_set_j40 at h
  refine wp_iload_n (x := v1) dX11_set_40 rfl ?_
  refine wp_iconst (nI 2) dX11_set_41 rfl ?_
  refine wp_icmp_ne 52 dX11_set_42 (by decide) (fun c1 => ?_) (fun c1 => ?_)
  · rw [if_neg c1] at h
    exact ok_M_set_j52 hd v1 v2 v3 μ h
  · rw [if_pos c1] at h
    refine wp_aload_n (x := 0) dX11_set_45 rfl ?_
    refine wp_getR 6 fl_X11_25 (by decide) rfl (kltM kRootM) kRootM (ly11_9 kRootM).1 dX11_set_46 ?_
    refine wp_iload_n (x := v2) dX11_set_49 rfl ?_
    refine wp_iload_n (x := v3) dX11_set_50 rfl ?_
    obtain ⟨c1, h⟩ := chv_some h
    obtain ⟨μ11, e1, h⟩ := lt_some h
    refine wp_iaste e1 (kltM (ly11_9 kRootM).2.1) (ly11_9 kRootM).2.1 (ly11_9 kRootM).2.2 c1 dX11_set_51 ?_
    exact ok_M_set_j52 hd v1 v2 v3 μ11 h
theorem ok_M_set_j28 {l : Launch} {d : Nat} (hd : 3 ≤ d) (v1 : Int32)  (v2 : Int32)  (v3 : Int32)  (μ : Mm) {r : Int32} {μ' : Mm} (h : M_set_j28 v1 v2 v3 μ = some (r, μ')) : Wp l SM d (0, 0) mX11_set 28 [some (.ref 0), some (.int v1), some (.int v2), some (.int v3)] [] μ (Qi SM r μ') := by
  unfold M_set_j28 at h
  refine wp_iload_n (x := v1) dX11_set_28 rfl ?_
  refine wp_iconst (nI 1) dX11_set_29 rfl ?_
  refine wp_icmp_ne 40 dX11_set_30 (by decide) (fun c1 => ?_) (fun c1 => ?_)
  · rw [if_neg c1] at h
    exact ok_M_set_j40 hd v1 v2 v3 μ h
  · rw [if_pos c1] at h
    refine wp_aload_n (x := 0) dX11_set_33 rfl ?_
    refine wp_getR 5 fl_X11_22 (by decide) rfl (kltM kRootM) kRootM (ly11_8 kRootM).1 dX11_set_34 ?_
    refine wp_iload_n (x := v2) dX11_set_37 rfl ?_
    refine wp_iload_n (x := v3) dX11_set_38 rfl ?_
    obtain ⟨c1, h⟩ := chv_some h
    obtain ⟨μ12, e1, h⟩ := lt_some h
    refine wp_iaste e1 (kltM (ly11_8 kRootM).2.1) (ly11_8 kRootM).2.1 (ly11_8 kRootM).2.2 c1 dX11_set_39 ?_
    exact ok_M_set_j40 hd v1 v2 v3 μ12 h
theorem ok_M_set {l : Launch} {d : Nat} (hd : 3 ≤ d) (v1 : Int32)  (v2 : Int32)  (v3 : Int32)  (μ : Mm) {r : Int32} {μ' : Mm} (h : M_set v1 v2 v3 μ = some (r, μ')) : Wp l SM d (0, 0) mX11_set 0 [some (.ref 0), some (.int v1), some (.int v2), some (.int v3)] [] μ (Qi SM r μ') := by
  unfold M_set at h
  refine wp_aload_n (x := 0) dX11_set_0 rfl ?_
  refine wp_iconst (nI 0) dX11_set_1 rfl ?_
  obtain ⟨μ1, e1, h⟩ := lt_some h
  refine wp_putIe e1 fl_X11_86 (by decide) rfl (kltM kRootM) kRootM dX11_set_2 ?_
  refine wp_aload_n (x := 0) dX11_set_5 rfl ?_
  refine wp_iload_n (x := v1) dX11_set_6 rfl ?_
  refine wp_iload_n (x := v2) dX11_set_7 rfl ?_
  refine wp_iload_n (x := v3) dX11_set_8 rfl ?_
  obtain ⟨r2, g1, h⟩ := bnd_some h
  refine wp_cVi (d := d - 1) (o := 0) cv_X11_125 (kltM kRootM) kRootM (as := [.int v1, .int v2, .int v3]) (rest := []) dX11_set_9 (by omega) cloM rfl rfl (Nat.le_of_ble_eq_true rfl) (Nat.le_of_ble_eq_true rfl) (ok_M_canSet (by omega) v1 v2 v3 μ1 g1) ?_ rfl
  refine wp_if_ne 17 dX11_set_12 (by decide) (fun c1 => ?_) (fun c1 => ?_)
  · rw [if_neg c1] at h
    refine wp_iload_n (x := v1) dX11_set_17 rfl ?_
    refine wp_if_ne 28 dX11_set_18 (by decide) (fun c1 => ?_) (fun c1 => ?_)
    · rw [if_neg c1] at h
      exact ok_M_set_j28 hd v1 v2 v3 μ1 h
    · rw [if_pos c1] at h
      refine wp_aload_n (x := 0) dX11_set_21 rfl ?_
      refine wp_getR 4 fl_X11_19 (by decide) rfl (kltM kRootM) kRootM (ly11_7 kRootM).1 dX11_set_22 ?_
      refine wp_iload_n (x := v2) dX11_set_25 rfl ?_
      refine wp_iload_n (x := v3) dX11_set_26 rfl ?_
      obtain ⟨c1, h⟩ := chv_some h
      obtain ⟨μ13, e1, h⟩ := lt_some h
      refine wp_iaste e1 (kltM (ly11_7 kRootM).2.1) (ly11_7 kRootM).2.1 (ly11_7 kRootM).2.2 c1 dX11_set_27 ?_
      exact ok_M_set_j28 hd v1 v2 v3 μ13 h
  · rw [if_pos c1] at h
    refine wp_iconst (nI 0) dX11_set_15 rfl ?_
    obtain ⟨rfl, rfl⟩ := ret2 h
    exact wp_zret rfl (Or.inl rfl) dX11_set_16 ⟨rfl, rfl, rfl⟩
theorem ok_M_address {l : Launch} {d : Nat} (hd : 2 ≤ d) (v1 : Int32)  (v2 : Int32)  (μ : Mm) {r : Int32} {μ' : Mm} (h : M_address v1 v2 μ = some (r, μ')) : Wp l SM d (0, 0) mX11_address 0 [some (.ref 0), some (.int v1), some (.int v2)] [] μ (Qi SM r μ') := by
  unfold M_address at h
  refine wp_aload_n (x := 0) dX11_address_0 rfl ?_
  refine wp_iconst (nI 0) dX11_address_1 rfl ?_
  obtain ⟨μ1, e1, h⟩ := lt_some h
  refine wp_putIe e1 fl_X11_86 (by decide) rfl (kltM kRootM) kRootM dX11_address_2 ?_
  refine wp_aload_n (x := 0) dX11_address_5 rfl ?_
  refine wp_iload_n (x := v1) dX11_address_6 rfl ?_
  obtain ⟨r2, g1, h⟩ := bnd_some h
  refine wp_cVi (d := d - 1) (o := 0) cv_X11_117 (kltM kRootM) kRootM (as := [.int v1]) (rest := []) dX11_address_7 (by omega) cloM rfl rfl (Nat.le_of_ble_eq_true rfl) (Nat.le_of_ble_eq_true rfl) (ok_M_isPerson (by omega) v1 μ1 g1) ?_ rfl
  refine wp_if_ne 15 dX11_address_10 (by decide) (fun c1 => ?_) (fun c1 => ?_)
  · rw [if_neg c1] at h
    refine wp_iload_n (x := v2) dX11_address_15 rfl ?_
    refine wp_iconst (-1) dX11_address_16 rfl ?_
    refine wp_icmp_ne 45 dX11_address_17 (by decide) (fun c1 => ?_) (fun c1 => ?_)
    · rw [if_neg c1] at h
      refine wp_aload_n (x := 0) dX11_address_45 rfl ?_
      refine wp_iload_n (x := v2) dX11_address_46 rfl ?_
      obtain ⟨r3, g1, h⟩ := bnd_some h
      refine wp_cVi (d := d - 1) (o := 0) cv_X11_117 (kltM kRootM) kRootM (as := [.int v2]) (rest := []) dX11_address_47 (by omega) cloM rfl rfl (Nat.le_of_ble_eq_true rfl) (Nat.le_of_ble_eq_true rfl) (ok_M_isPerson (by omega) v2 μ1 g1) ?_ rfl
      refine wp_if_eq 69 dX11_address_50 (by decide) (fun c1 => ?_) (fun c1 => ?_)
      · rw [if_pos c1] at h
        refine wp_iconst (-1) dX11_address_69 rfl ?_
        obtain ⟨rfl, rfl⟩ := ret2 h
        exact wp_iret rfl dX11_address_70 ⟨rfl, rfl, rfl⟩
      · rw [if_neg c1] at h
        refine wp_iload_n (x := v2) dX11_address_53 rfl ?_
        refine wp_iload_n (x := v1) dX11_address_54 rfl ?_
        refine wp_icmp_eq 69 dX11_address_55 (by decide) (fun c1 => ?_) (fun c1 => ?_)
        · rw [if_pos c1] at h
          refine wp_iconst (-1) dX11_address_69 rfl ?_
          obtain ⟨rfl, rfl⟩ := ret2 h
          exact wp_iret rfl dX11_address_70 ⟨rfl, rfl, rfl⟩
        · rw [if_neg c1] at h
          refine wp_aload_n (x := 0) dX11_address_58 rfl ?_
          refine wp_getR 7 fl_X11_28 (by decide) rfl (kltM kRootM) kRootM (ly11_11 kRootM).1 dX11_address_59 ?_
          refine wp_iload_n (x := v1) dX11_address_62 rfl ?_
          obtain ⟨c1, h⟩ := chv_some h
          refine wp_ialde (kltM (ly11_11 kRootM).2.1) (ly11_11 kRootM).2.1 (ly11_11 kRootM).2.2 c1 dX11_address_63 ?_
          refine wp_bipush (nI 9) dX11_address_64 rfl ?_
          refine wp_icmp_ne 71 dX11_address_66 (by decide) (fun c1 => ?_) (fun c1 => ?_)
          · rw [if_neg c1] at h
            refine wp_aload_n (x := 0) dX11_address_71 rfl ?_
            refine wp_getR 8 fl_X11_31 (by decide) rfl (kltM kRootM) kRootM (ly11_12 kRootM).1 dX11_address_72 ?_
            refine wp_bipush (nI 9) dX11_address_75 rfl ?_
            refine wp_iload_n (x := v1) dX11_address_77 rfl ?_
            refine wp_imul dX11_address_78 ?_
            refine wp_aload_n (x := 0) dX11_address_79 rfl ?_
            refine wp_getR 7 fl_X11_28 (by decide) rfl (kltM kRootM) kRootM (ly11_11 kRootM).1 dX11_address_80 ?_
            refine wp_iload_n (x := v1) dX11_address_83 rfl ?_
            obtain ⟨c1, h⟩ := chv_some h
            refine wp_ialde (kltM (ly11_11 kRootM).2.1) (ly11_11 kRootM).2.1 (ly11_11 kRootM).2.2 c1 dX11_address_84 ?_
            refine wp_iadd dX11_address_85 ?_
            refine wp_iload_n (x := v2) dX11_address_86 rfl ?_
            obtain ⟨c1, h⟩ := chv_some h
            obtain ⟨μ4, e1, h⟩ := lt_some h
            refine wp_iaste e1 (kltM (ly11_12 kRootM).2.1) (ly11_12 kRootM).2.1 (ly11_12 kRootM).2.2 c1 dX11_address_87 ?_
            refine wp_aload_n (x := 0) dX11_address_88 rfl ?_
            refine wp_getR 7 fl_X11_28 (by decide) rfl (kltM kRootM) kRootM (ly11_11 kRootM).1 dX11_address_89 ?_
            refine wp_iload_n (x := v1) dX11_address_92 rfl ?_
            refine wp_aload_n (x := 0) dX11_address_93 rfl ?_
            refine wp_getR 7 fl_X11_28 (by decide) rfl (kltM kRootM) kRootM (ly11_11 kRootM).1 dX11_address_94 ?_
            refine wp_iload_n (x := v1) dX11_address_97 rfl ?_
            obtain ⟨c1, h⟩ := chv_some h
            refine wp_ialde (kltM (ly11_11 kRootM).2.1) (ly11_11 kRootM).2.1 (ly11_11 kRootM).2.2 c1 dX11_address_98 ?_
            refine wp_iconst (nI 1) dX11_address_99 rfl ?_
            refine wp_iadd dX11_address_100 ?_
            obtain ⟨c1, h⟩ := chv_some h
            obtain ⟨μ5, e1, h⟩ := lt_some h
            refine wp_iaste e1 (kltM (ly11_11 kRootM).2.1) (ly11_11 kRootM).2.1 (ly11_11 kRootM).2.2 c1 dX11_address_101 ?_
            refine wp_aload_n (x := 0) dX11_address_102 rfl ?_
            refine wp_iconst (nI 0) dX11_address_103 rfl ?_
            obtain ⟨μ6, e1, h⟩ := lt_some h
            refine wp_putIe e1 fl_X11_89 (by decide) rfl (kltM kRootM) kRootM dX11_address_104 ?_
            refine wp_aload_n (x := 0) dX11_address_107 rfl ?_
            refine wp_getR 7 fl_X11_28 (by decide) rfl (kltM kRootM) kRootM (ly11_11 kRootM).1 dX11_address_108 ?_
            refine wp_iload_n (x := v1) dX11_address_111 rfl ?_
            obtain ⟨c1, h⟩ := chv_some h
            refine wp_ialde (kltM (ly11_11 kRootM).2.1) (ly11_11 kRootM).2.1 (ly11_11 kRootM).2.2 c1 dX11_address_112 ?_
            obtain ⟨rfl, rfl⟩ := ret2 h
            exact wp_iret rfl dX11_address_113 ⟨rfl, rfl, rfl⟩
          · rw [if_pos c1] at h
            refine wp_iconst (-1) dX11_address_69 rfl ?_
            obtain ⟨rfl, rfl⟩ := ret2 h
            exact wp_iret rfl dX11_address_70 ⟨rfl, rfl, rfl⟩
    · rw [if_pos c1] at h
      refine wp_aload_n (x := 0) dX11_address_20 rfl ?_
      refine wp_getR 7 fl_X11_28 (by decide) rfl (kltM kRootM) kRootM (ly11_11 kRootM).1 dX11_address_21 ?_
      refine wp_iload_n (x := v1) dX11_address_24 rfl ?_
      refine wp_iconst (nI 0) dX11_address_25 rfl ?_
      obtain ⟨c1, h⟩ := chv_some h
      obtain ⟨μ7, e1, h⟩ := lt_some h
      refine wp_iaste e1 (kltM (ly11_11 kRootM).2.1) (ly11_11 kRootM).2.1 (ly11_11 kRootM).2.2 c1 dX11_address_26 ?_
      refine wp_aload_n (x := 0) dX11_address_27 rfl ?_
      refine wp_getR 1 fl_X11_7 (by decide) rfl (kltM kRootM) kRootM (ly11_1 kRootM).1 dX11_address_28 ?_
      refine wp_sipush (nI 167) dX11_address_31 rfl ?_
      refine wp_iload_n (x := v1) dX11_address_34 rfl ?_
      refine wp_iadd dX11_address_35 ?_
      refine wp_iconst (nI 0) dX11_address_36 rfl ?_
      obtain ⟨c1, h⟩ := chv_some h
      obtain ⟨μ8, e1, h⟩ := lt_some h
      refine wp_iaste e1 (kltM (ly11_1 kRootM).2.1) (ly11_1 kRootM).2.1 (ly11_1 kRootM).2.2 c1 dX11_address_37 ?_
      refine wp_aload_n (x := 0) dX11_address_38 rfl ?_
      refine wp_iconst (nI 0) dX11_address_39 rfl ?_
      obtain ⟨μ9, e1, h⟩ := lt_some h
      refine wp_putIe e1 fl_X11_89 (by decide) rfl (kltM kRootM) kRootM dX11_address_40 ?_
      refine wp_iconst (nI 0) dX11_address_43 rfl ?_
      obtain ⟨rfl, rfl⟩ := ret2 h
      exact wp_iret rfl dX11_address_44 ⟨rfl, rfl, rfl⟩
  · rw [if_pos c1] at h
    refine wp_iconst (-1) dX11_address_13 rfl ?_
    obtain ⟨rfl, rfl⟩ := ret2 h
    exact wp_iret rfl dX11_address_14 ⟨rfl, rfl, rfl⟩
