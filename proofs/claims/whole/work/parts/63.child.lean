/-! FOREBEAR AND CHILDREN, both sides -/
/-- a number below n -/
def bnI (n : Nat) (v : Int32) : Bool := inI v (nI 0) (nI n - nI 1)
theorem bnI_some {n : Nat} {v : Int32} (hn : n < 2 ^ 31) (h : bnI n v = true) : ∃ p, p < n ∧ v = nI p := by
  have h := of_decide_eq_true h
  obtain ⟨j, hj, rfl⟩ := nI_ofN h.1
  refine ⟨j, ?_, rfl⟩
  have h2 := h.2
  by_cases e0 : n = 0
  · rw [e0] at h2
    exact absurd (Int32.lt_of_lt_of_le (by decide : nI 0 - nI 1 < nI 0) (nI_le (Nat.zero_le _) hj)) h2
  · rw [nI_subE (by omega), nI_ltI (by omega) hj] at h2
    omega
theorem bnI_is {n j : Nat} (hn : n < 2 ^ 31) (h : j < n) : bnI n (nI j) = true := by
  unfold bnI inI
  rw [decide_eq_true_iff, nI_subE (by omega)]
  exact ⟨nI_nlt (Nat.zero_le _) (by omega), nI_nlt (by omega) (by omega)⟩
/-- the check 'v < 0, n <= v' -/
theorem bnI_if {n : Nat} (hn : n < 2 ^ 31) (v : Int32) : (if v < 0 then some (nI 0) else if nI n ≤ v then some (nI 0) else some (nI 1)) = some (if bnI n v = true then nI 1 else nI 0) := by
  by_cases h1 : v < 0
  · rw [if_pos h1, if_neg (by unfold bnI inI; rw [decide_eq_true_iff]; exact fun z => z.1 h1)]
  · obtain ⟨j, hj, rfl⟩ := nI_ofN h1
    rw [if_neg h1]
    by_cases e : n ≤ j
    · rw [if_pos (nI_le e hj), if_neg]
      intro z
      obtain ⟨p, hp, hq⟩ := bnI_some hn z
      have := (nI_eq hj (by omega)).1 hq
      omega
    · rw [if_neg (nI_ge (by omega) (by omega)), if_pos (bnI_is hn (by omega))]
theorem c_hasV {μ : Mm} {w : Nat} {V : VS} (h : HC μ w V) (v : Int32) : Versions_has (w + 2) v μ = some (if bnI (V 0 0 1) v = true then nI 1 else nI 0) := by
  have v40 := h.v40
  unfold Versions_has
  rw [h.vn]
  exact bnI_if (by omega) v
theorem m_hasV {ν : Mm} {th : Nat} {V : VS} (h : HM ν th V) (v : Int32) : M_isVersion v ν = some (if bnI (V 0 0 1) v = true then nI 1 else nI 0) := by
  have v40 := h.v40
  unfold M_isVersion
  rw [chv_nI (by decide) (by decide), ix_nI (by decide), h.vn]
  exact bnI_if (by omega) v
def foreR (V : VS) (a b : Int32) : Int32 := if bnI (V 0 0 1) a = true ∧ bnI (V 0 0 1) b = true then nI (foV V (ix a + 1) (ix b + 1) (V 0 0 1)) - nI 1 else -1
theorem c_forebear {μ : Mm} {V : VS} {d : Nat} (h : HC μ 1 V) (hw : WF d V) (a b : Int32) : Nine_forebear a b μ = some (foreR V a b) := by
  have v40 := h.v40
  have hv : ∀ v, Versions_has 3 v μ = some (if bnI (V 0 0 1) v = true then nI 1 else nI 0) := fun v => c_hasV h v
  unfold Nine_forebear foreR
  rw [hv, bnd_eq]
  by_cases c1 : bnI (V 0 0 1) a = true
  · rw [if_pos c1, if_neg (by decide), hv, bnd_eq]
    by_cases c2 : bnI (V 0 0 1) b = true
    · obtain ⟨x, hx, rfl⟩ := bnI_some (by omega) c1
      obtain ⟨y, hy, rfl⟩ := bnI_some (by omega) c2
      have key := c_fore (a := x + 1) (b := y + 1) h hw.2.2.2.2.2.2.2.2.1 (by omega) (by omega)
      rw [nI_subE (by omega), nI_subE (by omega)] at key
      have key : Versions_commonForebear 3 (nI x) (nI y) μ = some (nI (foV V (x + 1) (y + 1) (V 0 0 1)) - nI 1) := key
      rw [if_pos c2, if_neg (by decide), key, bnd_eq, if_pos ⟨c1, c2⟩, ix_nI (by omega), ix_nI (by omega)]
    · rw [if_neg c2, if_pos (by decide), if_neg (fun z => c2 z.2)]
  · rw [if_neg c1, if_pos (by decide), if_neg (fun z => c1 z.1)]
theorem m_forebear {ν : Mm} {V : VS} {d : Nat} (h : HM ν 0 V) (hw : WF d V) (a b : Int32) : M_forebear a b ν = some (foreR V a b, sti ν 0 0 (nI 0)) := by
  have h' := h.told (nI 0)
  have v40 := h.v40
  have h8 := hw.2.2.2.2.2.2.2.2.1
  unfold M_forebear foreR
  rw [lt_eq, m_hasV h', bnd_eq]
  by_cases c1 : bnI (V 0 0 1) a = true
  · rw [if_pos c1, if_neg (by decide), m_hasV h', bnd_eq]
    by_cases c2 : bnI (V 0 0 1) b = true
    · obtain ⟨x, hx, rfl⟩ := bnI_some (by omega) c1
      obtain ⟨y, hy, rfl⟩ := bnI_some (by omega) c2
      have hc : ∀ x n, x < V 0 0 1 → n < V 0 0 1 → M_cameOf (nI x) (nI n) (sti ν 0 0 (nI 0)) = some (if onB V (x + 1) (n + 1) = true then nI 1 else nI 0) := fun x n hx hn => by
        have := m_came (x := x + 1) (y := n + 1) h' h8 (by omega) (by omega) (by omega)
        rw [nI_subE (by omega), nI_subE (by omega)] at this
        exact this
      have key : ∀ n k, n ≤ V 0 0 1 → n < k → iter k (fun s => M_forebear_l33 (nI x) (nI y) s (sti ν 0 0 (nI 0))) (nI n - nI 1) = some (if foV V (x + 1) (y + 1) n = 0 then Sum.inr () else Sum.inl (nI (foV V (x + 1) (y + 1) n) - nI 1)) := by
        intro n
        induction n with
        | zero =>
          intro k _ hk
          obtain ⟨k, rfl⟩ : ∃ m, k = m + 1 := ⟨k - 1, by omega⟩
          refine iter_inr ?_
          unfold M_forebear_l33
          rw [if_pos (by decide)]
          rfl
        | succ n ih =>
          intro k hn hk
          obtain ⟨k, rfl⟩ : ∃ m, k = m + 1 := ⟨k - 1, by omega⟩
          have e : nI (n + 1) - nI 1 = nI n := nI_subE (by omega)
          rw [e]
          unfold foV
          by_cases e1 : onB V (x + 1) (n + 1) = true ∧ onB V (y + 1) (n + 1) = true
          · rw [if_pos e1, if_neg (by omega), e]
            refine iter_inr ?_
            unfold M_forebear_l33
            rw [if_neg (nI_pos (by omega)), hc x n hx (by omega), bnd_eq, if_pos e1.1, if_neg (by decide), hc y n hy (by omega), bnd_eq, if_pos e1.2, if_neg (by decide)]
          · rw [if_neg e1]
            refine (iter_inl ?_).trans (ih k (by omega) (by omega))
            unfold M_forebear_l33 M_forebear_j57
            rw [if_neg (nI_pos (by omega)), hc x n hx (by omega), bnd_eq]
            have em : nI n + (-1) = nI n - nI 1 := by rw [Int32.sub_eq_add_neg]; rfl
            by_cases e2 : onB V (x + 1) (n + 1) = true
            · rw [if_pos e2, if_neg (by decide), hc y n hy (by omega), bnd_eq, if_neg (fun z => e1 ⟨e2, z⟩), if_pos (by decide), em]
            · rw [if_neg e2, if_pos (by decide), em]
      rw [if_pos c2, if_neg (by decide), chv_nI (by decide) (by decide), ix_nI (by decide), h'.vn, key _ 1000000 (Nat.le_refl _) (by omega), bni_eq]
      by_cases e0 : foV V (x + 1) (y + 1) (V 0 0 1) = 0
      · rw [if_pos e0]
        show some _ = _
        rw [if_pos ⟨c1, c2⟩, ix_nI (by omega), ix_nI (by omega), e0]
        rfl
      · rw [if_neg e0]
        show some _ = _
        rw [if_pos ⟨c1, c2⟩, ix_nI (by omega), ix_nI (by omega)]
    · rw [if_neg c2, if_pos (by decide), if_neg (fun z => c2 z.2)]
  · rw [if_neg c1, if_pos (by decide), if_neg (fun z => c1 z.1)]
/-! children -/
def bitN (x i : Nat) : Nat := if x.testBit i = true then 1 else 0
theorem pc_sum (k : Nat) : ∀ x, x < 2 ^ k → pcF k x = sumF (bitN x) k := by
  have sh : ∀ (x k : Nat), sumF (bitN x) (k + 1) = bitN x 0 + sumF (bitN (x / 2)) k := by
    intro x k
    induction k with
    | zero => simp [sumF]
    | succ k ih =>
      rw [sumF, ih, sumF, Nat.add_assoc]
      congr 2
      unfold bitN
      rw [Nat.testBit_succ]
  induction k with
  | zero => exact fun x _ => rfl
  | succ k ih =>
    intro x hx
    rw [Nat.pow_succ] at hx
    rw [pcF_u, ih _ (by omega), sh]
    congr 1
    unfold bitN
    rw [Nat.testBit_zero]
    by_cases e : x % 2 = 1
    · simp [e]
    · simp [e]
      omega
theorem popc_sum {k x : Nat} (hk : k ≤ 64) (hx : x < 2 ^ k) : popc x = sumF (bitN x) k := by
  rw [← pc_sum k x hx]
  have := pcF_fuel (64 - k) k x hx
  rw [show k + (64 - k) = 64 by omega] at this
  exact this
theorem sumF_congr {g g2 : Nat → Nat} (n : Nat) (h : ∀ i, i < n → g i = g2 i) : sumF g n = sumF g2 n := by
  induction n with
  | zero => rfl
  | succ n ih => rw [sumF, sumF, ih (fun i hi => h i (by omega)), h n (by omega)]
theorem sumF_split {g : Nat → Nat} {v : Nat} (n : Nat) (h : v < n) : sumF g n = sumF (fun i => if i = v then 0 else g i) n + g v := by
  induction n with
  | zero => omega
  | succ n ih =>
    rw [sumF, sumF]
    by_cases e : v = n
    · subst e
      rw [if_pos rfl, sumF_congr (g2 := fun i => if i = v then 0 else g i) v (fun i hi => (if_neg (by omega)).symm)]
      omega
    · rw [ih (by omega), if_neg (by omega)]
      omega
theorem sumF_zero {g : Nat → Nat} (a b : Nat) (h : ∀ i, a ≤ i → i < a + b → g i = 0) : sumF g (a + b) = sumF g a := by
  induction b with
  | zero => rfl
  | succ b ih =>
    rw [← Nat.add_assoc, sumF, ih (fun i h1 h2 => h i h1 (by omega)), h (a + b) (by omega) (by omega)]
    rfl
/-- how many came of v -/
def chG (V : VS) (v u : Nat) : Nat := if u = v then 0 else if onB V (u + 1) (v + 1) = true then 1 else 0
theorem m_child {ν : Mm} {th : Nat} {V : VS} {v : Nat} (h : HM ν th V) (h8 : W8 V) (hv : v < V 0 0 1) : M_childrenOf (nI v) ν = some (nI (sumF (chG V v) (V 0 0 1))) := by
  have v40 := h.v40
  have eN := h.vn
  have key := loop_sum (f := fun s => M_childrenOf_l4 (nI v) s.1 s.2 ν) (g := chG V v) (N := V 0 0 1) (by omega) (fun n s hn => ?_) (fun s => ?_) 0
  · unfold M_childrenOf
    rw [key, bni_eq, Nat.zero_add]
  · have hc := m_came (x := n + 1) (y := v + 1) h h8 (by omega) (by omega) (by omega)
    rw [nI_subE (by omega), nI_subE (by omega)] at hc
    have hc : M_cameOf (nI n) (nI v) ν = _ := hc
    show M_childrenOf_l4 _ _ _ _ = _
    unfold M_childrenOf_l4 M_childrenOf_j33 chG
    rw [chv_nI (by decide) (by decide), ix_nI (by decide), eN, if_neg (nI_ge hn (by omega)), nI_add, hc, bnd_eq]
    by_cases e : n = v
    · rw [if_pos (by rw [e]), if_pos e]
      rfl
    · rw [if_neg (fun z => e ((nI_eq (by omega) (by omega)).1 z)), if_neg e]
      by_cases e2 : onB V (n + 1) (v + 1) = true
      · rw [if_pos e2, if_neg (by decide), if_pos e2, nI_add]
      · rw [if_neg e2, if_pos (by decide), if_neg e2]
        rfl
  · show M_childrenOf_l4 _ _ _ _ = _
    unfold M_childrenOf_l4
    rw [chv_nI (by decide) (by decide), ix_nI (by decide), eN, if_pos (nI_le (Nat.le_refl _) (by omega))]
/-- the family of v among those below n -/
def famS (V : VS) (v : Nat) : Nat → Nat
  | 0 => 0
  | n + 1 => if onB V (n + 1) (v + 1) = true then famS V v n ||| 2 ^ n else famS V v n
theorem famS_bit {V : VS} {v : Nat} : ∀ n u, (famS V v n).testBit u = true ↔ u < n ∧ onB V (u + 1) (v + 1) = true := by
  intro n
  induction n with
  | zero =>
    intro u
    unfold famS
    rw [Nat.zero_testBit]
    exact ⟨fun z => absurd z (by decide), fun z => absurd z.1 (by omega)⟩
  | succ n ih =>
    intro u
    unfold famS
    by_cases e : onB V (n + 1) (v + 1) = true
    · rw [if_pos e, Nat.testBit_or, Bool.or_eq_true, ih, Nat.testBit_two_pow]
      by_cases eu : n = u
      · subst eu
        exact ⟨fun _ => ⟨by omega, e⟩, fun _ => Or.inr (by simp)⟩
      · exact ⟨fun z => z.elim (fun y => ⟨by omega, y.2⟩) (fun y => absurd (of_decide_eq_true y) eu), fun z => Or.inl ⟨by omega, z.2⟩⟩
    · rw [if_neg e, ih]
      refine ⟨fun z => ⟨by omega, z.2⟩, fun z => ⟨?_, z.2⟩⟩
      by_cases eu : n = u
      · subst eu
        exact absurd z.2 e
      · omega
theorem famS_lt {V : VS} {v : Nat} (n : Nat) : famS V v n < 2 ^ n := by
  induction n with
  | zero => exact Nat.one_pos
  | succ n ih =>
    have h1 : famS V v n < 2 ^ (n + 1) := Nat.lt_of_lt_of_le ih (Nat.pow_le_pow_right (by decide) (by omega))
    unfold famS
    split
    · exact Nat.or_lt_two_pow h1 (Nat.pow_lt_pow_right (by decide) (by omega))
    · exact h1
theorem c_child {μ : Mm} {w : Nat} {V : VS} {v : Nat} (h : HC μ w V) (h8 : W8 V) (hv : v < V 0 0 1) : Versions_countChildren (w + 2) (nI v) μ = some (nI (sumF (chG V v) (V 0 0 1))) := by
  have v40 := h.v40
  have eN := h.vn
  have self : onB V (v + 1) (v + 1) = true := (onB_is h8 (by omega)).2 ⟨0, rfl⟩
  have below : ∀ u, u < v → ¬ onB V (u + 1) (v + 1) = true := fun u hu z => by
    have := onUp_le h8 (by omega) ((onB_is h8 (by omega)).1 z)
    omega
  have fam0 : ∀ n, n ≤ v → famS V v n = 0 := by
    intro n
    induction n with
    | zero => exact fun _ => rfl
    | succ n ih =>
      intro hn
      rw [famS, if_neg (below n (by omega)), ih (by omega)]
  have fam1 : famS V v (v + 1) = 2 ^ v := by rw [famS, if_pos self, fam0 v (Nat.le_refl _), Nat.zero_or]
  have key := iter_traj (f := fun s : Int64 × Int32 => Versions_countChildren_l9 (w + 2) s.1 s.2 μ) (fun j => (Int64.ofNat (famS V v (v + 1 + j)), nI (v + 1 + j))) (y := Int64.ofNat (famS V v (V 0 0 1))) (V 0 0 1 - (v + 1)) 1000000 (fun j hj => ?_) ?_ (by omega)
  · have hl := famS_lt (V := V) (v := v) (V 0 0 1)
    have hl40 : famS V v (V 0 0 1) < 2 ^ 40 := Nat.lt_of_lt_of_le hl (Nat.pow_le_pow_right (by decide) v40)
    have e1 : popc (famS V v (V 0 0 1)) = sumF (chG V v) (V 0 0 1) + 1 := by
      rw [popc_sum (k := V 0 0 1) (by omega) hl, sumF_split (v := v) _ hv]
      congr 1
      · refine sumF_congr _ (fun i hi => ?_)
        unfold chG bitN
        by_cases ei : i = v
        · rw [if_pos ei, if_pos ei]
        · rw [if_neg ei, if_neg ei]
          by_cases eo : onB V (i + 1) (v + 1) = true
          · rw [if_pos eo, if_pos ((famS_bit _ _).2 ⟨hi, eo⟩)]
          · rw [if_neg eo, if_neg (fun z => eo ((famS_bit _ _).1 z).2)]
      · exact if_pos ((famS_bit _ _).2 ⟨hv, self⟩)
    unfold Versions_countChildren
    rw [sub64 v (by omega), nI_add]
    rw [Nat.add_zero, fam1] at key
    rw [key, bni_eq, JL_popc hl40, bnd_eq, e1, nI_subE (by omega)]
    rfl
  · have hu : v + 1 + j < V 0 0 1 := by omega
    have ep : μ.1 (w + 2 + 3) (v + 1 + j) = nI (V 13 0 (v + 1 + j)) - nI 1 := h.vp (v := v + 1 + j) hu
    have w8 := (h8 _ hu).2.2
    have hl := famS_lt (V := V) (v := v) (v + 1 + j)
    have hl40 : famS V v (v + 1 + j) < 2 ^ 40 := Nat.lt_of_lt_of_le hl (Nat.pow_le_pow_right (by decide) (by omega))
    have eup : upV V (v + 1 + j + 1) = V 13 0 (v + 1 + j) := by
      unfold upV
      rw [if_neg (by omega)]
      rfl
    have hon : onB V (v + 1 + j + 1) (v + 1) = true ↔ onUp V (V 13 0 (v + 1 + j)) (v + 1) := by
      rw [onB_is h8 (by omega)]
      refine ⟨fun z => ?_, fun z => onUp_of (by rw [eup]; exact z)⟩
      have := onUp_up z (by omega)
      rw [eup] at this
      exact this
    show Versions_countChildren_l9 _ _ _ _ = _
    unfold Versions_countChildren_l9 Versions_countChildren_j52
    rw [eN, if_neg (nI_ge hu (by omega)), chv_nI (by omega) (by decide), ix_nI (by omega), ep]
    by_cases e0 : V 13 0 (v + 1 + j) = 0
    · have hno : ¬ onB V (v + 1 + j + 1) (v + 1) = true := fun z => by
        obtain ⟨k, hk⟩ := hon.1 z
        rw [e0, itn_up0] at hk
        omega
      rw [if_pos (by rw [e0]; decide), nI_add, ← Nat.add_assoc, famS, if_neg hno]
    · have em : ¬ nI (V 13 0 (v + 1 + j)) - nI 1 = -1 := by
        rw [nI_subE (by omega)]
        intro z
        have := eq_m1 (n := V 13 0 (v + 1 + j) - 1) (by omega)
        rw [this] at z
        exact z
      have hb := lb_test (x := famS V v (v + 1 + j)) (i := V 13 0 (v + 1 + j) - 1) (by omega) (by omega)
      have hiff : (famS V v (v + 1 + j)).testBit (V 13 0 (v + 1 + j) - 1) = true ↔ onB V (v + 1 + j + 1) (v + 1) = true := by
        rw [famS_bit, hon, show V 13 0 (v + 1 + j) - 1 + 1 = V 13 0 (v + 1 + j) by omega, onB_is h8 (by omega)]
        exact ⟨fun z => z.2, fun z => ⟨by omega, z⟩⟩
      rw [if_neg em, chv_nI (by omega) (by decide), nI_subE (by omega)]
      by_cases e1 : onB V (v + 1 + j + 1) (v + 1) = true
      · rw [if_pos (hb.2 (hiff.2 e1)), sub64 _ (by omega), i64_or, lt_eq, nI_add, ← Nat.add_assoc, famS, if_pos e1]
      · rw [if_neg (fun z => e1 (hiff.1 (hb.1 z))), nI_add, ← Nat.add_assoc, famS, if_neg e1]
  · show Versions_countChildren_l9 _ _ _ _ = _
    unfold Versions_countChildren_l9
    rw [eN, show v + 1 + (V 0 0 1 - (v + 1)) = V 0 0 1 by omega, if_pos (nI_le (Nat.le_refl _) (by omega))]
