/-! WHAT IS PICKED, and the least join -/
def pickC (μ : Mm) (o n : Nat) (pv : Nat → Nat) : Prop := μ.1 o 1 = nI n ∧ ∀ i, i < n → μ.1 (o + 1) i = nI (pv i)
def pickM (ν : Mm) (n : Nat) (pv : Nat → Nat) : Prop := ν.1 0 17 = nI n ∧ ∀ i, i < n → ν.1 9 i = nI (pv i)
def pickB (V : VS) (n : Nat) (pv : Nat → Nat) : Prop := n ≤ 8 ∧ ∀ i, i < n → pv i < V 0 0 1
def apD (V : VS) (pv : Nat → Nat) (a b : Nat) : Nat := popc (V 12 0 (pv a) ^^^ V 12 0 (pv b))
theorem apD_le {V : VS} {pv : Nat → Nat} {n a b : Nat} (h8 : W8 V) (hB : pickB V n pv) (ha : a < n) (hb : b < n) : V 12 0 (pv a) ^^^ V 12 0 (pv b) < 2 ^ 10 ∧ apD V pv a b ≤ 10 := by
  have h1 := (h8 _ (hB.2 a ha)).2.1
  have h2 := (h8 _ (hB.2 b hb)).2.1
  have h3 : V 12 0 (pv a) ^^^ V 12 0 (pv b) < 2 ^ 10 := Nat.xor_lt_two_pow h1 h2
  refine ⟨h3, ?_⟩
  have e2 : popc (V 12 0 (pv a) ^^^ V 12 0 (pv b)) = pcF 10 _ := pcF_fuel 54 10 _ h3
  unfold apD
  rw [e2]
  exact pcF_le 10 _
def nrF (D : Nat → Nat) (S : Nat) : Nat → Nat
  | 0 => 10
  | u + 1 => if S.testBit u = true then min (nrF D S u) (D u) else nrF D S u
theorem nrF_le (D : Nat → Nat) (S : Nat) : ∀ n, nrF D S n ≤ 10
  | 0 => Nat.le_refl _
  | u + 1 => by
    have := nrF_le D S u
    unfold nrF
    split
    · omega
    · exact this
def bsF (D : Nat → Nat → Nat) (S n : Nat) : Nat → Nat × Nat
  | 0 => (0, 11)
  | v + 1 => if S.testBit v = true then bsF D S n v else if (bsF D S n v).2 ≤ nrF (D v) S n then bsF D S n v else (v, nrF (D v) S n)
theorem bsF_is {D : Nat → Nat → Nat} {S n : Nat} : ∀ v, (bsF D S n v = (0, 11) ∧ ∀ u, u < v → S.testBit u = true) ∨ ((bsF D S n v).1 < v ∧ (bsF D S n v).2 ≤ 10 ∧ S.testBit (bsF D S n v).1 = false) := by
  intro v
  induction v with
  | zero => exact Or.inl ⟨rfl, fun u hu => absurd hu (Nat.not_lt_zero _)⟩
  | succ v ih =>
    by_cases c : S.testBit v = true
    · have e : bsF D S n (v + 1) = bsF D S n v := by rw [bsF, if_pos c]
      rw [e]
      rcases ih with ⟨h1, h2⟩ | ⟨h1, h2, h3⟩
      · refine Or.inl ⟨h1, fun u hu => ?_⟩
        by_cases z : u = v
        · subst z
          exact c
        · exact h2 u (by omega)
      · exact Or.inr ⟨by omega, h2, h3⟩
    · by_cases c2 : (bsF D S n v).2 ≤ nrF (D v) S n
      · have e : bsF D S n (v + 1) = bsF D S n v := by rw [bsF, if_neg c, if_pos c2]
        rw [e]
        rcases ih with ⟨h1, _⟩ | ⟨h1, h2, h3⟩
        · have := nrF_le (D v) S n
          rw [h1] at c2
          have c2 : 11 ≤ nrF (D v) S n := c2
          omega
        · exact Or.inr ⟨by omega, h2, h3⟩
      · have e : bsF D S n (v + 1) = (v, nrF (D v) S n) := by rw [bsF, if_neg c, if_neg c2]
        rw [e]
        exact Or.inr ⟨Nat.lt_succ_self v, nrF_le _ _ _, by simpa using c⟩
theorem sum_one : ∀ n, sumF (fun _ => 1) n = n
  | 0 => rfl
  | n + 1 => by rw [sumF, sum_one n]
/-- k joined: the way so far, who is joined -/
def jnF (D : Nat → Nat → Nat) (n : Nat) : Nat → Nat × Nat
  | 0 => (0, 1)
  | k + 1 => ((jnF D n k).1 + (bsF D (jnF D n k).2 n n).2, (jnF D n k).2 ||| 2 ^ (bsF D (jnF D n k).2 n n).1)
def joinN (V : VS) (n : Nat) (pv : Nat → Nat) : Nat := (jnF (apD V pv) n (n - 1)).1
theorem or_out {s q : Nat} (hs : s < 2 ^ 16) (hq : q < 16) (hb : s.testBit q = false) : popc (s ||| 2 ^ q) = popc s + 1 := by
  have hl : s ||| 2 ^ q < 2 ^ 16 := Nat.or_lt_two_pow hs (Nat.pow_lt_pow_right (by decide) hq)
  rw [popc_sum (k := 16) (by decide) hl, popc_sum (k := 16) (by decide) hs, sumF_split (g := bitN (s ||| 2 ^ q)) (v := q) 16 hq]
  congr 1
  · refine sumF_congr _ (fun i _ => ?_)
    unfold bitN
    by_cases e : i = q
    · subst e
      rw [if_pos rfl, hb]
      rfl
    · rw [if_neg e, Nat.testBit_or, Nat.testBit_two_pow, decide_eq_false (fun z => e z.symm), Bool.or_false]
  · refine if_pos ?_
    rw [Nat.testBit_or, Nat.testBit_two_pow]
    simp
theorem jnF_is {D : Nat → Nat → Nat} {n : Nat} (hn : n ≤ 8) : ∀ k, k < n → (jnF D n k).2 < 2 ^ n ∧ (jnF D n k).2.testBit 0 = true ∧ popc (jnF D n k).2 = k + 1 ∧ (jnF D n k).1 ≤ 10 * k := by
  have p16 : 2 ^ n ≤ 2 ^ 16 := Nat.pow_le_pow_right (by decide) (by omega)
  intro k
  induction k with
  | zero => exact fun h => ⟨Nat.lt_of_lt_of_le (by decide : 1 < 2 ^ 1) (Nat.pow_le_pow_right (by decide) h), (by decide : (1 : Nat).testBit 0 = true), (by decide : popc 1 = 0 + 1), Nat.le_refl _⟩
  | succ k ih =>
    intro hk
    obtain ⟨h1, h2, h3, h4⟩ := ih (by omega)
    rcases bsF_is (D := D) (S := (jnF D n k).2) (n := n) n with ⟨_, g⟩ | ⟨g1, g2, g3⟩
    · have e : popc (jnF D n k).2 = n := by
        rw [popc_sum (k := n) (by omega) h1, sumF_congr (g := bitN (jnF D n k).2) (g2 := fun _ => 1) n (fun i hi => if_pos (g i hi))]
        exact sum_one n
      omega
    · have e2 : (jnF D n (k + 1)).2 = (jnF D n k).2 ||| 2 ^ (bsF D (jnF D n k).2 n n).1 := rfl
      have e1 : (jnF D n (k + 1)).1 = (jnF D n k).1 + (bsF D (jnF D n k).2 n n).2 := rfl
      rw [e1, e2]
      refine ⟨Nat.or_lt_two_pow h1 (Nat.pow_lt_pow_right (by decide) g1), ?_, ?_, by omega⟩
      · rw [Nat.testBit_or, h2, Bool.true_or]
      · rw [or_out (by omega) (by omega) g3, h3]
theorem c_near {μ : Mm} {V : VS} {n v S : Nat} {pv : Nat → Nat} (h : HC μ 1 V) (h8 : W8 V) (hp : pickC μ 181 n pv) (hB : pickB V n pv) (hS : S < 2 ^ 16) (hv : v < n) : Picks_nearness 181 3 (nI S) (nI v) μ = some (nI (nrF (apD V pv v) S n)) := by
  have v40 := h.v40
  have n8 := hB.1
  have hm : ∀ i, i < n → μ.1 5 (pv i) = nI (V 12 0 (pv i)) := fun i hi => h.vm (hB.2 i hi)
  have hq : ∀ i, i < n → μ.1 182 i = nI (pv i) := hp.2
  have hl := hB.2
  have key := iter_traj (f := fun s : Int32 × Int32 => Picks_nearness_l7 181 3 (nI S) (nI v) s.1 s.2 μ) (fun k => (nI (nrF (apD V pv v) S k), nI k)) (y := nI (nrF (apD V pv v) S n)) n 1000000 (fun k hk => ?_) ?_ (by omega)
  · unfold Picks_nearness
    show bni (iter 1000000 _ (nI (nrF (apD V pv v) S 0), nI 0)) _ = _
    rw [key, bni_eq]
  · have hb := hb_test (x := S) (i := k) (by omega) (by omega)
    have a1 := apD_le h8 hB hv hk
    have l1 := hl v hv
    have l2 := hl k hk
    have a2 := nrF_le (apD V pv v) S k
    show Picks_nearness_l7 _ _ _ _ _ _ _ = _
    unfold Picks_nearness_l7 Picks_nearness_j63
    dsimp only
    rw [hp.1, if_neg (nI_ge hk (by omega)), c_hasBit, hb, bnd_eq]
    by_cases c : S.testBit k = true
    · rw [c, if_neg (show ¬ ((if true = true then nI 1 else nI 0) = (0 : Int32)) by decide), chv_nI (by omega) (by decide), ix_nI (by omega), hq v hv, chv_nI (by omega) (by decide), chv_nI (by omega) (by decide), ix_nI (by omega), ix_nI (by omega), hq k hk, chv_nI (by omega) (by decide), ix_nI (by omega), hm v hv, hm k hk, nI_xor, lt_eq, JI_popc (by omega), bnd_eq, nrF, if_pos c, nI_add]
      have := jmin_nI (a := nrF (apD V pv v) S k) (b := apD V pv v k) (by omega) (by omega)
      unfold apD at this ⊢
      rw [this]
    · rw [if_pos (show ((if S.testBit k = true then nI 1 else nI 0) = (0 : Int32)) by rw [if_neg c]; rfl), nrF, if_neg c, nI_add]
  · show Picks_nearness_l7 _ _ _ _ _ _ _ = _
    unfold Picks_nearness_l7
    rw [hp.1, if_pos (nI_le (Nat.le_refl _) (by omega))]
theorem c_join {μ : Mm} {V : VS} {n : Nat} {pv : Nat → Nat} (h : HC μ 1 V) (h8 : W8 V) (hp : pickC μ 181 n pv) (hB : pickB V n pv) : Nine_join μ = some (nI (joinN V n pv)) := by
  have n8 := hB.1
  have inner : ∀ k (x2 x4 : Int32), k < n → iter 1000000 (fun s => Picks_leastJoin_l26 181 3 x2 (nI (jnF (apD V pv) n k).2) x4 s.1 s.2.1 s.2.2 μ) (nI 0, nI 11, nI 0) = some (nI (bsF (apD V pv) (jnF (apD V pv) n k).2 n n).1, nI (bsF (apD V pv) (jnF (apD V pv) n k).2 n n).2) := fun k x2 x4 hk => by
    have hS := (jnF_is (D := apD V pv) n8 k hk).1
    generalize (jnF (apD V pv) n k).2 = S at hS ⊢
    have p16 : 2 ^ n ≤ 2 ^ 8 := Nat.pow_le_pow_right (by decide) n8
    refine iter_traj (f := fun s : Int32 × Int32 × Int32 => Picks_leastJoin_l26 181 3 x2 (nI S) x4 s.1 s.2.1 s.2.2 μ) (fun k => (nI (bsF (apD V pv) S n k).1, nI (bsF (apD V pv) S n k).2, nI k)) (y := (nI (bsF (apD V pv) S n n).1, nI (bsF (apD V pv) S n n).2)) n 1000000 (fun v hv => ?_) ?_ (by omega)
    · have hb := hb_test (x := S) (i := v) (by omega) (by omega)
      have a2 := nrF_le (apD V pv v) S n
      have a3 : (bsF (apD V pv) S n v).2 ≤ 11 := by
        rcases bsF_is (D := apD V pv) (S := S) (n := n) v with ⟨e, _⟩ | ⟨_, e, _⟩
        · rw [e]
          exact Nat.le_refl _
        · omega
      show Picks_leastJoin_l26 _ _ _ _ _ _ _ _ _ = _
      unfold Picks_leastJoin_l26 Picks_leastJoin_j57 Picks_leastJoin_j74
      dsimp only
      rw [hp.1, if_neg (nI_ge hv (by omega)), c_hasBit, hb, bnd_eq, c_near h h8 hp hB (by omega) hv, bnd_eq]
      by_cases c : S.testBit v = true
      · rw [c, if_neg (show ¬ ((if true = true then nI 1 else nI 0) = (0 : Int32)) by decide), if_pos (nI_le a3 (by decide)), bsF, if_pos c, nI_add]
      · rw [if_pos (show ((if S.testBit v = true then nI 1 else nI 0) = (0 : Int32)) by rw [if_neg c]; rfl), bsF, if_neg c, nI_add]
        by_cases c2 : (bsF (apD V pv) S n v).2 ≤ nrF (apD V pv v) S n
        · rw [if_pos (nI_le c2 (by omega)), if_pos c2]
        · rw [if_neg (nI_ge (by omega) (by omega)), if_neg c2]
    · show Picks_leastJoin_l26 _ _ _ _ _ _ _ _ _ = _
      unfold Picks_leastJoin_l26
      rw [hp.1, if_pos (nI_le (Nat.le_refl _) (by omega))]
  have key := iter_traj (f := fun s : Int32 × Int32 × Int32 => Picks_leastJoin_l7 181 3 s.1 s.2.1 s.2.2 μ) (fun k => (nI (jnF (apD V pv) n k).1, nI (jnF (apD V pv) n k).2, nI (k + 1))) (y := nI (joinN V n pv)) (n - 1) 1000000 (fun k hk => ?_) ?_ (by omega)
  · unfold Nine_join Picks_leastJoin
    show bnd (bni (iter 1000000 _ (nI (jnF (apD V pv) n 0).1, nI (jnF (apD V pv) n 0).2, nI (0 + 1))) _) _ = _
    rw [key, bni_eq, bnd_eq]
  · have hi := (jnF_is (D := apD V pv) n8 (k + 1) (by omega))
    have hw : (bsF (apD V pv) (jnF (apD V pv) n k).2 n n).1 < 31 := by
      rcases bsF_is (D := apD V pv) (S := (jnF (apD V pv) n k).2) (n := n) n with ⟨e, _⟩ | ⟨e, _, _⟩
      · rw [e]
        decide
      · omega
    show Picks_leastJoin_l7 _ _ _ _ _ _ = _
    unfold Picks_leastJoin_l7
    dsimp only
    rw [hp.1, if_neg (nI_ge (by omega) (by omega)), inner k _ _ (by omega), bni_eq]
    dsimp only
    rw [shl1 _ hw, nI_or, nI_add, nI_add]
    rfl
  · show Picks_leastJoin_l7 _ _ _ _ _ _ = _
    unfold Picks_leastJoin_l7
    rw [hp.1, if_pos (nI_le (by omega) (by omega))]
    rfl
