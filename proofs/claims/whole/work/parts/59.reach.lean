/-! SETS OF PEOPLE; whom one can reach -/
def orG (g : Nat → Nat) : Nat → Nat
  | 0 => 0
  | n + 1 => orG g n ||| g n
theorem orG_lt {g : Nat → Nat} {k : Nat} (n : Nat) (h : ∀ i, i < n → g i < 2 ^ k) : orG g n < 2 ^ k := by
  induction n with
  | zero => exact Nat.two_pow_pos k
  | succ n ih => exact Nat.or_lt_two_pow (ih (fun i hi => h i (by omega))) (h n (by omega))
theorem orG_bit {g : Nat → Nat} {t : Nat} (n : Nat) : (orG g n).testBit t = true ↔ ∃ q, q < n ∧ (g q).testBit t = true := by
  induction n with
  | zero =>
    unfold orG
    rw [Nat.zero_testBit]
    exact ⟨fun z => absurd z (by decide), fun ⟨q, h, _⟩ => absurd h (by omega)⟩
  | succ n ih =>
    unfold orG
    rw [Nat.testBit_or, Bool.or_eq_true, ih]
    constructor
    · rintro (⟨q, h1, h2⟩ | h)
      · exact ⟨q, by omega, h2⟩
      · exact ⟨n, by omega, h⟩
    · rintro ⟨q, h1, h2⟩
      by_cases e : q = n
      · subst e
        exact Or.inr h2
      · exact Or.inl ⟨q, by omega, h2⟩
theorem loop_or {f : Int32 × Int32 → Option ((Int32 × Int32) ⊕ Int32)} {g : Nat → Nat} {N : Nat} (hN : N < 1000000) (h1 : ∀ n s, n < N → f (nI s, nI n) = some (.inl (nI (s ||| g n), nI (n + 1)))) (h2 : ∀ s, f (nI s, nI N) = some (.inr (nI s))) (s0 : Nat) : iter 1000000 f (nI s0, nI 0) = some (nI (s0 ||| orG g N)) := by
  have key := iter_traj (f := f) (fun k => (nI (s0 ||| orG g k), nI k)) (y := nI (s0 ||| orG g N)) N 1000000 (fun k hk => ?_) (h2 _) hN
  · have e : s0 ||| orG g 0 = s0 := Nat.or_zero _
    rw [e] at key
    exact key
  · rw [h1 k _ hk, Nat.or_assoc]
    rfl
def rowS (V : VS) (p : Nat) : Nat := orG (fun i => 2 ^ V 2 p i) (V 3 p 0)
theorem rowS_lt {V : VS} {p : Nat} (h6 : W6 V) (hP : V 0 0 0 ≤ 16) (hp : p < V 0 0 0) : rowS V p < 2 ^ 16 := orG_lt _ (fun i hi => Nat.pow_lt_pow_right (by decide) (by have := (h6 p i hp hi).1; omega))
theorem c_rows {μ : Mm} {w : Nat} {V : VS} {p : Nat} (h : HC μ w V) (h6 : W6 V) (hp : p < V 0 0 0) : Person_rowSet (w + (21 + 9 * p)) μ = some (nI (rowS V p)) := by
  have P16 := h.P16
  have r9 := h.r9 hp
  have er := h.rc hp
  have key := loop_or (f := fun s => Person_rowSet_l4 (w + (21 + 9 * p)) s.1 s.2 μ) (g := fun i => 2 ^ V 2 p i) (N := V 3 p 0) (by omega) (fun n s hn => ?_) (fun s => ?_) 0
  · unfold Person_rowSet
    rw [key, bni_eq, Nat.zero_or]
    rfl
  · have e := h.row hp hn
    have w6 := h6 p n hp hn
    show Person_rowSet_l4 _ _ _ _ = _
    unfold Person_rowSet_l4
    rw [er, if_neg (nI_ge hn (by omega)), chv_nI (by omega) (by decide), ix_nI (by omega), e, shl1 _ (by omega), nI_or, lt_eq, nI_add]
  · show Person_rowSet_l4 _ _ _ _ = _
    unfold Person_rowSet_l4
    rw [er, if_pos (nI_le (Nat.le_refl _) (by omega))]
theorem m_rows {ν : Mm} {th : Nat} {V : VS} {p : Nat} (h : HM ν th V) (h6 : W6 V) (hp : p < V 0 0 0) : M_addressesOf (nI p) ν = some (nI (rowS V p)) := by
  have P16 := h.P16
  have r9 := h.r9 hp
  have er := h.rc hp
  have key := loop_or (f := fun s => M_addressesOf_l4 (nI p) s.1 s.2 ν) (g := fun i => 2 ^ V 2 p i) (N := V 3 p 0) (by omega) (fun n s hn => ?_) (fun s => ?_) 0
  · unfold M_addressesOf
    rw [key, bni_eq, Nat.zero_or]
    rfl
  · have e := h.row hp hn
    have w6 := h6 p n hp hn
    show M_addressesOf_l4 _ _ _ _ = _
    unfold M_addressesOf_l4
    simp only [nI_add, nI_mulE]
    rw [chv_nI (by omega) (by decide), ix_nI (by omega), er, if_neg (nI_ge hn (by omega)), chv_nI (by omega) (by decide), ix_nI (by omega), e, shl1 _ (by omega), nI_or, lt_eq]
  · show M_addressesOf_l4 _ _ _ _ = _
    unfold M_addressesOf_l4
    rw [chv_nI (by omega) (by decide), ix_nI (by omega), er, if_pos (nI_le (Nat.le_refl _) (by omega))]
def passV (V : VS) (q : Nat) : Bool := decide (V 1 q 1 = 0 ∧ V 1 q 5 = 0)
def adG (V : VS) (s q : Nat) : Nat := if s.testBit q = true ∧ passV V q = true then rowS V q else 0
def stpV (V : VS) (R : Nat) : Nat := R ||| orG (adG V R) (V 0 0 0)
def reV (V : VS) (p k : Nat) : Nat := itn (k - 1) (stpV V) (rowS V p)
theorem adG_lt {V : VS} {s q : Nat} (h6 : W6 V) (hP : V 0 0 0 ≤ 16) (hq : q < V 0 0 0) : adG V s q < 2 ^ 16 := by
  unfold adG
  split
  · exact rowS_lt h6 hP hq
  · decide
theorem stpV_lt {V : VS} {R : Nat} (h6 : W6 V) (hP : V 0 0 0 ≤ 16) (h : R < 2 ^ 16) : stpV V R < 2 ^ 16 := Nat.or_lt_two_pow h (orG_lt _ (fun q hq => adG_lt h6 hP hq))
theorem reI_lt {V : VS} {p : Nat} (h6 : W6 V) (hP : V 0 0 0 ≤ 16) (hp : p < V 0 0 0) (j : Nat) : itn j (stpV V) (rowS V p) < 2 ^ 16 := by
  induction j with
  | zero => exact rowS_lt h6 hP hp
  | succ j ih => exact stpV_lt h6 hP ih
theorem c_pass {μ : Mm} {w : Nat} {V : VS} {p : Nat} (h : HC μ w V) (h5 : W5 V) (hp : p < V 0 0 0) : Person_passesOn (w + (21 + 9 * p)) μ = some (if passV V p = true then nI 1 else nI 0) := by
  have t1 := h.told hp (j := 1) (by decide)
  have t5 := h.told hp (j := 5) (by decide)
  have w5 := h5 p hp
  unfold Person_passesOn passV
  rw [chv_nI (by decide) (by decide), ix_nI (by decide), t1]
  by_cases c1 : V 1 p 1 = 0
  · rw [if_pos (by rw [c1]; rfl), chv_nI (by decide) (by decide), ix_nI (by decide), t5]
    by_cases c2 : V 1 p 5 = 0
    · rw [if_pos (by rw [c2]; rfl), if_pos (by simp [c1, c2])]
    · rw [if_neg (nI_ne0 (by omega) (by omega)), if_neg (by simp [c2])]
  · rw [if_neg (nI_ne0 (by omega) (by omega)), if_neg (by simp [c1])]
theorem m_goes {ν : Mm} {th : Nat} {V : VS} {p : Nat} (h : HM ν th V) (h5 : W5 V) (hp : p < V 0 0 0) : M_goesOnFrom (nI p) ν = some (if passV V p = true then nI 1 else nI 0) := by
  have P16 := h.P16
  have t1 := h.kind hp
  have es := h.stp hp
  have w5 := h5 p hp
  unfold M_goesOnFrom M_isStopped passV
  rw [chv_nI (by omega) (by decide), ix_nI (by omega), t1, es]
  by_cases c1 : V 1 p 1 = 0
  · rw [if_pos (by rw [c1]; rfl)]
    by_cases c2 : V 1 p 5 = 0
    · rw [if_neg (by rw [c2]; decide), bnd_eq, if_pos (by decide), if_pos (by simp [c1, c2])]
    · rw [if_pos (by rw [show V 1 p 5 = 1 by omega]), bnd_eq, if_neg (by decide), if_neg (by simp [c2])]
  · rw [if_neg (nI_ne0 (by omega) (by omega)), if_neg (by simp [c1])]
theorem m_reach1 {ν : Mm} {th : Nat} {V : VS} {R : Nat} (h : HM ν th V) (h5 : W5 V) (h6 : W6 V) (hR : R < 2 ^ 16) (a b : Int32) : iter 1000000 (fun s => M_reachOf_l21 a (nI R) b s.1 s.2 ν) (nI R, nI 0) = some (nI (stpV V R)) := by
  have P16 := h.P16
  have eP := h.P
  refine loop_or (f := fun s => M_reachOf_l21 a (nI R) b s.1 s.2 ν) (g := adG V R) (N := V 0 0 0) (by omega) (fun n s hn => ?_) (fun s => ?_) R
  · have hb := hb_test (x := R) (i := n) (by omega) (by omega)
    show M_reachOf_l21 _ _ _ _ _ _ = _
    unfold M_reachOf_l21 M_reachOf_j60 adG
    rw [eP, if_neg (nI_ge hn (by omega)), nI_add]
    by_cases c1 : R.testBit n = true
    · rw [if_pos (of_decide_eq_true (hb.trans c1)), m_goes h h5 hn, bnd_eq]
      by_cases c2 : passV V n = true
      · rw [if_pos c2, if_neg (by decide), m_rows h h6 hn, bnd_eq, nI_or, if_pos ⟨c1, c2⟩]
      · rw [if_neg c2, if_pos (by decide), if_neg (fun z => c2 z.2), Nat.or_zero]
    · have c1' : R.testBit n = false := by simpa using c1
      rw [if_neg (of_decide_eq_false (hb.trans c1')), if_neg (fun z => c1 z.1), Nat.or_zero]
  · show M_reachOf_l21 _ _ _ _ _ _ = _
    unfold M_reachOf_l21
    rw [eP, if_pos (nI_le (Nat.le_refl _) (by omega))]
theorem m_reachOf {ν : Mm} {th : Nat} {V : VS} {p n : Nat} (h : HM ν th V) (h5 : W5 V) (h6 : W6 V) (hp : p < V 0 0 0) (h1 : 1 ≤ n) (hn : n ≤ 16) : M_reachOf (nI p) (nI n) ν = some (nI (reV V p n)) := by
  have P16 := h.P16
  have key := iter_traj (f := fun s : Int32 × Int32 => M_reachOf_l9 (nI n) s.1 s.2 ν) (fun j => (nI (itn j (stpV V) (rowS V p)), nI (1 + j))) (y := nI (reV V p n)) (n - 1) 1000000 (fun j hj => ?_) ?_ (by omega)
  · unfold M_reachOf
    rw [m_rows h h6 hp, bnd_eq]
    have key : iter 1000000 (fun s : Int32 × Int32 => M_reachOf_l9 (nI n) s.1 s.2 ν) (nI (rowS V p), nI 1) = some (nI (reV V p n)) := key
    rw [key, bni_eq]
  · show M_reachOf_l9 _ _ _ _ = _
    unfold M_reachOf_l9
    rw [if_neg (nI_ge (by omega) (by omega)), m_reach1 h h5 h6 (reI_lt h6 P16 hp j), bni_eq, nI_add]
    rfl
  · show M_reachOf_l9 _ _ _ _ = _
    unfold M_reachOf_l9
    rw [if_pos (nI_le (by omega) (by omega))]
    rfl
theorem c_reach1 {μ : Mm} {w : Nat} {V : VS} {L : Nat} (h : HC μ w V) (h5 : W5 V) (h6 : W6 V) (hL : L < 2 ^ 16) (a b e : Int32) : iter 1000000 (fun s => World_reachedFrom_l33 w a b (nI L) e s.1 s.2 μ) (nI 0, nI 0) = some (nI (orG (adG V L) (V 0 0 0))) := by
  have P16 := h.P16
  have eP := h.P
  have key := loop_or (f := fun s => World_reachedFrom_l33 w a b (nI L) e s.1 s.2 μ) (g := adG V L) (N := V 0 0 0) (by omega) (fun n s hn => ?_) (fun s => ?_) 0
  · rw [key, Nat.zero_or]
  · have hb := hb_test (x := L) (i := n) (by omega) (by omega)
    show World_reachedFrom_l33 _ _ _ _ _ _ _ _ = _
    unfold World_reachedFrom_l33 World_reachedFrom_j80 adG
    rw [eP, if_neg (nI_ge hn (by omega)), nI_add, c_hasBit, bnd_eq, hb]
    by_cases c1 : L.testBit n = true
    · rw [if_pos c1, if_neg (by decide), chv_nI (by omega) (by decide), ix_nI (by omega), c_pass h h5 hn, bnd_eq]
      by_cases c2 : passV V n = true
      · rw [if_pos c2, if_neg (by decide), chv_nI (by omega) (by decide), c_rows h h6 hn, bnd_eq, nI_or, if_pos ⟨c1, c2⟩]
      · rw [if_neg c2, if_pos (by decide), if_neg (fun z => c2 z.2), Nat.or_zero]
    · rw [if_neg c1, if_pos (by decide), if_neg (fun z => c1 z.1), Nat.or_zero]
  · show World_reachedFrom_l33 _ _ _ _ _ _ _ _ = _
    unfold World_reachedFrom_l33
    rw [eP, if_pos (nI_le (Nat.le_refl _) (by omega))]
/-- what was reached of late is enough to go on from -/
def goodR (V : VS) (R L : Nat) : Prop := (∀ t, L.testBit t = true → R.testBit t = true) ∧ ∀ q, q < V 0 0 0 → R.testBit q = true → passV V q = true → L.testBit q = true ∨ ∀ t, (rowS V q).testBit t = true → R.testBit t = true
theorem adG_bit {V : VS} {s q t : Nat} : (adG V s q).testBit t = true ↔ s.testBit q = true ∧ passV V q = true ∧ (rowS V q).testBit t = true := by
  unfold adG
  by_cases e : s.testBit q = true ∧ passV V q = true
  · rw [if_pos e]
    exact ⟨fun z => ⟨e.1, e.2, z⟩, fun z => z.2.2⟩
  · rw [if_neg e, Nat.zero_testBit]
    exact ⟨fun z => absurd z (by decide), fun z => absurd ⟨z.1, z.2.1⟩ e⟩
theorem bits_eq {a b : Nat} (h : ∀ t, a.testBit t = true ↔ b.testBit t = true) : a = b := Nat.eq_of_testBit_eq (fun t => by
  have := h t
  cases h1 : a.testBit t <;> cases h2 : b.testBit t <;> simp_all)
theorem goodR_stp {V : VS} {R L : Nat} (h : goodR V R L) : R ||| orG (adG V L) (V 0 0 0) = stpV V R := by
  refine bits_eq (fun t => ?_)
  unfold stpV
  rw [Nat.testBit_or, Nat.testBit_or, Bool.or_eq_true, Bool.or_eq_true, orG_bit, orG_bit]
  constructor
  · rintro (z | ⟨q, hq, z⟩)
    · exact Or.inl z
    · rw [adG_bit] at z
      exact Or.inr ⟨q, hq, adG_bit.2 ⟨h.1 q z.1, z.2⟩⟩
  · rintro (z | ⟨q, hq, z⟩)
    · exact Or.inl z
    · rw [adG_bit] at z
      rcases h.2 q hq z.1 z.2.1 with y | y
      · exact Or.inr ⟨q, hq, adG_bit.2 ⟨y, z.2⟩⟩
      · exact Or.inl (y t z.2.2)
theorem goodR_next {V : VS} {R L : Nat} (h : goodR V R L) (hL : orG (adG V L) (V 0 0 0) < 2 ^ 16) : goodR V (stpV V R) (orG (adG V L) (V 0 0 0) &&& (R ^^^ 4294967295)) := by
  rw [← goodR_stp h]
  have hx : ∀ t, t < 32 → (R ^^^ 4294967295).testBit t = !R.testBit t := fun t ht => by
    rw [Nat.testBit_xor, show (4294967295 : Nat) = 2 ^ 32 - 1 from rfl, Nat.testBit_two_pow_sub_one]
    simp [ht]
  refine ⟨fun t z => ?_, fun q hq hR hp => ?_⟩
  · rw [Nat.testBit_and, Bool.and_eq_true] at z
    rw [Nat.testBit_or, z.1, Bool.or_true]
  · rw [Nat.testBit_or, Bool.or_eq_true] at hR
    by_cases e : R.testBit q = true
    · refine Or.inr (fun t ht => ?_)
      rw [Nat.testBit_or, Bool.or_eq_true]
      rcases h.2 q hq e hp with y | y
      · exact Or.inr ((orG_bit _).2 ⟨q, hq, adG_bit.2 ⟨y, hp, ht⟩⟩)
      · exact Or.inl (y t ht)
    · have hB := hR.resolve_left e
      have hq32 : q < 32 := by
        by_cases e32 : q < 32
        · exact e32
        · have := Nat.testBit_lt_two_pow (x := orG (adG V L) (V 0 0 0)) (i := q) (Nat.lt_of_lt_of_le hL (Nat.pow_le_pow_right (by decide) (by omega)))
          rw [this] at hB
          exact absurd hB (by decide)
      refine Or.inl ?_
      rw [Nat.testBit_and, hB, hx q hq32]
      simp [e]
theorem goodR_0 {V : VS} {R : Nat} (h : goodR V R 0) (k : Nat) : itn k (stpV V) R = R := by
  have e : stpV V R = R := by
    rw [← goodR_stp h]
    refine bits_eq (fun t => ?_)
    rw [Nat.testBit_or, Bool.or_eq_true, orG_bit]
    refine ⟨fun z => z.elim id (fun ⟨q, hq, y⟩ => ?_), Or.inl⟩
    have y1 := (adG_bit.1 y).1
    rw [Nat.zero_testBit] at y1
    exact absurd y1 (by decide)
  induction k with
  | zero => rfl
  | succ k ih =>
    show stpV V (itn k (stpV V) R) = R
    rw [ih, e]
theorem itn_add {α : Type} (f : α → α) (a b : Nat) (x : α) : itn (a + b) f x = itn a f (itn b f x) := by
  induction a with
  | zero =>
    rw [Nat.zero_add]
    rfl
  | succ a ih =>
    rw [Nat.succ_add]
    show f (itn (a + b) f x) = f (itn a f (itn b f x))
    rw [ih]
theorem c_reachF {μ : Mm} {w : Nat} {V : VS} {p n : Nat} (h : HC μ w V) (h5 : W5 V) (h6 : W6 V) (hp : p < V 0 0 0) (h1 : 1 ≤ n) (hn : n ≤ 16) : World_reachedFrom w (nI p) (nI n) μ = some (nI (reV V p n)) := by
  have P16 := h.P16
  have key := iter_inv (f := fun s : Int32 × Int32 × Int32 => World_reachedFrom_l16 w (nI n) s.1 s.2.1 s.2.2 μ) (fun j s => ∃ L, s = (nI (itn j (stpV V) (rowS V p)), nI L, nI (1 + j)) ∧ L < 2 ^ 16 ∧ goodR V (itn j (stpV V) (rowS V p)) L) (fun x => x = nI (reV V p n)) (n - 1) ?_ ?_ 1000000 (nI (rowS V p), nI (rowS V p), nI 1) ⟨rowS V p, rfl, rowS_lt h6 P16 hp, fun _ z => z, fun q _ z _ => Or.inl z⟩ (by omega)
  · obtain ⟨x, e1, rfl⟩ := key
    unfold World_reachedFrom
    rw [chv_nI (by omega) (by decide), ix_nI (by omega), c_rows h h6 hp, bnd_eq, e1, bni_eq]
  · rintro j s hj ⟨L, rfl, hL, hg⟩
    have hR := reI_lt h6 P16 hp j
    have hB : orG (adG V L) (V 0 0 0) < 2 ^ 16 := orG_lt _ (fun q hq => adG_lt h6 P16 hq)
    by_cases e : L = 0
    · subst e
      refine Or.inr ⟨nI (reV V p n), ?_, rfl⟩
      show World_reachedFrom_l16 _ _ _ _ _ _ = _
      unfold World_reachedFrom_l16
      have er : reV V p n = itn j (stpV V) (rowS V p) := by
        unfold reV
        rw [show n - 1 = (n - 1 - j) + j by omega, itn_add, goodR_0 hg]
      rw [if_neg (nI_ge (by omega) (by omega)), if_pos (show nI 0 = (0 : Int32) from rfl), er]
    · refine Or.inl ⟨(nI (stpV V (itn j (stpV V) (rowS V p))), nI (orG (adG V L) (V 0 0 0) &&& (itn j (stpV V) (rowS V p) ^^^ 4294967295)), nI (1 + j + 1)), ?_, _, rfl, Nat.lt_of_le_of_lt Nat.and_le_left hB, goodR_next hg hB⟩
      show World_reachedFrom_l16 _ _ _ _ _ _ = _
      unfold World_reachedFrom_l16
      rw [if_neg (nI_ge (by omega) (by omega)), if_neg (nI_ne0 (by omega) (by omega)), c_reach1 h h5 h6 hL, bni_eq, nI_or, goodR_stp hg, show (-1 : Int32) = nI 4294967295 from by decide, nI_xor, nI_and, nI_add]
  · rintro s ⟨L, rfl, hL, hg⟩
    refine ⟨_, ?_, rfl⟩
    show World_reachedFrom_l16 _ _ _ _ _ _ = _
    unfold World_reachedFrom_l16
    rw [if_pos (nI_le (by omega) (by omega))]
    rfl
