/-! THE CLASS READS: as the grammar says, also behind a fault -/
/-- a tape and its tokens -/
def Hyp (tp : Nat → Nat) (n c m : Nat) : Prop := n ≤ 400 ∧ c ≤ n ∧ plc tp n c = n ∧ (∀ i, i < c → plc tp n i < n) ∧ tapB n tp ∧ m ≤ 11
theorem Kd_b {tp : Nat → Nat} {n i : Nat} (hB : tapB n tp) : Kd tp n i < 320 := by
  unfold Kd
  split
  · rename_i h
    have t := hB.2 _ h
    unfold kndA
    split
    · rcases wrd_k tp (plc tp n i) (eot tp n (plc tp n i)) with z | ⟨j, hj, z⟩ <;> omega
    · split
      · split <;> omega
      · omega
  · omega
theorem Hyp.E {tp : Nat → Nat} {n c m : Nat} (H : Hyp tp n c m) : ∀ i, i < c + 1 → Kd tp n i ≠ 256 → i + 1 < c + 1 := by
  intro i hi hk
  by_cases e : i = c
  · subst e
    exact absurd (if_neg (by rw [H.2.2.1]; exact Nat.lt_irrefl n)) hk
  · omega
theorem Hyp.V {tp : Nat → Nat} {n c m : Nat} (H : Hyp tp n c m) : ∀ i, Vd tp n i ≤ 9999 := fun i => Vd_b H.2.2.2.2.1
def RdT (tp : Nat → Nat) (n c m : Nat) (μ : Mm) : Prop := tokC μ tp n c ∧ μ.1 532 7 = nI (c + 1) ∧ μ.1 532 11 = nI m
def RC (tp : Nat → Nat) (n c m : Nat) (μ : Mm) (r : PR) : Prop := RdT tp n c m μ ∧ match r with
  | .inl e => (e.1 = 1 ∨ e.1 = 2 ∨ e.1 = 3) ∧ e.2 ≤ c ∧ μ.1 532 2 = nI e.1 ∧ μ.1 532 3 = nI (plc tp n e.2) ∧ (∃ q, q ≤ c ∧ μ.1 532 8 = nI q) ∧ ∃ q, q ≤ 400 ∧ μ.1 537 5 = nI q
  | .inr x => x.1 ≤ c ∧ x.2.length ≤ x.1 ∧ μ.1 532 2 = nI 0 ∧ μ.1 532 3 = -1 ∧ μ.1 532 8 = nI x.1 ∧ μ.1 537 5 = nI x.2.length ∧ ∀ k, k < x.2.length → μ.1 538 k = nI (gF x.2 k)
def ERd (o : Nat) : Prop := o = 532 ∨ o = 537 ∨ o = 538
def RF (μ μ2 : Mm) : Prop := Out ERd μ μ2 ∧ μ2.1 537 6 = μ.1 537 6 ∧ ∀ k, k ≠ 2 → k ≠ 3 → k ≠ 8 → μ2.1 532 k = μ.1 532 k
theorem RF.rf {μ : Mm} : RF μ μ := ⟨Out.rf, rfl, fun _ _ _ _ => rfl⟩
theorem RF.tr {μ μ2 μ3 : Mm} (h : RF μ μ2) (h2 : RF μ2 μ3) : RF μ μ3 := ⟨h.1.tr h2.1, h2.2.1.trans h.2.1, fun k a b d => (h2.2.2 k a b d).trans (h.2.2 k a b d)⟩
theorem RF.s2 {μ μ2 : Mm} {k : Nat} {v : Int32} (h : RF μ μ2) (hk : k = 2 ∨ k = 3 ∨ k = 8) : RF μ (sti μ2 532 k v) := ⟨h.1.sti (Or.inl rfl), by rw [sti_n (by omega)]; exact h.2.1, fun j a b d => by rw [sti_n (by omega)]; exact h.2.2 j a b d⟩
theorem RF.s7 {μ μ2 : Mm} {v : Int32} (h : RF μ μ2) : RF μ (sti μ2 537 5 v) := ⟨h.1.sti (Or.inr (Or.inl rfl)), by rw [sti_n (by omega)]; exact h.2.1, fun j a b d => by rw [sti_n (by omega)]; exact h.2.2 j a b d⟩
theorem RF.s8 {μ μ2 : Mm} {k : Nat} {v : Int32} (h : RF μ μ2) : RF μ (sti μ2 538 k v) := ⟨h.1.sti (Or.inr (Or.inr rfl)), by rw [sti_n (by omega)]; exact h.2.1, fun j a b d => by rw [sti_n (by omega)]; exact h.2.2 j a b d⟩
section
variable {tp : Nat → Nat} {n c m : Nat}
theorem RdT.f {μ μ2 : Mm} (h : RdT tp n c m μ) (hf : RF μ μ2) : RdT tp n c m μ2 := by
  obtain ⟨a, b, d⟩ := h
  refine ⟨fun i hi => ?_, (hf.2.2 7 (by decide) (by decide) (by decide)).trans b, (hf.2.2 11 (by decide) (by decide) (by decide)).trans d⟩
  obtain ⟨a1, a2, a3⟩ := a i hi
  exact ⟨((hf.1 534 (by unfold ERd; omega)).1 i).trans a1, ((hf.1 535 (by unfold ERd; omega)).1 i).trans a2, ((hf.1 536 (by unfold ERd; omega)).1 i).trans a3⟩
theorem e_ne {e : Nat} (h : e = 1 ∨ e = 2 ∨ e = 3) : ¬ nI e = 0 := fun z => by
  have := (nI_eq (b := 0) (by omega) (by decide)).1 z
  omega
theorem c_rfail (H : Hyp tp n c m) {μ : Mm} {r : PR} (h : RC tp n c m μ r) {e : Nat} (he : e = 1 ∨ e = 2 ∨ e = 3) : ∃ μ2, Reader_fail 532 (nI e) μ = some μ2 ∧ RC tp n c m μ2 (bR r fun i _ => .inl (e, i)) ∧ RF μ μ2 := by
  obtain ⟨hT, h⟩ := h
  have hc : c ≤ 400 := Nat.le_trans H.2.1 H.1
  cases r with
  | inl x =>
    obtain ⟨h1, h2, h3, h4, h5⟩ := h
    unfold Reader_fail
    rw [h3, if_neg (e_ne h1)]
    exact ⟨μ, rfl, ⟨hT, h1, h2, h3, h4, h5⟩, RF.rf⟩
  | inr x =>
    obtain ⟨h1, h2, h3, h4, h5, h6, h7⟩ := h
    unfold Reader_fail
    rw [h3, if_00, lt_eq, sti_n (by omega), h5, chv_nI (by omega) (by decide), ix_nI (by omega), sti_n (by omega), (hT.1 x.1 h1).2.2, lt_eq]
    have f : RF μ (sti (sti μ 532 2 (nI e)) 532 3 (nI (plc tp n x.1))) := (RF.rf.s2 (Or.inl rfl)).s2 (Or.inr (Or.inl rfl))
    refine ⟨_, rfl, ⟨hT.f f, he, h1, ?_, sti_e ⟨rfl, rfl⟩, ⟨x.1, h1, ?_⟩, ⟨x.2.length, by omega, ?_⟩⟩, f⟩
    · show (sti _ _ _ _).1 532 2 = _
      rw [sti_n (by omega), sti_e ⟨rfl, rfl⟩]
    · rw [sti_n (by omega), sti_n (by omega), h5]
    · rw [sti_n (by omega), sti_n (by omega), h6]
theorem takes_f {μ : Mm} {e : Nat × Nat} (h : RC tp n c m μ (.inl e)) (v : Int32) : Reader_takes 532 v μ = some (nI 0, μ) := by
  obtain ⟨hT, h1, h2, h3, h4⟩ := h
  unfold Reader_takes
  rw [h3, if_neg (e_ne h1)]
theorem takes_n (H : Hyp tp n c m) {μ : Mm} {i k : Nat} {L : List Nat} (h : RC tp n c m μ (.inr (i, L))) (hk : k < 2 ^ 31) (hn : ¬ Kd tp n i = k) : Reader_takes 532 (nI k) μ = some (nI 0, μ) := by
  obtain ⟨hT, h1, h2, h3, h4, h5, h6, h7⟩ := h
  have h1 : i ≤ c := h1
  have h5 : μ.1 532 8 = nI i := h5
  have hc : c ≤ 400 := Nat.le_trans H.2.1 H.1
  have kb := Kd_b (i := i) H.2.2.2.2.1
  unfold Reader_takes
  rw [h3, if_00, h5, chv_nI (by omega) (by decide), ix_nI (by omega), (hT.1 i h1).1, if_neg (fun z => hn ((nI_eq (by omega) hk).1 z))]
theorem takes_y (H : Hyp tp n c m) {μ : Mm} {i k : Nat} {L : List Nat} (h : RC tp n c m μ (.inr (i, L))) (hn : Kd tp n i = k) (hk : k ≠ 256) : ∃ μ2, Reader_takes 532 (nI k) μ = some (nI 1, μ2) ∧ RC tp n c m μ2 (.inr (i + 1, L)) ∧ RF μ μ2 := by
  obtain ⟨hT, h1, h2, h3, h4, h5, h6, h7⟩ := h
  have h1 : i ≤ c := h1
  have h2 : L.length ≤ i := h2
  have h5 : μ.1 532 8 = nI i := h5
  have hc : c ≤ 400 := Nat.le_trans H.2.1 H.1
  have i1 := H.E i (by omega) (by omega)
  unfold Reader_takes
  rw [h3, if_00, h5, chv_nI (by omega) (by decide), ix_nI (by omega), (hT.1 i h1).1, if_pos (by rw [hn]), nI_add, lt_eq]
  have f : RF μ (sti μ 532 8 (nI (i + 1))) := RF.rf.s2 (Or.inr (Or.inr rfl))
  refine ⟨_, rfl, ⟨hT.f f, by show i + 1 ≤ c; omega, by show L.length ≤ i + 1; omega, ?_, ?_, sti_e ⟨rfl, rfl⟩, ?_, fun k hk => ?_⟩, f⟩
  · rw [sti_n (by omega)]
    exact h3
  · rw [sti_n (by omega)]
    exact h4
  · rw [sti_n (by omega)]
    exact h6
  · rw [sti_n (by omega)]
    exact h7 k hk
theorem c_rtake (H : Hyp tp n c m) {μ : Mm} {r : PR} (h : RC tp n c m μ r) {k : Nat} (hk : k < 2 ^ 31) (h256 : k ≠ 256) : ∃ μ2, Reader_take 532 (nI k) μ = some μ2 ∧ RC tp n c m μ2 (bR r (tkR (Kd tp n) k)) ∧ RF μ μ2 := by
  unfold Reader_take
  cases r with
  | inl e =>
    obtain ⟨μ2, g1, g2, g3⟩ := c_rfail H h (Or.inl rfl)
    rw [takes_f h, bnd2_eq, if_00, g1, bnd_eq]
    exact ⟨μ2, rfl, g2, g3⟩
  | inr x =>
    obtain ⟨i, L⟩ := x
    by_cases e : Kd tp n i = k
    · obtain ⟨μ2, g1, g2, g3⟩ := takes_y H h e h256
      rw [g1, bnd2_eq, if_10]
      refine ⟨μ2, rfl, ?_, g3⟩
      show RC tp n c m μ2 (tkR (Kd tp n) k i L)
      unfold tkR
      rw [if_pos e]
      exact g2
    · obtain ⟨μ2, g1, g2, g3⟩ := c_rfail H h (Or.inl rfl)
      rw [takes_n H h hk e, bnd2_eq, if_00, g1, bnd_eq]
      refine ⟨μ2, rfl, ?_, g3⟩
      show RC tp n c m μ2 (tkR (Kd tp n) k i L)
      unfold tkR
      rw [if_neg e]
      exact g2
theorem ladd_n {μ : Mm} {q : Nat} (h : μ.1 537 5 = nI q) (hq : q ≤ 400) (v : Int32) : Law_add (532 + 5) v μ = some (if q < 400 then sti (sti μ 538 q v) 537 5 (nI (q + 1)) else μ) := by
  unfold Law_add
  rw [h]
  by_cases e : q < 400
  · rw [if_neg (nI_ge e (by decide)), chv_nI e (by decide), ix_nI (by omega), lt_eq, sti_n (by omega), h, nI_add, lt_eq, if_pos e]
  · rw [if_pos (nI_le (by omega) (by omega)), if_neg e]
theorem c_raddF {μ : Mm} {e : Nat × Nat} (h : RC tp n c m μ (.inl e)) (v : Int32) : ∃ μ2, Law_add (532 + 5) v μ = some μ2 ∧ RC tp n c m μ2 (.inl e) ∧ RF μ μ2 := by
  obtain ⟨hT, h1, h2, h3, h4, h5, q, h6, h7⟩ := h
  rw [ladd_n h7 h6]
  by_cases y : q < 400
  · rw [if_pos y]
    have f : RF μ (sti (sti μ 538 q v) 537 5 (nI (q + 1))) := RF.rf.s8.s7
    obtain ⟨p, p1, p2⟩ := h5
    refine ⟨_, rfl, ⟨hT.f f, h1, h2, ?_, ?_, ⟨p, p1, ?_⟩, q + 1, by omega, sti_e ⟨rfl, rfl⟩⟩, f⟩
    · rw [sti_n (by omega), sti_n (by omega)]
      exact h3
    · rw [sti_n (by omega), sti_n (by omega)]
      exact h4
    · rw [sti_n (by omega), sti_n (by omega)]
      exact p2
  · rw [if_neg y]
    exact ⟨μ, rfl, ⟨hT, h1, h2, h3, h4, h5, q, h6, h7⟩, RF.rf⟩
theorem c_raddS (H : Hyp tp n c m) {μ : Mm} {i : Nat} {L : List Nat} (h : RC tp n c m μ (.inr (i, L))) (hl : L.length + 1 ≤ i) (s : Nat) : ∃ μ2, Law_add (532 + 5) (nI s) μ = some μ2 ∧ RC tp n c m μ2 (.inr (i, L ++ [s])) ∧ RF μ μ2 := by
  obtain ⟨hT, h1, h2, h3, h4, h5, h6, h7⟩ := h
  have h1 : i ≤ c := h1
  have h6 : μ.1 537 5 = nI L.length := h6
  have h7 : ∀ k, k < L.length → μ.1 538 k = nI (gF L k) := h7
  have hc : c ≤ 400 := Nat.le_trans H.2.1 H.1
  rw [ladd_n h6 (by omega), if_pos (by omega)]
  have f : RF μ (sti (sti μ 538 L.length (nI s)) 537 5 (nI (L.length + 1))) := RF.rf.s8.s7
  refine ⟨_, rfl, ⟨hT.f f, h1, by show (L ++ [s]).length ≤ i; rw [len_1]; exact hl, ?_, ?_, ?_, ?_, fun k hk => ?_⟩, f⟩
  · rw [sti_n (by omega), sti_n (by omega)]
    exact h3
  · rw [sti_n (by omega), sti_n (by omega)]
    exact h4
  · rw [sti_n (by omega), sti_n (by omega)]
    exact h5
  · show (sti _ _ _ _).1 537 5 = nI (L ++ [s]).length
    rw [sti_e ⟨rfl, rfl⟩, len_1]
  · have hk : k < (L ++ [s]).length := hk
    rw [len_1] at hk
    show (sti _ _ _ _).1 538 k = nI (gF (L ++ [s]) k)
    rw [sti_n (by omega)]
    by_cases y : k = L.length
    · rw [y, sti_e ⟨rfl, rfl⟩, gF_e]
    · rw [sti_n (by omega), gF_l (by omega)]
      exact h7 k (by omega)
theorem c_radd (H : Hyp tp n c m) {μ : Mm} {r : PR} (h : RC tp n c m μ r) (hl : ∀ j l, r = .inr (j, l) → l.length + 1 ≤ j) (s : Nat) : ∃ μ2, Law_add (532 + 5) (nI s) μ = some μ2 ∧ RC tp n c m μ2 (bR r fun j l => .inr (j, l ++ [s])) ∧ RF μ μ2 := by
  cases r with
  | inl e => exact c_raddF h _
  | inr x => exact c_raddS H h (hl x.1 x.2 rfl) s
theorem c_rop (H : Hyp tp n c m) {μ : Mm} {r : PR} (h : RC tp n c m μ r) (hl : ∀ j l, r = .inr (j, l) → l.length + 1 ≤ j) (k : Nat) : ∃ μ2, Reader_addOperation 532 (nI k) μ = some μ2 ∧ RC tp n c m μ2 (bR r fun j l => .inr (j, l ++ [20000 + k])) ∧ RF μ μ2 := by
  obtain ⟨μ2, g1, g2, g3⟩ := c_radd H h hl (20000 + k)
  unfold Reader_addOperation
  rw [nI_add, g1, bnd_eq]
  exact ⟨μ2, rfl, g2, g3⟩
theorem c_ropF {μ : Mm} {e : Nat × Nat} (h : RC tp n c m μ (.inl e)) (v : Int32) : ∃ μ2, Reader_addOperation 532 v μ = some μ2 ∧ RC tp n c m μ2 (.inl e) ∧ RF μ μ2 := by
  obtain ⟨μ2, g1, g2, g3⟩ := c_raddF h (nI 20000 + v)
  unfold Reader_addOperation
  rw [g1, bnd_eq]
  exact ⟨μ2, rfl, g2, g3⟩
/-- a number between two -/
def tnR (K V : Nat → Nat) (a b i : Nat) (L : List Nat) : PR := if K i = 257 then (if a ≤ V i ∧ V i ≤ b then .inr (i + 1, L) else .inl (2, i)) else .inl (1, i)
def tnV (K V : Nat → Nat) (a b : Nat) (r : PR) : Nat := match r with
  | .inl _ => a
  | .inr x => if K x.1 = 257 ∧ a ≤ V x.1 ∧ V x.1 ≤ b then V x.1 else a
theorem c_rnum (H : Hyp tp n c m) {μ : Mm} {r : PR} (h : RC tp n c m μ r) {a b : Nat} (ha : a < 2 ^ 31) (hb : b < 2 ^ 31) : ∃ μ2, Reader_takeNumber 532 (nI a) (nI b) μ = some (nI (tnV (Kd tp n) (Vd tp n) a b r), μ2) ∧ RC tp n c m μ2 (bR r (tnR (Kd tp n) (Vd tp n) a b)) ∧ RF μ μ2 := by
  have hc : c ≤ 400 := Nat.le_trans H.2.1 H.1
  unfold Reader_takeNumber
  cases r with
  | inl e =>
    have h0 := h
    obtain ⟨hT, h1, h2, h3, h4, ⟨q, h5, h6⟩, h7⟩ := h
    obtain ⟨μ2, g1, g2, g3⟩ := c_rfail H h0 (Or.inl rfl)
    rw [h6, chv_nI (by omega) (by decide), takes_f h0, bnd2_eq, if_00, g1, bnd_eq]
    exact ⟨μ2, rfl, g2, g3⟩
  | inr x =>
    obtain ⟨i, L⟩ := x
    have h0 := h
    obtain ⟨hT, h1, h2, h3, h4, h5, h6, h7⟩ := h
    have h1 : i ≤ c := h1
    have h5 : μ.1 532 8 = nI i := h5
    have vb := H.V i
    rw [h5, chv_nI (by omega) (by decide), ix_nI (by omega), (hT.1 i h1).2.1]
    show ∃ μ2, _ ∧ RC tp n c m μ2 (tnR (Kd tp n) (Vd tp n) a b i L) ∧ _
    unfold tnV tnR
    dsimp only
    by_cases e : Kd tp n i = 257
    · obtain ⟨μ2, g1, g2, g3⟩ := takes_y H h0 e (by decide)
      have g8 : μ2.1 532 8 = nI (i + 1) := g2.2.2.2.2.2.1
      rw [g1, bnd2_eq, if_10, if_pos e]
      have bad : ∃ μ3, Reader_takeNumber_j37 532 (nI a) μ2 = some (nI a, μ3) ∧ RC tp n c m μ3 (.inl (2, i)) ∧ RF μ μ3 := by
        unfold Reader_takeNumber_j37
        rw [g8, nI_subE (by omega), Nat.add_sub_cancel, lt_eq]
        have f : RF μ (sti μ2 532 8 (nI i)) := g3.s2 (Or.inr (Or.inr rfl))
        have hr : RC tp n c m (sti μ2 532 8 (nI i)) (.inr (i, L)) := by
          obtain ⟨k1, k2, k3, k4, k5, k6, k7, k8⟩ := g2
          refine ⟨hT.f f, h1, h2, ?_, ?_, sti_e ⟨rfl, rfl⟩, ?_, fun k hk => ?_⟩
          · rw [sti_n (by omega)]
            exact k4
          · rw [sti_n (by omega)]
            exact k5
          · rw [sti_n (by omega)]
            exact k7
          · rw [sti_n (by omega)]
            exact k8 k hk
        obtain ⟨μ3, f1, f2, f3⟩ := c_rfail H hr (Or.inr (Or.inl rfl))
        rw [f1, bnd_eq]
        exact ⟨μ3, rfl, f2, f.tr f3⟩
      by_cases e1 : Vd tp n i < a
      · rw [if_pos (nI_lt e1 ha), if_neg (by omega), if_neg (by omega)]
        exact bad
      · rw [if_neg (nI_nlt (by omega) (by omega))]
        by_cases e2 : Vd tp n i ≤ b
        · rw [if_pos (nI_le e2 hb), if_pos ⟨e, by omega, e2⟩, if_pos ⟨by omega, e2⟩]
          exact ⟨μ2, rfl, g2, g3⟩
        · rw [if_neg (nI_ge (by omega) (by omega)), if_neg (fun z => e2 z.2.2), if_neg (fun z => e2 z.2)]
          exact bad
    · obtain ⟨μ2, g1, g2, g3⟩ := c_rfail H h0 (Or.inl rfl)
      rw [takes_n H h0 (by decide) e, bnd2_eq, if_00, g1, bnd_eq, if_neg (fun z => e z.1), if_neg e]
      exact ⟨μ2, rfl, g2, g3⟩
theorem sub309 : ∀ a, a < 309 → nI a - nI 309 < 0 := by decide +kernel
theorem c_runit (H : Hyp tp n c m) {μ : Mm} {r : PR} (h : RC tp n c m μ r) : ∃ μ2, Reader_readUnit 532 μ = some μ2 ∧ RC tp n c m μ2 (bR r (pU (Kd tp n) (Vd tp n) m)) ∧ RF μ μ2 := by
  have hc : c ≤ 400 := Nat.le_trans H.2.1 H.1
  unfold Reader_readUnit
  cases r with
  | inl e =>
    have h0 := h
    obtain ⟨hT, h1, h2, h3, h4, ⟨q, h5, h6⟩, h7⟩ := h
    rw [h6, chv_nI (by omega) (by decide), h3, if_neg (e_ne h1)]
    exact ⟨μ, rfl, h0, RF.rf⟩
  | inr x =>
    obtain ⟨i, L⟩ := x
    have h0 := h
    obtain ⟨hT, h1, h2, h3, h4, h5, h6, h7⟩ := h
    have h1 : i ≤ c := h1
    have h2 : L.length ≤ i := h2
    have h5 : μ.1 532 8 = nI i := h5
    have hm := H.2.2.2.2.2
    have kb := Kd_b (i := i) H.2.2.2.2.1
    have add : ∀ s, Kd tp n i ≠ 256 → ∃ μ2, (bnd (Law_add (532 + 5) (nI s) μ) fun μ4 => lt (sti μ4 532 8 (μ4.1 532 8 + nI 1)) fun μ5 => some μ5) = some μ2 ∧ RC tp n c m μ2 (.inr (i + 1, L ++ [s])) ∧ RF μ μ2 := by
      intro s hk
      have i1 := H.E i (by omega) hk
      -- the token first, the step behind it
      have f0 : RF μ (sti μ 532 8 (nI (i + 1))) := RF.rf.s2 (Or.inr (Or.inr rfl))
      have hr : RC tp n c m (sti μ 532 8 (nI (i + 1))) (.inr (i + 1, L)) := by
        refine ⟨hT.f f0, by show i + 1 ≤ c; omega, by show L.length ≤ i + 1; omega, ?_, ?_, sti_e ⟨rfl, rfl⟩, ?_, fun k hk => ?_⟩
        · rw [sti_n (by omega)]
          exact h3
        · rw [sti_n (by omega)]
          exact h4
        · rw [sti_n (by omega)]
          exact h6
        · rw [sti_n (by omega)]
          exact h7 k hk
      obtain ⟨μ2, g1, g2, g3⟩ := c_raddS H hr (by omega) s
      have h6 : μ.1 537 5 = nI L.length := h6
      rw [ladd_n (by rw [sti_n (by omega)]; exact h6) (by omega), if_pos (by omega)] at g1
      rw [ladd_n h6 (by omega), if_pos (by omega), bnd_eq, sti_n (by omega), sti_n (by omega), h5, nI_add, lt_eq]
      refine ⟨_, rfl, ?_, f0.tr g3 |> fun z => ?_⟩
      · have e : sti (sti (sti μ 538 L.length (nI s)) 537 5 (nI (L.length + 1))) 532 8 (nI (i + 1)) = μ2 := by
          rw [← Option.some.inj g1, sti_com (o := 532) (k := 8) (by omega), sti_com (o := 532) (k := 8) (by omega)]
        rw [e]
        exact g2
      · exact RF.rf.s8.s7.s2 (Or.inr (Or.inr rfl))
    rw [h5, chv_nI (by omega) (by decide), h3, if_00, chv_nI (by omega) (by decide), ix_nI (by omega), (hT.1 i h1).1]
    show ∃ μ2, _ ∧ RC tp n c m μ2 (pU (Kd tp n) (Vd tp n) m i L) ∧ _
    unfold pU
    by_cases e : Kd tp n i = 257
    · rw [if_pos (by rw [e]), chv_nI (by omega) (by decide), (hT.1 i h1).2.1, if_pos e]
      exact add _ (by omega)
    · rw [if_neg (fun z => e ((nI_eq (by omega) (by decide)).1 z)), if_neg e, hT.2.2]
      have bad : ∃ μ2, Reader_readUnit_j103 532 μ = some μ2 ∧ RC tp n c m μ2 (.inl (1, i)) ∧ RF μ μ2 := by
        obtain ⟨μ2, g1, g2, g3⟩ := c_rfail H h0 (Or.inl rfl)
        unfold Reader_readUnit_j103
        rw [g1, bnd_eq]
        exact ⟨μ2, rfl, g2, g3⟩
      by_cases e2 : Kd tp n i < 309
      · rw [if_pos (sub309 _ e2), if_neg (by omega)]
        exact bad
      · rw [nI_subE (by omega), if_neg (show ¬ nI (Kd tp n i - 309) < 0 from nI_pos (by omega))]
        by_cases e3 : Kd tp n i < 309 + m
        · rw [if_neg (nI_ge (by omega) (by omega)), nI_add, if_pos ⟨by omega, e3⟩]
          exact add _ (by omega)
        · rw [if_pos (nI_le (by omega) (by omega)), if_neg (fun z => e3 z.2)]
          exact bad
end
