/-! WHAT STAYS PICKED when versions go -/
def kpF (pv : Nat → Nat) (m : Nat) : Nat → Nat × (Nat → Nat)
  | 0 => (0, pv)
  | k + 1 => if pv k < m then ((kpF pv m k).1 + 1, fun i => if i = (kpF pv m k).1 then pv k else (kpF pv m k).2 i) else kpF pv m k
theorem kpF_is {pv : Nat → Nat} {m : Nat} : ∀ k, (kpF pv m k).1 ≤ k ∧ ∀ i, i < (kpF pv m k).1 → (kpF pv m k).2 i < m := by
  intro k
  induction k with
  | zero => exact ⟨Nat.le_refl _, fun i hi => absurd hi (Nat.not_lt_zero _)⟩
  | succ k ih =>
    by_cases c : pv k < m
    · have e : kpF pv m (k + 1) = ((kpF pv m k).1 + 1, fun i => if i = (kpF pv m k).1 then pv k else (kpF pv m k).2 i) := if_pos c
      rw [e]
      refine ⟨Nat.succ_le_succ ih.1, fun i hi => ?_⟩
      have hi : i < (kpF pv m k).1 + 1 := hi
      show (if i = (kpF pv m k).1 then pv k else (kpF pv m k).2 i) < m
      by_cases z : i = (kpF pv m k).1
      · rw [if_pos z]
        exact c
      · rw [if_neg z]
        exact ih.2 i (by omega)
    · have e : kpF pv m (k + 1) = kpF pv m k := if_neg c
      rw [e]
      exact ⟨by omega, ih.2⟩
theorem c_keepB {μ : Mm} {o n m : Nat} {pv : Nat → Nat} (hp : pickC μ o n pv) (n8 : n ≤ 8) (hb : ∀ i, i < n → pv i < 2 ^ 31) (hm : m < 2 ^ 31) : ∃ μ2, Picks_keepBelow o (nI m) μ = some μ2 ∧ pickC μ2 o (kpF pv m n).1 (kpF pv m n).2 ∧ Out (fun o2 => o2 = o ∨ o2 = o + 1) μ μ2 := by
  have key := iter_inv (f := fun s : Int32 × Int32 × Mm => Picks_keepBelow_l4 o (nI m) s.1 s.2.1 s.2.2) (fun k s => s.1 = nI (kpF pv m k).1 ∧ s.2.1 = nI k ∧ s.2.2.1 o 1 = nI n ∧ (∀ i, i < (kpF pv m k).1 → s.2.2.1 (o + 1) i = nI ((kpF pv m k).2 i)) ∧ (∀ i, k ≤ i → i < n → s.2.2.1 (o + 1) i = nI (pv i)) ∧ Out (fun o2 => o2 = o ∨ o2 = o + 1) μ s.2.2) (fun x => x.1 = nI (kpF pv m n).1 ∧ (∀ i, i < (kpF pv m n).1 → x.2.1 (o + 1) i = nI ((kpF pv m n).2 i)) ∧ Out (fun o2 => o2 = o ∨ o2 = o + 1) μ x.2) n ?_ ?_ 1000000 (nI 0, nI 0, μ) ⟨rfl, rfl, hp.1, fun i hi => absurd hi (Nat.not_lt_zero _), fun i _ hi => hp.2 i hi, Out.rf⟩ (by omega)
  · obtain ⟨⟨x, m2⟩, k1, rfl, k2, k3⟩ := key
    have k2 : ∀ i, i < (kpF pv m n).1 → m2.1 (o + 1) i = nI ((kpF pv m n).2 i) := k2
    have k3 : Out (fun o2 => o2 = o ∨ o2 = o + 1) μ m2 := k3
    refine ⟨sti m2 o 1 (nI (kpF pv m n).1), ?_, ⟨by rw [sti_1, if_pos ⟨rfl, rfl⟩], fun i hi => ?_⟩, k3.sti (Or.inl rfl)⟩
    · unfold Picks_keepBelow
      rw [k1, bni_eq, lt_eq]
    · rw [sti_1, if_neg (fun z => by have := z.1; omega)]
      exact k2 i hi
  · rintro k ⟨a, b, m2⟩ hk ⟨rfl, rfl, h1, h2, h3, h4⟩
    have h1 : m2.1 o 1 = nI n := h1
    have h2 : ∀ i, i < (kpF pv m k).1 → m2.1 (o + 1) i = nI ((kpF pv m k).2 i) := h2
    have h3 : ∀ i, k ≤ i → i < n → m2.1 (o + 1) i = nI (pv i) := h3
    have h4 : Out (fun o2 => o2 = o ∨ o2 = o + 1) μ m2 := h4
    have hc := (kpF_is (pv := pv) (m := m) k).1
    have bk := hb k hk
    left
    by_cases c : pv k < m
    · have e : kpF pv m (k + 1) = ((kpF pv m k).1 + 1, fun i => if i = (kpF pv m k).1 then pv k else (kpF pv m k).2 i) := if_pos c
      refine ⟨(nI ((kpF pv m k).1 + 1), nI (k + 1), sti m2 (o + 1) (kpF pv m k).1 (nI (pv k))), ?_, by rw [e], rfl, ?_, fun i hi => ?_, fun i hi hi2 => ?_, h4.sti (Or.inr rfl)⟩
      · show Picks_keepBelow_l4 _ _ _ _ _ = _
        unfold Picks_keepBelow_l4 Picks_keepBelow_j37
        dsimp only
        rw [h1, if_neg (nI_ge hk (by omega)), chv_nI (by omega) (by decide), ix_nI (by omega), h3 k (Nat.le_refl _) hk, if_neg (nI_ge c hm), chv_nI (by omega) (by decide), chv_nI (by omega) (by decide), ix_nI (by omega), lt_eq, nI_add, nI_add]
      · show (sti m2 (o + 1) (kpF pv m k).1 (nI (pv k))).1 o 1 = _
        rw [sti_1, if_neg (fun z => by have := z.1; omega)]
        exact h1
      · rw [e] at hi ⊢
        have hi : i < (kpF pv m k).1 + 1 := hi
        show (sti m2 (o + 1) (kpF pv m k).1 (nI (pv k))).1 (o + 1) i = nI (if i = (kpF pv m k).1 then pv k else (kpF pv m k).2 i)
        rw [sti_1]
        by_cases z : i = (kpF pv m k).1
        · rw [if_pos ⟨rfl, z⟩, if_pos z]
        · rw [if_neg (fun y => z y.2), if_neg z]
          exact h2 i (by omega)
      · show (sti m2 (o + 1) (kpF pv m k).1 (nI (pv k))).1 (o + 1) i = nI (pv i)
        rw [sti_1, if_neg (fun y => by have := y.2; omega)]
        exact h3 i (by omega) hi2
    · have e : kpF pv m (k + 1) = kpF pv m k := if_neg c
      refine ⟨(nI (kpF pv m k).1, nI (k + 1), m2), ?_, by rw [e], rfl, h1, by rw [e]; exact h2, fun i hi hi2 => h3 i (by omega) hi2, h4⟩
      show Picks_keepBelow_l4 _ _ _ _ _ = _
      unfold Picks_keepBelow_l4 Picks_keepBelow_j37
      dsimp only
      rw [h1, if_neg (nI_ge hk (by omega)), chv_nI (by omega) (by decide), ix_nI (by omega), h3 k (Nat.le_refl _) hk, if_pos (nI_le (by omega) (by omega)), nI_add]
  · rintro ⟨a, b, m2⟩ ⟨rfl, rfl, h1, h2, h3, h4⟩
    have h1 : m2.1 o 1 = nI n := h1
    refine ⟨(nI (kpF pv m n).1, m2), ?_, rfl, h2, h4⟩
    show Picks_keepBelow_l4 _ _ _ _ _ = _
    unfold Picks_keepBelow_l4
    dsimp only
    rw [h1, if_pos (nI_le (Nat.le_refl _) (by omega))]
def EK (o k : Nat) : Prop := o = 9 ∨ (o = 0 ∧ k = 17)
theorem m_unpick {ν : Mm} {n m : Nat} {pv : Nat → Nat} (hp : pickM ν n pv) (n8 : n ≤ 8) (hb : ∀ i, i < n → pv i < 2 ^ 31) (hm : m < 2 ^ 31) (hv : ν.1 1 6 = nI m) : ∃ ν2, M_unpicks ν = some ν2 ∧ pickM ν2 (kpF pv m n).1 (kpF pv m n).2 ∧ OutM EK ν ν2 := by
  have key := iter_inv (f := fun s : Int32 × Int32 × Mm => M_unpicks_l4 s.1 s.2.1 s.2.2) (fun k s => s.1 = nI (kpF pv m k).1 ∧ s.2.1 = nI k ∧ s.2.2.1 0 17 = nI n ∧ s.2.2.1 1 6 = nI m ∧ (∀ i, i < (kpF pv m k).1 → s.2.2.1 9 i = nI ((kpF pv m k).2 i)) ∧ (∀ i, k ≤ i → i < n → s.2.2.1 9 i = nI (pv i)) ∧ OutM EK ν s.2.2) (fun x => x.1 = nI (kpF pv m n).1 ∧ (∀ i, i < (kpF pv m n).1 → x.2.1 9 i = nI ((kpF pv m n).2 i)) ∧ OutM EK ν x.2) n ?_ ?_ 1000000 (nI 0, nI 0, ν) ⟨rfl, rfl, hp.1, hv, fun i hi => absurd hi (Nat.not_lt_zero _), fun i _ hi => hp.2 i hi, OutM.rf⟩ (by omega)
  · obtain ⟨⟨x, m2⟩, k1, rfl, k2, k3⟩ := key
    have k2 : ∀ i, i < (kpF pv m n).1 → m2.1 9 i = nI ((kpF pv m n).2 i) := k2
    have k3 : OutM EK ν m2 := k3
    refine ⟨sti m2 0 17 (nI (kpF pv m n).1), ?_, ⟨by rw [sti_1, if_pos ⟨rfl, rfl⟩], fun i hi => ?_⟩, k3.sti (Or.inr ⟨rfl, rfl⟩)⟩
    · unfold M_unpicks
      rw [k1, bni_eq, lt_eq]
    · rw [sti_1, if_neg (fun z => absurd z.1 (by decide))]
      exact k2 i hi
  · rintro k ⟨a, b, m2⟩ hk ⟨rfl, rfl, h1, h0, h2, h3, h4⟩
    have h1 : m2.1 0 17 = nI n := h1
    have h0 : m2.1 1 6 = nI m := h0
    have h2 : ∀ i, i < (kpF pv m k).1 → m2.1 9 i = nI ((kpF pv m k).2 i) := h2
    have h3 : ∀ i, k ≤ i → i < n → m2.1 9 i = nI (pv i) := h3
    have h4 : OutM EK ν m2 := h4
    have hc := (kpF_is (pv := pv) (m := m) k).1
    have bk := hb k hk
    left
    by_cases c : pv k < m
    · have e : kpF pv m (k + 1) = ((kpF pv m k).1 + 1, fun i => if i = (kpF pv m k).1 then pv k else (kpF pv m k).2 i) := if_pos c
      refine ⟨(nI ((kpF pv m k).1 + 1), nI (k + 1), sti m2 9 (kpF pv m k).1 (nI (pv k))), ?_, by rw [e], rfl, ?_, ?_, fun i hi => ?_, fun i hi hi2 => ?_, h4.sti (Or.inl rfl)⟩
      · show M_unpicks_l4 _ _ _ = _
        unfold M_unpicks_l4 M_unpicks_j47
        dsimp only
        rw [h1, if_neg (nI_ge hk (by omega)), chv_nI (by omega) (by decide), chv_nI (by decide) (by decide), ix_nI (by omega), ix_nI (by decide), h3 k (Nat.le_refl _) hk, h0, if_pos (nI_lt c hm), chv_nI (by omega) (by decide), chv_nI (by omega) (by decide), ix_nI (by omega), lt_eq, nI_add, nI_add]
      · show (sti m2 9 (kpF pv m k).1 (nI (pv k))).1 0 17 = _
        rw [sti_1, if_neg (fun z => absurd z.1 (by decide))]
        exact h1
      · show (sti m2 9 (kpF pv m k).1 (nI (pv k))).1 1 6 = _
        rw [sti_1, if_neg (fun z => absurd z.1 (by decide))]
        exact h0
      · rw [e] at hi ⊢
        have hi : i < (kpF pv m k).1 + 1 := hi
        show (sti m2 9 (kpF pv m k).1 (nI (pv k))).1 9 i = nI (if i = (kpF pv m k).1 then pv k else (kpF pv m k).2 i)
        rw [sti_1]
        by_cases z : i = (kpF pv m k).1
        · rw [if_pos ⟨rfl, z⟩, if_pos z]
        · rw [if_neg (fun y => z y.2), if_neg z]
          exact h2 i (by omega)
      · show (sti m2 9 (kpF pv m k).1 (nI (pv k))).1 9 i = nI (pv i)
        rw [sti_1, if_neg (fun y => by have := y.2; omega)]
        exact h3 i (by omega) hi2
    · have e : kpF pv m (k + 1) = kpF pv m k := if_neg c
      refine ⟨(nI (kpF pv m k).1, nI (k + 1), m2), ?_, by rw [e], rfl, h1, h0, by rw [e]; exact h2, fun i hi hi2 => h3 i (by omega) hi2, h4⟩
      show M_unpicks_l4 _ _ _ = _
      unfold M_unpicks_l4 M_unpicks_j47
      dsimp only
      rw [h1, if_neg (nI_ge hk (by omega)), chv_nI (by omega) (by decide), chv_nI (by decide) (by decide), ix_nI (by omega), ix_nI (by decide), h3 k (Nat.le_refl _) hk, h0, if_neg (nI_nlt (by omega) (by omega)), nI_add]
  · rintro ⟨a, b, m2⟩ ⟨rfl, rfl, h1, h0, h2, h3, h4⟩
    have h1 : m2.1 0 17 = nI n := h1
    refine ⟨(nI (kpF pv m n).1, m2), ?_, rfl, h2, h4⟩
    show M_unpicks_l4 _ _ _ = _
    unfold M_unpicks_l4
    dsimp only
    rw [h1, if_pos (nI_le (Nat.le_refl _) (by omega))]
