/-! THE LEAST STAMPS, the class: day by day -/
def IJ (g : Nat → Nat) (P R N e n : Nat) (s : Int32 × Int32) : Prop := ∃ j, j ≤ N ∧ s.1 = nI (N - j) ∧ s.2 = nI (stQ g P R j).2 ∧ (j < N → ∀ t, (stQ g P R j).1.testBit t = true ↔ R.testBit t = true ∧ (e < g t ∨ (g t = e ∧ n ≤ t)))
theorem c_stamp1 {μ : Mm} {w t : Nat} {V : VS} {T : TT} {p N e : Nat} (h : HC μ w V) (h5 : W5 V) (h6 : W6 V) (hT : TC μ t T) (hB : TB T) (hp : p < V 0 0 0) (hN : N ≤ popc (rowS V p)) (he : e ≤ 20) (s : Int32 × Int32) (hs : IJ (gP V T p) (V 0 0 0) (rowS V p) N e 0 s) : ∃ x, iter 1000000 (fun s => World_leastStamps_l55 w (t + 13) (w + (21 + 9 * p)) (nI (rowS V p)) s.1 s.2.1 (nI e) s.2.2 μ) (s.1, s.2, nI 0) = some x ∧ IJ (gP V T p) (V 0 0 0) (rowS V p) N (e + 1) 0 x := by
  have P16 := h.P16
  have eP := h.P
  have hR := rowS_lt h6 P16 hp
  have hRP : ∀ t, (rowS V p).testBit t = true → t < V 0 0 0 := fun t ht => rowS_bit h6 hp ht
  have pl : popc (rowS V p) ≤ 64 := pcF_le 64 _
  have et := h.told hp (j := 0) (by decide)
  have p5 := (h5 p hp).1
  generalize hg : gP V T p = g at hs ⊢
  have hpost : ∀ n, n < V 0 0 0 → Post_daysBetween (t + 13) (nI (V 1 p 0)) (nI (V 1 n 0)) μ = some (nI (g n)) := fun n hn => by
    rw [← hg]
    exact (hT μ Out.rf).2.2 _ _ p5 (h5 n hn).1
  have hgb : ∀ n, n < V 0 0 0 → 1 ≤ g n ∧ g n ≤ 20 := fun n hn => by
    rw [← hg]
    exact gP_is h5 hB hp hn
  generalize rowS V p = R at *
  refine iter_inv (f := fun s => World_leastStamps_l55 w (t + 13) (w + (21 + 9 * p)) (nI R) s.1 s.2.1 (nI e) s.2.2 μ) (fun n s => s.2.2 = nI n ∧ IJ g (V 0 0 0) R N e n (s.1, s.2.1)) (fun x => IJ g (V 0 0 0) R N (e + 1) 0 x) (V 0 0 0) ?_ ?_ 1000000 (s.1, s.2, nI 0) ⟨rfl, hs⟩ (by omega)
  · rintro n ⟨a, b, m⟩ hn ⟨rfl, j, hj, rfl, rfl, hb⟩
    have hb : j < N → ∀ t, (stQ g (V 0 0 0) R j).1.testBit t = true ↔ R.testBit t = true ∧ (e < g t ∨ (g t = e ∧ n ≤ t)) := hb
    have en := h.told hn (j := 0) (by decide)
    have gn := hgb n hn
    have hbit := hb_test (x := R) (i := n) (by omega) (by omega)
    have go : World_leastStamps_l55 w (t + 13) (w + (21 + 9 * p)) (nI R) (nI (N - j)) (nI (stQ g (V 0 0 0) R j).2) (nI e) (nI n) μ = (if j < N ∧ g n = e ∧ R.testBit n = true then some (.inl (nI (N - (j + 1)), nI (stQ g (V 0 0 0) R j).2 + nI e, nI (n + 1))) else some (.inl (nI (N - j), nI (stQ g (V 0 0 0) R j).2, nI (n + 1)))) := by
      have em : j < N → nI (N - j) + (-1) = nI (N - (j + 1)) := fun z => by
        rw [show (-1 : Int32) = - nI 1 from by decide, ← Int32.sub_eq_add_neg, nI_subE (by omega), Nat.sub_sub]
      unfold World_leastStamps_l55 World_leastStamps_j97 World_leastStamps_j129
      rw [eP, if_neg (nI_ge hn (by omega)), chv_nI (by decide) (by decide), chv_nI (by omega) (by decide), chv_nI (by decide) (by decide), ix_nI (by decide), ix_nI (by omega), et, en, hpost n hn, bnd_eq, c_hasBit, hbit, bnd_eq]
      by_cases c1 : g n = e
      · rw [if_pos (by rw [c1])]
        by_cases c2 : j < N
        · rw [if_neg (show ¬ nI (N - j) ≤ (0 : Int32) from nI_nle (by omega) (by omega)), if_neg (show ¬ nI 1 = (0 : Int32) by decide)]
          by_cases c3 : R.testBit n = true
          · rw [c3, if_neg (show ¬ ((if true = true then nI 1 else nI 0) = (0 : Int32)) by decide), if_pos ⟨c2, c1, rfl⟩, em c2, nI_add, nI_add]
          · rw [if_pos (show ((if R.testBit n = true then nI 1 else nI 0) = (0 : Int32)) by rw [if_neg c3]; rfl), if_neg (fun z => c3 z.2.2), nI_add]
        · rw [if_pos (show nI (N - j) ≤ (0 : Int32) by rw [show N - j = 0 by omega]; decide), if_neg (fun z => c2 z.1), nI_add]
      · rw [if_neg (fun z => c1 ((nI_eq (by omega) (by omega)).1 z)), if_neg (show ¬ (j < N ∧ g n = e ∧ R.testBit n = true) from fun z => c1 z.2.1), if_pos (show nI 0 = (0 : Int32) from rfl), nI_add, ite_self]
    by_cases c : j < N ∧ g n = e ∧ R.testBit n = true
    · rw [if_pos c] at go
      refine Or.inl ⟨_, go, rfl, j + 1, by omega, rfl, ?_, fun hj2 t => ?_⟩
      · obtain ⟨q, hq, _, hqb, hqm, e1, e2⟩ := stQ_next (g := g) hR hRP (j := j) (by omega)
        have hnb := (hb c.1 n).2 ⟨c.2.2, Or.inr ⟨c.2.1, Nat.le_refl _⟩⟩
        have k1 := hqm n hnb
        have k2 := ((hb c.1 q).1 hqb).2
        have k3 := c.2.1
        have : q = n := by
          rcases k2 with k2 | k2
          · omega
          · by_cases z : n < q
            · have := k1.2 z
              omega
            · omega
        subst this
        show nI _ + nI e = _
        rw [e2, nI_add, k3]
      · obtain ⟨q, hq, _, hqb, hqm, e1, e2⟩ := stQ_next (g := g) hR hRP (j := j) (by omega)
        have hnb := (hb c.1 n).2 ⟨c.2.2, Or.inr ⟨c.2.1, Nat.le_refl _⟩⟩
        have k1 := hqm n hnb
        have k2 := ((hb c.1 q).1 hqb).2
        have k3 := c.2.1
        have : q = n := by
          rcases k2 with k2 | k2
          · omega
          · by_cases z : n < q
            · have := k1.2 z
              omega
            · omega
        subst this
        have h1 := (stQ_is (g := g) hR hRP j (by omega)).1
        rw [e1]
        unfold outB
        rw [oth_bit h1 (bit_lt h1 hqb), hb c.1 t]
        constructor
        · rintro ⟨⟨z1, z2⟩, z3⟩
          exact ⟨z1, z2.elim Or.inl (fun y => Or.inr ⟨y.1, by omega⟩)⟩
        · rintro ⟨z1, z2⟩
          refine ⟨⟨z1, z2.elim Or.inl (fun y => Or.inr ⟨y.1, by omega⟩)⟩, fun z => ?_⟩
          subst z
          rcases z2 with z2 | z2 <;> omega
    · rw [if_neg c] at go
      refine Or.inl ⟨_, go, rfl, j, hj, rfl, rfl, fun hj2 t => ?_⟩
      rw [hb hj2 t]
      constructor
      · rintro ⟨z1, z2⟩
        refine ⟨z1, z2.elim Or.inl (fun y => Or.inr ⟨y.1, ?_⟩)⟩
        have y2 := y.2
        by_cases z : t = n
        · subst z
          exact absurd ⟨hj2, y.1, z1⟩ c
        · omega
      · rintro ⟨z1, z2⟩
        exact ⟨z1, z2.elim Or.inl (fun y => Or.inr ⟨y.1, by omega⟩)⟩
  · rintro ⟨a, b, m⟩ ⟨rfl, j, hj, rfl, rfl, hb⟩
    have hb : j < N → ∀ t, (stQ g (V 0 0 0) R j).1.testBit t = true ↔ R.testBit t = true ∧ (e < g t ∨ (g t = e ∧ V 0 0 0 ≤ t)) := hb
    refine ⟨_, by show World_leastStamps_l55 _ _ _ _ _ _ _ _ _ = _; unfold World_leastStamps_l55; rw [eP, if_pos (nI_le (Nat.le_refl _) (by omega))], j, hj, rfl, rfl, fun hj2 t => ?_⟩
    rw [hb hj2 t]
    constructor
    · rintro ⟨z1, z2⟩
      have := hRP t z1
      exact ⟨z1, by omega⟩
    · rintro ⟨z1, z2⟩
      exact ⟨z1, by omega⟩
theorem c_stamps {μ : Mm} {w t : Nat} {V : VS} {T : TT} {p i : Nat} (h : HC μ w V) (h5 : W5 V) (h6 : W6 V) (hT : TC μ t T) (hB : TB T) (hp : p < V 0 0 0) (hi : i < V 6 p 0) (hn : V 10 p i ≤ 9) : World_leastStamps w (nI p) (nI i) (t + 13) μ = some (stampR V T p (V 10 p i)) := by
  have P16 := h.P16
  have h3 := h.h3 hp
  have hR := rowS_lt h6 P16 hp
  have hRP : ∀ t, (rowS V p).testBit t = true → t < V 0 0 0 := fun t ht => rowS_bit h6 hp ht
  have pl : popc (rowS V p) ≤ 64 := pcF_le 64 _
  have el := h.ll hp hi
  have hl : sL SC (w + (21 + 9 * p) + 8) = 3 := (h.lens (p := p) (by omega)).2.2.2.2
  unfold World_leastStamps stampR
  rw [chv_nI (by omega) (by decide), ix_nI (by omega), c_rows h h6 hp, bnd_eq, hl, chv_nI (by omega) (by decide), ix_nI (by omega), JI_popc (by omega), bnd_eq, el]
  by_cases c : V 10 p i ≤ popc (rowS V p)
  · have key := iter_inv (f := fun s => World_leastStamps_l45 w (t + 13) (w + (21 + 9 * p)) (nI (rowS V p)) s.1 s.2.1 s.2.2 μ) (fun k s => s.2.2 = nI (k + 1) ∧ IJ (gP V T p) (V 0 0 0) (rowS V p) (V 10 p i) (k + 1) 0 (s.1, s.2.1)) (fun x => x = nI (stQ (gP V T p) (V 0 0 0) (rowS V p) (V 10 p i)).2) 20 ?_ ?_ 1000000 (nI (V 10 p i), nI 0, nI 1) ⟨rfl, 0, Nat.zero_le _, rfl, rfl, fun _ t => ?_⟩ (by decide)
    · obtain ⟨x, k1, rfl⟩ := key
      rw [if_pos (nI_le c (by omega)), k1, bni_eq, if_pos c]
    · rintro k ⟨a, b, m⟩ hk ⟨rfl, hI⟩
      obtain ⟨x, k1, k2⟩ := c_stamp1 h h5 h6 hT hB hp c (by omega) (a, b) hI
      refine Or.inl ⟨(x.1, x.2, nI (k + 1 + 1)), ?_, rfl, k2⟩
      show World_leastStamps_l45 _ _ _ _ _ _ _ _ = _
      unfold World_leastStamps_l45
      dsimp only
      rw [if_neg (nI_nlt (by omega) (by decide)), k1, bni_eq, nI_add]
    · rintro ⟨a, b, m⟩ ⟨rfl, j, hj, rfl, rfl, hb⟩
      have hb : j < V 10 p i → ∀ t, (stQ (gP V T p) (V 0 0 0) (rowS V p) j).1.testBit t = true ↔ (rowS V p).testBit t = true ∧ (20 + 1 < gP V T p t ∨ (gP V T p t = 20 + 1 ∧ 0 ≤ t)) := hb
      have ej : j = V 10 p i := by
        by_cases z : j < V 10 p i
        · obtain ⟨q, hq, _, hqb, _, _, _⟩ := stQ_next (g := gP V T p) hR hRP (j := j) (by omega)
          have := ((hb z q).1 hqb).2
          have := gP_is h5 hB hp hq
          omega
        · omega
      subst ej
      refine ⟨_, ?_, rfl⟩
      show World_leastStamps_l45 _ _ _ _ _ _ _ _ = _
      unfold World_leastStamps_l45
      rw [if_pos (show nI 20 < nI (20 + 1) by decide)]
    · show (rowS V p).testBit t = true ↔ _
      constructor
      · intro z
        have := gP_is (T := T) h5 hB hp (hRP t z)
        exact ⟨z, by omega⟩
      · exact fun z => z.1
  · rw [if_neg (nI_ge (by omega) (by omega)), if_neg c]
