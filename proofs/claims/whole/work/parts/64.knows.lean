/-! WHO KNOWS; how many letters there are of a version; whether anyone ever had it -/
theorem pcF_le : ∀ k n, pcF k n ≤ k := by
  intro k
  induction k with
  | zero => exact fun _ => Nat.le_refl _
  | succ k ih =>
    intro n
    have := ih (n / 2)
    rw [pcF_u]
    omega
def hadN (V : VS) (p : Nat) : Nat := popc (V 21 p 0) + popc (V 22 p 0)
theorem hadN_le (V : VS) (p : Nat) : hadN V p ≤ 128 := by
  have h1 : popc (V 21 p 0) ≤ 64 := pcF_le 64 _
  have h2 : popc (V 22 p 0) ≤ 64 := pcF_le 64 _
  unfold hadN
  omega
theorem popc_two {a b : Nat} (ha : a < 2 ^ 20) (hb : b < 2 ^ 20) : popc (a + 2 ^ 20 * b) = popc a + popc b := by
  have e1 : popc (a + 2 ^ 20 * b) = pcF 20 a + pcF 44 b := pcF_add 44 20 a b ha
  have e2 : popc a = pcF 20 a := pcF_fuel 44 20 a ha
  have e3 : popc b = pcF 20 b := pcF_fuel 44 20 b hb
  have e4 : pcF 44 b = pcF 20 b := pcF_fuel 24 20 b hb
  rw [e1, e2, e3, e4]
theorem c_had {μ : Mm} {w : Nat} {V : VS} {p : Nat} (h : HC μ w V) (h5 : W5 V) (hp : p < V 0 0 0) : JL_bitCount (μ.2 (w + (21 + 9 * p)) 6) = some (nI (hadN V p)) := by
  have w5 := h5 p hp
  have hl : V 21 p 0 + 2 ^ 20 * V 22 p 0 < 2 ^ 40 := by omega
  rw [h.2.2 p hp]
  unfold h64 hadN
  rw [JL_popc hl, popc_two (by omega) (by omega)]
theorem m_had {ν : Mm} {th : Nat} {V : VS} {p : Nat} (h : HM ν th V) (h5 : W5 V) (hp : p < V 0 0 0) : M_hadBy (nI p) ν = some (nI (hadN V p)) := by
  have P16 := h.P16
  have w5 := h5 p hp
  have e1 := h.hl hp
  have e2 := h.hh hp
  unfold M_hadBy hadN
  simp only [nI_add]
  rw [chv_nI (by omega) (by decide), ix_nI (by omega), e1, M_pop (by omega), bnd_eq, chv_nI (by omega) (by decide), ix_nI (by omega), e2, M_pop (by omega), bnd_eq, nI_add]
def knG (V : VS) (j p : Nat) : Nat := if j ≤ hadN V p then 2 ^ p else 0
def knowR (V : VS) (v : Int32) : Int32 := if inI v (nI 0) (nI 40) = true then nI (orG (knG V (ix v)) (V 0 0 0)) else -1
theorem c_knows {μ : Mm} {V : VS} {d : Nat} (h : HC μ 1 V) (hw : WF d V) (v : Int32) : Nine_knows v μ = some (knowR V v) := by
  have P16 := h.P16
  have eP := h.P
  have h5 := hw.2.2.2.2.2.1
  unfold Nine_knows knowR
  by_cases c1 : inI v (nI 0) (nI 40) = true
  · obtain ⟨j, hj, rfl⟩ := inI_some c1 (by decide)
    have key := loop_or (f := fun s => Nine_knows_l16 (nI j) s.1 s.2 μ) (g := knG V j) (N := V 0 0 0) (by omega) (fun n s hn => ?_) (fun s => ?_) 0
    · rw [if_neg (show ¬ nI j < 0 from (show ¬ nI j < nI 0 from nI_nlt (Nat.zero_le _) (by omega))), if_pos (nI_le hj (by decide)), key, bni_eq, if_pos c1, ix_nI (by omega), Nat.zero_or]
    · have hn1 := c_had h h5 hn
      have hL := hadN_le V n
      show Nine_knows_l16 _ _ _ _ = _
      unfold Nine_knows_l16 Nine_knows_j52 knG
      rw [eP, if_neg (nI_ge hn (by omega)), chv_nI (by omega) (by decide), ix_nI (by omega), hn1, bnd_eq]
      by_cases c2 : j ≤ hadN V n
      · rw [if_neg (nI_nlt c2 (by omega)), if_pos c2, shl1 _ (by omega), nI_or, nI_add]
      · rw [if_pos (nI_lt (by omega) (by omega)), if_neg c2, nI_add, Nat.or_zero]
    · show Nine_knows_l16 _ _ _ _ = _
      unfold Nine_knows_l16
      rw [eP, if_pos (nI_le (Nat.le_refl _) (by omega))]
  · rw [if_neg c1]
    have c1 := fun z => c1 (decide_eq_true z)
    by_cases e1 : v < 0
    · rw [if_pos e1]
    · rw [if_neg e1]
      by_cases e2 : v ≤ nI 40
      · exact absurd ⟨e1, Int32.not_lt.2 e2⟩ c1
      · rw [if_neg e2]
theorem m_knows {ν : Mm} {V : VS} {d : Nat} (h : HM ν 0 V) (hw : WF d V) (v : Int32) : M_knows v ν = some (knowR V v, sti ν 0 0 (nI 0)) := by
  have h' := h.told (nI 0)
  have P16 := h.P16
  have eP := h'.P
  have h5 := hw.2.2.2.2.2.1
  unfold M_knows knowR
  rw [lt_eq, m_isIn, bnd_eq]
  by_cases c1 : inI v (nI 0) (nI 40) = true
  · obtain ⟨j, hj, rfl⟩ := inI_some c1 (by decide)
    have key := loop_or (f := fun s => M_knows_l22 (nI j) s.1 s.2 (sti ν 0 0 (nI 0))) (g := knG V j) (N := V 0 0 0) (by omega) (fun n s hn => ?_) (fun s => ?_) 0
    · rw [if_pos c1, if_neg (by decide), key, bni_eq, if_pos c1, ix_nI (by omega), Nat.zero_or]
    · have hn1 := m_had h' h5 hn
      have hL := hadN_le V n
      show M_knows_l22 _ _ _ _ = _
      unfold M_knows_l22 M_knows_j45 knG
      rw [eP, if_neg (nI_ge hn (by omega)), hn1, bnd_eq]
      by_cases c2 : j ≤ hadN V n
      · rw [if_neg (nI_nlt c2 (by omega)), if_pos c2, shl1 _ (by omega), nI_or, nI_add]
      · rw [if_pos (nI_lt (by omega) (by omega)), if_neg c2, nI_add, Nat.or_zero]
    · show M_knows_l22 _ _ _ _ = _
      unfold M_knows_l22
      rw [eP, if_pos (nI_le (Nat.le_refl _) (by omega))]
  · rw [if_neg c1, if_pos (by decide), if_neg c1]
/-! did anyone have it -/
def didV (V : VS) (v p : Nat) : Bool := if v < 20 then (V 21 p 0).testBit v else (V 22 p 0).testBit (v - 20)
theorem did_bit {a b v : Nat} (ha : a < 2 ^ 20) : (a + 2 ^ 20 * b).testBit v = if v < 20 then a.testBit v else b.testBit (v - 20) := by
  rw [Nat.add_comm, Nat.testBit_two_pow_mul_add b ha v]
theorem c_known {μ : Mm} {w : Nat} {V : VS} {v : Nat} (h : HC μ w V) (h5 : W5 V) (hv : v < 40) : World_isKnown w (nI v) μ = some (if anyB (didV V v) (V 0 0 0) = true then nI 1 else nI 0) := by
  have P16 := h.P16
  have eP := h.P
  have hb : ∀ n, n < V 0 0 0 → ((lg_cmp (((μ.2 (w + (21 + 9 * n)) 6) >>> (Int32.toInt64 (nI v) &&& 63)) &&& 1) 1) = 0 ↔ didV V v n = true) := fun n hn => by
    have w5 := h5 n hn
    rw [h.2.2 n hn]
    unfold h64 didV
    rw [lb_test (by omega) (by omega), did_bit (by omega)]
  have key := loop_find (f := fun s => World_isKnown_l2 w (nI v) s μ) (b := didV V v) (N := V 0 0 0) (by omega) (fun n hn hx => ?_) (fun n hn hx => ?_) ?_
  · unfold World_isKnown
    rw [key, bni_eq]
    by_cases e : anyB (didV V v) (V 0 0 0) = true
    · rw [if_pos e, if_pos e]
      rfl
    · rw [if_neg e, if_neg e]
      rfl
  · show World_isKnown_l2 _ _ _ _ = _
    unfold World_isKnown_l2
    rw [eP, if_neg (nI_ge hn (by omega)), chv_nI (by omega) (by decide), ix_nI (by omega), if_pos ((hb n hn).2 hx)]
  · show World_isKnown_l2 _ _ _ _ = _
    unfold World_isKnown_l2
    rw [eP, if_neg (nI_ge hn (by omega)), chv_nI (by omega) (by decide), ix_nI (by omega), if_neg (fun z => by rw [(hb n hn).1 z] at hx; exact absurd hx (by decide)), nI_add]
  · show World_isKnown_l2 _ _ _ _ = _
    unfold World_isKnown_l2
    rw [eP, if_pos (nI_le (Nat.le_refl _) (by omega))]
theorem m_known {ν : Mm} {th : Nat} {V : VS} {v : Nat} (h : HM ν th V) (h5 : W5 V) (hv : v < 40) : M_didAnyHave (nI v) ν = some (if anyB (didV V v) (V 0 0 0) = true then nI 1 else nI 0) := by
  have P16 := h.P16
  have eP := h.P
  have hd : ∀ n, n < V 0 0 0 → M_didHave (nI n) (nI v) ν = some (if didV V v n = true then nI 1 else nI 0) := fun n hn => by
    have w5 := h5 n hn
    have e1 := h.hl hn
    have e2 := h.hh hn
    unfold M_didHave didV
    simp only [nI_add]
    by_cases c : v < 20
    · have ht := hb_test (x := V 21 n 0) (i := v) (by omega) (by omega)
      rw [if_neg (nI_ge c (by decide)), chv_nI (by omega) (by decide), ix_nI (by omega), e1, if_pos c]
      by_cases e : (V 21 n 0).testBit v = true
      · rw [if_pos (of_decide_eq_true (ht.trans e)), if_pos e]
      · rw [if_neg (fun z => e (ht.symm.trans (decide_eq_true z))), if_neg e]
    · have ht := hb_test (x := V 22 n 0) (i := v - 20) (by omega) (by omega)
      rw [if_pos (nI_le (by omega) (by omega)), chv_nI (by omega) (by decide), ix_nI (by omega), e2, nI_subE (by omega), if_neg c]
      by_cases e : (V 22 n 0).testBit (v - 20) = true
      · rw [if_pos (of_decide_eq_true (ht.trans e)), if_pos e]
      · rw [if_neg (fun z => e (ht.symm.trans (decide_eq_true z))), if_neg e]
  have key := loop_find (f := fun s => M_didAnyHave_l2 (nI v) s ν) (b := didV V v) (N := V 0 0 0) (by omega) (fun n hn hx => ?_) (fun n hn hx => ?_) ?_
  · unfold M_didAnyHave
    rw [key, bni_eq]
    by_cases e : anyB (didV V v) (V 0 0 0) = true
    · rw [if_pos e, if_pos e]
      rfl
    · rw [if_neg e, if_neg e]
      rfl
  · show M_didAnyHave_l2 _ _ _ = _
    unfold M_didAnyHave_l2
    rw [eP, if_neg (nI_ge hn (by omega)), hd n hn, bnd_eq, if_pos hx, if_neg (by decide)]
  · show M_didAnyHave_l2 _ _ _ = _
    unfold M_didAnyHave_l2
    rw [eP, if_neg (nI_ge hn (by omega)), hd n hn, bnd_eq, if_neg (show ¬ didV V v n = true by rw [hx]; decide), if_pos (by decide), nI_add]
  · show M_didAnyHave_l2 _ _ _ = _
    unfold M_didAnyHave_l2
    rw [eP, if_pos (nI_le (Nat.le_refl _) (by omega))]
/-! how many letters of it -/
def is1 (b : Bool) : Nat := if b = true then 1 else 0
def wayN (V : VS) (v : Nat) : Nat := sumF (fun i => if V 15 0 i = v then 1 else 0) (V 0 0 2)
def ltG (V : VS) (v p : Nat) : Nat := sumF (fun i => if V 7 p i = v then 1 else 0) (V 6 p 0)
def ltN (V : VS) (v : Nat) : Nat := wayN V v + sumF (ltG V v) (V 0 0 0)
theorem c_letN {μ : Mm} {w : Nat} {V : VS} {v d : Nat} (h : HC μ w V) (hw : WF d V) (hv : v < 40) : World_countLettersOf w (nI v) μ = some (nI (ltN V v)) := by
  have P16 := h.P16
  have v40 := h.v40
  have w60 := h.w60
  have eP := h.P
  have eN := h.wn
  have h7 := hw.2.2.2.2.2.2.2.1
  have h9 := hw.2.2.2.2.2.2.2.2.2.1
  have k1 := loop_sum (f := fun s => World_countLettersOf_l4 w (nI v) s.1 s.2 μ) (g := fun i => if V 15 0 i = v then 1 else 0) (N := V 0 0 2) (by omega) (fun n s hn => ?_) (fun s => ?_) 0
  · have k2 : ∀ p s, p < V 0 0 0 → iter 1000000 (fun t => World_countLettersOf_l61 w (nI v) t.1 (nI p) ((w + (21 + 9 * p)) + 3) t.2 μ) (nI s, nI 0) = some (nI (s + ltG V v p)) := fun p s hp => by
      have h3 := h.h3 hp
      have ec := h.hc hp
      refine loop_sum (f := fun t => World_countLettersOf_l61 w (nI v) t.1 (nI p) ((w + (21 + 9 * p)) + 3) t.2 μ) (g := fun i => if V 7 p i = v then 1 else 0) (N := V 6 p 0) (by omega) (fun n s hn => ?_) (fun s => ?_) s
      · have e := h.lv hp hn
        have w7 := (h7 p n hp hn).1
        have hl := (h.lens (p := p) (by omega)).1
        show World_countLettersOf_l61 _ _ _ _ _ _ _ = _
        unfold World_countLettersOf_l61 World_countLettersOf_j86
        rw [ec, if_neg (nI_ge hn (by omega)), hl, chv_nI (by omega) (by decide), ix_nI (by omega), show w + (21 + 9 * p) + 3 + 1 = w + (21 + 9 * p) + 4 from rfl, e, nI_add]
        by_cases c : V 7 p n = v
        · rw [if_pos (by rw [c]), nI_add, if_pos c]
        · rw [if_neg (fun z => c ((nI_eq (by omega) (by omega)).1 z)), if_neg c]
          show some (Sum.inl (nI s, nI n + nI 1)) = _
          rw [nI_add]
          rfl
      · show World_countLettersOf_l61 _ _ _ _ _ _ _ = _
        unfold World_countLettersOf_l61
        rw [ec, if_pos (nI_le (Nat.le_refl _) (by omega))]
    have k3 := loop_sum (f := fun s => World_countLettersOf_l39 w (nI v) s.1 s.2 μ) (g := ltG V v) (N := V 0 0 0) (by omega) (fun n s hn => ?_) (fun s => ?_) (wayN V v)
    · unfold World_countLettersOf
      rw [k1, bni_eq, Nat.zero_add]
      unfold wayN at k3
      rw [k3, bni_eq]
      rfl
    · show World_countLettersOf_l39 _ _ _ _ _ = _
      unfold World_countLettersOf_l39
      rw [eP, if_neg (nI_ge hn (by omega)), chv_nI (by omega) (by decide), ix_nI (by omega), k2 n s hn, bni_eq, nI_add]
    · show World_countLettersOf_l39 _ _ _ _ _ = _
      unfold World_countLettersOf_l39
      rw [eP, if_pos (nI_le (Nat.le_refl _) (by omega))]
  · have e := h.wv hn
    have w9 := (h9 n hn).1
    have hl := (len_way h.2.1).1
    show World_countLettersOf_l4 _ _ _ _ _ = _
    unfold World_countLettersOf_l4 World_countLettersOf_j31
    rw [eN, if_neg (nI_ge hn (by omega)), show w + 8 = w + 7 + 1 from rfl, hl, chv_nI (by omega) (by decide), ix_nI (by omega), show w + 7 + 1 = w + 8 from rfl, e, nI_add]
    by_cases c : V 15 0 n = v
    · rw [if_pos (by rw [c]), nI_add, if_pos c]
    · rw [if_neg (fun z => c ((nI_eq (by omega) (by omega)).1 z)), if_neg c]
      show some (Sum.inl (nI s, nI n + nI 1)) = _
      rw [nI_add]
      rfl
  · show World_countLettersOf_l4 _ _ _ _ _ = _
    unfold World_countLettersOf_l4
    rw [eN, if_pos (nI_le (Nat.le_refl _) (by omega))]
theorem m_letN {ν : Mm} {V : VS} {v d th : Nat} (h : HM ν th V) (hw : WF d V) (hv : v < 40) : M_lettersOf (nI v) ν = some (nI (ltN V v)) := by
  have P16 := h.P16
  have v40 := h.v40
  have w60 := h.w60
  have eP := h.P
  have eN := h.wn
  have h7 := hw.2.2.2.2.2.2.2.1
  have h9 := hw.2.2.2.2.2.2.2.2.2.1
  have k2 : ∀ p s, p < V 0 0 0 → iter 1000000 (fun t => M_lettersOf_l15 (nI v) t.1 (nI p) t.2 ν) (nI s, nI 0) = some (nI (s + ltG V v p)) := fun p s hp => by
    have h3 := h.h3 hp
    have ec := h.hc hp
    refine loop_sum (f := fun t => M_lettersOf_l15 (nI v) t.1 (nI p) t.2 ν) (g := fun i => if V 7 p i = v then 1 else 0) (N := V 6 p 0) (by omega) (fun n s hn => ?_) (fun s => ?_) s
    · have e := h.lv hp hn
      have w7 := (h7 p n hp hn).1
      show M_lettersOf_l15 _ _ _ _ _ = _
      unfold M_lettersOf_l15 M_lettersOf_j52 M_letterAt
      simp only [nI_add, nI_mulE, bnd_eq, Nat.add_zero]
      rw [chv_nI (by omega) (by decide), ix_nI (by omega), ec, if_neg (nI_ge hn (by omega)), chv_nI (by omega) (by decide), ix_nI (by omega), e]
      by_cases c : V 7 p n = v
      · rw [if_pos (by rw [c]), if_pos c]
      · rw [if_neg (fun z => c ((nI_eq (by omega) (by omega)).1 z)), if_neg c]
        rfl
    · show M_lettersOf_l15 _ _ _ _ _ = _
      unfold M_lettersOf_l15
      simp only [nI_add]
      rw [chv_nI (by omega) (by decide), ix_nI (by omega), ec, if_pos (nI_le (Nat.le_refl _) (by omega))]
  have k1 := loop_sum (f := fun s => M_lettersOf_l4 (nI v) s.1 s.2 ν) (g := ltG V v) (N := V 0 0 0) (by omega) (fun n s hn => ?_) (fun s => ?_) 0
  · have k3 := loop_sum (f := fun s => M_lettersOf_l66 (nI v) s.1 s.2 ν) (g := fun i => if V 15 0 i = v then 1 else 0) (N := V 0 0 2) (by omega) (fun n s hn => ?_) (fun s => ?_) (sumF (ltG V v) (V 0 0 0))
    · unfold M_lettersOf
      rw [k1, bni_eq, Nat.zero_add, k3, bni_eq, Nat.add_comm]
      rfl
    · have e := h.wv hn
      have w9 := (h9 n hn).1
      show M_lettersOf_l66 _ _ _ _ = _
      unfold M_lettersOf_l66 M_lettersOf_j100
      simp only [nI_add, nI_mulE, Nat.add_zero]
      rw [chv_nI (by decide) (by decide), ix_nI (by decide), eN, if_neg (nI_ge hn (by omega)), chv_nI (by omega) (by decide), ix_nI (by omega), e]
      by_cases c : V 15 0 n = v
      · rw [if_pos (by rw [c]), if_pos c]
      · rw [if_neg (fun z => c ((nI_eq (by omega) (by omega)).1 z)), if_neg c]
        rfl
    · show M_lettersOf_l66 _ _ _ _ = _
      unfold M_lettersOf_l66
      rw [chv_nI (by decide) (by decide), ix_nI (by decide), eN, if_pos (nI_le (Nat.le_refl _) (by omega))]
  · show M_lettersOf_l4 _ _ _ _ = _
    unfold M_lettersOf_l4
    rw [eP, if_neg (nI_ge hn (by omega)), k2 n s hn, bni_eq, nI_add]
  · show M_lettersOf_l4 _ _ _ _ = _
    unfold M_lettersOf_l4
    rw [eP, if_pos (nI_le (Nat.le_refl _) (by omega))]
