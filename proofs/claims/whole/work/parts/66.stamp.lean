/-! THE LEAST STAMPS: to the nearest first, the lower number first -/
def mnF (g : Nat → Nat) (s : Nat) : Nat → Nat
  | 0 => 0
  | n + 1 => if s.testBit n = true then (if mnF g s n = 0 then n + 1 else if g (mnF g s n - 1) ≤ g n then mnF g s n else n + 1) else mnF g s n
theorem mnF_is {g : Nat → Nat} {s : Nat} : ∀ n, (mnF g s n = 0 ∧ ∀ t, t < n → ¬ s.testBit t = true) ∨ ∃ q, mnF g s n = q + 1 ∧ q < n ∧ s.testBit q = true ∧ ∀ t, t < n → s.testBit t = true → g q ≤ g t ∧ (t < q → g q < g t) := by
  intro n
  induction n with
  | zero => exact Or.inl ⟨rfl, fun t ht => absurd ht (Nat.not_lt_zero _)⟩
  | succ n ih =>
    by_cases c : s.testBit n = true
    · rcases ih with ⟨e, hn⟩ | ⟨q, e, hq, hb, hm⟩
      · refine Or.inr ⟨n, ?_, Nat.lt_succ_self n, c, fun t ht hb => ?_⟩
        · rw [mnF, if_pos c, if_pos e]
        · by_cases et : t = n
          · subst et
            exact ⟨Nat.le_refl _, fun z => absurd z (Nat.lt_irrefl _)⟩
          · exact absurd hb (hn t (by omega))
      · by_cases c2 : g q ≤ g n
        · refine Or.inr ⟨q, ?_, by omega, hb, fun t ht hb2 => ?_⟩
          · rw [mnF, if_pos c, if_neg (by omega), e, show q + 1 - 1 = q from rfl, if_pos c2]
          · by_cases et : t = n
            · subst et
              exact ⟨c2, fun z => absurd z (by omega)⟩
            · exact hm t (by omega) hb2
        · refine Or.inr ⟨n, ?_, Nat.lt_succ_self n, c, fun t ht hb2 => ?_⟩
          · rw [mnF, if_pos c, if_neg (by omega), e, show q + 1 - 1 = q from rfl, if_neg c2]
          · by_cases et : t = n
            · subst et
              exact ⟨Nat.le_refl _, fun z => absurd z (Nat.lt_irrefl _)⟩
            · have := (hm t (by omega) hb2).1
              exact ⟨by omega, fun _ => by omega⟩
    · have em : mnF g s (n + 1) = mnF g s n := by rw [mnF, if_neg c]
      rw [em]
      rcases ih with ⟨e, hn⟩ | ⟨q, e, hq, hb, hm⟩
      · refine Or.inl ⟨e, fun t ht => ?_⟩
        by_cases et : t = n
        · subst et
          exact c
        · exact hn t (by omega)
      · refine Or.inr ⟨q, e, by omega, hb, fun t ht hb2 => ?_⟩
        by_cases et : t = n
        · subst et
          exact absurd hb2 c
        · exact hm t (by omega) hb2
def outB (s q : Nat) : Nat := s &&& (2 ^ q ^^^ 4294967295)
def stQ (g : Nat → Nat) (P R : Nat) : Nat → Nat × Nat
  | 0 => (R, 0)
  | j + 1 => (outB (stQ g P R j).1 (mnF g (stQ g P R j).1 P - 1), (stQ g P R j).2 + g (mnF g (stQ g P R j).1 P - 1))
theorem popc_out {s q : Nat} (hs : s < 2 ^ 16) (hq : s.testBit q = true) : popc (outB s q) + 1 = popc s := by
  have q16 := bit_lt hs hq
  have hl : outB s q < 2 ^ 16 := Nat.lt_of_le_of_lt Nat.and_le_left hs
  rw [popc_sum (k := 16) (by decide) hl, popc_sum (k := 16) (by decide) hs, sumF_split (g := bitN s) (v := q) 16 q16]
  congr 1
  · refine sumF_congr _ (fun i _ => ?_)
    unfold bitN outB
    by_cases e : i = q
    · rw [if_pos e, if_neg (fun z => ((oth_bit hs q16 i).1 z).2 e)]
    · rw [if_neg e]
      by_cases e2 : s.testBit i = true
      · rw [if_pos e2, if_pos ((oth_bit hs q16 i).2 ⟨e2, e⟩)]
      · rw [if_neg e2, if_neg (fun z => e2 ((oth_bit hs q16 i).1 z).1)]
  · exact (if_pos hq).symm
theorem popc_some {s : Nat} (hs : s < 2 ^ 16) (h : 0 < popc s) : ∃ t, s.testBit t = true := by
  by_cases c : ∃ t, s.testBit t = true
  · exact c
  · rw [popc_sum (k := 16) (by decide) hs, sumF_congr (g := bitN s) (g2 := fun _ => 0) 16 (fun i _ => if_neg (fun z => c ⟨i, z⟩))] at h
    exact absurd h (by decide)
theorem stQ_is {g : Nat → Nat} {P R : Nat} (hR : R < 2 ^ 16) (hP : ∀ t, R.testBit t = true → t < P) : ∀ j, j ≤ popc R → (stQ g P R j).1 < 2 ^ 16 ∧ (∀ t, (stQ g P R j).1.testBit t = true → R.testBit t = true) ∧ popc (stQ g P R j).1 + j = popc R ∧ (stQ g P R j).2 ≤ j * (sumF g P) := by
  intro j
  induction j with
  | zero => exact fun _ => ⟨hR, fun _ h => h, rfl, Nat.zero_le _⟩
  | succ j ih =>
    intro hj
    obtain ⟨h1, h2, h3, h4⟩ := ih (by omega)
    obtain ⟨t, ht⟩ := popc_some h1 (by omega)
    rcases mnF_is (g := g) (s := (stQ g P R j).1) P with ⟨_, hn⟩ | ⟨q, e, hq, hb, hm⟩
    · exact absurd ht (hn t (hP t (h2 t ht)))
    · have hg : g q ≤ sumF g P := by
        rw [sumF_split (v := q) P hq]
        omega
      have e1 : (stQ g P R (j + 1)).1 = outB (stQ g P R j).1 q := by
        show outB _ (mnF g (stQ g P R j).1 P - 1) = _
        rw [e]
        rfl
      have e2 : (stQ g P R (j + 1)).2 = (stQ g P R j).2 + g q := by
        show _ + g (mnF g (stQ g P R j).1 P - 1) = _
        rw [e]
        rfl
      rw [e1, e2]
      refine ⟨Nat.lt_of_le_of_lt Nat.and_le_left h1, fun t ht => h2 t ((oth_bit h1 (bit_lt h1 hb) t).1 ht).1, ?_, ?_⟩
      · have := popc_out h1 hb
        omega
      · rw [Nat.succ_mul]
        omega
/-- the next one -/
theorem stQ_next {g : Nat → Nat} {P R j : Nat} (hR : R < 2 ^ 16) (hP : ∀ t, R.testBit t = true → t < P) (hj : j < popc R) : ∃ q, q < P ∧ mnF g (stQ g P R j).1 P = q + 1 ∧ (stQ g P R j).1.testBit q = true ∧ (∀ t, (stQ g P R j).1.testBit t = true → g q ≤ g t ∧ (t < q → g q < g t)) ∧ (stQ g P R (j + 1)).1 = outB (stQ g P R j).1 q ∧ (stQ g P R (j + 1)).2 = (stQ g P R j).2 + g q := by
  obtain ⟨h1, h2, h3, h4⟩ := stQ_is (g := g) hR hP j (by omega)
  obtain ⟨t, ht⟩ := popc_some h1 (by omega)
  rcases mnF_is (g := g) (s := (stQ g P R j).1) P with ⟨_, hn⟩ | ⟨q, e, hq, hb, hm⟩
  · exact absurd ht (hn t (hP t (h2 t ht)))
  · refine ⟨q, hq, e, hb, fun t ht => hm t (hP t (h2 t ht)) ht, ?_, ?_⟩
    · show outB _ (mnF g (stQ g P R j).1 P - 1) = _
      rw [e]
      rfl
    · show _ + g (mnF g (stQ g P R j).1 P - 1) = _
      rw [e]
      rfl
theorem rowS_bit {V : VS} {p t : Nat} (h6 : W6 V) (hp : p < V 0 0 0) (h : (rowS V p).testBit t = true) : t < V 0 0 0 := by
  obtain ⟨q, hq, hb⟩ := (orG_bit _).1 h
  rw [Nat.testBit_two_pow] at hb
  have := of_decide_eq_true hb
  rw [← this]
  exact (h6 p q hp hq).1
def gP (V : VS) (T : TT) (p t : Nat) : Nat := T.2.2 (V 1 p 0) (V 1 t 0)
def stampR (V : VS) (T : TT) (p n : Nat) : Int32 := if n ≤ popc (rowS V p) then nI (stQ (gP V T p) (V 0 0 0) (rowS V p) n).2 else -1
theorem gP_is {V : VS} {T : TT} {p t : Nat} (h5 : W5 V) (hB : TB T) (hp : p < V 0 0 0) (ht : t < V 0 0 0) : 1 ≤ gP V T p t ∧ gP V T p t ≤ 20 := hB.2 _ _ (h5 p hp).1 (h5 t ht).1
theorem m_mn {ν : Mm} {th : Nat} {V : VS} {T : TT} {p s : Nat} (h : HM ν th V) (h5 : W5 V) (hT : TM ν T) (hB : TB T) (hp : p < V 0 0 0) (hs : s < 2 ^ 16) (v2 v4 v5 : Int32) : iter 1000000 (fun t => M_stampsOf_l35 (nI p) v2 (nI s) v4 v5 t.1 t.2 ν) (-1, nI 0) = some (nI (mnF (gP V T p) s (V 0 0 0)) - nI 1) := by
  have P16 := h.P16
  have eP := h.P
  have ep := h.town hp
  have p5 := (h5 p hp).1
  have hpost : ∀ t, t < V 0 0 0 → M_postOf (nI (V 1 p 0)) (nI (V 1 t 0)) ν = some (nI (gP V T p t)) := fun t ht => (hT ν OutM.rf).2.2 _ _ p5 (h5 t ht).1
  have key := iter_traj (f := fun t => M_stampsOf_l35 (nI p) v2 (nI s) v4 v5 t.1 t.2 ν) (fun k => (nI (mnF (gP V T p) s k) - nI 1, nI k)) (y := nI (mnF (gP V T p) s (V 0 0 0)) - nI 1) (V 0 0 0) 1000000 (fun n hn => ?_) ?_ (by omega)
  · exact key
  · have hb := hb_test (x := s) (i := n) (by omega) (by omega)
    have en := h.town hn
    show M_stampsOf_l35 _ _ _ _ _ _ _ _ = _
    unfold M_stampsOf_l35 M_stampsOf_j97 M_stampsOf_j101
    dsimp only
    rw [eP, if_neg (nI_ge hn (by omega)), nI_add]
    have hnx : nI n = nI (n + 1) - nI 1 := by rw [nI_subE (by omega)]; rfl
    by_cases c : s.testBit n = true
    · rw [if_pos (of_decide_eq_true (hb.trans c))]
      rcases mnF_is (g := gP V T p) (s := s) n with ⟨e, _⟩ | ⟨q, e, hq, hbq, _⟩
      · rw [e, if_pos (by decide), mnF, if_pos c, if_pos e, ← hnx]
      · have eq := h.town (p := q) (by omega)
        have g1 := gP_is (T := T) h5 hB hp hn
        have g2 := gP_is (T := T) h5 hB hp (t := q) (by omega)
        have em : ¬ nI (q + 1) - nI 1 = -1 := by
          rw [nI_subE (by omega)]
          intro z
          rw [eq_m1 (n := q + 1 - 1) (by omega)] at z
          exact z
        rw [e, if_neg em, chv_nI (by omega) (by decide), ix_nI (by omega), ep, chv_nI (by omega) (by decide), ix_nI (by omega), en, hpost n hn, bnd_eq, chv_nI (by omega) (by decide), nI_subE (by omega), show q + 1 - 1 = q from rfl, chv_nI (by omega) (by decide), ix_nI (by omega), eq, hpost q (by omega), bnd_eq, mnF, if_pos c, e, if_neg (show ¬ q + 1 = 0 by omega), show q + 1 - 1 = q from rfl]
        by_cases c2 : gP V T p q ≤ gP V T p n
        · rw [if_pos (nI_le c2 (by omega)), if_pos c2, nI_subE (by omega)]
          rfl
        · rw [if_neg (nI_ge (by omega) (by omega)), if_neg c2, ← hnx]
    · rw [if_neg (fun z => c (hb.symm.trans (decide_eq_true z))), mnF, if_neg c]
  · show M_stampsOf_l35 _ _ _ _ _ _ _ _ = _
    unfold M_stampsOf_l35
    rw [eP, if_pos (nI_le (Nat.le_refl _) (by omega))]
theorem m_stamps {ν : Mm} {th : Nat} {V : VS} {T : TT} {p n : Nat} (h : HM ν th V) (h5 : W5 V) (h6 : W6 V) (hT : TM ν T) (hB : TB T) (hp : p < V 0 0 0) (hn : n < 100) : M_stampsOf (nI p) (nI n) ν = some (stampR V T p n) := by
  have P16 := h.P16
  have hR := rowS_lt h6 P16 hp
  have hb : ∀ t, (rowS V p).testBit t = true → t < V 0 0 0 := fun t ht => rowS_bit h6 hp ht
  have pl : popc (rowS V p) ≤ 64 := pcF_le 64 _
  have ep := h.town hp
  have p5 := (h5 p hp).1
  unfold M_stampsOf stampR
  rw [m_rows h h6 hp, bnd_eq, M_pop (by omega), bnd_eq]
  by_cases c : n ≤ popc (rowS V p)
  · have key := iter_traj (f := fun s => M_stampsOf_l23 (nI p) (nI n) s.1 s.2.1 s.2.2 ν) (fun k => (nI (stQ (gP V T p) (V 0 0 0) (rowS V p) k).1, nI (stQ (gP V T p) (V 0 0 0) (rowS V p) k).2, nI k)) (y := nI (stQ (gP V T p) (V 0 0 0) (rowS V p) n).2) n 1000000 (fun k hk => ?_) ?_ (by omega)
    · rw [if_pos (nI_le c (by omega)), if_pos c]
      show bni (iter 1000000 _ (nI (stQ (gP V T p) (V 0 0 0) (rowS V p) 0).1, nI (stQ (gP V T p) (V 0 0 0) (rowS V p) 0).2, nI 0)) _ = _
      rw [key, bni_eq]
    · obtain ⟨q, hq, e, hbq, _, e1, e2⟩ := stQ_next (g := gP V T p) hR hb (j := k) (by omega)
      have h1 := (stQ_is (g := gP V T p) hR hb k (by omega)).1
      have eq := h.town hq
      have hpost : M_postOf (nI (V 1 p 0)) (nI (V 1 q 0)) ν = some (nI (gP V T p q)) := (hT ν OutM.rf).2.2 _ _ p5 (h5 q hq).1
      show M_stampsOf_l23 _ _ _ _ _ _ = _
      unfold M_stampsOf_l23
      rw [if_neg (nI_ge hk (by omega)), m_mn h h5 hT hB hp h1, bni_eq, e, nI_subE (by omega), show q + 1 - 1 = q from rfl, chv_nI (by omega) (by decide), ix_nI (by omega), ep, chv_nI (by omega) (by decide), ix_nI (by omega), eq, hpost, bnd_eq, lt_eq, Int32_shl1 (by omega), show (-1 : Int32) = nI 4294967295 from by decide, nI_xor, nI_and, nI_add, nI_add, e1, e2]
      rfl
    · show M_stampsOf_l23 _ _ _ _ _ _ = _
      unfold M_stampsOf_l23
      rw [if_pos (nI_le (Nat.le_refl _) (by omega))]
  · rw [if_neg (nI_ge (by omega) (by omega)), if_neg c]
