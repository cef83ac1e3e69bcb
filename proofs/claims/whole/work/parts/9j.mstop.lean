/-! WHOM TO STOP: the check -/
def EY (o k : Nat) : Prop := o = 21 ∨ o = 22 ∨ o = 23 ∨ (o = 1 ∧ 712 ≤ k)
theorem HM.stop {ν : Mm} {U : VS} {s : Nat} (h : HM ν 1 U) : HM (sti ν 0 10 (ν.1 0 10 ||| nI s)) 1 (stS U s) := by
  have hP := h.P16
  obtain ⟨h1, h2, h3, h4⟩ := h
  have e0 : stS U s 0 0 0 = U 0 0 0 := stS_o (by omega)
  refine ⟨(h1.free _ (by unfold cellM; omega)).mono (fun c p i hl => ?_) (fun c p i hl ho => stS_o (by unfold own3 at ho; omega)), fun p hp => ?_, ?_, ?_⟩
  · refine ⟨live_same hl.1 (stS_o (by omega)) (stS_o (by omega)) (stS_o (by omega)) (stS_o (by omega)) (stS_o (by omega)) (stS_o (by omega)), hl.2⟩
  · rw [e0] at hp
    have hb := h2 p hp
    rw [b32 _ (by omega)] at hb
    rw [sti_e ⟨rfl, rfl⟩, b32 _ (by omega), Int32.toBitVec_or, BitVec.getLsbD_or]
    have e : (nI s).toBitVec.getLsbD p = s.testBit p := by
      show (BitVec.ofNat 32 s).getLsbD p = _
      rw [BitVec.getLsbD_ofNat, decide_eq_true (show p < 32 by omega), Bool.true_and]
    rw [e]
    unfold stS
    cases z : s.testBit p with
    | true => rw [Bool.or_true, if_pos rfl, if_pos ⟨rfl, rfl, rfl⟩]
    | false => rw [Bool.or_false, hb, if_neg (fun y => Bool.false_ne_true y.2.2)]
  · rw [sti_n (by omega)]
    exact h3
  · rw [sti_n (by omega), stS_o (by omega)]
    exact h4
theorem HM.y {ν ν2 : Mm} {th : Nat} {V : VS} (h : HM ν th V) (ho : OutM EY ν ν2) : HM ν2 th V := h.out2 ho (fun o k z z2 y => by
  unfold cellN cellM at z
  unfold EY at y
  omega)
theorem EY_law {o k : Nat} (h : EY o k) : lawOutM o k := by
  unfold EY at h
  unfold lawOutM
  omega
theorem m_without {ν0 m : Mm} {U : VS} {T : TT} {d n s : Nat} (h0 : HM ν0 1 U) (hr : ∀ x, x < 712 → ν0.1 3 x = ν0.1 1 x) (hf : OutM EY ν0 m) (hw : WF d U) (hd : d + 300 < 2 ^ 30) (hn : n ≤ 99) (hT : TM ν0 T) (hB : TB T) : ∃ m2, M_isOverWithout (nI s) (nI n) m = some (if eS T U n s = true then nI 1 else nI 0, m2) ∧ OutM EY ν0 m2 := by
  have hm := h0.y hf
  have hTm : TM m T := hT.out hf (fun o k => EY_law)
  have hS := hm.stop (s := s)
  have o1 : OutM (fun o k => o = 0 ∧ k = 10) m (sti m 0 10 (m.1 0 10 ||| nI s)) := OutM.rf.sti ⟨rfl, rfl⟩
  obtain ⟨m3, g1, g2⟩ := m_overBy (m := n) hS (hw.stS (s := s)) (by omega) (by omega) (hTm.out o1 (fun o k z => by unfold lawOutM; omega)) hB
  refine ⟨bcM (sti m3 0 10 (m.1 0 10)) 1 0 3 0 712, ?_, fun o k z => ?_⟩
  · have j29 : ∀ b, b < 2 → M_isOverWithout_j29 (m.1 0 10) (nI b) m3 = some (nI b, bcM (sti m3 0 10 (m.1 0 10)) 1 0 3 0 712) := by
      intro b hb
      unfold M_isOverWithout_j29
      have c : nI b = 0 ∨ nI b = 1 := by
        have : b = 0 ∨ b = 1 := by omega
        rcases this with rfl | rfl
        · exact Or.inl rfl
        · exact Or.inr rfl
      rw [lt_eq, m_anewE, bnd_eq, chk_ok c]
    unfold M_isOverWithout
    rw [lt_eq, g1, bnd2_eq]
    unfold ovR eS
    by_cases e : frs (ovB T (stS U s)) (n + 1) ≤ n
    · rw [if_pos e, decide_eq_true e, if_pos rfl, if_neg (fun z => by rw [eq_m1 (by omega)] at z; exact z), j29 1 (by decide)]
    · rw [if_neg e, decide_eq_false e, if_neg Bool.false_ne_true, if_pos rfl, j29 0 (by decide)]
  · by_cases c1 : o = 1 ∧ k < 712
    · obtain ⟨rfl, hk⟩ := c1
      rw [bcM_p _ ⟨Nat.zero_le _, by omega⟩, sti_n (by omega), g2 _ _ (by unfold EX; omega), sti_n (by omega), hf _ _ (by unfold EY; omega), Nat.sub_zero, Nat.add_zero]
      exact hr k hk
    · rw [bcM_n _ (by omega)]
      by_cases c2 : o = 0 ∧ k = 10
      · rw [sti_e c2, c2.1, c2.2]
        exact hf _ _ (by unfold EY; omega)
      · rw [sti_n c2, g2 _ _ (by unfold EX; unfold EY at z; omega), sti_n c2]
        exact hf _ _ z
/-- all sets of k -/
theorem m_stopK {ν0 m : Mm} {U : VS} {T : TT} {d n k P : Nat} (h0 : HM ν0 1 U) (hr : ∀ x, x < 712 → ν0.1 3 x = ν0.1 1 x) (hf : OutM EY ν0 m) (hw : WF d U) (hd : d + 300 < 2 ^ 30) (hn : n ≤ 99) (hT : TM ν0 T) (hB : TB T) (hk : k < 4) (hP : U 0 0 0 = P) : ∃ x, iter 1000000 (fun s => M_stop_l39 (nI n) s.1 (nI k) s.2.1 s.2.2) (-1, nI 0, m) = some x ∧ OutM EY ν0 x.2 ∧ ((x.1 = -1 ∧ ∀ i, i < cn k P → eS T U n (tb k i) = false) ∨ ∃ i, i < cn k P ∧ x.1 = nI (tb k i) ∧ eS T U n (tb k i) = true ∧ ∀ i2, i2 < i → eS T U n (tb k i2) = false) := by
  subst hP
  have hP := hw.1
  have p16 : 2 ^ U 0 0 0 ≤ 2 ^ 16 := Nat.pow_le_pow_right (by decide) hP
  have key := iter_inv (f := fun q : Int32 × Int32 × Mm => M_stop_l39 (nI n) q.1 (nI k) q.2.1 q.2.2)
    (fun s q => q.2.1 = nI s ∧ OutM EY ν0 q.2.2 ∧ ((q.1 = -1 ∧ ∀ t, t < s → popc t = k → eS T U n t = false) ∨ ∃ t, t < s ∧ q.1 = nI t ∧ popc t = k ∧ eS T U n t = true ∧ ∀ t2, t2 < t → popc t2 = k → eS T U n t2 = false))
    (fun x => OutM EY ν0 x.2 ∧ ((x.1 = -1 ∧ ∀ t, t < 2 ^ U 0 0 0 → popc t = k → eS T U n t = false) ∨ ∃ t, t < 2 ^ U 0 0 0 ∧ x.1 = nI t ∧ popc t = k ∧ eS T U n t = true ∧ ∀ t2, t2 < t → popc t2 = k → eS T U n t2 = false)) (2 ^ U 0 0 0) ?_ ?_ 1000000 (-1, nI 0, m) ⟨rfl, hf, Or.inl ⟨rfl, fun t ht => absurd ht (Nat.not_lt_zero t)⟩⟩ (by omega)
  · obtain ⟨x, k1, k2, k3⟩ := key
    refine ⟨x, k1, k2, ?_⟩
    rcases k3 with ⟨a, b⟩ | ⟨t, a, b, c, e, f⟩
    · refine Or.inl ⟨a, fun i hi => ?_⟩
      have c16 := (cn_16 k hk (U 0 0 0) (by omega)).1
      exact b _ ((tb_lt hk (by omega) (by omega)).2 hi) (tb_p hk (by omega)).1
    · obtain ⟨i, hi, rfl⟩ := tb_all (s := t) (by omega) hk c
      have hi2 := (tb_lt hk (show U 0 0 0 < 17 by omega) hi).1 a
      refine Or.inr ⟨i, hi2, b, e, fun i2 h2 => ?_⟩
      refine f _ ?_ (tb_p hk (by omega)).1
      by_cases h1 : 1 ≤ k
      · exact tb_mono hk h1 i (by omega) i2 h2
      · have : k = 0 := by omega
        subst this
        have hi : i < 1 := hi
        omega
  · rintro s ⟨q1, q2, m1⟩ hs ⟨rfl, g1, g2⟩
    have g1 : OutM EY ν0 m1 := g1
    have mP : m1.1 0 6 = nI (U 0 0 0) := (h0.y g1).P
    have s16 : s < 2 ^ 16 := by omega
    rcases g2 with ⟨rfl, g2⟩ | ⟨t, a, rfl, c, e, f⟩
    · have l : M_stop_l39 (nI n) (-1) (nI k) (nI s) m1 = if nI (popc s) = nI k then bnd2 (M_isOverWithout (nI s) (nI n) m1) fun r6 μ5 => if r6 = 0 then some (.inl (-1, nI (s + 1), μ5)) else some (.inl (nI s, nI (s + 1), μ5)) else some (.inl (-1, nI (s + 1), m1)) := by
        unfold M_stop_l39 M_stop_j78
        rw [mP, shl1 _ (by omega), if_neg (nI_ge hs (by omega)), if_pos rfl, M_pop (by omega), bnd_eq, nI_add]
      have pb : popc s < 2 ^ 31 := by
        have := popc_256 s (by omega)
        have := popc_8 (x := s % 256) (Nat.mod_lt _ (by decide))
        have := popc_8 (x := s / 256) (by omega)
        omega
      left
      by_cases c1 : popc s = k
      · obtain ⟨m2, b1, b2⟩ := m_without (s := s) h0 hr g1 hw hd hn hT hB
        rw [if_pos (by rw [c1]), b1, bnd2_eq] at l
        cases ee : eS T U n s with
        | true =>
          rw [ee, if_pos rfl, if_10] at l
          exact ⟨_, l, rfl, b2, Or.inr ⟨s, Nat.lt_succ_self s, rfl, c1, ee, g2⟩⟩
        | false =>
          rw [ee, if_neg Bool.false_ne_true, if_00] at l
          refine ⟨_, l, rfl, b2, Or.inl ⟨rfl, fun t ht hk2 => ?_⟩⟩
          by_cases y : t = s
          · rw [y]
            exact ee
          · exact g2 t (by omega) hk2
      · rw [if_neg (fun z => c1 ((nI_eq pb (by omega)).1 z))] at l
        refine ⟨_, l, rfl, g1, Or.inl ⟨rfl, fun t ht hk2 => ?_⟩⟩
        by_cases y : t = s
        · rw [y] at hk2
          exact absurd hk2 c1
        · exact g2 t (by omega) hk2
    · right
      refine ⟨(nI t, m1), ?_, g1, Or.inr ⟨t, by omega, rfl, c, e, f⟩⟩
      show M_stop_l39 _ _ _ _ _ = _
      unfold M_stop_l39
      rw [mP, shl1 _ (by omega), if_neg (nI_ge hs (by omega)), if_neg (fun z => by rw [eq_m1 (by omega)] at z; exact z)]
  · rintro ⟨q1, q2, m1⟩ ⟨rfl, g1, g2⟩
    have g1 : OutM EY ν0 m1 := g1
    have mP : m1.1 0 6 = nI (U 0 0 0) := (h0.y g1).P
    refine ⟨(q1, m1), ?_, g1, g2⟩
    show M_stop_l39 _ _ _ _ _ = _
    unfold M_stop_l39
    rw [mP, shl1 _ (by omega), if_pos (nI_le (Nat.le_refl _) (by omega))]
theorem m_stop {ν : Mm} {V : VS} {T : TT} (h : HM ν 0 V) (hw : WF 9999 V) (hT : TM ν T) (hB : TB T) (v : Int32) : ∃ ν2, M_stop v ν = some (stopR V T v, ν2) ∧ OutM EQ ν ν2 := by
  have hP := hw.1
  have h' := h.told (nI 0)
  have hT' := hT.told (nI 0)
  have hO : OutM EQ ν (sti ν 0 0 (nI 0)) := OutM.rf.sti (Or.inr ⟨rfl, rfl⟩)
  have eU : thV V 0 0 0 = V 0 0 0 := thV_o (by omega) (by omega)
  unfold M_stop stopR
  rw [lt_eq, m_isIn, bnd_eq]
  by_cases c1 : inI v (nI 0) (nI 99) = true
  · obtain ⟨n, hn, rfl⟩ := inI_some c1 (by decide)
    rw [if_pos c1, if_10, if_pos c1, ix_nI (by omega), m_thinksE, bnd_eq]
    show ∃ ν2, (bni (iter 1000000 _ (-1, nI 0, thM (sti ν 0 0 (nI 0)))) _) = _ ∧ _
    have hm := m_think h'
    have hT0 := hT'.out (thM_law (sti ν 0 0 (nI 0))) (fun _ _ e => e)
    have hr : ∀ x, x < 712 → (thM (sti ν 0 0 (nI 0))).1 3 x = (thM (sti ν 0 0 (nI 0))).1 1 x := by
      intro x hx
      rw [thM_o (o := 1) (by decide) (by omega)]
      unfold thM
      rw [sti_n (by omega), bcM_p _ ⟨Nat.zero_le _, by omega⟩, Nat.sub_zero, Nat.add_zero]
    have hb0 : ∀ m2, OutM EY (thM (sti ν 0 0 (nI 0))) m2 → OutM EQ ν (sti (bcM m2 1 0 3 0 712) 0 5 (nI 0)) := fun m2 z => hO.tr ((m_back h' (z.mono (fun o k y => by unfold EY at y; unfold EX; omega))).mono (fun o k e => Or.inl e))
    generalize thM (sti ν 0 0 (nI 0)) = ν0 at hm hT0 hr hb0 ⊢
    have key := iter_inv (f := fun q : Int32 × Int32 × Mm => M_stop_l26 (nI n) q.1 q.2.1 q.2.2)
      (fun k q => q.2.1 = nI k ∧ OutM EY ν0 q.2.2 ∧ ((q.1 = -1 ∧ ∀ k2 i, k2 < k → i < cn k2 (V 0 0 0) → eS T (thV V) n (tb k2 i) = false) ∨ (q.1 = stF T (thV V) n (V 0 0 0) 4 0 ∧ ¬ q.1 = -1)))
      (fun x => OutM EY ν0 x.2 ∧ x.1 = stF T (thV V) n (V 0 0 0) 4 0) 4 ?_ ?_ 1000000 (-1, nI 0, ν0) ⟨rfl, OutM.rf, Or.inl ⟨rfl, fun k2 i hk => absurd hk (Nat.not_lt_zero k2)⟩⟩ (by decide)
    · obtain ⟨x, k1, k2, k3⟩ := key
      refine ⟨sti (bcM x.2 1 0 3 0 712) 0 5 (nI 0), ?_, hb0 _ k2⟩
      rw [k1, bni_eq]
      unfold M_stop_j90
      rw [m_endsE, bnd_eq, k3]
    · rintro k ⟨q1, q2, m1⟩ hk ⟨rfl, g1, g2⟩
      have g1 : OutM EY ν0 m1 := g1
      rcases g2 with ⟨rfl, g2⟩ | ⟨g2, g3⟩
      · left
        obtain ⟨x, b1, b2, b3⟩ := m_stopK (k := k) (n := n) hm hr g1 hw.thV (by decide) hn hT0 hB hk eU
        have l : M_stop_l26 (nI n) (-1) (nI k) m1 = some (.inl (x.1, nI (k + 1), x.2)) := by
          unfold M_stop_l26 M_stop_j84
          rw [if_neg (nI_nlt (by omega) (by decide)), if_pos rfl, b1, bni_eq, nI_add]
        refine ⟨_, l, rfl, b2, ?_⟩
        rcases b3 with ⟨b3, b4⟩ | ⟨i, hi, b3, b4, b5⟩
        · refine Or.inl ⟨b3, fun k2 i hk2 hi => ?_⟩
          by_cases y : k2 = k
          · subst y
            exact b4 i hi
          · exact g2 k2 i (by omega) hi
        · right
          have c16 := (cn_16 k hk (V 0 0 0) (by omega)).1
          have p16 := (tb_p hk (show i < cn k 16 by omega)).2
          refine ⟨?_, fun z => ?_⟩
          · rw [stF_at hk hi (fun k2 i2 q1 q2 q3 => ?_) b4 4 0 (Nat.zero_le _) rfl]
            · exact b3
            · rcases q3 with q3 | ⟨rfl, q3⟩
              · exact g2 k2 i2 q3 q2
              · exact b5 i2 q3
          · have z : x.1 = -1 := z
            rw [b3, eq_m1 (by omega)] at z
            exact z
      · right
        refine ⟨(q1, m1), ?_, g1, g2⟩
        have g3 : ¬ q1 = -1 := g3
        show M_stop_l26 _ _ _ _ = _
        unfold M_stop_l26
        rw [if_neg (nI_nlt (by omega) (by decide)), if_neg g3]
    · rintro ⟨q1, q2, m1⟩ ⟨rfl, g1, g2⟩
      refine ⟨(q1, m1), ?_, g1, ?_⟩
      · show M_stop_l26 _ _ _ _ = _
        unfold M_stop_l26
        rw [if_pos (show nI 3 < nI 4 by decide)]
      · rcases g2 with ⟨g2, g3⟩ | ⟨g2, g3⟩
        · have g2 : q1 = -1 := g2
          show q1 = _
          rw [g2, stF_none (fun k i hk hi => g3 k i hk hi) 4 0 rfl]
        · exact g2
  · rw [if_neg c1, if_00, if_neg c1]
    exact ⟨_, rfl, hO⟩
