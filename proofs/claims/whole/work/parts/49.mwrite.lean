/-! THE CHECK: writing out -/
theorem m_snd {ν : Mm} {th : Nat} {V : VS} {T : TT} {p i n k d : Nat} (h : HM ν th V) (hw : WF d V) (hp : p < V 0 0 0) (hi : i < V 6 p 0) (hr : 0 < V 3 p 0) (h3 : 1 ≤ V 1 p 3) (h10 : 1 ≤ V 10 p i) (hT : TM ν T) (hB : TB T) (hk : k < n) (hn : n < 2 ^ 31) : ∃ ν2, M_writes_l41 (nI p) (nI i) (nI n) (nI k) ν = some (.inl (nI (k + 1), ν2)) ∧ HM ν2 th (sndV T V p i) ∧ OutM (isO 1) ν ν2 := by
  have p16 : p < 16 := Nat.lt_of_lt_of_le hp h.P16
  have m3 := h.h3 hp
  have w5 := hw.2.2.2.2.2.1 p hp
  have w6 := hw.2.2.2.2.2.2.1 p (V 4 p 0) hp (by omega)
  have w7 := hw.2.2.2.2.2.2.2.1 p i hp hi
  have e7 := h.lv hp hi
  obtain ⟨ν1, g1, g2, g3⟩ := m_copy (q := p) h hw w7.1
  have oU : ∀ {c q j : Nat}, ¬ (11 ≤ c ∧ c ≤ 14) → ¬ (c = 0 ∧ (j = 1 ∨ j = 8)) → (copV V (V 7 p i) p).1 c q j = V c q j := fun a b => copV_o a b
  have hwc := hw.cop (p := p) w7.1
  have c1U : (copV V (V 7 p i) p).2 < (copV V (V 7 p i) p).1 0 0 1 := copV_1 hw.2.1 w7.1
  unfold sndV
  generalize copV V (V 7 p i) p = U at g1 g2 hwc oU c1U ⊢
  have hpU : p < U.1 0 0 0 := by rw [oU (by omega) (by omega)]; exact hp
  have htU : V 2 p (V 4 p 0) < U.1 0 0 0 := by rw [oU (by omega) (by omega)]; exact w6.1
  have en := g2.nx hpU
  rw [oU (by omega) (by omega)] at en
  have er := g2.row (i := V 4 p 0) hpU (by rw [oU (by omega) (by omega)]; omega)
  rw [oU (by omega) (by omega)] at er
  obtain ⟨ν2, f1, f2, f3⟩ := m_posts (T := T) (v := U.2) (f := p) (t := V 2 p (V 4 p 0)) g2 hwc hpU htU (hT.out g3 (fun o k z => EG_law (th := th) (EG1 z)))
  have o : ∀ {c q j : Nat}, ¬ (11 ≤ c ∧ c ≤ 18) → ¬ (c = 0 ∧ (j = 1 ∨ j = 2 ∨ j = 7 ∨ j = 8)) → pstV T U.1 U.2 p (V 2 p (V 4 p 0)) c q j = V c q j := by
    intro c q j x1 x2
    rw [pstV_o (by omega) (by omega), oU (by omega) (by omega)]
  generalize hPs : pstV T U.1 U.2 p (V 2 p (V 4 p 0)) = S at f2 o ⊢
  have hpS : p < S 0 0 0 := by rw [o (by omega) (by omega)]; exact hp
  have hiS : i < S 6 p 0 := by rw [o (by omega) (by omega)]; exact hi
  have es := f2.sn hpS
  have ec := f2.rc hpS
  have ex := f2.nx hpS
  have ep := f2.papr hpS
  have el := f2.ll hpS hiS
  have s3 : S 3 p 0 = V 3 p 0 := o (by omega) (by omega)
  have s4 : S 4 p 0 = V 4 p 0 := o (by omega) (by omega)
  have s1 : S 1 p 3 = V 1 p 3 := o (by omega) (by omega)
  have s10 : S 10 p i = V 10 p i := o (by omega) (by omega)
  have a1 := f2.put1 5 p 0 (orN (S 5 p 0) (V 2 p (V 4 p 0))) (o := 1) (k := 247 + p) (v := nI (orN (S 5 p 0) (V 2 p (V 4 p 0)))) (live_p hpS (by omega)) rfl rfl rfl (by unfold own3; omega) (by omega)
  have a2 := a1.put1 4 p 0 (if S 4 p 0 + 1 < S 3 p 0 then S 4 p 0 + 1 else 0) (o := 1) (k := 167 + p) (v := nI (if S 4 p 0 + 1 < S 3 p 0 then S 4 p 0 + 1 else 0)) (live_p (by rw [vset_ne (by omega)]; exact hpS) (by omega)) rfl rfl rfl (by unfold own3; omega) (by omega)
  have a3 := a2.put1 1 p 3 (S 1 p 3 - 1) (o := 1) (k := 183 + p) (v := nI (S 1 p 3 - 1)) (live_t (by rw [vset_ne (by omega), vset_ne (by omega)]; exact hpS) (by decide)) rfl rfl rfl (by unfold own3; omega) (by omega)
  have a4 := a3.put1 10 p i (S 10 p i - 1) (o := 1) (k := 279 + 4 * (3 * p + i) + 3) (v := nI (S 10 p i - 1)) (live_l (by rw [vset_ne (by omega), vset_ne (by omega), vset_ne (by omega)]; exact hpS) (by omega) (by rw [vset_ne (by omega), vset_ne (by omega), vset_ne (by omega)]; exact hiS)) rfl rfl rfl (by unfold own3; omega) (by omega)
  have a5 := a4.putW (orN (S 0 0 9) p)
  have hmod : nI (S 4 p 0 + 1) - nI (S 4 p 0 + 1) / nI (S 3 p 0) * nI (S 3 p 0) = nI (if S 4 p 0 + 1 < S 3 p 0 then S 4 p 0 + 1 else 0) := by
    rw [pk_rem (by omega) (by omega) (by omega)]
    by_cases e : S 4 p 0 + 1 < S 3 p 0
    · rw [if_pos e, Nat.mod_eq_of_lt e]
    · rw [if_neg e, show S 4 p 0 + 1 = S 3 p 0 by omega, Nat.mod_self]
  have n0 : ¬ nI (S 3 p 0) = 0 := nI_ne0 (by omega) (by omega)
  refine ⟨_, ?_, a5, ((((g3.tr f3).sti rfl).sti rfl).sti rfl).sti rfl⟩
  unfold M_writes_l41 M_letterAt M_writesOne
  simp only [nI_add, nI_mulE, bnd_eq, Nat.add_zero]
  rw [if_neg (nI_ge hk hn), chv_nI (by omega) (by decide), ix_nI (by omega), e7, g1, bnd2_eq, chv_nI (by omega) (by decide), ix_nI (by omega), en]
  simp only [nI_add, nI_mulE]
  rw [chv_nI (by omega) (by decide), ix_nI (by omega), er, lt_eq, f1, bnd_eq, chv_nI (by omega) (by decide), chv_nI (by omega) (by decide), ix_nI (by omega), es, nI_orN, lt_eq, chv_nI (by omega) (by decide), chv_nI p16 (by decide), ix_nI (by omega), sti_n (by omega), ec, chk_ok n0, chv_nI (by omega) (by decide), sti_n (by omega), ex, nI_add, hmod, lt_eq, chv_nI (by omega) (by decide), chv_nI (by omega) (by decide), ix_nI (by omega), sti_n (by omega), sti_n (by omega), ep, nI_subE (by omega), lt_eq, bnd_eq, chv_nI (by omega) (by decide), chv_nI (by omega) (by decide), ix_nI (by omega), sti_n (by omega), sti_n (by omega), sti_n (by omega), el, nI_subE (by omega), lt_eq]
theorem m_wr1 {ν : Mm} {th : Nat} {V : VS} {T : TT} {p i n d : Nat} (h : HM ν th V) (hw : WF d V) (hp : p < V 0 0 0) (hi : i < V 6 p 0) (hr : 0 < V 3 p 0) (h3 : n ≤ V 1 p 3) (h10 : n ≤ V 10 p i) (hT : TM ν T) (hB : TB T) :
    ∃ ν2, iter 1000000 (fun s : Int32 × Mm => M_writes_l41 (nI p) (nI i) (nI n) s.1 s.2) (nI 0, ν) = some ν2 ∧ HM ν2 th (itn n (fun U => sndV T U p i) V) ∧ OutM (isO 1) ν ν2 := by
  have w5 := hw.2.2.2.2.2.1 p hp
  have key := iter_inv (f := fun s : Int32 × Mm => M_writes_l41 (nI p) (nI i) (nI n) s.1 s.2)
    (fun k s => s.1 = nI k ∧ HM s.2 th (itn k (fun U => sndV T U p i) V) ∧ OutM (isO 1) ν s.2)
    (fun m => HM m th (itn n (fun U => sndV T U p i) V) ∧ OutM (isO 1) ν m) n ?_ ?_ 1000000 (nI 0, ν) ⟨rfl, h, OutM.rf⟩ (by omega)
  · obtain ⟨m, h1, h2, h4⟩ := key
    exact ⟨m, h1, h2, h4⟩
  · rintro k ⟨kI, m⟩ hk ⟨rfl, hC, hO⟩
    have hC : HM m th (itn k (fun U => sndV T U p i) V) := hC
    have hO : OutM (isO 1) ν m := hO
    obtain ⟨i1, i2, i3, i4⟩ := itn_snd hw hB hp hi hr k
    obtain ⟨m2, g1, g2, g3⟩ := m_snd (T := T) (p := p) (i := i) (n := n) (k := k) hC i1 (by rw [i2 0 0 0 (by unfold sndK; omega)]; exact hp) (by rw [i2 6 p 0 (by unfold sndK; omega)]; exact hi) (by rw [i2 3 p 0 (by unfold sndK; omega)]; exact hr) (by omega) (by omega) (hT.out hO (fun o k z => EG_law (th := th) (EG1 z))) hB hk (by omega)
    exact Or.inl ⟨(nI (k + 1), m2), g1, rfl, g2, hO.tr g3⟩
  · rintro ⟨kI, m⟩ ⟨rfl, hC, hO⟩
    refine ⟨m, ?_, hC, hO⟩
    show M_writes_l41 _ _ _ _ _ = _
    unfold M_writes_l41
    rw [if_pos (nI_le (Nat.le_refl _) (by omega))]
theorem m_least {a b : Nat} (ha : a < 2 ^ 31) (hb : b < 2 ^ 31) : M_least (nI a) (nI b) = some (nI (min a b)) := by
  unfold M_least
  by_cases e : b ≤ a
  · rw [if_pos (nI_le e ha), Nat.min_eq_right e]
  · rw [if_neg (nI_ge (by omega) hb), Nat.min_eq_left (by omega)]
theorem m_writes {ν : Mm} {th : Nat} {U : VS} {T : TT} {p st d : Nat} (h : HM ν th U) (hw : WF d U) (hp : p < U 0 0 0) (hi : st < U 6 p 0) (hr : 0 < U 3 p 0) (hT : TM ν T) (hB : TB T) :
    ∃ ν2, M_writes (nI p) (nI st) ν = some (if wr1V T U p st 10 p st = 0 then nI 1 else nI 0, ν2) ∧ HM ν2 th (wr2V T p (U, st)).1 ∧ OutM (EG th) ν ν2 := by
  have p16 : p < 16 := Nat.lt_of_lt_of_le hp h.P16
  have m3 := h.h3 hp
  have w7 := hw.2.2.2.2.2.2.2.1 p st hp hi
  have w5 := hw.2.2.2.2.2.1 p hp
  obtain ⟨m1, g1, g2, g3⟩ := m_write h hw hp hi hT
  have hb := (hB.1 (nmV U p st)).1
  have el := g2.ll hp hi
  have ep := g2.papr hp
  obtain ⟨m2, f1, f2, f3⟩ := m_wr1 (n := wriN T U p st) g2 hw hp hi hr (by unfold wriN; omega) (by unfold wriN; omega) (hT.out g3 (fun o k z => EG_law (th := th) (EGA z))) hB
  have f2 : HM m2 th (wr1V T U p st) := f2
  obtain ⟨k1, k2⟩ := wr1V_k hw hB hp hi hr
  have k0 := k2 0 0 0 (by unfold sndK; omega)
  have k6 := k2 6 p 0 (by unfold sndK; omega)
  have kl := k1.2.2.2.2.2.2.2.1 p st (by omega) (by omega)
  have el2 := f2.ll (p := p) (i := st) (by omega) (by omega)
  have hO2 : OutM (EG th) ν m2 := (g3.mono (fun o k z => EGA z)).tr (f3.mono (fun o k z => EG1 z))
  unfold M_writes M_letterAt
  simp only [nI_add, nI_mulE, bnd_eq]
  rw [g1, bnd2_eq, chv_nI (by omega) (by decide), chv_nI (by omega) (by decide), ix_nI (by omega), ix_nI (by omega), el, ep, m_least (by omega) (by omega), bnd_eq, m_least (by omega) (by omega), bnd_eq, show min (T.1 (nmV U p st)) (min (U 10 p st) (U 1 p 3)) = wriN T U p st from rfl, f1, bni_eq, chv_nI (by omega) (by decide), el2]
  by_cases z : wr1V T U p st 10 p st = 0
  · obtain ⟨m3, q1, q2, q3⟩ := m_loses f2 (p := p) (i := st) (by omega) (by omega)
    have ef := q2.fr
    rw [remV_o (by omega)] at ef
    have a1 := q2.put1 0 0 5 (wr1V T U p st 0 0 5 + 1) (o := 1) (k := 3) (v := nI (wr1V T U p st 0 0 5 + 1)) (live_0 (by decide)) rfl rfl rfl (by unfold own3; omega) (by omega)
    rw [wr2V_pos z]
    refine ⟨_, ?_, a1, (hO2.tr (q3.mono (fun o k z => EG1 z))).sti (Or.inl rfl)⟩
    rw [if_pos (by rw [z]; decide), q1, bnd_eq, chv_nI (by decide) (by decide), chv_nI (by decide) (by decide), ix_nI (by decide), ef, nI_add, lt_eq, if_pos z]
  · rw [wr2V_neg z]
    refine ⟨m2, ?_, f2, hO2⟩
    rw [if_neg (nI_nle (by omega) (by omega)), if_neg z]
theorem m_wrp {ν : Mm} {th : Nat} {V : VS} {T : TT} {p d : Nat} (h : HM ν th V) (hw : WF d V) (hp : p < V 0 0 0) (hr : 0 < V 3 p 0) (hT : TM ν T) (hB : TB T) :
    ∃ ν2, iter 1000000 (fun s : Int32 × Mm => M_allWrite_l42 (nI p) s.1 s.2) (nI 0, ν) = some ν2 ∧ HM ν2 th (wrpV T V p) ∧ OutM (EG th) ν ν2 := by
  have p16 : p < 16 := Nat.lt_of_lt_of_le hp h.P16
  have m3 := h.h3 hp
  have key := iter_inv (f := fun s : Int32 × Mm => M_allWrite_l42 (nI p) s.1 s.2)
    (fun n s => s.1 = nI (itn n (wr2V T p) (V, 0)).2 ∧ HM s.2 th (itn n (wr2V T p) (V, 0)).1 ∧ OutM (EG th) ν s.2)
    (fun m => HM m th (itn (V 6 p 0) (wr2V T p) (V, 0)).1 ∧ OutM (EG th) ν m) (V 6 p 0) ?_ ?_ 1000000 (nI 0, ν) ⟨rfl, h, OutM.rf⟩ (by omega)
  · obtain ⟨m, h1, h2, h4⟩ := key
    exact ⟨m, h1, h2, h4⟩
  · rintro n ⟨sI, m⟩ hn ⟨rfl, hC, hO⟩
    have hC : HM m th (itn n (wr2V T p) (V, 0)).1 := hC
    have hO : OutM (EG th) ν m := hO
    obtain ⟨i1, i2, i3⟩ := itn_wr2 hw hB hp hr n (by omega)
    have e1 := i2 0 0 0 (by unfold wrpK; omega)
    have e2 := i2 3 p 0 (by unfold wrpK; omega)
    have hT2 := hT.out hO (fun o k e => EG_law e)
    refine Or.inl ?_
    show ∃ s2, M_allWrite_l42 _ _ _ = _ ∧ _
    have hst : (itn n (wr2V T p) (V, 0)).2 < (itn n (wr2V T p) (V, 0)).1 6 p 0 := by omega
    have e : itn (n + 1) (wr2V T p) (V, 0) = wr2V T p ((itn n (wr2V T p) (V, 0)).1, (itn n (wr2V T p) (V, 0)).2) := rfl
    rw [e]
    generalize (itn n (wr2V T p) (V, 0)).1 = U at hC i1 i2 i3 e1 e2 hst ⊢
    generalize (itn n (wr2V T p) (V, 0)).2 = st at i3 hst ⊢
    have hpU : p < U 0 0 0 := by omega
    have mU := hC.h3 hpU
    have ec := hC.hc hpU
    obtain ⟨m2, g1, g2, g3⟩ := m_writes hC i1 hpU hst (by omega) hT2 hB
    unfold M_allWrite_l42
    simp only [nI_add]
    rw [chv_nI (by omega) (by decide), ix_nI (by omega), ec, if_neg (nI_ge hst (by omega)), g1, bnd2_eq]
    by_cases z : wr1V T U p st 10 p st = 0
    · refine ⟨(nI st, m2), ?_, ?_, g2, hO.tr g3⟩
      · rw [if_pos z, if_neg (by decide)]
      · rw [wr2V_pos z]
    · refine ⟨(nI (st + 1), m2), ?_, ?_, g2, hO.tr g3⟩
      · rw [if_neg z, if_pos (by decide)]
      · rw [wr2V_neg z]
  · rintro ⟨sI, m⟩ ⟨rfl, hC, hO⟩
    have hC : HM m th (itn (V 6 p 0) (wr2V T p) (V, 0)).1 := hC
    obtain ⟨i1, i2, i3⟩ := itn_wr2 hw hB hp hr _ (Nat.le_refl _)
    have e1 := i2 0 0 0 (by unfold wrpK; omega)
    have ec := hC.hc (p := p) (by omega)
    have mU := hC.h3 (p := p) (by omega)
    refine ⟨m, ?_, hC, hO⟩
    show M_allWrite_l42 _ _ _ = _
    unfold M_allWrite_l42
    simp only [nI_add]
    rw [chv_nI (by omega) (by decide), ix_nI (by omega), ec, if_pos (nI_le (by omega) (by omega))]
