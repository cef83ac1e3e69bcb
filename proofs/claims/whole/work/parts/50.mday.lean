/-! THE CHECK: curses, a day -/
theorem alk_cu {V : VS} {p i x y : Nat} : ∀ c q k, vset (remV (vset V 1 p 4 x) p i) 0 0 6 y c q k = remV (vset (vset V 1 p 4 x) 0 0 6 y) p i c q k := by
  intro c q k
  by_cases e : c = 0 ∧ q = 0 ∧ k = 6
  · rw [vset_eq e, remV_o (by omega), vset_eq e]
  · rw [vset_ne e]
    unfold remV
    by_cases e1 : (7 ≤ c ∧ c ≤ 10) ∧ q = p ∧ i ≤ k
    · rw [if_pos e1, if_pos e1, vset_ne (by omega), vset_ne (by omega), vset_ne (by omega)]
    · rw [if_neg e1, if_neg e1]
      by_cases e2 : c = 6 ∧ q = p ∧ k = 0
      · rw [if_pos e2, if_pos e2, vset_ne (by omega), vset_ne (by omega), vset_ne (by omega)]
      · rw [if_neg e2, if_neg e2, vset_ne (by omega : ¬ (c = 0 ∧ q = 0 ∧ k = 6))]
theorem m_cup {ν : Mm} {th : Nat} {V : VS} {T : TT} {p d : Nat} (h : HM ν th V) (hw : WF d V) (hd : d < 2 ^ 30) (hp : p < V 0 0 0) (hc : V 1 p 1 ≠ 2) (hT : TM ν T) (hB : TB T) :
    ∃ ν2, iter 1000000 (fun s : Int32 × Mm => M_curses_l12 (nI p) s.1 s.2) (nI 0, ν) = some ν2 ∧ HM ν2 th (cupV T V p) ∧ OutM (EG th) ν ν2 := by
  have p16 : p < 16 := Nat.lt_of_lt_of_le hp h.P16
  have m3 := h.h3 hp
  have key := iter_inv (f := fun s : Int32 × Mm => M_curses_l12 (nI p) s.1 s.2)
    (fun n s => s.1 = nI (itn n (cu2V T p) (V, 0)).2 ∧ HM s.2 th (itn n (cu2V T p) (V, 0)).1 ∧ OutM (EG th) ν s.2)
    (fun m => HM m th (itn (V 6 p 0) (cu2V T p) (V, 0)).1 ∧ OutM (EG th) ν m) (V 6 p 0) ?_ ?_ 1000000 (nI 0, ν) ⟨rfl, h, OutM.rf⟩ (by omega)
  · obtain ⟨m, h1, h2, h4⟩ := key
    exact ⟨m, h1, h2, h4⟩
  · rintro n ⟨sI, m⟩ hn ⟨rfl, hC, hO⟩
    have hC : HM m th (itn n (cu2V T p) (V, 0)).1 := hC
    have hO : OutM (EG th) ν m := hO
    obtain ⟨i1, i2, i3⟩ := itn_cu2 (T := T) hw hp n (by omega)
    have e1 := i2 0 0 0 (by unfold cupK; omega)
    have e11 := i2 1 p 1 (by unfold cupK; omega)
    have hT2 := hT.out hO (fun o k e => EG_law e)
    refine Or.inl ?_
    show ∃ s2, M_curses_l12 _ _ _ = _ ∧ _
    have hst : (itn n (cu2V T p) (V, 0)).2 < (itn n (cu2V T p) (V, 0)).1 6 p 0 := by omega
    have e : itn (n + 1) (cu2V T p) (V, 0) = cu2V T p ((itn n (cu2V T p) (V, 0)).1, (itn n (cu2V T p) (V, 0)).2) := rfl
    rw [e]
    generalize (itn n (cu2V T p) (V, 0)).1 = U at hC i1 i2 i3 e1 e11 hst ⊢
    generalize (itn n (cu2V T p) (V, 0)).2 = st at i3 hst ⊢
    have hpU : p < U 0 0 0 := by omega
    have mU := hC.h3 hpU
    have w7 := i1.2.2.2.2.2.2.2.1 p st hpU hst
    have w5 := i1.2.2.2.2.2.1 p hpU
    have w4 := i1.2.2.2.2.1
    have ek := hC.kind hpU
    have ec := hC.hc hpU
    have ed := hC.ld hpU hst
    have ey := hC.dy
    have eo := hC.coin hpU
    unfold M_curses_l12 M_letterAt
    simp only [nI_add, nI_mulE, bnd_eq]
    rw [chv_nI p16 (by decide), ix_nI (by omega), ek, if_neg (fun z => hc (e11.symm.trans ((nI_eq (by omega) (by decide)).1 z))), chv_nI (by omega) (by decide), ix_nI (by omega), ec, if_neg (nI_ge hst (by omega)), chv_nI (by omega) (by decide), chv_nI (by decide) (by decide), ix_nI (by decide), ix_nI (by omega), ey, ed]
    by_cases z : U 0 0 4 < U 9 p st
    · rw [if_pos (nI_lt z (by omega)), cu2V_pos z]
      exact ⟨(nI (st + 1), m), rfl, rfl, hC, hO⟩
    · obtain ⟨m1, g1, g2, g3⟩ := m_ill hC i1 hpU hst hT2
      have hb := (hB.1 (nmV U p st)).2
      have a1 := g2.put1 1 p 4 (U 1 p 4 - T.2.1 (nmV U p st)) (o := 1) (k := 199 + p) (v := nI (U 1 p 4 - T.2.1 (nmV U p st))) (live_t hpU (by decide)) rfl rfl rfl (by unfold own3; omega) (by omega)
      have ef := a1.cu
      rw [vset_ne (by omega)] at ef
      have a2 := a1.put1 0 0 6 (U 0 0 6 + 1) (o := 1) (k := 4) (v := nI (U 0 0 6 + 1)) (live_0 (by decide)) rfl rfl rfl (by unfold own3; omega) (by omega)
      obtain ⟨m3, q1, q2, q3⟩ := m_loses a2 (p := p) (i := st) (by rw [vset_ne (by omega), vset_ne (by omega)]; exact hpU) (by rw [vset_ne (by omega), vset_ne (by omega)]; exact hst)
      have ee : vset (remV (vset U 1 p 4 (U 1 p 4 - T.2.1 (nmV U p st))) p st) 0 0 6 (U 0 0 6 + 1) = remV (vset (vset U 1 p 4 (U 1 p 4 - T.2.1 (nmV U p st))) 0 0 6 (U 0 0 6 + 1)) p st := by
        funext c q k
        exact alk_cu c q k
      rw [if_neg (nI_nlt (by omega) (by omega)), cu2V_neg z, ee]
      refine ⟨(nI st, m3), ?_, rfl, q2, ((hO.tr (g3.mono (fun o k z => EGA z))).tr ((OutM.rf.sti (Or.inl rfl)).sti (Or.inl rfl))).tr (q3.mono (fun o k z => EG1 z))⟩
      unfold M_cursesOne M_cursesOne_j36
      simp only [nI_add, nI_mulE]
      rw [chv_nI (by omega) (by decide), g1, bnd2_eq, ix_nI (by omega), eo]
      by_cases y : T.2.1 (nmV U p st) ≤ U 1 p 4
      · rw [nI_subE y, if_pos (nI_pos' (by omega)), chv_nI (by omega) (by decide), lt_eq, chv_nI (by decide) (by decide), chv_nI (by decide) (by decide), ix_nI (by decide), ef, nI_add, lt_eq, q1, bnd_eq, bnd_eq]
      · rw [if_neg (by rw [Int32.not_le]; exact pk_sneg (by omega) (by omega)), chv_nI (by omega) (by decide), lt_eq, chv_nI (by decide) (by decide), chv_nI (by decide) (by decide), ix_nI (by decide)]
        have y0 : U 1 p 4 - T.2.1 (nmV U p st) = 0 := by omega
        rw [y0] at ef q1
        rw [ef, nI_add, lt_eq, q1, bnd_eq, bnd_eq]
  · rintro ⟨sI, m⟩ ⟨rfl, hC, hO⟩
    have hC : HM m th (itn (V 6 p 0) (cu2V T p) (V, 0)).1 := hC
    obtain ⟨i1, i2, i3⟩ := itn_cu2 (T := T) hw hp _ (Nat.le_refl _)
    have e1 := i2 0 0 0 (by unfold cupK; omega)
    have e11 := i2 1 p 1 (by unfold cupK; omega)
    have w5 := i1.2.2.2.2.2.1 p (by omega)
    have ek := hC.kind (p := p) (by omega)
    have ec := hC.hc (p := p) (by omega)
    have mU := hC.h3 (p := p) (by omega)
    refine ⟨m, ?_, hC, hO⟩
    show M_curses_l12 _ _ _ = _
    unfold M_curses_l12
    simp only [nI_add]
    rw [chv_nI p16 (by decide), ix_nI (by omega), ek, if_neg (fun z => hc (e11.symm.trans ((nI_eq (by omega) (by decide)).1 z))), chv_nI (by omega) (by decide), ix_nI (by omega), ec, if_pos (nI_le (by omega) (by omega))]
theorem m_curses {ν : Mm} {th : Nat} {V : VS} {T : TT} {d : Nat} (h : HM ν th V) (hw : WF d V) (hd : d < 2 ^ 30) (hT : TM ν T) (hB : TB T) :
    ∃ ν2, M_curses ν = some ν2 ∧ HM ν2 th (cuaV T V (V 0 0 0)) ∧ OutM (EG th) ν ν2 := by
  have p16 := h.P16
  have key := iter_inv (f := fun s : Int32 × Mm => M_curses_l2 s.1 s.2)
    (fun n s => s.1 = nI n ∧ HM s.2 th (cuaV T V n) ∧ OutM (EG th) ν s.2)
    (fun m => HM m th (cuaV T V (V 0 0 0)) ∧ OutM (EG th) ν m) (V 0 0 0) ?_ ?_ 1000000 (nI 0, ν) ⟨rfl, h, OutM.rf⟩ (by omega)
  · obtain ⟨m, h1, h2, h4⟩ := key
    refine ⟨m, ?_, h2, h4⟩
    unfold M_curses
    rw [h1, bni_eq]
  · rintro n ⟨nI', m2⟩ hn ⟨rfl, hC, hO⟩
    have hC : HM m2 th (cuaV T V n) := hC
    have hO : OutM (EG th) ν m2 := hO
    obtain ⟨i1, i2⟩ := cuaV_k (T := T) hw n (by omega)
    have eP := hC.P
    have e00 := i2 0 0 0 (by unfold cuaK; omega)
    have hpn : n < cuaV T V n 0 0 0 := by omega
    have ek := hC.kind hpn
    have w5 := i1.2.2.2.2.2.1 n hpn
    refine Or.inl ?_
    show ∃ s2, M_curses_l2 _ _ = _ ∧ _
    unfold M_curses_l2 M_curses_j74
    rw [eP, e00, if_neg (nI_ge hn (by omega))]
    by_cases c1 : cuaV T V n 1 n 1 = 2
    · have hh : iter 1000000 (fun s : Int32 × Mm => M_curses_l12 (nI n) s.1 s.2) (nI 0, m2) = some m2 := by
        refine iter_inr (n := 999999) ?_
        show M_curses_l12 _ _ _ = _
        unfold M_curses_l12
        rw [chv_nI (by omega) (by decide), ix_nI (by omega), ek, if_pos (by rw [c1])]
      refine ⟨(nI (n + 1), m2), ?_, rfl, ?_, hO⟩
      · rw [hh, bni_eq, nI_add]
      · show HM m2 th (cuaV T V (n + 1))
        unfold cuaV
        rw [if_neg (fun z => z c1)]
        exact hC
    · obtain ⟨m3, g1, g2, g3⟩ := m_cup (T := T) hC i1 hd hpn c1 (hT.out hO (fun o k e => EG_law e)) hB
      refine ⟨(nI (n + 1), m3), ?_, rfl, ?_, hO.tr g3⟩
      · rw [g1, bni_eq, nI_add]
      · show HM m3 th (cuaV T V (n + 1))
        unfold cuaV
        rw [if_pos c1]
        exact g2
  · rintro ⟨nI', m2⟩ ⟨rfl, hC, hO⟩
    have hC : HM m2 th (cuaV T V (V 0 0 0)) := hC
    obtain ⟨i1, i2⟩ := cuaV_k (T := T) hw (V 0 0 0) (Nat.le_refl _)
    have eP := hC.P
    have e00 := i2 0 0 0 (by unfold cuaK; omega)
    refine ⟨m2, ?_, hC, hO⟩
    show M_curses_l2 _ _ = _
    unfold M_curses_l2
    rw [eP, e00, if_pos (nI_le (Nat.le_refl _) (by omega))]
theorem m_allw {ν : Mm} {th : Nat} {V : VS} {T : TT} {d : Nat} (h : HM ν th V) (hw : WF d V) (hT : TM ν T) (hB : TB T) :
    ∃ ν2, M_allWrite ν = some ν2 ∧ HM ν2 th (wraV T V (V 0 0 0)) ∧ OutM (EG th) ν ν2 := by
  have p16 := h.P16
  have key := iter_inv (f := fun s : Int32 × Mm => M_allWrite_l2 s.1 s.2)
    (fun n s => s.1 = nI n ∧ HM s.2 th (wraV T V n) ∧ OutM (EG th) ν s.2)
    (fun m => HM m th (wraV T V (V 0 0 0)) ∧ OutM (EG th) ν m) (V 0 0 0) ?_ ?_ 1000000 (nI 0, ν) ⟨rfl, h, OutM.rf⟩ (by omega)
  · obtain ⟨m, h1, h2, h4⟩ := key
    refine ⟨m, ?_, h2, h4⟩
    unfold M_allWrite
    rw [h1, bni_eq]
  · rintro n ⟨nI', m2⟩ hn ⟨rfl, hC, hO⟩
    have hC : HM m2 th (wraV T V n) := hC
    have hO : OutM (EG th) ν m2 := hO
    obtain ⟨i1, i2⟩ := wraV_k (T := T) hw hB n (by omega)
    have eP := hC.P
    have e00 := i2 0 0 0 (by unfold wraK; omega)
    have hpn : n < wraV T V n 0 0 0 := by omega
    have ek := hC.kind hpn
    have ec := hC.rc hpn
    have es := hC.stp hpn
    have w5 := i1.2.2.2.2.2.1 n hpn
    refine Or.inl ?_
    show ∃ s2, M_allWrite_l2 _ _ = _ ∧ _
    unfold M_allWrite_l2 M_allWrite_j72 M_isStopped
    rw [eP, e00, if_neg (nI_ge hn (by omega)), chv_nI (by omega) (by decide), ix_nI (by omega), ek, es]
    have skip : ¬ (wraV T V n 1 n 1 ≠ 2 ∧ wraV T V n 1 n 5 = 0 ∧ 0 < wraV T V n 3 n 0) → HM m2 th (wraV T V (n + 1)) := fun c1 => by
      unfold wraV
      rw [if_neg c1]
      exact hC
    by_cases c1 : wraV T V n 1 n 1 = 2
    · refine ⟨(nI (n + 1), m2), ?_, rfl, skip (fun z => z.1 c1), hO⟩
      rw [if_pos (by rw [c1]), nI_add]
    · rw [if_neg (fun z => c1 ((nI_eq (by omega) (by decide)).1 z))]
      by_cases c2 : wraV T V n 1 n 5 = 0
      · rw [if_neg (by rw [c2]; decide), bnd_eq, if_pos (by decide), chv_nI (by omega) (by decide), ec]
        by_cases c3 : wraV T V n 3 n 0 = 0
        · refine ⟨(nI (n + 1), m2), ?_, rfl, skip (fun z => by omega), hO⟩
          rw [if_pos (by rw [c3]; rfl), nI_add]
        · obtain ⟨m3, g1, g2, g3⟩ := m_wrp (T := T) hC i1 hpn (by omega) (hT.out hO (fun o k e => EG_law e)) hB
          refine ⟨(nI (n + 1), m3), ?_, rfl, ?_, hO.tr g3⟩
          · rw [if_neg (nI_ne0 (by omega) (by omega)), g1, bni_eq, nI_add]
          · show HM m3 th (wraV T V (n + 1))
            unfold wraV
            rw [if_pos ⟨c1, c2, by omega⟩]
            exact g2
      · refine ⟨(nI (n + 1), m2), ?_, rfl, skip (fun z => c2 z.2.1), hO⟩
        rw [if_pos (by rw [show wraV T V n 1 n 5 = 1 by omega]), bnd_eq, if_neg (by decide), nI_add]
  · rintro ⟨nI', m2⟩ ⟨rfl, hC, hO⟩
    have hC : HM m2 th (wraV T V (V 0 0 0)) := hC
    obtain ⟨i1, i2⟩ := wraV_k (T := T) hw hB (V 0 0 0) (Nat.le_refl _)
    have eP := hC.P
    have e00 := i2 0 0 0 (by unfold wraK; omega)
    refine ⟨m2, ?_, hC, hO⟩
    show M_allWrite_l2 _ _ = _
    unfold M_allWrite_l2
    rw [eP, e00, if_pos (nI_le (Nat.le_refl _) (by omega))]
theorem m_day15 {ν : Mm} {th : Nat} {V : VS} {T : TT} {d : Nat} (h : HM ν th V) (hw : WF d V) (hd : d < 2 ^ 30) (hT : TM ν T) (hB : TB T) (r : Int32) :
    ∃ ν2, M_goesBy_j15 r ν = some (r, ν2) ∧ HM ν2 th (vset (cuaV T (wraV T V (V 0 0 0)) (V 0 0 0)) 0 0 4 (V 0 0 4 + 1)) ∧ OutM (EG th) ν ν2 := by
  obtain ⟨m, h1, h2, h4⟩ := m_allw h hw hT hB
  obtain ⟨k1, k2⟩ := wraV_k (T := T) hw hB (V 0 0 0) (Nat.le_refl _)
  have e0 := k2 0 0 0 (by unfold wraK; omega)
  have e4 := k2 0 0 4 (by unfold wraK; omega)
  obtain ⟨m2, f1, f2, f4⟩ := m_curses h2 k1 hd (hT.out h4 (fun o k e => EG_law e)) hB
  rw [e0] at f2
  obtain ⟨q1, q2⟩ := cuaV_k (T := T) k1 (V 0 0 0) (Nat.le_of_eq e0.symm)
  have ey := f2.dy
  rw [q2 0 0 4 (by unfold cuaK; omega), e4] at ey
  have a1 := f2.put1 0 0 4 (V 0 0 4 + 1) (o := 1) (k := 0) (v := nI (V 0 0 4 + 1)) (live_0 (by decide)) rfl rfl rfl (by unfold own3; omega) (by omega)
  refine ⟨_, ?_, a1, (h4.tr f4).sti (Or.inl rfl)⟩
  unfold M_goesBy_j15
  rw [h1, bnd_eq, f1, bnd_eq, chv_nI (by decide) (by decide), chv_nI (by decide) (by decide), ix_nI (by decide), ey, nI_add, lt_eq]
theorem m_day {ν : Mm} {th : Nat} {V : VS} {T : TT} {d : Nat} (h : HM ν th V) (hw : WF d V) (hd : d < 2 ^ 30) (hT : TM ν T) (hB : TB T) :
    ∃ ν2, M_goesBy ν = some (nI (dayB V).2, ν2) ∧ HM ν2 th (dayV T V) ∧ OutM (EG th) ν ν2 := by
  have er := h.r3
  have w10 := hw.2.2.2.2.2.2.2.2.2.2.2.2.2.2.2
  have e0 : (dayB V).1 0 0 0 = V 0 0 0 := dayB_o (by omega) (by omega) (by omega) (by omega) (by omega) (by omega)
  have e4 : (dayB V).1 0 0 4 = V 0 0 4 := dayB_o (by omega) (by omega) (by omega) (by omega) (by omega) (by omega)
  unfold M_goesBy
  rw [er]
  by_cases c1 : V 20 0 3 = 0
  · obtain ⟨m, g1, g2, g3⟩ := m_bring h hw hd
    have eB : dayB V = brgV V := if_pos c1
    obtain ⟨m2, f1, f2, f3⟩ := m_day15 (T := T) g2 hw.brg hd (hT.out g3 (fun o k e => EG_law (th := th) (EGB e))) hB (nI (brgV V).2)
    rw [← eB, e0, e4] at f2
    refine ⟨m2, ?_, f2, (g3.mono (fun o k e => EGB e)).tr f3⟩
    rw [if_pos (by rw [c1]; rfl), g1, bnd2_eq, f1, eB]
  · have eB : dayB V = (V, 0) := if_neg c1
    obtain ⟨m2, f1, f2, f3⟩ := m_day15 (T := T) h hw hd hT hB (nI 0)
    refine ⟨m2, ?_, ?_, f3⟩
    · rw [if_neg (nI_ne0 (by omega) (by omega)), f1, eB]
    · unfold dayV dayW
      rw [eB]
      exact f2
