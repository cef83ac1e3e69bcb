/-! THE CLASS: writing out -/
theorem c_wr1 {μ : Mm} {w t d : Nat} {V : VS} {T : TT} {p i n a b : Nat} {e x : Int32} (h : HC μ w V) (hw : WF d V) (hd : d < 2 ^ 30) (hp : p < V 0 0 0) (hi : i < V 6 p 0) (hr : 0 < V 3 p 0) (h3 : n ≤ V 1 p 3) (h10 : n ≤ V 10 p i) (hT : TC μ t T) (hB : TB T) (ha : apart w t) :
    ∃ μ2, iter 1000000 (fun s : Int32 × Mm => World_writeOut_l73 w (nI p) t a b e (nI i) x (nI n) s.1 s.2) (nI 0, μ) = some μ2 ∧ HC μ2 w (itn n (fun U => sndV T U p i) V) ∧ Out (inW w) μ μ2 := by
  have w5 := hw.2.2.2.2.2.1 p hp
  have key := iter_inv (f := fun s : Int32 × Mm => World_writeOut_l73 w (nI p) t a b e (nI i) x (nI n) s.1 s.2)
    (fun k s => s.1 = nI k ∧ HC s.2 w (itn k (fun U => sndV T U p i) V) ∧ Out (inW w) μ s.2)
    (fun m => HC m w (itn n (fun U => sndV T U p i) V) ∧ Out (inW w) μ m) n ?_ ?_ 1000000 (nI 0, μ) ⟨rfl, h, Out.rf⟩ (by omega)
  · obtain ⟨m, h1, h2, h4⟩ := key
    exact ⟨m, h1, h2, h4⟩
  · rintro k ⟨kI, m⟩ hk ⟨rfl, hC, hO⟩
    have hC : HC m w (itn k (fun U => sndV T U p i) V) := hC
    have hO : Out (inW w) μ m := hO
    obtain ⟨i1, i2, i3, i4⟩ := itn_snd hw hB hp hi hr k
    obtain ⟨m2, g1, g2, g3⟩ := c_send (t := t) (T := T) (p := p) (i := i) hC i1 hd (by rw [i2 0 0 0 (by unfold sndK; omega)]; exact hp) (by rw [i2 6 p 0 (by unfold sndK; omega)]; exact hi) (by rw [i2 3 p 0 (by unfold sndK; omega)]; exact hr) (by omega) (by omega) (hT.out hO (fun o e => EW_law ha (EW_w e))) hB ha
    refine Or.inl ⟨(nI (k + 1), m2), ?_, rfl, g2, hO.tr g3⟩
    show World_writeOut_l73 _ _ _ _ _ _ _ _ _ _ _ = _
    unfold World_writeOut_l73
    rw [if_neg (nI_ge hk (by omega)), g1, bnd_eq, nI_add]
  · rintro ⟨kI, m⟩ ⟨rfl, hC, hO⟩
    refine ⟨m, ?_, hC, hO⟩
    show World_writeOut_l73 _ _ _ _ _ _ _ _ _ _ _ = _
    unfold World_writeOut_l73
    rw [if_pos (nI_le (Nat.le_refl _) (by omega))]
theorem c_wrp {μ : Mm} {w t d : Nat} {V : VS} {T : TT} {p : Nat} (h : HC μ w V) (hw : WF d V) (hd : d < 2 ^ 30) (hp : p < V 0 0 0) (hr : 0 < V 3 p 0) (hT : TC μ t T) (hB : TB T) (ha : apart w t) :
    ∃ μ2, World_writeOut w (nI p) t μ = some μ2 ∧ HC μ2 w (wrpV T V p) ∧ Out (EW w t) μ μ2 := by
  have p16 : p < 16 := Nat.lt_of_lt_of_le hp h.P16
  have m3 := h.h3 hp
  have ec := h.hc hp
  obtain ⟨l1, l2, l3, l4, l5⟩ := h.lens p16
  have key := iter_inv (f := fun s : Int32 × Int32 × Mm => World_writeOut_l26 w (nI p) t (w + (21 + 9 * p)) ((w + (21 + 9 * p)) + 3) (nI (V 6 p 0)) s.1 s.2.1 s.2.2)
    (fun n s => s.1 = nI (itn n (wr2V T p) (V, 0)).2 ∧ s.2.1 = nI n ∧ HC s.2.2 w (itn n (wr2V T p) (V, 0)).1 ∧ Out (EW w t) μ s.2.2)
    (fun m => HC m w (itn (V 6 p 0) (wr2V T p) (V, 0)).1 ∧ Out (EW w t) μ m) (V 6 p 0) ?_ ?_ 1000000 (nI 0, nI 0, μ) ⟨rfl, rfl, h, Out.rf⟩ (by omega)
  · obtain ⟨m, h1, h2, h4⟩ := key
    refine ⟨m, ?_, h2, h4⟩
    unfold World_writeOut
    rw [chv_nI p16 (by decide), ix_nI (by omega), ec, h1, bni_eq]
  · rintro n ⟨sI, nI', m⟩ hn ⟨rfl, rfl, hC, hO⟩
    have hC : HC m w (itn n (wr2V T p) (V, 0)).1 := hC
    have hO : Out (EW w t) μ m := hO
    obtain ⟨i1, i2, i3⟩ := itn_wr2 hw hB hp hr n (by omega)
    have e1 := i2 0 0 0 (by unfold wrpK; omega)
    have e2 := i2 3 p 0 (by unfold wrpK; omega)
    have hT2 := hT.out hO (fun o e => EW_law ha e)
    refine Or.inl ?_
    show ∃ s2, World_writeOut_l26 _ _ _ _ _ _ _ _ _ = _ ∧ _
    have hst : (itn n (wr2V T p) (V, 0)).2 < (itn n (wr2V T p) (V, 0)).1 6 p 0 := by omega
    have e : itn (n + 1) (wr2V T p) (V, 0) = wr2V T p ((itn n (wr2V T p) (V, 0)).1, (itn n (wr2V T p) (V, 0)).2) := rfl
    rw [e]
    generalize (itn n (wr2V T p) (V, 0)).1 = U at hC i1 i2 i3 e1 e2 hst ⊢
    generalize (itn n (wr2V T p) (V, 0)).2 = st at i3 hst ⊢
    have hpU : p < U 0 0 0 := by omega
    have mU := hC.h3 hpU
    have w7 := i1.2.2.2.2.2.2.2.1 p st hpU hst
    have w5 := i1.2.2.2.2.2.1 p hpU
    have el : m.1 (w + (21 + 9 * p) + 3 + 5) st = nI (U 10 p st) := hC.ll hpU hst
    have et := hC.told hpU (j := 3) (by decide)
    obtain ⟨m1, g1, g2, g3⟩ := c_copies hC i1 hpU hst hT2 ha
    have hb := (hB.1 (nmV U p st)).1
    obtain ⟨m2, f1, f2, f3⟩ := c_wr1 (a := w + (21 + 9 * p)) (b := w + (21 + 9 * p) + 3) (e := nI (V 6 p 0)) (x := nI n) (n := wriN T U p st) g2 i1 hd hpU hst (by omega) (by unfold wriN; omega) (by unfold wriN; omega) (hT2.out g3 (fun o e => EW_law ha e)) hB ha
    have f2 : HC m2 w (wr1V T U p st) := f2
    obtain ⟨k1, k2⟩ := wr1V_k i1 hB hpU hst (by omega : 0 < U 3 p 0)
    have k0 := k2 0 0 0 (by unfold sndK; omega)
    have k6 := k2 6 p 0 (by unfold sndK; omega)
    have kl := k1.2.2.2.2.2.2.2.1 p st (by omega) (by omega)
    have el2 : m2.1 (w + (21 + 9 * p) + 3 + 5) st = nI (wr1V T U p st 10 p st) := f2.ll (by omega) (by omega)
    have hO2 : Out (EW w t) μ m2 := (hO.tr g3).tr (f3.mono (fun o e => EW_w e))
    unfold World_writeOut_l26
    rw [if_neg (nI_ge hn (by omega)), l5, chv_nI (by omega) (by decide), chv_nI (by decide) (by decide), ix_nI (by omega), el, ix_nI (by decide), et, jmin_nI (by omega) (by omega), lt_eq, g1, bnd2_eq, jmin_nI (by omega) (by omega), show min (T.1 (nmV U p st)) (min (U 10 p st) (U 1 p 3)) = wriN T U p st from rfl, f1, bni_eq, chv_nI (by omega) (by decide), el2]
    by_cases z : wr1V T U p st 10 p st = 0
    · obtain ⟨m3, q1, q2, q3⟩ := c_remP f2 (p := p) (i := st) (by omega) (by omega)
      have ef := q2.fr
      rw [remV_o (by omega)] at ef
      obtain ⟨a1, b1⟩ := q2.put1 0 0 5 (wr1V T U p st 0 0 5 + 1) (o := w) (k := 8) (v := nI (wr1V T U p st 0 0 5 + 1)) (live_0 (by decide)) rfl rfl rfl ⟨by decide, by decide⟩ (by omega)
      rw [wr2V_pos z]
      refine ⟨(nI st, nI (n + 1), _), ?_, rfl, rfl, a1, (hO2.tr (q3.mono (fun o e => EW_w e))).tr (b1.mono (fun o e => EW_w e))⟩
      unfold World_writeOut_j131
      rw [if_pos (by rw [z]; rfl), q1, bnd_eq, ef, nI_add, lt_eq, nI_add]
      rfl
    · rw [wr2V_neg z]
      refine ⟨(nI (st + 1), nI (n + 1), m2), ?_, rfl, rfl, f2, hO2⟩
      unfold World_writeOut_j131
      rw [if_neg (nI_ne0 (by omega) (by omega)), nI_add, nI_add]
  · rintro ⟨sI, nI', m⟩ ⟨rfl, rfl, hC, hO⟩
    refine ⟨m, ?_, hC, hO⟩
    show World_writeOut_l26 _ _ _ _ _ _ _ _ _ = _
    unfold World_writeOut_l26
    rw [if_pos (nI_le (Nat.le_refl _) (by omega))]
