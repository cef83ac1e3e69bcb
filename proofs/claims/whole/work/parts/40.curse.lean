/-! THE CLASS: curses; a day -/
section
variable {V : VS} {d p i c q j : Nat} {T : TT}
/-- what cursing leaves alone -/
def cupK (p c q j : Nat) : Prop := ¬ (c = 0 ∧ j = 6) ∧ ¬ (q = p ∧ (6 ≤ c ∧ c ≤ 10)) ∧ ¬ (c = 1 ∧ q = p ∧ j = 4)
theorem WF.coin (hw : WF d V) {x : Nat} (hx : x < 10000) : WF d (vset V 1 p 4 x) := by
  obtain ⟨w0, w1, w2, w3, w4, w5, w6, w7, w8, w9, w10⟩ := hw
  unfold WF W5 W6 W7 W8 W9 W10
  simp (disch := omega) only [vset_ne]
  refine ⟨w0, w1, w2, w3, w4, fun q hq => ?_, w6, w7, w8, w9, w10⟩
  have h := w5 q hq
  by_cases e : q = p
  · rw [vset_eq ⟨rfl, e, rfl⟩]
    omega
  · rw [vset_ne (by omega)]
    exact h
theorem cu2V_pos {s : VS × Nat} (h : s.1 0 0 4 < s.1 9 p s.2) : cu2V T p s = (s.1, s.2 + 1) := if_pos h
theorem cu2V_neg {s : VS × Nat} (h : ¬ s.1 0 0 4 < s.1 9 p s.2) : cu2V T p s = (vset (remV (vset s.1 1 p 4 (s.1 1 p 4 - T.2.1 (nmV s.1 p s.2))) p s.2) 0 0 6 (s.1 0 0 6 + 1), s.2) := if_neg h
theorem itn_cu2 (hw : WF d V) (hp : p < V 0 0 0) (n : Nat) (hn : n ≤ V 6 p 0) : WF d (itn n (cu2V T p) (V, 0)).1 ∧ (∀ c q j, cupK p c q j → (itn n (cu2V T p) (V, 0)).1 c q j = V c q j) ∧ (itn n (cu2V T p) (V, 0)).1 6 p 0 = (itn n (cu2V T p) (V, 0)).2 + (V 6 p 0 - n) := by
  induction n with
  | zero => exact ⟨hw, fun _ _ _ _ => rfl, by show V 6 p 0 = 0 + (V 6 p 0 - 0); omega⟩
  | succ n ih =>
    obtain ⟨i1, i2, i3⟩ := ih (by omega)
    have e1 := i2 0 0 0 (by unfold cupK; omega)
    have hi : (itn n (cu2V T p) (V, 0)).2 < (itn n (cu2V T p) (V, 0)).1 6 p 0 := by omega
    show WF d (cu2V T p _).1 ∧ (∀ c q j, _ → (cu2V T p _).1 c q j = _) ∧ (cu2V T p _).1 6 p 0 = (cu2V T p _).2 + _
    generalize itn n (cu2V T p) (V, 0) = s at i1 i2 i3 e1 hi ⊢
    have w5 := i1.2.2.2.2.2.1 p (by omega)
    by_cases z : s.1 0 0 4 < s.1 9 p s.2
    · rw [cu2V_pos z]
      refine ⟨i1, i2, ?_⟩
      dsimp only
      omega
    · rw [cu2V_neg z]
      refine ⟨((i1.coin (by omega)).rem (by rw [vset_ne (by omega)]; exact hi)).lost (by decide), fun c q j h => ?_, ?_⟩
      · dsimp only
        unfold cupK at h
        rw [vset_ne (by omega), remV_o (by omega), vset_ne (by omega)]
        exact i2 c q j h
      · dsimp only
        rw [vset_ne (by omega), remV_6, if_pos rfl, vset_ne (by omega)]
        omega
theorem cupV_k (hw : WF d V) (hp : p < V 0 0 0) : WF d (cupV T V p) ∧ ∀ c q j, cupK p c q j → cupV T V p c q j = V c q j := ⟨(itn_cu2 hw hp _ (Nat.le_refl _)).1, (itn_cu2 hw hp _ (Nat.le_refl _)).2.1⟩
def cuaK (c j : Nat) : Prop := ¬ (c = 0 ∧ j = 6) ∧ ¬ (6 ≤ c ∧ c ≤ 10) ∧ ¬ (c = 1 ∧ j = 4)
theorem cuaV_k (hw : WF d V) (n : Nat) (hn : n ≤ V 0 0 0) : WF d (cuaV T V n) ∧ ∀ c q j, cuaK c j → cuaV T V n c q j = V c q j := by
  induction n with
  | zero => exact ⟨hw, fun _ _ _ _ => rfl⟩
  | succ n ih =>
    obtain ⟨i1, i2⟩ := ih (by omega)
    have e1 := i2 0 0 0 (by unfold cuaK; omega)
    unfold cuaV
    split
    · obtain ⟨k1, k2⟩ := cupV_k (T := T) i1 (p := n) (by rw [e1]; omega)
      refine ⟨k1, fun c q j h => ?_⟩
      rw [k2 c q j (by unfold cuaK at h; unfold cupK; omega)]
      exact i2 c q j h
    · exact ⟨i1, i2⟩
end
theorem c_cup {μ : Mm} {w t d : Nat} {V : VS} {T : TT} {p : Nat} (h : HC μ w V) (hw : WF d V) (hd : d < 2 ^ 30) (hp : p < V 0 0 0) (hT : TC μ t T) (hB : TB T) (ha : apart w t) :
    ∃ μ2, World_curseDue w (nI p) (t + 7) μ = some μ2 ∧ HC μ2 w (cupV T V p) ∧ Out (EW w t) μ μ2 := by
  have p16 : p < 16 := Nat.lt_of_lt_of_le hp h.P16
  have m3 := h.h3 hp
  have ec := h.hc hp
  obtain ⟨l1, l2, l3, l4, l5⟩ := h.lens p16
  have key := iter_inv (f := fun s : Int32 × Int32 × Mm => World_curseDue_l26 w (nI p) (t + 7) (w + (21 + 9 * p)) ((w + (21 + 9 * p)) + 3) (nI (V 6 p 0)) s.1 s.2.1 s.2.2)
    (fun n s => s.1 = nI (itn n (cu2V T p) (V, 0)).2 ∧ s.2.1 = nI n ∧ HC s.2.2 w (itn n (cu2V T p) (V, 0)).1 ∧ Out (EW w t) μ s.2.2)
    (fun m => HC m w (itn (V 6 p 0) (cu2V T p) (V, 0)).1 ∧ Out (EW w t) μ m) (V 6 p 0) ?_ ?_ 1000000 (nI 0, nI 0, μ) ⟨rfl, rfl, h, Out.rf⟩ (by omega)
  · obtain ⟨m, h1, h2, h4⟩ := key
    refine ⟨m, ?_, h2, h4⟩
    unfold World_curseDue
    rw [chv_nI p16 (by decide), ix_nI (by omega), ec, h1, bni_eq]
  · rintro n ⟨sI, nI', m⟩ hn ⟨rfl, rfl, hC, hO⟩
    have hC : HC m w (itn n (cu2V T p) (V, 0)).1 := hC
    have hO : Out (EW w t) μ m := hO
    obtain ⟨i1, i2, i3⟩ := itn_cu2 (T := T) hw hp n (by omega)
    have e1 := i2 0 0 0 (by unfold cupK; omega)
    have hT2 := hT.out hO (fun o e => EW_law ha e)
    refine Or.inl ?_
    show ∃ s2, World_curseDue_l26 _ _ _ _ _ _ _ _ _ = _ ∧ _
    have hst : (itn n (cu2V T p) (V, 0)).2 < (itn n (cu2V T p) (V, 0)).1 6 p 0 := by omega
    have e : itn (n + 1) (cu2V T p) (V, 0) = cu2V T p ((itn n (cu2V T p) (V, 0)).1, (itn n (cu2V T p) (V, 0)).2) := rfl
    rw [e]
    generalize (itn n (cu2V T p) (V, 0)).1 = U at hC i1 i2 i3 e1 hst ⊢
    generalize (itn n (cu2V T p) (V, 0)).2 = st at i3 hst ⊢
    have hpU : p < U 0 0 0 := by omega
    have mU := hC.h3 hpU
    have w7 := i1.2.2.2.2.2.2.2.1 p st hpU hst
    have w5 := i1.2.2.2.2.2.1 p hpU
    have w4 := i1.2.2.2.2.1
    have ed : m.1 (w + (21 + 9 * p) + 3 + 4) st = nI (U 9 p st) := hC.ld hpU hst
    have et := hC.told hpU (j := 4) (by decide)
    have ey := hC.dy
    unfold World_curseDue_l26
    rw [if_neg (nI_ge hn (by omega)), l4, chv_nI (by omega) (by decide), ix_nI (by omega), ed, ey]
    by_cases z : U 0 0 4 < U 9 p st
    · rw [cu2V_pos z]
      refine ⟨(nI (st + 1), nI (n + 1), m), ?_, rfl, rfl, hC, hO⟩
      unfold World_curseDue_j96
      rw [if_neg (nI_ge z (by omega)), nI_add, nI_add]
    · obtain ⟨m1, g1, g2, g3⟩ := c_ill hC i1 hpU hst hT2 ha
      have hb := (hB.1 (nmV U p st)).2
      obtain ⟨a1, b1⟩ := g2.put1 1 p 4 (U 1 p 4 - T.2.1 (nmV U p st)) (o := w + (21 + 9 * p) + 1) (k := 4) (v := nI (U 1 p 4 - T.2.1 (nmV U p st))) (live_t hpU (by decide)) (by show _ = w + (22 + 9 * p); omega) rfl rfl ⟨by decide, by decide⟩ (by omega)
      obtain ⟨m3, q1, q2, q3⟩ := c_remP a1 (p := p) (i := st) (by rw [vset_ne (by omega)]; exact hpU) (by rw [vset_ne (by omega)]; exact hst)
      have ef := q2.cu
      rw [remV_o (by omega), vset_ne (by omega)] at ef
      obtain ⟨a2, b2⟩ := q2.put1 0 0 6 (U 0 0 6 + 1) (o := w) (k := 9) (v := nI (U 0 0 6 + 1)) (live_0 (by decide)) rfl rfl rfl ⟨by decide, by decide⟩ (by omega)
      rw [cu2V_neg z]
      refine ⟨(nI st, nI (n + 1), _), ?_, rfl, rfl, a2, (((hO.tr g3).tr (b1.mono (fun o e => EW_w e))).tr (q3.mono (fun o e => EW_w e))).tr (b2.mono (fun o e => EW_w e))⟩
      unfold World_curseDue_j96
      rw [if_pos (nI_le (by omega) (by omega)), chv_nI (by decide) (by decide), g1, bnd2_eq, chv_nI (by decide) (by decide), ix_nI (by decide), et, jmax_sub (by omega) (by omega), lt_eq, q1, bnd_eq, ef, nI_add, lt_eq, nI_add]
      rfl
  · rintro ⟨sI, nI', m⟩ ⟨rfl, rfl, hC, hO⟩
    refine ⟨m, ?_, hC, hO⟩
    show World_curseDue_l26 _ _ _ _ _ _ _ _ _ = _
    unfold World_curseDue_l26
    rw [if_pos (nI_le (Nat.le_refl _) (by omega))]
