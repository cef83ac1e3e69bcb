/-! THE TWO BESIDE EACH OTHER -/
/-- the image: neither has one, or both have the same -/
def SmI (μ ν : Mm) : Prop := (μ.1 0 6 = nI 0 ∧ ν.1 0 48 = nI 0) ∨ (μ.1 0 6 = nI 1 ∧ ν.1 0 48 = nI 1 ∧ ∃ (VI : VS) (DI : TD) (n : Nat) (pv : Nat → Nat) (νI : Mm), imgC μ VI DI n pv ∧ TW DI ∧ WF 9999 VI ∧ LV VI ∧ pickB VI n pv ∧ (∀ i, i < 3670 → ν.1 24 i = νI.1 (imC i).1 (imC i).2) ∧ HM νI 0 VI ∧ TxM νI DI ∧ pickM νI n pv ∧ VI 0 0 9 = 0)
def SmX (μ ν : Mm) (D : TD) (tn : Nat) (tp : Nat → Nat) : Prop := (TxC μ 166 D ∧ TxM ν D ∧ TW D ∧ wrdM ν) ∧ (tapC μ tn tp ∧ tapM ν tn tp ∧ tapB tn tp) ∧ (μ.1 532 2 = ν.1 0 40 ∧ μ.1 532 3 = ν.1 0 41) ∧ SmI μ ν
def SmV (μ ν : Mm) (V : VS) : Prop := HC μ 1 V ∧ HM ν 0 V ∧ WF 9999 V ∧ LV V
def SmK (μ ν : Mm) (V : VS) (n : Nat) (pv : Nat → Nat) : Prop := pickC μ 181 n pv ∧ pickM ν n pv ∧ pickB V n pv
def SmH (μ ν : Mm) (V : VS) (u nx : Nat) (H : Nat → VS) : Prop := HisC μ u nx H ∧ HisM ν u H ∧ HS u H V
def Sim (μ ν : Mm) : Prop := ∃ (V : VS) (D : TD) (n : Nat) (pv : Nat → Nat) (tn : Nat) (tp : Nat → Nat) (u nx : Nat) (H : Nat → VS), SmV μ ν V ∧ SmX μ ν D tn tp ∧ SmK μ ν V n pv ∧ SmH μ ν V u nx H
def YC (o : Nat) : Prop := o = 0 ∨ (1 ≤ o ∧ o < 166) ∨ o = 172 ∨ o = 178 ∨ o = 181 ∨ o = 182 ∨ (366 ≤ o ∧ o < 532) ∨ EP o
def YM (o k : Nat) : Prop := (o = 0 ∧ k ≠ 21 ∧ k ≠ 40 ∧ k ≠ 41 ∧ k ≠ 43 ∧ k ≠ 48) ∨ (1 ≤ o ∧ o ≤ 10) ∨ (21 ≤ o ∧ o ≤ 23)
theorem SmI.keep {μ μ2 ν ν2 : Mm} {E : Nat → Prop} (h : SmI μ ν) (ho : Out E μ μ2) (hE : ∀ o, E o → o < 183 ∨ 365 ≤ o) (h6 : μ2.1 0 6 = μ.1 0 6) (h48 : ν2.1 0 48 = ν.1 0 48) (h24 : ∀ i, ν2.1 24 i = ν.1 24 i) : SmI μ2 ν2 := by
  rcases h with ⟨a, b⟩ | ⟨a, b, VI, DI, n, pv, νI, c, d⟩
  · exact Or.inl ⟨h6.trans a, h48.trans b⟩
  · exact Or.inr ⟨h6.trans a, h48.trans b, VI, DI, n, pv, νI, c.out ho hE, d.1, d.2.1, d.2.2.1, d.2.2.2.1, fun i hi => (h24 i).trans (d.2.2.2.2.1 i hi), d.2.2.2.2.2⟩
theorem SmX.keep {μ μ2 ν ν2 : Mm} {D : TD} {tn : Nat} {tp : Nat → Nat} (h : SmX μ ν D tn tp) (ho : Out YC μ μ2) (h6 : μ2.1 0 6 = μ.1 0 6) (hm : OutM YM ν ν2) : SmX μ2 ν2 D tn tp := by
  obtain ⟨⟨a, b, c, d⟩, ⟨e, f, g⟩, ⟨i, j⟩, k⟩ := h
  have o1 : ∀ k, μ2.1 532 k = μ.1 532 k := (ho 532 (fun z => by unfold YC EP at z; omega)).1
  have o2 : ∀ k, μ2.1 533 k = μ.1 533 k := (ho 533 (fun z => by unfold YC EP at z; omega)).1
  have m0 : ∀ k, (k = 21 ∨ k = 40 ∨ k = 41 ∨ k = 43 ∨ k = 48) → ν2.1 0 k = ν.1 0 k := fun k hk => hm 0 k (fun z => by unfold YM at z; omega)
  have m1 : ∀ o k, (11 ≤ o ∧ o ≤ 20) ∨ o = 24 → ν2.1 o k = ν.1 o k := fun o k hk => hm o k (fun z => by unfold YM at z; omega)
  refine ⟨⟨a.out ho (fun o z => ?_), b.out c hm (fun o k z => ?_) (m0 43 (by omega)), c, fun k hk => (m1 12 k (by omega)).trans (d k hk)⟩, ⟨⟨(o1 1).trans e.1, fun i hi => (o2 i).trans (e.2 i hi)⟩, ⟨(m0 21 (by omega)).trans f.1, fun i hi => (m1 11 i (by omega)).trans (f.2 i hi)⟩, g⟩, ⟨?_, ?_⟩, k.keep ho (fun o z => ?_) h6 (m0 48 (by omega)) (fun i => m1 24 i (by omega))⟩
  · unfold YC EP at z
    unfold lawOut
    omega
  · unfold YM at z
    unfold lawOutM
    omega
  · rw [o1, m0 40 (by omega)]
    exact i
  · rw [o1, m0 41 (by omega)]
    exact j
  · unfold YC EP at z
    omega
def YQ (o : Nat) : Prop := (1 ≤ o ∧ o < 166) ∨ o = 172 ∨ o = 178 ∨ (366 ≤ o ∧ o < 532)
theorem hm_backQ {ν ν2 : Mm} {V : VS} (h : HM ν 0 V) (ho : OutM EQ ν ν2) : HM ν2 0 V := h.out2 ho (fun o k z z2 y => by
  unfold cellN cellM at z
  unfold EQ ET at y
  omega)
/-- a question asked -/
theorem sim_q {μ μ2 ν ν2 : Mm} {V : VS} {D : TD} {n tn u nx : Nat} {pv tp : Nat → Nat} {H : Nat → VS} (h : SmV μ ν V ∧ SmX μ ν D tn tp ∧ SmK μ ν V n pv ∧ SmH μ ν V u nx H) (h1 : HC μ2 1 V) (h2 : Out YQ μ μ2) (h3 : HM ν2 0 V) (h4 : OutM EQ ν ν2) : Sim μ2 ν2 := by
  obtain ⟨⟨-, -, w, l⟩, x, ⟨k1, k2, k3⟩, s1, s2, s3⟩ := h
  have o0 : ∀ k, μ2.1 0 k = μ.1 0 k := (h2 0 (fun z => by unfold YQ at z; omega)).1
  refine ⟨V, D, n, pv, tn, tp, u, nx, H, ⟨h1, h3, w, l⟩, x.keep (h2.mono (fun o z => ?_)) (o0 6) (h4.mono (fun o k z => ?_)), ⟨k1.out h2 (fun z => ?_) (fun z => ?_), ⟨?_, fun i hi => ?_⟩, k3⟩, s1.out h2 (fun o z y => ?_) (o0 8) (o0 9), s2.out h4 (fun k z => ?_) (fun z => ?_), s3⟩
  · unfold YQ at z
    unfold YC
    omega
  · unfold EQ ET at z
    unfold YM
    omega
  · unfold YQ at z
    omega
  · unfold YQ at z
    omega
  · rw [h4 0 17 (fun z => by unfold EQ ET at z; omega)]
    exact k2.1
  · rw [h4 9 i (fun z => by unfold EQ ET at z; omega)]
    exact k2.2 i hi
  · unfold EP at z
    unfold YQ at y
    omega
  · unfold EQ ET at z
    omega
  · unfold EQ ET at z
    omega
/-- the class writes nothing at all -/
theorem sim_q0 {μ ν ν2 : Mm} {V : VS} {D : TD} {n tn u nx : Nat} {pv tp : Nat → Nat} {H : Nat → VS} (h : SmV μ ν V ∧ SmX μ ν D tn tp ∧ SmK μ ν V n pv ∧ SmH μ ν V u nx H) (h4 : OutM EQ ν ν2) : Sim μ ν2 := sim_q h h.1.1 Out.rf (hm_backQ h.1.2.1 h4) h4
theorem sim_q1 {μ ν : Mm} {V : VS} {D : TD} {n tn u nx : Nat} {pv tp : Nat → Nat} {H : Nat → VS} (h : SmV μ ν V ∧ SmX μ ν D tn tp ∧ SmK μ ν V n pv ∧ SmH μ ν V u nx H) : Sim μ (sti ν 0 0 (nI 0)) := sim_q0 h (OutM.rf.sti (Or.inr ⟨rfl, rfl⟩))
/-- both think -/
theorem sim_q2 {μ μ2 ν ν2 : Mm} {V : VS} {D : TD} {n tn u nx : Nat} {pv tp : Nat → Nat} {H : Nat → VS} (h : SmV μ ν V ∧ SmX μ ν D tn tp ∧ SmK μ ν V n pv ∧ SmH μ ν V u nx H) (h2 : Out ESt μ μ2) (h4 : OutM EQ ν ν2) : Sim μ2 ν2 := sim_q h (h.1.1.out h2 (fun o z y => by
    unfold ESt EW inW at y
    unfold inW at z
    omega)) (h2.mono (fun o z => by
    unfold ESt EW inW at z
    unfold YQ
    omega)) (hm_backQ h.1.2.1 h4) h4
/-- an act that can't be undone -/
theorem sim_act {μ μ2 ν ν2 : Mm} {V V2 : VS} {D : TD} {n tn u nx : Nat} {pv tp : Nat → Nat} {H : Nat → VS} (h : SmV μ ν V ∧ SmX μ ν D tn tp ∧ SmK μ ν V n pv ∧ SmH μ ν V u nx H) (h1 : HC μ2 1 V2) (h2 : Act μ μ2) (h3 : HM ν2 0 V2) (h4 : ν2.1 0 3 = nI 0) (h5 : OutM EA ν ν2) (hw : WF 9999 V2) (hl : LV V2) (hv : V 0 0 1 ≤ V2 0 0 1) : Sim μ2 ν2 := by
  obtain ⟨-, x, ⟨k1, k2, k3⟩, s1, s2, s3⟩ := h
  obtain ⟨a8, ao, ho⟩ := h2
  refine ⟨V2, D, n, pv, tn, tp, 0, nx, H, ⟨h1, h3, hw, hl⟩, x.keep (ho.mono (fun o z => ?_)) (ao 6 (by decide)) (h5.mono (fun o k z => ?_)), ⟨k1.out ho (fun z => ?_) (fun z => ?_), ⟨?_, fun i hi => ?_⟩, k3.1, fun i hi => Nat.lt_of_lt_of_le (k3.2 i hi) hv⟩, ⟨a8, (ao 9 (by decide)).trans s1.2.1, s1.2.2.1, by decide, fun j hj => absurd hj (Nat.not_lt_zero _)⟩, HisM.zero h4, fun j hj => absurd hj (Nat.not_lt_zero _), fun i j _ hj => absurd hj (Nat.not_lt_zero _)⟩
  · unfold inW at z
    unfold YC
    omega
  · unfold EA at z
    unfold YM
    omega
  · unfold inW at z
    omega
  · unfold inW at z
    omega
  · rw [h5 0 17 (fun z => by unfold EA at z; omega)]
    exact k2.1
  · rw [h5 9 i (fun z => by unfold EA at z; omega)]
    exact k2.2 i hi
/-- an act that can be undone -/
theorem sim_past {μ μ2 ν ν2 : Mm} {V V2 : VS} {D : TD} {n tn u nx u2 nx2 : Nat} {pv tp : Nat → Nat} {H H2 : Nat → VS} (h : SmV μ ν V ∧ SmX μ ν D tn tp ∧ SmK μ ν V n pv ∧ SmH μ ν V u nx H) (h1 : HC μ2 1 V2) (h2 : Out (fun o => o = 0 ∨ EP o ∨ EW 1 166 o) μ μ2) (h0 : ∀ k, k ≠ 8 → k ≠ 9 → μ2.1 0 k = μ.1 0 k) (h3 : HM ν2 0 V2) (h5 : OutM ED ν ν2) (hs : SmH μ2 ν2 V2 u2 nx2 H2) (hw : WF 9999 V2) (hl : LV V2) (hv : V 0 0 1 ≤ V2 0 0 1) : Sim μ2 ν2 := by
  obtain ⟨-, x, ⟨k1, k2, k3⟩, -⟩ := h
  refine ⟨V2, D, n, pv, tn, tp, u2, nx2, H2, ⟨h1, h3, hw, hl⟩, x.keep (h2.mono (fun o z => ?_)) (h0 6 (by decide) (by decide)) (h5.mono (fun o k z => ?_)), ⟨k1.out h2 (fun z => ?_) (fun z => ?_), ⟨?_, fun i hi => ?_⟩, k3.1, fun i hi => Nat.lt_of_lt_of_le (k3.2 i hi) hv⟩, hs⟩
  · unfold EP EW inW at z
    unfold YC EP
    omega
  · unfold ED at z
    unfold YM
    omega
  · unfold EP EW inW at z
    omega
  · unfold EP EW inW at z
    omega
  · rw [h5 0 17 (fun z => by unfold ED at z; omega)]
    exact k2.1
  · rw [h5 9 i (fun z => by unfold ED at z; omega)]
    exact k2.2 i hi
