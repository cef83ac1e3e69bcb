/-! THE CLASS: a world copied -/
def LU (L : LT) (c p n : Nat) : LT := fun c2 p2 i2 => (c2 = c ∧ p2 = p ∧ i2 < n) ∨ L c2 p2 i2
theorem LU_of {L : LT} {c p n a b d : Nat} (h : L a b d) : LU L c p n a b d := Or.inr h
theorem cpy_at (μ : Mm) {a b n k : Nat} (h : k < n) : (cpy μ a 0 b 0 n).1 b k = μ.1 a k := by
  show (if b = b then va_cpy (μ.1 a) (μ.1 b) 0 0 n k else _) = _
  rw [if_pos rfl]
  unfold va_cpy
  rw [if_pos ⟨Nat.zero_le _, by omega⟩, Nat.sub_zero, Nat.zero_add]
theorem cpy_ge (μ : Mm) {a b n k : Nat} (h : n ≤ k) : (cpy μ a 0 b 0 n).1 b k = μ.1 b k := by
  show (if b = b then va_cpy (μ.1 a) (μ.1 b) 0 0 n k else _) = _
  rw [if_pos rfl]
  unfold va_cpy
  rw [if_neg (by omega)]
theorem cpy_ne (μ : Mm) {a b n o k : Nat} (h : o ≠ b) : (cpy μ a 0 b 0 n).1 o k = μ.1 o k := if_neg h
/-- n of a row's m copied entries are there -/
theorem HP.cpy {μ : Mm} {w : Nat} {V : VS} {L : LT} (h : HP μ w V L) (c p n m : Nat) {a b : Nat} (hnm : n ≤ m) (hL : ∀ i, n ≤ i → ¬ L c p i) (ho : ∀ i, i < m → b = w + oC c p i ∧ pC c i = i ∧ pot c p i) (h1 : ownC c) (hs : ∀ i, i < n → μ.1 a i = eC c (V c p i)) : HP (cpy μ a 0 b 0 m) w V (LU L c p n) := by
  intro c2 p2 i2 hl
  by_cases e : c2 = c ∧ p2 = p ∧ i2 < n
  · obtain ⟨rfl, rfl, hi⟩ := e
    obtain ⟨z1, z2, z3⟩ := ho i2 (by omega)
    refine ⟨z3, fun _ => ?_⟩
    rw [← z1, z2, cpy_at _ (by omega)]
    exact hs i2 hi
  · rcases hl with hl | hl
    · exact absurd hl e
    · obtain ⟨h2, h3⟩ := h _ _ _ hl
      refine ⟨h2, fun h4 => ?_⟩
      by_cases eb : w + oC c2 p2 i2 = b
      · by_cases ek : pC c2 i2 < m
        · obtain ⟨z1, z2, z3⟩ := ho (pC c2 i2) ek
          obtain ⟨rfl, rfl, ei⟩ := oC_inj (c2 := c2) (p2 := p2) (i2 := i2) z3 h1 h2 h4 (by omega) z2
          exact absurd hl (hL i2 (Nat.le_of_not_lt (fun z => e ⟨rfl, rfl, z⟩)))
        · rw [eb, cpy_ge _ (by omega), ← eb]
          exact h3 h4
      · rw [cpy_ne _ eb]
        exact h3 h4
theorem HP.cpyF {μ : Mm} {w : Nat} {V : VS} {L : LT} (h : HP μ w V L) {a b m : Nat} (hw : w ≤ b) (hf : freeC (b - w)) : HP (Jvm.Pilot.CNineCopiesLaw_law_r8239_772bdc.cpy μ a 0 b 0 m) w V L := by
  intro c p i hl
  obtain ⟨h1, h2⟩ := h _ _ _ hl
  refine ⟨h1, fun h3 => ?_⟩
  rw [cpy_ne _ (fun z => freeC_of (o := b - w) (k := pC c i) hf h1 h3 ⟨by omega, rfl⟩)]
  exact h2 h3
/-- a store of what stands in V -/
theorem HP.put2 {μ : Mm} {w : Nat} {V : VS} {L : LT} (h : HP μ w V L) (c p i : Nat) {o k : Nat} {v : Int32} (hp : pot c p i) (ho : o = w + oC c p i) (hk : k = pC c i) (hv : v = eC c (V c p i)) (h1 : ownC c) : HP (sti μ o k v) w V (lput L c p i) := by
  refine HP.mono (h.put c p i (V c p i) hp ho hk hv h1) (fun _ _ _ hl => hl) (fun c2 q k _ _ => ?_)
  by_cases e : c2 = c ∧ q = p ∧ k = i
  · obtain ⟨rfl, rfl, rfl⟩ := e
    rw [vset_eq ⟨rfl, rfl, rfl⟩]
  · rw [vset_ne e]
theorem HP.putN2 {μ : Mm} {w : Nat} {V : VS} {L : LT} (h : HP μ w V L) (c p i : Nat) (hp : pot c p i) (h1 : ¬ ownC c) : HP μ w V (lput L c p i) := by
  intro c2 p2 i2 hl
  rcases hl with ⟨rfl, rfl, rfl⟩ | hl
  · exact ⟨hp, fun z => absurd z h1⟩
  · exact h _ _ _ hl
theorem cp_ok {m la lb : Nat} (h : m ≤ la) (h2 : m ≤ lb) (hm : m < 2 ^ 31) : cpok (nI 0) (nI 0) (nI m) la lb := by
  refine ⟨by decide, by decide, nI_pos hm, ?_, ?_⟩
  · rw [ix_nI (by decide), ix_nI hm]
    omega
  · rw [ix_nI (by decide), ix_nI hm]
    omega
/-- one's components -/
def Lp (V : VS) (n : Nat) : LT := fun c q k => live V c q k ∧ ((1 ≤ c ∧ c ≤ 10) ∨ c = 21 ∨ c = 22) ∧ q < n
def inP (w p o : Nat) : Prop := w + (21 + 9 * p) ≤ o ∧ o < w + (30 + 9 * p)
def far (a b : Nat) : Prop := a + 165 ≤ b ∨ b + 165 ≤ a
theorem c_cpL {μ : Mm} {w w2 : Nat} {V : VS} {p : Nat} {L : LT} (h : HC μ w V) (hP : HP μ w2 V L) (hk2 : sK SC w2 = 9) (hf : far w w2) (hp : p < V 0 0 0) (hL : ∀ c i, L c p i → ¬ (6 ≤ c ∧ c ≤ 10)) : ∃ μ2, Letters_copyFrom (w2 + (21 + 9 * p) + 3) (w + (21 + 9 * p) + 3) μ = some μ2 ∧ HP μ2 w2 V (lput (LU (LU (LU (LU L 7 p (V 6 p 0)) 8 p (V 6 p 0)) 9 p (V 6 p 0)) 10 p (V 6 p 0)) 6 p 0) ∧ Out (inP w2 p) μ μ2 := by
  have p16 : p < 16 := Nat.lt_of_lt_of_le hp h.P16
  have m3 := h.h3 hp
  obtain ⟨l1, l2, l3, l4, l5⟩ := h.lens p16
  have k0 : ∀ j, j < 5 → sL SC (w2 + (21 + 9 * p) + 3 + 1 + j) = 3 := fun j hj => by
    have := len_per (p := p) (j := j) hk2 p16 hj
    rw [show w2 + (21 + 9 * p) + 3 + 1 + j = w2 + (25 + 9 * p + j) by omega]
    exact this
  have k1 := k0 0 (by decide)
  have k2 := k0 1 (by decide)
  have k3 := k0 2 (by decide)
  have k4 := k0 3 (by decide)
  have k5 := k0 4 (by decide)
  have k1 : sL SC (w2 + (21 + 9 * p) + 3 + 1) = 3 := k1
  have k2 : sL SC (w2 + (21 + 9 * p) + 3 + 2) = 3 := k2
  have k3 : sL SC (w2 + (21 + 9 * p) + 3 + 3) = 3 := k3
  have k4 : sL SC (w2 + (21 + 9 * p) + 3 + 4) = 3 := k4
  have k5 : sL SC (w2 + (21 + 9 * p) + 3 + 5) = 3 := k5
  have ok := cp_ok (m := V 6 p 0) (la := 3) (lb := 3) m3 m3 (by omega)
  have step : ∀ (m : Mm), Out (inP w2 p) μ m → HC m w V := fun m ho => h.out ho (fun o z => by unfold inP; unfold inW at z; unfold far at hf; omega)
  have e0 := h.hc hp
  have P1 := hP.cpy 7 p (V 6 p 0) (V 6 p 0) (a := w + (21 + 9 * p) + 3 + 1) (b := w2 + (21 + 9 * p) + 3 + 1) (Nat.le_refl _) (fun i _ z => hL _ _ z (by omega)) (fun i hi => ⟨by show _ = w2 + (25 + 9 * p); omega, rfl, Or.inr (Or.inr (Or.inr (Or.inr (Or.inl ⟨by omega, by omega, p16, by omega⟩))))⟩) ⟨by decide, by decide⟩ (fun i hi => h.lv hp hi)
  have O1 : Out (inP w2 p) μ (cpy μ (w + (21 + 9 * p) + 3 + 1) 0 (w2 + (21 + 9 * p) + 3 + 1) 0 (V 6 p 0)) := Out.rf.cpy ⟨by omega, by omega⟩
  have S1 := step _ O1
  have e1 := S1.hc hp
  generalize hm1 : cpy μ (w + (21 + 9 * p) + 3 + 1) 0 (w2 + (21 + 9 * p) + 3 + 1) 0 (V 6 p 0) = m1 at P1 O1 S1 e1
  have P2 := P1.cpy 8 p (V 6 p 0) (V 6 p 0) (a := w + (21 + 9 * p) + 3 + 2) (b := w2 + (21 + 9 * p) + 3 + 2) (Nat.le_refl _) (fun i _ z => z.elim (fun y => by omega) (fun y => hL _ _ y (by omega))) (fun i hi => ⟨by show _ = w2 + (26 + 9 * p); omega, rfl, Or.inr (Or.inr (Or.inr (Or.inr (Or.inl ⟨by omega, by omega, p16, by omega⟩))))⟩) ⟨by decide, by decide⟩ (fun i hi => S1.lf hp hi)
  have O2 : Out (inP w2 p) μ (cpy m1 (w + (21 + 9 * p) + 3 + 2) 0 (w2 + (21 + 9 * p) + 3 + 2) 0 (V 6 p 0)) := O1.cpy ⟨by omega, by omega⟩
  have S2 := step _ O2
  have e2 := S2.hc hp
  generalize hm2 : cpy m1 (w + (21 + 9 * p) + 3 + 2) 0 (w2 + (21 + 9 * p) + 3 + 2) 0 (V 6 p 0) = m2 at P2 O2 S2 e2
  have P3 := P2.cpyF (a := w + (21 + 9 * p) + 3 + 3) (b := w2 + (21 + 9 * p) + 3 + 3) (m := V 6 p 0) (by omega) (by unfold freeC; omega)
  have O3 : Out (inP w2 p) μ (cpy m2 (w + (21 + 9 * p) + 3 + 3) 0 (w2 + (21 + 9 * p) + 3 + 3) 0 (V 6 p 0)) := O2.cpy ⟨by omega, by omega⟩
  have S3 := step _ O3
  have e3 := S3.hc hp
  generalize hm3 : cpy m2 (w + (21 + 9 * p) + 3 + 3) 0 (w2 + (21 + 9 * p) + 3 + 3) 0 (V 6 p 0) = m3' at P3 O3 S3 e3
  have P4 := P3.cpy 9 p (V 6 p 0) (V 6 p 0) (a := w + (21 + 9 * p) + 3 + 4) (b := w2 + (21 + 9 * p) + 3 + 4) (Nat.le_refl _) (fun i _ z => z.elim (fun y => by omega) (fun y => y.elim (fun x => by omega) (fun x => hL _ _ x (by omega)))) (fun i hi => ⟨by show _ = w2 + (28 + 9 * p); omega, rfl, Or.inr (Or.inr (Or.inr (Or.inr (Or.inl ⟨by omega, by omega, p16, by omega⟩))))⟩) ⟨by decide, by decide⟩ (fun i hi => S3.ld hp hi)
  have O4 : Out (inP w2 p) μ (cpy m3' (w + (21 + 9 * p) + 3 + 4) 0 (w2 + (21 + 9 * p) + 3 + 4) 0 (V 6 p 0)) := O3.cpy ⟨by omega, by omega⟩
  have S4 := step _ O4
  have e4 := S4.hc hp
  generalize hm4 : cpy m3' (w + (21 + 9 * p) + 3 + 4) 0 (w2 + (21 + 9 * p) + 3 + 4) 0 (V 6 p 0) = m4 at P4 O4 S4 e4
  have P5 := P4.cpy 10 p (V 6 p 0) (V 6 p 0) (a := w + (21 + 9 * p) + 3 + 5) (b := w2 + (21 + 9 * p) + 3 + 5) (Nat.le_refl _) (fun i _ z => z.elim (fun y => by omega) (fun y => y.elim (fun x => by omega) (fun x => x.elim (fun u => by omega) (fun u => hL _ _ u (by omega))))) (fun i hi => ⟨by show _ = w2 + (29 + 9 * p); omega, rfl, Or.inr (Or.inr (Or.inr (Or.inr (Or.inl ⟨by omega, by omega, p16, by omega⟩))))⟩) ⟨by decide, by decide⟩ (fun i hi => S4.ll hp hi)
  have O5 : Out (inP w2 p) μ (cpy m4 (w + (21 + 9 * p) + 3 + 5) 0 (w2 + (21 + 9 * p) + 3 + 5) 0 (V 6 p 0)) := O4.cpy ⟨by omega, by omega⟩
  have S5 := step _ O5
  have e5 := S5.hc hp
  generalize hm5 : cpy m4 (w + (21 + 9 * p) + 3 + 5) 0 (w2 + (21 + 9 * p) + 3 + 5) 0 (V 6 p 0) = m5 at P5 O5 S5 e5
  have P6 := P5.put2 6 p 0 (o := w2 + (21 + 9 * p) + 3) (k := 5) (v := nI (V 6 p 0)) (Or.inr (Or.inr (Or.inr (Or.inl ⟨by omega, p16, rfl⟩)))) (by show _ = w2 + (24 + 9 * p); omega) rfl rfl ⟨by decide, by decide⟩
  refine ⟨_, ?_, P6, O5.sti ⟨by omega, by omega⟩⟩
  have i0 : ix (nI 0) = 0 := rfl
  have i1 : ix (nI (V 6 p 0)) = V 6 p 0 := ix_nI (by omega)
  unfold Letters_copyFrom
  rw [l1, l2, l3, l4, l5, k1, k2, k3, k4, k5, e0, chc_ok ok, i0, i1, hm1, lt_eq, e1, chc_ok ok, i1, hm2, lt_eq, e2, chc_ok ok, i1, hm3, lt_eq, e3, chc_ok ok, i1, hm4, lt_eq, e4, chc_ok ok, i1, hm5, lt_eq, e5, lt_eq]
theorem c_cpP {μ : Mm} {w w2 : Nat} {V : VS} {p : Nat} (h : HC μ w V) (hP : HP μ w2 V (Lp V p)) (hk2 : sK SC w2 = 9) (hf : far w w2) (hp : p < V 0 0 0) : ∃ μ2, Person_copyFrom (w2 + (21 + 9 * p)) (w + (21 + 9 * p)) μ = some μ2 ∧ HP μ2 w2 V (Lp V (p + 1)) ∧ μ2.2 (w2 + (21 + 9 * p)) 6 = h64 (V 21 p 0) (V 22 p 0) ∧ Out (inP w2 p) μ μ2 := by
  have p16 : p < 16 := Nat.lt_of_lt_of_le hp h.P16
  have r9 := h.r9 hp
  have hL : ∀ {c i}, ¬ Lp V p c p i := fun z => absurd z.2.2 (by omega)
  have step : ∀ (m : Mm), Out (inP w2 p) μ m → HC m w V := fun m ho => h.out ho (fun o z => by unfold inP; unfold inW at z; unfold far at hf; omega)
  have P1 := hP.cpy 1 p 6 6 (a := w + (21 + 9 * p) + 1) (b := w2 + (21 + 9 * p) + 1) (Nat.le_refl _) (fun i _ z => hL z) (fun i hi => ⟨by show _ = w2 + (22 + 9 * p); omega, rfl, Or.inr (Or.inl ⟨rfl, p16, hi⟩)⟩) ⟨by decide, by decide⟩ (fun i hi => h.told hp hi)
  have O1 : Out (inP w2 p) μ (cpy μ (w + (21 + 9 * p) + 1) 0 (w2 + (21 + 9 * p) + 1) 0 6) := Out.rf.cpy ⟨by omega, by omega⟩
  have S1 := step _ O1
  generalize hm1 : cpy μ (w + (21 + 9 * p) + 1) 0 (w2 + (21 + 9 * p) + 1) 0 6 = m1 at P1 O1 S1
  have P2 := P1.cpy 2 p (V 3 p 0) 9 (a := w + (21 + 9 * p) + 2) (b := w2 + (21 + 9 * p) + 2) r9 (fun i _ z => z.elim (fun y => by omega) hL) (fun i hi => ⟨by show _ = w2 + (23 + 9 * p); omega, rfl, Or.inr (Or.inr (Or.inl ⟨rfl, p16, hi⟩))⟩) ⟨by decide, by decide⟩ (fun i hi => S1.row hp hi)
  have O2 : Out (inP w2 p) μ (cpy m1 (w + (21 + 9 * p) + 2) 0 (w2 + (21 + 9 * p) + 2) 0 9) := O1.cpy ⟨by omega, by omega⟩
  have S2 := step _ O2
  generalize hm2 : cpy m1 (w + (21 + 9 * p) + 2) 0 (w2 + (21 + 9 * p) + 2) 0 9 = m2 at P2 O2 S2
  obtain ⟨m3, g1, P3, O3'⟩ := c_cpL S2 P2 hk2 hf hp (fun c i z => z.elim (fun y => by omega) (fun y => y.elim (fun x => by omega) (fun x => absurd x hL)))
  have O3 := O2.tr O3'
  have S3 := step _ O3
  have P4 := P3.put2 3 p 0 (o := w2 + (21 + 9 * p)) (k := 3) (v := nI (V 3 p 0)) (Or.inr (Or.inr (Or.inr (Or.inl ⟨by omega, p16, rfl⟩)))) rfl rfl rfl ⟨by decide, by decide⟩
  have O4 : Out (inP w2 p) μ (sti m3 (w2 + (21 + 9 * p)) 3 (nI (V 3 p 0))) := O3.sti ⟨by omega, by omega⟩
  have S4 := step _ O4
  have P5 := P4.put2 4 p 0 (o := w2 + (21 + 9 * p)) (k := 4) (v := nI (V 4 p 0)) (Or.inr (Or.inr (Or.inr (Or.inl ⟨by omega, p16, rfl⟩)))) rfl rfl rfl ⟨by decide, by decide⟩
  have O5 : Out (inP w2 p) μ (sti (sti m3 (w2 + (21 + 9 * p)) 3 (nI (V 3 p 0))) (w2 + (21 + 9 * p)) 4 (nI (V 4 p 0))) := O4.sti ⟨by omega, by omega⟩
  have S5 := step _ O5
  have P6 := P5.put2 5 p 0 (o := w2 + (21 + 9 * p)) (k := 5) (v := nI (V 5 p 0)) (Or.inr (Or.inr (Or.inr (Or.inl ⟨by omega, p16, rfl⟩)))) rfl rfl rfl ⟨by decide, by decide⟩
  have O6 : Out (inP w2 p) μ (sti (sti (sti m3 (w2 + (21 + 9 * p)) 3 (nI (V 3 p 0))) (w2 + (21 + 9 * p)) 4 (nI (V 4 p 0))) (w2 + (21 + 9 * p)) 5 (nI (V 5 p 0))) := O5.sti ⟨by omega, by omega⟩
  have S6 := step _ O6
  have P7 := (P6.putN2 21 p 0 (Or.inr (Or.inr (Or.inr (Or.inl ⟨by omega, p16, rfl⟩)))) (fun z => z.1 rfl)).putN2 22 p 0 (Or.inr (Or.inr (Or.inr (Or.inl ⟨by omega, p16, rfl⟩)))) (fun z => z.2 rfl)
  have O7 := O6.stl (o := w2 + (21 + 9 * p)) (k := 6) (v := h64 (V 21 p 0) (V 22 p 0)) ⟨by omega, by omega⟩
  have e3 := S3.rc hp
  have e4 := S4.nx hp
  have e5 := S5.sn hp
  have e6 := S6.2.2 p hp
  have P8 : HP (stl (sti (sti (sti m3 (w2 + (21 + 9 * p)) 3 (nI (V 3 p 0))) (w2 + (21 + 9 * p)) 4 (nI (V 4 p 0))) (w2 + (21 + 9 * p)) 5 (nI (V 5 p 0))) (w2 + (21 + 9 * p)) 6 (h64 (V 21 p 0) (V 22 p 0))) w2 V _ := P7
  refine ⟨_, ?_, HP.mono (V2 := V) P8 (fun c q k hl => ?_) (fun _ _ _ _ _ => rfl), stl_e ⟨rfl, rfl⟩, O7⟩
  · unfold Person_copyFrom
    have i0 : ix (nI 0) = 0 := rfl
    have i6 : ix (nI 6) = 6 := rfl
    have i9 : ix (nI 9) = 9 := rfl
    rw [chc_ok (cp_ok (Nat.le_refl 6) (Nat.le_refl 6) (by decide)), i0, i6, hm1, lt_eq, chc_ok (cp_ok (Nat.le_refl 9) (Nat.le_refl 9) (by decide)), i9, hm2, lt_eq, g1, bnd_eq, e3, lt_eq, e4, lt_eq, e5, lt_eq, e6, lt_eq]
  · obtain ⟨hl, hc, hq⟩ := hl
    by_cases e : q < p
    · exact Or.inr (Or.inr (Or.inr (Or.inr (Or.inr (Or.inr (LU_of (LU_of (LU_of (LU_of (LU_of (LU_of (⟨hl, hc, e⟩))))))))))))
    · have e : q = p := by omega
      subst e
      have : c = 1 ∨ c = 2 ∨ c = 3 ∨ c = 4 ∨ c = 5 ∨ c = 6 ∨ (7 ≤ c ∧ c ≤ 10) ∨ c = 21 ∨ c = 22 := by omega
      rcases this with rfl | rfl | rfl | rfl | rfl | rfl | h7 | rfl | rfl
      · have hk : k < 6 := by unfold live at hl; omega
        exact Or.inr (Or.inr (Or.inr (Or.inr (Or.inr (Or.inr (LU_of (LU_of (LU_of (LU_of (LU_of (Or.inl (⟨rfl, rfl, hk⟩))))))))))))
      · have hk : k < V 3 q 0 := by unfold live at hl; omega
        exact Or.inr (Or.inr (Or.inr (Or.inr (Or.inr (Or.inr (LU_of (LU_of (LU_of (LU_of (Or.inl (⟨rfl, rfl, hk⟩)))))))))))
      · have hk : k = 0 := by unfold live at hl; omega
        exact Or.inr (Or.inr (Or.inr (Or.inr (Or.inl (⟨rfl, rfl, hk⟩)))))
      · have hk : k = 0 := by unfold live at hl; omega
        exact Or.inr (Or.inr (Or.inr (Or.inl (⟨rfl, rfl, hk⟩))))
      · have hk : k = 0 := by unfold live at hl; omega
        exact Or.inr (Or.inr (Or.inl (⟨rfl, rfl, hk⟩)))
      · have hk : k = 0 := by unfold live at hl; omega
        exact Or.inr (Or.inr (Or.inr (Or.inr (Or.inr (Or.inl (⟨rfl, rfl, hk⟩))))))
      · have hk := (live_let hl h7).2
        have : c = 7 ∨ c = 8 ∨ c = 9 ∨ c = 10 := by omega
        rcases this with rfl | rfl | rfl | rfl
        · exact Or.inr (Or.inr (Or.inr (Or.inr (Or.inr (Or.inr (LU_of (LU_of (LU_of (Or.inl (⟨rfl, rfl, hk⟩))))))))))
        · exact Or.inr (Or.inr (Or.inr (Or.inr (Or.inr (Or.inr (LU_of (LU_of (Or.inl (⟨rfl, rfl, hk⟩)))))))))
        · exact Or.inr (Or.inr (Or.inr (Or.inr (Or.inr (Or.inr (LU_of (Or.inl (⟨rfl, rfl, hk⟩))))))))
        · exact Or.inr (Or.inr (Or.inr (Or.inr (Or.inr (Or.inr (Or.inl (⟨rfl, rfl, hk⟩)))))))
      · have hk : k = 0 := by unfold live at hl; omega
        exact Or.inr (Or.inl (⟨rfl, rfl, hk⟩))
      · have hk : k = 0 := by unfold live at hl; omega
        exact Or.inl (⟨rfl, rfl, hk⟩)
