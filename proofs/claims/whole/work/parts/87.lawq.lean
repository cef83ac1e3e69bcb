/-! THE LAWS ASKED: from data to what they come to -/
abbrev LD : Type := (Nat × Nat) × (Nat → Nat) × ((Nat → Nat) × (Nat → Nat) × (Nat → Nat))
def LawC (μ : Mm) (x : Nat) (D : LD) : Prop := μ.1 x 5 = nI D.1.2 ∧ μ.1 x 6 = nI D.1.1 ∧ (∀ i, i < D.1.2 → μ.1 (x + 1) i = nI (D.2.1 i)) ∧ ∀ l, l < D.1.1 → μ.1 (x + 2) l = nI (D.2.2.1 l) ∧ μ.1 (x + 3) l = nI (D.2.2.2.1 l) ∧ μ.1 (x + 4) l = nI (D.2.2.2.2 l)
def LawM (ν : Mm) (x : Nat) (D : LD) : Prop := ν.1 13 x = nI D.1.1 ∧ (∀ i, i < D.1.2 → ν.1 17 (400 * x + i) = nI (opOf (D.2.1 i)) ∧ ν.1 18 (400 * x + i) = nI (argOf (D.2.1 i))) ∧ ∀ l, l < D.1.1 → ν.1 14 (16 * x + l) = nI (D.2.2.1 l) ∧ ν.1 15 (16 * x + l) = nI (D.2.2.2.1 l) ∧ ν.1 16 (16 * x + l) = nI (D.2.2.2.2 l)
def LW (m : Nat) (D : LD) : Prop := D.1.1 ≤ 16 ∧ D.1.2 ≤ 400 ∧ (∀ i, i < D.1.2 → D.2.1 i < 20306) ∧ ∀ l, l < D.1.1 → Num m D.2.1 (D.2.2.1 l) (D.2.2.2.1 l) 22 ∧ (D.2.2.2.1 l = D.2.2.2.2 l ∨ Boo m D.2.1 (D.2.2.2.1 l) (D.2.2.2.2 l) 22) ∧ D.2.2.2.1 l ≤ D.2.2.2.2 l ∧ D.2.2.2.2 l ≤ D.1.2
/-- what steps come to -/
def rv (m : Nat) (nm : Nat → Int32) (S : Nat → Nat) (a b : Nat) : Int32 := match rn m nm S a (b - a) [] with
  | some (v :: _) => v
  | _ => 0
theorem Num.rv {m : Nat} {S : Nat → Nat} {a b d : Nat} (h : Num m S a b d) (hd : d ≤ 32) (nm : Nat → Int32) : rn m nm S a (b - a) [] = some [rv m nm S a b] := by
  obtain ⟨v, hv⟩ := h.2 nm [] (by simpa using hd)
  unfold Jvm.Pilot.CNineCopiesLaw_law_r8239_772bdc.rv
  rw [hv]
theorem Boo.rv {m : Nat} {S : Nat → Nat} {a b d : Nat} (h : Boo m S a b d) (hd : d ≤ 32) (nm : Nat → Int32) : rn m nm S a (b - a) [] = some [rv m nm S a b] := by
  obtain ⟨v, _, hv⟩ := h.2 nm [] (by simpa using hd)
  unfold Jvm.Pilot.CNineCopiesLaw_law_r8239_772bdc.rv
  rw [hv]
/-- the first line that is so -/
def fl (m : Nat) (nm : Nat → Int32) (D : LD) : Nat → Nat → Option Nat
  | 0, _ => none
  | n + 1, l => if D.2.2.2.1 l = D.2.2.2.2 l ∨ rv m nm D.2.1 (D.2.2.2.1 l) (D.2.2.2.2 l) ≠ 0 then some l else fl m nm D n (l + 1)
def vF (m : Nat) (nm : Nat → Int32) (D : LD) (e : Int32) : Int32 := match fl m nm D D.1.1 0 with
  | some l => rv m nm D.2.1 (D.2.2.1 l) (D.2.2.2.1 l)
  | none => e
theorem fl_lt {m : Nat} {nm : Nat → Int32} {D : LD} : ∀ {n l k : Nat}, fl m nm D n l = some k → l ≤ k ∧ k < l + n
  | 0, l, k, h => by cases h
  | n + 1, l, k, h => by
    unfold fl at h
    split at h
    · cases h
      omega
    · have := fl_lt h
      omega
theorem rv_cong {m : Nat} {nm nm2 : Nat → Int32} (h : ∀ k, k < m → nm k = nm2 k) (S : Nat → Nat) (a b : Nat) : rv m nm S a b = rv m nm2 S a b := by
  unfold rv
  rw [rn_cong h]
theorem fl_cong {m : Nat} {nm nm2 : Nat → Int32} (h : ∀ k, k < m → nm k = nm2 k) (D : LD) (n l : Nat) : fl m nm D n l = fl m nm2 D n l := by
  induction n generalizing l with
  | zero => rfl
  | succ n ih =>
    unfold fl
    rw [rv_cong h, ih]
theorem vF_cong {m : Nat} {nm nm2 : Nat → Int32} (h : ∀ k, k < m → nm k = nm2 k) (D : LD) (e : Int32) : vF m nm D e = vF m nm2 D e := by
  unfold vF
  rw [fl_cong h]
  split
  · exact rv_cong h _ _ _
  · rfl
theorem LawC.out {μ μ2 : Mm} {x : Nat} {D : LD} {E : Nat → Prop} (h : LawC μ x D) (ho : Out E μ μ2) (hE : ∀ j, j < 5 → ¬ E (x + j)) : LawC μ2 x D := by
  obtain ⟨a, b, c, d⟩ := h
  have e : ∀ j k, j < 5 → μ2.1 (x + j) k = μ.1 (x + j) k := fun j k hj => (ho _ (hE j hj)).1 k
  exact ⟨(e 0 5 (by decide)).trans a, (e 0 6 (by decide)).trans b, fun i hi => (e 1 i (by decide)).trans (c i hi), fun l hl => ⟨(e 2 l (by decide)).trans (d l hl).1, (e 3 l (by decide)).trans (d l hl).2.1, (e 4 l (by decide)).trans (d l hl).2.2⟩⟩
def inL (x o k : Nat) : Prop := (o = 13 ∧ k = x) ∨ ((14 ≤ o ∧ o ≤ 16) ∧ 16 * x ≤ k ∧ k < 16 * x + 16) ∨ ((17 ≤ o ∧ o ≤ 18) ∧ 400 * x ≤ k ∧ k < 400 * x + 400)
theorem LawM.out {ν ν2 : Mm} {x m : Nat} {D : LD} {E : Nat → Nat → Prop} (h : LawM ν x D) (hw : LW m D) (ho : OutM E ν ν2) (hE : ∀ o k, inL x o k → ¬ E o k) : LawM ν2 x D := by
  obtain ⟨a, c, d⟩ := h
  have w1 := hw.1
  have w2 := hw.2.1
  refine ⟨(ho _ _ (hE _ _ (by unfold inL; omega))).trans a, fun i hi => ⟨(ho _ _ (hE _ _ (by unfold inL; omega))).trans (c i hi).1, (ho _ _ (hE _ _ (by unfold inL; omega))).trans (c i hi).2⟩, fun l hl => ⟨(ho _ _ (hE _ _ (by unfold inL; omega))).trans (d l hl).1, (ho _ _ (hE _ _ (by unfold inL; omega))).trans (d l hl).2.1, (ho _ _ (hE _ _ (by unfold inL; omega))).trans (d l hl).2.2⟩⟩
theorem c_value {μ : Mm} {x o m : Nat} {nm : Nat → Int32} {D : LD} (h : LawC μ x D) (hw : LW m D) (hk : sL SC (x + 5) = 32) (ho : sL SC o = 11) (hm : m ≤ 11) (hn : ∀ k, k < m → μ.1 o k = nm k) (hx : o ≠ x + 5) (e : Int32) :
    ∃ μ2, Law_valueFor x o e μ = some (vF m nm D e, μ2) ∧ Out (fun o => o = x + 5) μ μ2 := by
  obtain ⟨w1, w2, w3, w4⟩ := hw
  have run : ∀ m2, Out (fun o => o = x + 5) μ m2 → ∀ a b, a ≤ b → b ≤ D.1.2 → rn m nm D.2.1 a (b - a) [] = some [rv m nm D.2.1 a b] → ∃ m3, Law_run x (nI a) (nI b) o m2 = some (rv m nm D.2.1 a b, m3) ∧ Out (fun o => o = x + 5) μ m3 := by
    intro m2 z a b hab hb hr
    have h2 := h.out z (fun j hj => by omega)
    obtain ⟨m3, g1, g2⟩ := c_run hk ho hm (fun k hk => ((z o hx).1 k).trans (hn k hk)) hx (by omega) hab (fun i hi => h2.2.2.1 i (by omega)) hr
    exact ⟨m3, g1, z.tr g2⟩
  have key := iter_inv (f := fun s : Int32 × Mm => Law_valueFor_l2 x o e s.1 s.2)
    (fun k s => s.1 = nI k ∧ Out (fun o => o = x + 5) μ s.2 ∧ fl m nm D D.1.1 0 = fl m nm D (D.1.1 - k) k)
    (fun r => (∃ l m2, r = Sum.inl (nI l, m2) ∧ fl m nm D D.1.1 0 = some l ∧ Out (fun o => o = x + 5) μ m2) ∨ (∃ m2, r = Sum.inr m2 ∧ fl m nm D D.1.1 0 = none ∧ Out (fun o => o = x + 5) μ m2)) D.1.1 ?_ ?_ 1000000 (nI 0, μ) ⟨rfl, Out.rf, rfl⟩ (by omega)
  · obtain ⟨r, k1, k2⟩ := key
    unfold Law_valueFor
    rw [k1, bni_eq]
    rcases k2 with ⟨l, m2, rfl, f1, f2⟩ | ⟨m2, rfl, f1, f2⟩
    · have hl := (fl_lt f1).2
      rw [Nat.zero_add] at hl
      have h2 := h.out f2 (fun j hj => by omega)
      obtain ⟨n1, n2, n3, n4⟩ := w4 l hl
      obtain ⟨m3, g1, g2⟩ := run m2 f2 (D.2.2.1 l) (D.2.2.2.1 l) (Nat.le_of_lt n1.1) (by omega) (n1.rv (by decide) nm)
      refine ⟨m3, ?_, g2⟩
      show Law_valueFor_j45 x o (nI l) m2 = _
      unfold Law_valueFor_j45
      rw [chv_nI (by omega) (by decide), chv_nI (by omega) (by decide), ix_nI (by omega), (h2.2.2.2 l hl).1, (h2.2.2.2 l hl).2.1, g1, bnd2_eq]
      unfold vF
      rw [f1]
    · refine ⟨m2, ?_, f2⟩
      show some (e, m2) = _
      unfold vF
      rw [f1]
  · rintro k ⟨s1, m2⟩ hk2 ⟨rfl, z, f1⟩
    have z : Out (fun o => o = x + 5) μ m2 := z
    have h2 := h.out z (fun j hj => by omega)
    obtain ⟨n1, n2, n3, n4⟩ := w4 k hk2
    have f2 : fl m nm D (D.1.1 - k) k = if D.2.2.2.1 k = D.2.2.2.2 k ∨ rv m nm D.2.1 (D.2.2.2.1 k) (D.2.2.2.2 k) ≠ 0 then some k else fl m nm D (D.1.1 - (k + 1)) (k + 1) := by
      have : D.1.1 - k = (D.1.1 - (k + 1)) + 1 := by omega
      rw [this]
      rfl
    have hw : Law_valueFor_l2 x o e (nI k) m2 = if nI (D.2.2.2.1 k) = nI (D.2.2.2.2 k) then some (.inr (Sum.inl (nI k, m2))) else bnd2 (Law_run x (nI (D.2.2.2.1 k)) (nI (D.2.2.2.2 k)) o m2) fun r2 μ1 => if r2 = 0 then some (.inl (nI k + nI 1, μ1)) else some (.inr (Sum.inl (nI k, μ1))) := by
      unfold Law_valueFor_l2
      rw [h2.2.1, if_neg (nI_ge hk2 (by omega)), chv_nI (by omega) (by decide), chv_nI (by omega) (by decide), ix_nI (by omega), (h2.2.2.2 k hk2).2.1, (h2.2.2.2 k hk2).2.2, chv_nI (by omega) (by decide), chv_nI (by omega) (by decide)]
    by_cases c : D.2.2.2.1 k = D.2.2.2.2 k
    · right
      refine ⟨Sum.inl (nI k, m2), ?_, Or.inl ⟨k, m2, rfl, ?_, z⟩⟩
      · show Law_valueFor_l2 x o e (nI k) m2 = _
        rw [hw, if_pos (by rw [c])]
      · rw [f1, f2, if_pos (Or.inl c)]
    · have hB := n2.resolve_left c
      obtain ⟨m3, g1, g2⟩ := run m2 z (D.2.2.2.1 k) (D.2.2.2.2 k) n3 n4 (hB.rv (by decide) nm)
      have hne : ¬ nI (D.2.2.2.1 k) = nI (D.2.2.2.2 k) := fun y => c ((nI_eq (by omega) (by omega)).1 y)
      by_cases c2 : rv m nm D.2.1 (D.2.2.2.1 k) (D.2.2.2.2 k) = 0
      · left
        refine ⟨(nI (k + 1), m3), ?_, rfl, g2, ?_⟩
        · show Law_valueFor_l2 x o e (nI k) m2 = _
          rw [hw, if_neg hne, g1, bnd2_eq, if_pos c2, nI_add]
        · rw [f1, f2, if_neg (fun y => y.elim c (fun y => y c2))]
      · right
        refine ⟨Sum.inl (nI k, m3), ?_, Or.inl ⟨k, m3, rfl, ?_, g2⟩⟩
        · show Law_valueFor_l2 x o e (nI k) m2 = _
          rw [hw, if_neg hne, g1, bnd2_eq, if_neg c2]
        · rw [f1, f2, if_pos (Or.inr c2)]
  · rintro ⟨s1, m2⟩ ⟨rfl, z, f1⟩
    have z : Out (fun o => o = x + 5) μ m2 := z
    have h2 := h.out z (fun j hj => by omega)
    refine ⟨Sum.inr m2, ?_, Or.inr ⟨m2, rfl, ?_, z⟩⟩
    · show Law_valueFor_l2 x o e (nI D.1.1) m2 = _
      unfold Law_valueFor_l2
      rw [h2.2.1, if_pos (nI_le (Nat.le_refl _) (by omega))]
    · rw [f1, Nat.sub_self]
      rfl
theorem m_line {ν : Mm} {x m : Nat} {nm : Nat → Int32} {D : LD} (h : LawM ν x D) (hw : LW m D) (hx : x < 2) (hm : m ≤ 11) (hn : ∀ k, k < m → ν.1 21 k = nm k) :
    ∃ ν2, M_lineOf (nI x) ν = some (match fl m nm D D.1.1 0 with
      | some l => nI (16 * x + l)
      | none => -1, ν2) ∧ OutM (isO 22) ν ν2 := by
  have hwL := hw
  obtain ⟨w1, w2, w3, w4⟩ := hw
  have nE : ∀ o k, inL x o k → ¬ isO 22 o k := fun o k z y => by
    unfold inL at z
    unfold isO at y
    omega
  have key := iter_inv (f := fun s : Int32 × Mm => M_lineOf_l2 (nI x) s.1 s.2)
    (fun k s => s.1 = nI k ∧ OutM (isO 22) ν s.2 ∧ fl m nm D D.1.1 0 = fl m nm D (D.1.1 - k) k)
    (fun r => (∃ l m2, r = Sum.inl (nI (16 * x + l), m2) ∧ fl m nm D D.1.1 0 = some l ∧ OutM (isO 22) ν m2) ∨ (∃ m2, r = Sum.inr m2 ∧ fl m nm D D.1.1 0 = none ∧ OutM (isO 22) ν m2)) D.1.1 ?_ ?_ 1000000 (nI 0, ν) ⟨rfl, OutM.rf, rfl⟩ (by omega)
  · obtain ⟨r, k1, k2⟩ := key
    unfold M_lineOf
    rw [k1, bni_eq]
    rcases k2 with ⟨l, m2, rfl, f1, f2⟩ | ⟨m2, rfl, f1, f2⟩
    · exact ⟨m2, by rw [f1]; rfl, f2⟩
    · exact ⟨m2, by rw [f1]; rfl, f2⟩
  · rintro k ⟨s1, m2⟩ hk2 ⟨rfl, z, f1⟩
    have z : OutM (isO 22) ν m2 := z
    have h2 := h.out hwL z nE
    obtain ⟨n1, n2, n3, n4⟩ := w4 k hk2
    have f2 : fl m nm D (D.1.1 - k) k = if D.2.2.2.1 k = D.2.2.2.2 k ∨ rv m nm D.2.1 (D.2.2.2.1 k) (D.2.2.2.2 k) ≠ 0 then some k else fl m nm D (D.1.1 - (k + 1)) (k + 1) := by
      have : D.1.1 - k = (D.1.1 - (k + 1)) + 1 := by omega
      rw [this]
      rfl
    have hw : M_lineOf_l2 (nI x) (nI k) m2 = if nI (D.2.2.2.1 k) = nI (D.2.2.2.2 k) then some (.inr (Sum.inl (nI (16 * x + k), m2))) else bnd2 (M_runs (nI x) (nI (D.2.2.2.1 k)) (nI (D.2.2.2.2 k)) m2) fun r2 μ1 => if r2 = 0 then some (.inl (nI k + nI 1, μ1)) else some (.inr (Sum.inl (nI (16 * x + k), μ1))) := by
      unfold M_lineOf_l2
      rw [chv_nI hx (by decide), ix_nI (by omega), h2.1, if_neg (nI_ge hk2 (by omega)), nI_mulE, nI_add, chv_nI (by omega) (by decide), chv_nI (by omega) (by decide), ix_nI (by omega), (h2.2.2 k hk2).2.1, (h2.2.2 k hk2).2.2, chv_nI (by omega) (by decide), chv_nI (by omega) (by decide)]
    by_cases c : D.2.2.2.1 k = D.2.2.2.2 k
    · right
      refine ⟨Sum.inl (nI (16 * x + k), m2), ?_, Or.inl ⟨k, m2, rfl, ?_, z⟩⟩
      · show M_lineOf_l2 (nI x) (nI k) m2 = _
        rw [hw, if_pos (by rw [c])]
      · rw [f1, f2, if_pos (Or.inl c)]
    · have hB := n2.resolve_left c
      obtain ⟨m3, g1, g2⟩ := m_run (S := D.2.1) hx hm (fun j hj => (z _ _ (by unfold isO; decide)).trans (hn j hj)) (by omega) n3 (fun i hi => h2.2.1 i (by omega)) (hB.rv (by decide) nm)
      have hne : ¬ nI (D.2.2.2.1 k) = nI (D.2.2.2.2 k) := fun y => c ((nI_eq (by omega) (by omega)).1 y)
      by_cases c2 : rv m nm D.2.1 (D.2.2.2.1 k) (D.2.2.2.2 k) = 0
      · left
        refine ⟨(nI (k + 1), m3), ?_, rfl, z.tr g2, ?_⟩
        · show M_lineOf_l2 (nI x) (nI k) m2 = _
          rw [hw, if_neg hne, g1, bnd2_eq, if_pos c2, nI_add]
        · rw [f1, f2, if_neg (fun y => y.elim c (fun y => y c2))]
      · right
        refine ⟨Sum.inl (nI (16 * x + k), m3), ?_, Or.inl ⟨k, m3, rfl, ?_, z.tr g2⟩⟩
        · show M_lineOf_l2 (nI x) (nI k) m2 = _
          rw [hw, if_neg hne, g1, bnd2_eq, if_neg c2]
        · rw [f1, f2, if_pos (Or.inr c2)]
  · rintro ⟨s1, m2⟩ ⟨rfl, z, f1⟩
    have z : OutM (isO 22) ν m2 := z
    have h2 := h.out hwL z nE
    refine ⟨Sum.inr m2, ?_, Or.inr ⟨m2, rfl, ?_, z⟩⟩
    · show M_lineOf_l2 (nI x) (nI D.1.1) m2 = _
      unfold M_lineOf_l2
      rw [chv_nI hx (by decide), ix_nI (by omega), h2.1, if_pos (nI_le (Nat.le_refl _) (by omega))]
    · rw [f1, Nat.sub_self]
      rfl
/-- held between 0 and n -/
def hld (n : Nat) (r : Int32) : Int32 := jmax (nI 0) (jmin (nI n) r)
theorem hld_in {n : Nat} (hn : n < 2 ^ 31) (r : Int32) : ∃ j, j ≤ n ∧ hld n r = nI j := by
  unfold hld jmax jmin
  by_cases c : r < nI n
  · rw [if_pos c]
    by_cases c2 : nI 0 < r
    · rw [if_pos c2]
      obtain ⟨j, hj, rfl⟩ := nI_ofN (x := r) (fun z => absurd (Int32.lt_trans c2 z) (by rw [show (0 : Int32) = nI 0 from rfl]; exact Int32.lt_irrefl))
      have := (nI_ltI hj hn).1 c
      exact ⟨j, by omega, rfl⟩
    · rw [if_neg c2]
      exact ⟨0, Nat.zero_le _, rfl⟩
  · rw [if_neg c]
    split
    · exact ⟨n, Nat.le_refl _, rfl⟩
    · exact ⟨0, Nat.zero_le _, rfl⟩
theorem uN_nI {n : Nat} (h : n < 2 ^ 31) : uN (nI n) = n := by
  unfold uN nI
  show (BitVec.ofNat 32 n).toNat = n
  rw [BitVec.toNat_ofNat]
  exact Nat.mod_eq_of_lt (by omega)
theorem hld_le {n : Nat} (hn : n < 2 ^ 31) (r : Int32) : uN (hld n r) ≤ n := by
  obtain ⟨j, hj, e⟩ := hld_in hn r
  rw [e, uN_nI (by omega)]
  exact hj
theorem held_hld {n : Nat} (hn : n < 2 ^ 31) (r : Int32) : M_held r (nI 0) (nI n) = some (hld n r) := by
  unfold M_held hld jmax jmin
  by_cases c : nI 0 ≤ r
  · rw [if_pos c]
    obtain ⟨j, hj, rfl⟩ := nI_ofN (x := r) (fun z => absurd (Int32.lt_of_lt_of_le z c) Int32.lt_irrefl)
    by_cases c2 : j ≤ n
    · rw [if_pos (nI_le c2 hn)]
      by_cases c3 : j < n
      · rw [if_pos (nI_lt c3 hn)]
        by_cases c4 : 0 < j
        · rw [if_pos (nI_lt c4 hj)]
        · have : j = 0 := by omega
          subst this
          rw [if_neg (nI_nlt (Nat.le_refl _) (by decide))]
      · have : j = n := by omega
        subst this
        rw [if_neg (nI_nlt (Nat.le_refl _) hj)]
        by_cases c4 : 0 < j
        · rw [if_pos (nI_lt c4 hj)]
        · have : j = 0 := by omega
          subst this
          rw [if_neg (nI_nlt (Nat.le_refl _) (by decide))]
    · rw [if_neg (nI_ge (by omega) hj), if_neg (nI_nlt (by omega) hj)]
      by_cases c4 : 0 < n
      · rw [if_pos (nI_lt c4 hn)]
      · have : n = 0 := by omega
        subst this
        rw [if_neg (nI_nlt (Nat.le_refl _) (by decide))]
  · rw [if_neg c]
    have c0 : ¬ nI 0 < r := fun z => c (Int32.le_of_lt z)
    have c3 : r < nI n := Int32.lt_of_lt_of_le (Int32.not_le.1 c) ((nI_leI (by decide) hn).2 (Nat.zero_le n))
    rw [if_pos c3, if_neg c0]
/-- the texts as data -/
abbrev TD : Type := LD × LD × (Nat × (Nat → Nat → Nat))
def TofD (D : TD) : TT := (fun nm => uN (hld 9 (vF 11 nm D.1 (nI 1))), fun nm => uN (hld 999 (vF 7 nm D.2.1 (nm 0 * nm 1))), D.2.2.2)
def TW (D : TD) : Prop := LW 11 D.1 ∧ LW 7 D.2.1 ∧ ∀ a b, a < 6 → b < 6 → 1 ≤ D.2.2.2 a b ∧ D.2.2.2 a b ≤ 20
def TxC (μ : Mm) (t : Nat) (D : TD) : Prop := LawC μ (t + 1) D.1 ∧ LawC μ (t + 7) D.2.1 ∧ μ.1 (t + 13) 1 = nI D.2.2.1 ∧ ∀ a b, a < 6 → b < 6 → μ.1 (t + 14) (6 * a + b) = nI (D.2.2.2 a b)
def TxM (ν : Mm) (D : TD) : Prop := LawM ν 0 D.1 ∧ LawM ν 1 D.2.1 ∧ ν.1 0 43 = nI D.2.2.1 ∧ ∀ a b, a < 6 → b < 6 → ν.1 20 (6 * a + b) + nI 1 = nI (D.2.2.2 a b)
theorem TofD_B {D : TD} (h : TW D) : TB (TofD D) := ⟨fun nm => ⟨hld_le (by decide) _, hld_le (by decide) _⟩, h.2.2⟩
theorem TxC.out {μ μ2 : Mm} {t : Nat} {D : TD} {E : Nat → Prop} (h : TxC μ t D) (ho : Out E μ μ2) (hE : ∀ o, E o → lawOut t o) : TxC μ2 t D := by
  have n : ∀ j, 1 ≤ j → j < 15 → j ≠ 6 → j ≠ 12 → ¬ E (t + j) := fun j h1 h2 h3 h4 z => by
    have := hE _ z
    unfold lawOut at this
    omega
  obtain ⟨a, b, c, d⟩ := h
  refine ⟨a.out ho (fun j hj => ?_), b.out ho (fun j hj => ?_), ((ho _ (n 13 (by decide) (by decide) (by decide) (by decide))).1 _).trans c, fun x y hx hy => ((ho _ (n 14 (by decide) (by decide) (by decide) (by decide))).1 _).trans (d x y hx hy)⟩
  · rw [Nat.add_assoc]
    exact n _ (by omega) (by omega) (by omega) (by omega)
  · rw [Nat.add_assoc]
    exact n _ (by omega) (by omega) (by omega) (by omega)
theorem TxM.out {ν ν2 : Mm} {D : TD} {E : Nat → Nat → Prop} (h : TxM ν D) (hw : TW D) (ho : OutM E ν ν2) (hE : ∀ o k, E o k → lawOutM o k) (h43 : ν2.1 0 43 = ν.1 0 43) : TxM ν2 D := by
  have n : ∀ x o k, x < 2 → inL x o k → ¬ E o k := fun x o k hx z y => by
    have := hE _ _ y
    unfold lawOutM at this
    unfold inL at z
    omega
  obtain ⟨a, b, c, d⟩ := h
  refine ⟨a.out hw.1 ho (fun o k => n 0 o k (by decide)), b.out hw.2.1 ho (fun o k => n 1 o k (by decide)), h43.trans c, fun x y hx hy => ?_⟩
  rw [ho 20 _ (fun z => by
    have := hE _ _ z
    unfold lawOutM at this
    omega)]
  exact d x y hx hy
theorem TxC.TC {μ : Mm} {t : Nat} {D : TD} (h : TxC μ t D) (hw : TW D) (k1 : sL SC (t + 6) = 32) (k2 : sL SC (t + 12) = 32) : TC μ t (TofD D) := by
  intro μ2 ho
  obtain ⟨a, b, c, d⟩ := h.out ho (fun o z => z)
  refine ⟨fun o nm hn hx hL => ?_, fun o nm hn hx hL => ?_, fun x y hx hy => ?_⟩
  · obtain ⟨m, g1, g2⟩ := c_value (m := 11) (nm := nm) a hw.1 k1 hL (by decide) hn (by omega) (nI 1)
    exact ⟨_, m, g1, (nI_uN _).symm, g2⟩
  · obtain ⟨m, g1, g2⟩ := c_value (m := 7) (nm := nm) b hw.2.1 k2 hL (by decide) (fun k hk => hn k (by omega)) (by omega) (nm 0 * nm 1)
    exact ⟨_, m, g1, (nI_uN _).symm, g2⟩
  · unfold Post_daysBetween
    rw [nI_mulE, nI_add, chv_nI (by omega) (by decide), ix_nI (by omega), Nat.mul_comm]
    exact congrArg some (d x y hx hy)
theorem TxM.TM {ν : Mm} {D : TD} (h : TxM ν D) (hw : TW D) : TM ν (TofD D) := by
  intro ν2 ho0
  obtain ⟨a, b, c, d⟩ := h
  have n : ∀ x o k, x < 2 → inL x o k → ¬ lawOutM o k := fun x o k hx z y => by
    unfold lawOutM at y
    unfold inL at z
    omega
  have a := a.out hw.1 ho0 (fun o k => n 0 o k (by decide))
  have b := b.out hw.2.1 ho0 (fun o k => n 1 o k (by decide))
  have nE : ∀ x o k, x < 2 → inL x o k → ¬ isO 22 o k := fun x o k hx z y => by
    unfold inL at z
    unfold isO at y
    omega
  refine ⟨fun nm hn => ?_, fun nm hn => ?_, fun x y hx hy => ?_⟩
  · obtain ⟨m, g1, g2⟩ := m_line (nm := nm) a hw.1 (by decide) (by decide) hn
    unfold mWr
    rw [show nI 0 = nI 0 from rfl, g1, bnd2_eq]
    show ∃ ν3, _ = some (nI (uN (hld 9 (vF 11 nm D.1 (nI 1)))), ν3) ∧ _
    unfold vF
    cases hf : fl 11 nm D.1 D.1.1.1 0 with
    | none =>
      refine ⟨m, ?_, g2⟩
      dsimp only
      rw [if_pos rfl, nI_uN]
      rfl
    | some l =>
      have hl := (fl_lt hf).2
      rw [Nat.zero_add] at hl
      have w1 := hw.1.1
      have wl := hw.1.2.2.2 l hl
      have w2 := hw.1.2.1
      have a2 := a.out hw.1 g2 (fun o k => nE 0 o k (by decide))
      obtain ⟨m3, f1, f2⟩ := m_run (x := 0) (m := 11) (nm := nm) (S := D.1.2.1) (by decide) (by decide) (fun k hk => (g2 _ _ (by unfold isO; decide)).trans (hn k hk)) (by omega) (Nat.le_of_lt wl.1.1) (fun i hi => a2.2.1 i (by omega)) (wl.1.rv (by decide) nm)
      refine ⟨m3, ?_, g2.tr f2⟩
      dsimp only
      have ne : ¬ nI (16 * 0 + l) = -1 := fun z => by
        rw [eq_m1 (by omega)] at z
        exact z
      rw [if_neg ne, chv_nI (by omega) (by decide), chv_nI (by omega) (by decide), ix_nI (by omega), (a2.2.2 l hl).1, (a2.2.2 l hl).2.1, f1, bnd2_eq, held_hld (by decide), bnd_eq, nI_uN]
  · have e7 : ∀ k, k < 7 → ν2.1 21 k = nm k := hn
    obtain ⟨m, g1, g2⟩ := m_line (nm := nm) b hw.2.1 (by decide) (by decide) e7
    unfold mIl
    rw [g1, bnd2_eq]
    show ∃ ν3, _ = some (nI (uN (hld 999 (vF 7 nm D.2.1 (nm 0 * nm 1)))), ν3) ∧ _
    unfold vF
    cases hf : fl 7 nm D.2.1 D.2.1.1.1 0 with
    | none =>
      refine ⟨m, ?_, g2⟩
      dsimp only
      unfold M_illOf_j51
      rw [if_pos rfl, chv_nI (by decide) (by decide), chv_nI (by decide) (by decide), ix_nI (by decide), ix_nI (by decide), g2 _ _ (by unfold isO; decide), g2 _ _ (by unfold isO; decide), hn 0 (by decide), hn 1 (by decide), held_hld (by decide), bnd_eq, nI_uN]
    | some l =>
      have hl := (fl_lt hf).2
      rw [Nat.zero_add] at hl
      have w1 := hw.2.1.1
      have wl := hw.2.1.2.2.2 l hl
      have w2 := hw.2.1.2.1
      have a2 := b.out hw.2.1 g2 (fun o k => nE 1 o k (by decide))
      obtain ⟨m3, f1, f2⟩ := m_run (x := 1) (m := 7) (nm := nm) (S := D.2.1.2.1) (by decide) (by decide) (fun k hk => (g2 _ _ (by unfold isO; decide)).trans (hn k hk)) (by omega) (Nat.le_of_lt wl.1.1) (fun i hi => a2.2.1 i (by omega)) (wl.1.rv (by decide) nm)
      refine ⟨m3, ?_, g2.tr f2⟩
      dsimp only
      have ne : ¬ nI (16 * 1 + l) = -1 := fun z => by
        rw [eq_m1 (by omega)] at z
        exact z
      unfold M_illOf_j51
      rw [if_neg ne, chv_nI (by omega) (by decide), chv_nI (by omega) (by decide), ix_nI (by omega), (a2.2.2 l hl).1, (a2.2.2 l hl).2.1, f1, bnd2_eq, held_hld (by decide), bnd_eq, nI_uN]
  · unfold M_postOf
    rw [nI_mulE, nI_add, chv_nI (by omega) (by decide), ix_nI (by omega), ho0 20 _ (by unfold lawOutM; omega), d x y hx hy]
    rfl
