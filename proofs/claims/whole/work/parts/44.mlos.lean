/-! THE CHECK: a letter lost -/
theorem pM_let {c q k p : Nat} (h : pot c q k) (h1 : own3 c k) (h0 : mo c k = 1) (h2 : 279 + 12 * p ≤ pM c q k) (h3 : pM c q k < 279 + 12 * p + 12) (hp : p < 16) : (7 ≤ c ∧ c ≤ 10) ∧ q = p := by
  revert h1 h0 h2 h3
  refine pot_cases (Z := fun c q k => own3 c k → mo c k = 1 → 279 + 12 * p ≤ pM c q k → pM c q k < 279 + 12 * p + 12 → (7 ≤ c ∧ c ≤ 10) ∧ q = p) h ?h0 ?h01 ?h02 ?h03 ?h04 ?h05 ?h06 ?h07 ?h08 ?h09 ?h10 ?h11 ?h12 ?h13 ?h14 ?h15 ?h2 ?h3 ?h4 ?h5 ?h6 ?h7 ?h8 ?h9 ?hX ?hv11 ?hv12 ?hv13 ?hv14 ?hw15 ?hw16 ?hw17 ?hw18 ?hr ?h21 ?h22 ?hb23 ?hb24 ?hb25 ?hb26 ?hb27
  case h15 => exact fun p _ h1 => absurd ⟨rfl, rfl⟩ h1.1
  case h09 => exact fun h1 => absurd ⟨rfl, rfl⟩ h1.2.2
  case h10 => exact fun p _ _ h0 => absurd h0 (by decide)
  case h11 => exact fun p _ _ h0 => absurd h0 (by decide)
  case h12 => exact fun p _ _ h0 => absurd h0 (by decide)
  case h2 => exact fun p i _ _ _ h0 => absurd h0 (by show ¬ 8 = 1; decide)
  case h3 => exact fun p _ _ h0 => absurd h0 (by decide)
  case hr => exact fun p _ _ h0 => absurd h0 (by show ¬ 0 = 1; decide)
  case hb23 => exact fun p _ _ h0 => absurd h0 (by show ¬ 10 = 1; decide)
  case hb24 => exact fun p _ _ h0 => absurd h0 (by show ¬ 10 = 1; decide)
  case hb25 => exact fun p _ _ h0 => absurd h0 (by show ¬ 10 = 1; decide)
  case hb26 => exact fun p _ _ h0 => absurd h0 (by show ¬ 10 = 1; decide)
  case hb27 => exact fun p _ _ h0 => absurd h0 (by show ¬ 10 = 1; decide)
  all_goals (intros; rename_i h2 h3; simp only [pM, Nat.reduceEqDiff, if_true, if_false] at h2 h3; omega)
/-- cells from a0 to c have what stood four further on -/
def shG (ν : Mm) (a0 c : Nat) : Mm := (fun o x => if o = 1 ∧ a0 ≤ x ∧ x < c then ν.1 1 (x + 4) else ν.1 o x, ν.2)
theorem shG_0 (ν : Mm) (a0 : Nat) : shG ν a0 a0 = ν := by
  refine Prod.ext ?_ rfl
  funext o x
  exact if_neg (by omega)
theorem shG_s (ν : Mm) {a0 c : Nat} (h : a0 ≤ c) : sti (shG ν a0 c) 1 c (ν.1 1 (c + 4)) = shG ν a0 (c + 1) := by
  refine Prod.ext ?_ rfl
  funext o x
  show (if _ then _ else if _ then _ else _) = if _ then _ else _
  by_cases e : o = 1 ∧ x = c
  · obtain ⟨rfl, rfl⟩ := e
    rw [if_pos ⟨rfl, rfl⟩, if_pos ⟨rfl, h, by omega⟩]
  · rw [if_neg e]
    by_cases e2 : o = 1 ∧ a0 ≤ x ∧ x < c
    · rw [if_pos e2, if_pos (by omega)]
    · rw [if_neg e2, if_neg (by omega)]
theorem shG_n (ν : Mm) {a0 c x : Nat} (h : c ≤ x) : (shG ν a0 c).1 1 x = ν.1 1 x := if_neg (by omega)
theorem shG_l (ν : Mm) {a0 c x : Nat} (h : x < a0) : (shG ν a0 c).1 1 x = ν.1 1 x := if_neg (by omega)
theorem shG_p (ν : Mm) {a0 c x : Nat} (h : a0 ≤ x ∧ x < c) : (shG ν a0 c).1 1 x = ν.1 1 (x + 4) := if_pos ⟨rfl, h⟩
theorem shG_o (ν : Mm) {a0 c o x : Nat} (h : o ≠ 1) : (shG ν a0 c).1 o x = ν.1 o x := if_neg (by omega)
theorem m_losw (ν : Mm) {p k a0 : Nat} (hp : p < 16) (hk : k < 3) (ha : a0 ≤ 279 + 4 * (3 * p + k)) : iter 1000000 (fun s : Int32 × Mm => M_loses_l41 (nI p) (nI k) s.1 s.2) (nI 0, shG ν a0 (279 + 4 * (3 * p + k))) = some (shG ν a0 (279 + 4 * (3 * p + (k + 1)))) := by
  refine iter_traj (f := fun s : Int32 × Mm => M_loses_l41 (nI p) (nI k) s.1 s.2) (fun w => (nI w, shG ν a0 (279 + 4 * (3 * p + k) + w))) 4 1000000 ?_ ?_ (by decide)
  · intro w hw
    show M_loses_l41 _ _ _ _ = _
    unfold M_loses_l41 M_letterAt
    have hr : (shG ν a0 (279 + 4 * (3 * p + k) + w)).1 1 (279 + 4 * (3 * p + (k + 1)) + w) = ν.1 1 (279 + 4 * (3 * p + k) + w + 4) := by
      rw [shG_n _ (by omega), show 279 + 4 * (3 * p + (k + 1)) + w = 279 + 4 * (3 * p + k) + w + 4 by omega]
    simp only [nI_add, nI_mulE, bnd_eq]
    rw [if_neg (nI_ge hw (by omega)), chv_nI (by omega) (by decide), chv_nI (by omega) (by decide), ix_nI (by omega), ix_nI (by omega), hr, shG_s _ (by omega), lt_eq]
    rfl
  · show M_loses_l41 _ _ _ _ = _
    unfold M_loses_l41
    rw [if_pos (show nI 4 ≤ nI 4 by decide)]
    rfl
/-- the i-th of m letters is lost -/
def losM (p m i : Nat) (ν : Mm) : Mm := shG (sti ν 1 (263 + p) (nI (m - 1))) (279 + 4 * (3 * p + i)) (279 + 4 * (3 * p + (m - 1)))
theorem m_los {ν : Mm} {p m i : Nat} (hp : p < 16) (hm : m ≤ 3) (hi : i < m) (e0 : ν.1 1 (263 + p) = nI m) : M_loses (nI p) (nI i) ν = some (losM p m i ν) := by
  have key := iter_traj (f := fun s : Int32 × Mm => M_loses_l24 (nI p) s.1 s.2) (fun j => (nI (i + j), shG (sti ν 1 (263 + p) (nI (m - 1))) (279 + 4 * (3 * p + i)) (279 + 4 * (3 * p + (i + j))))) (y := losM p m i ν) (m - 1 - i) 1000000 ?_ ?_ (by omega)
  · unfold M_loses
    have em : nI m - nI 1 = nI (m - 1) := nI_subE (by omega)
    simp only [nI_add]
    rw [chv_nI (by omega) (by decide), chv_nI (by omega) (by decide), ix_nI (by omega), e0, em, lt_eq]
    have e2 : shG (sti ν 1 (263 + p) (nI (m - 1))) (279 + 4 * (3 * p + i)) (279 + 4 * (3 * p + (i + 0))) = sti ν 1 (263 + p) (nI (m - 1)) := shG_0 _ _
    rw [e2] at key
    have key : iter 1000000 (fun s : Int32 × Mm => M_loses_l24 (nI p) s.1 s.2) (nI i, sti ν 1 (263 + p) (nI (m - 1))) = some (losM p m i ν) := key
    rw [key, bni_eq]
  · intro j hj
    show M_loses_l24 _ _ _ = _
    unfold M_loses_l24
    simp only [nI_add]
    rw [chv_nI (by omega) (by decide), ix_nI (by omega), shG_l _ (by omega), sti_e ⟨rfl, rfl⟩, if_neg (nI_ge (by omega) (by omega)), m_losw _ hp (by omega) (by omega), bni_eq]
    rfl
  · show M_loses_l24 _ _ _ = _
    unfold M_loses_l24
    simp only [nI_add]
    rw [chv_nI (by omega) (by decide), ix_nI (by omega), shG_l _ (by omega), sti_e ⟨rfl, rfl⟩, if_pos (nI_le (by omega) (by omega))]
    unfold losM
    rw [show i + (m - 1 - i) = m - 1 by omega]
theorem m_loses {ν : Mm} {th : Nat} {V : VS} {p i : Nat} (h : HM ν th V) (hp : p < V 0 0 0) (hi : i < V 6 p 0) : ∃ ν2, M_loses (nI p) (nI i) ν = some ν2 ∧ HM ν2 th (remV V p i) ∧ OutM (isO 1) ν ν2 := by
  have p16 : p < 16 := Nat.lt_of_lt_of_le hp h.P16
  have m3 := h.h3 hp
  have hO : OutM (isO 1) ν (losM p (V 6 p 0) i ν) := fun o k z => by
    have z : ¬ o = 1 := z
    unfold losM
    rw [shG_o _ z, sti_n (by omega)]
  refine ⟨_, m_los p16 m3 hi (h.hc hp), h.of ?_ (remV_o (by omega)) (fun q => remV_o (by omega)) (remV_o (by omega)) (hO _ _ (by unfold isO; omega)) (hO _ _ (by unfold isO; omega)) (hO _ _ (by unfold isO; omega)), hO⟩
  intro c q k hl
  have hl2 := live_rem hl.1
  obtain ⟨hpo, hv⟩ := h.1 c q k ⟨hl2, hl.2⟩
  refine ⟨hpo, fun ho => ?_⟩
  have hv := hv ho
  by_cases hc : (6 ≤ c ∧ c ≤ 10) ∧ q = p
  · obtain ⟨hc, rfl⟩ := hc
    by_cases h6 : c = 6
    · subst h6
      have hk : k = 0 := by unfold pot at hpo; omega
      subst hk
      rw [remV_6, if_pos rfl]
      show (losM q (V 6 q 0) i ν).1 1 (263 + q) = _
      unfold losM
      rw [shG_l _ (by omega), sti_e ⟨rfl, rfl⟩]
      rfl
    · have hc2 : 7 ≤ c ∧ c ≤ 10 := by omega
      have hk := (live_let hl.1 hc2).2
      rw [remV_6, if_pos rfl] at hk
      have : c = 7 ∨ c = 8 ∨ c = 9 ∨ c = 10 := by omega
      rw [remV_l hc2]
      unfold losM
      by_cases hik : i ≤ k
      · have hv3 := (h.1 c q (k + 1) ⟨live_l hp hc2 (by omega), fun _ => ⟨by omega, by omega⟩⟩).2 (by unfold own3; omega)
        rw [if_pos hik]
        rcases this with rfl | rfl | rfl | rfl
        · show (shG _ _ _).1 1 (279 + 4 * (3 * q + k)) = _
          rw [shG_p _ (by omega), sti_n (by omega), show 279 + 4 * (3 * q + k) + 4 = 279 + 4 * (3 * q + (k + 1)) by omega]
          exact hv3
        · show (shG _ _ _).1 1 (279 + 4 * (3 * q + k) + 1) = _
          rw [shG_p _ (by omega), sti_n (by omega), show 279 + 4 * (3 * q + k) + 1 + 4 = 279 + 4 * (3 * q + (k + 1)) + 1 by omega]
          exact hv3
        · show (shG _ _ _).1 1 (279 + 4 * (3 * q + k) + 2) = _
          rw [shG_p _ (by omega), sti_n (by omega), show 279 + 4 * (3 * q + k) + 2 + 4 = 279 + 4 * (3 * q + (k + 1)) + 2 by omega]
          exact hv3
        · show (shG _ _ _).1 1 (279 + 4 * (3 * q + k) + 3) = _
          rw [shG_p _ (by omega), sti_n (by omega), show 279 + 4 * (3 * q + k) + 3 + 4 = 279 + 4 * (3 * q + (k + 1)) + 3 by omega]
          exact hv3
      · rw [if_neg hik]
        rcases this with rfl | rfl | rfl | rfl
        · show (shG _ _ _).1 1 (279 + 4 * (3 * q + k)) = _
          rw [shG_l _ (by omega), sti_n (by omega)]
          exact hv
        · show (shG _ _ _).1 1 (279 + 4 * (3 * q + k) + 1) = _
          rw [shG_l _ (by omega), sti_n (by omega)]
          exact hv
        · show (shG _ _ _).1 1 (279 + 4 * (3 * q + k) + 2) = _
          rw [shG_l _ (by omega), sti_n (by omega)]
          exact hv
        · show (shG _ _ _).1 1 (279 + 4 * (3 * q + k) + 3) = _
          rw [shG_l _ (by omega), sti_n (by omega)]
          exact hv
  · rw [remV_o (by omega), ← hv]
    by_cases h1 : mo c k = 1
    · have n1 : ¬ (279 + 12 * p ≤ pM c q k ∧ pM c q k < 279 + 12 * p + 12) := fun z => hc ⟨by have := (pM_let hpo ho h1 z.1 z.2 p16).1; omega, (pM_let hpo ho h1 z.1 z.2 p16).2⟩
      have n2 : pM c q k ≠ 263 + p := fun z => by
        have := mo_inj (c := 6) (p := p) (i := 0) (c2 := c) (p2 := q) (i2 := k) (Or.inr (Or.inr (Or.inr (Or.inl ⟨by omega, p16, rfl⟩)))) (by unfold own3; omega) hpo ho h1.symm z.symm
        omega
      unfold losM
      rw [h1]
      show (if _ then _ else _) = _
      rw [if_neg (by omega), sti_n (by omega)]
    · exact hO _ _ h1
