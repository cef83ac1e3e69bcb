/-! SOURCES -/
theorem Int32_le0 (v : Int32) : v ≤ 0 ↔ v < nI 1 := by
  rw [Int32.le_iff_toInt_le, Int32.lt_iff_toInt_lt, show (nI 1).toInt = 1 from rfl, show (0 : Int32).toInt = 0 from rfl]
  omega
theorem srcIn {P : Nat} (hP : P ≤ 16) (v : Int32) (h : ¬ v < nI 1) : (nI (2 ^ P) ≤ v ↔ ¬ inI v (nI 1) (nI (2 ^ P) - nI 1) = true) := by
  have hp : 2 ^ P ≤ 65536 := Nat.pow_le_pow_right (by decide) hP
  have hp0 : 0 < 2 ^ P := Nat.two_pow_pos P
  have h0 : ¬ v < 0 := fun z => h (Int32.lt_trans z (by decide : (0 : Int32) < nI 1))
  obtain ⟨j, hj, rfl⟩ := nI_ofN h0
  unfold inI
  rw [decide_eq_true_iff, nI_subE (by omega), nI_leI (by omega) hj, nI_ltI (by omega) hj]
  have : ¬ nI j < nI 1 := h
  constructor
  · rintro z ⟨_, y⟩
    omega
  · intro z
    by_cases e : 2 ^ P ≤ j
    · exact e
    · exact absurd ⟨this, by omega⟩ z
theorem c_src {μ : Mm} {V : VS} {d : Nat} (h : HC μ 1 V) (hw : WF d V) (v1 v2 : Int32) : Nine_sources v1 v2 μ = some (srcR V v1 v2) := by
  have P16 := h.P16
  have eP := h.P
  have hpw : 2 ^ V 0 0 0 ≤ 65536 := Nat.pow_le_pow_right (by decide) P16
  unfold Nine_sources srcR
  rw [eP, Int32_shl1 P16]
  by_cases c1 : v1 < nI 1
  · rw [if_pos ((Int32_le0 v1).2 c1), if_neg (fun z => (of_decide_eq_true z.1).1 c1)]
  · rw [if_neg (fun z => c1 ((Int32_le0 v1).1 z))]
    by_cases c2 : inI v1 (nI 1) (nI (2 ^ V 0 0 0) - nI 1) = true
    · rw [if_neg (fun z => (srcIn P16 v1 c1).1 z c2)]
      rw [nI_subE (Nat.two_pow_pos _)] at c2
      obtain ⟨s, s1, s2, rfl⟩ := inI_1 c2 (by omega)
      rw [← nI_subE (Nat.two_pow_pos _)] at c2
      have hs : s < 2 ^ 16 := by omega
      by_cases c3 : inI v2 (nI 1) (nI 15) = true
      · obtain ⟨k, k1, k2, rfl⟩ := inI_1 c3 (by decide)
        have key := loop_or (f := fun x => Nine_sources_l35 (nI s) (nI k) x.1 x.2 μ) (g := srcG V s k) (N := V 0 0 0) (by omega) (fun n x hn => ?_) (fun x => ?_) 0
        · rw [if_neg (nI_nlt k1 (by omega)), if_pos (nI_le k2 (by decide)), key, bni_eq, Nat.zero_or, if_pos ⟨c2, c3⟩, ix_nI (by omega), ix_nI (by omega)]
        · have hr := reI_lt (V := V) (p := n) hw.2.2.2.2.2.2.1 P16 hn (k - 1)
          have ho : s &&& (2 ^ n ^^^ 4294967295) < 2 ^ 16 := Nat.lt_of_le_of_lt Nat.and_le_left hs
          have ha : reV V n k &&& (s &&& (2 ^ n ^^^ 4294967295)) < 2 ^ 16 := Nat.lt_of_le_of_lt Nat.and_le_left hr
          show Nine_sources_l35 _ _ _ _ _ = _
          unfold Nine_sources_l35 Nine_sources_j82 srcG
          rw [eP, if_neg (nI_ge hn (by omega)), c_reachF h hw.2.2.2.2.2.1 hw.2.2.2.2.2.2.1 hn k1 (by omega), bnd_eq, shl1 n (by omega), show (-1 : Int32) = nI 4294967295 from by decide, nI_xor, nI_and, nI_and, nI_or, nI_add]
          by_cases e : reV V n k &&& (s &&& (2 ^ n ^^^ 4294967295)) = s &&& (2 ^ n ^^^ 4294967295)
          · rw [if_pos (by rw [e]), if_pos ((src_c hs (by omega)).1 e)]
          · rw [if_neg (fun z => e ((nI_eq (by omega) (by omega)).1 z)), if_neg (fun z => e ((src_c hs (by omega)).2 z)), Nat.or_zero]
        · show Nine_sources_l35 _ _ _ _ _ = _
          unfold Nine_sources_l35
          rw [eP, if_pos (nI_le (Nat.le_refl _) (by omega))]
      · rw [if_neg (show ¬ (inI (nI s) (nI 1) (nI (2 ^ V 0 0 0) - nI 1) = true ∧ inI v2 (nI 1) (nI 15) = true) from fun z => c3 z.2)]
        by_cases c4 : v2 < nI 1
        · rw [if_pos c4]
        · rw [if_neg c4, if_neg]
          intro z
          exact c3 (decide_eq_true ⟨c4, Int32.not_lt.2 z⟩)
    · rw [if_pos ((srcIn P16 v1 c1).2 c2), if_neg (fun z => c2 z.1)]
theorem m_src {ν : Mm} {V : VS} {d : Nat} (h : HM ν 0 V) (hw : WF d V) (v1 v2 : Int32) : M_sources v1 v2 ν = some (srcR V v1 v2, sti ν 0 0 (nI 0)) := by
  have h' := h.told (nI 0)
  have P16 := h.P16
  have eP := h'.P
  have hpw : 2 ^ V 0 0 0 ≤ 65536 := Nat.pow_le_pow_right (by decide) P16
  unfold M_sources srcR
  rw [lt_eq, eP, Int32_shl1 P16, m_isIn]
  by_cases c1 : v1 < nI 1
  · rw [if_pos c1, if_neg (fun z => (of_decide_eq_true z.1).1 c1)]
  · rw [if_neg c1]
    by_cases c2 : inI v1 (nI 1) (nI (2 ^ V 0 0 0) - nI 1) = true
    · rw [if_neg (fun z => (srcIn P16 v1 c1).1 z c2), bnd_eq]
      rw [nI_subE (Nat.two_pow_pos _)] at c2
      obtain ⟨s, s1, s2, rfl⟩ := inI_1 c2 (by omega)
      rw [← nI_subE (Nat.two_pow_pos _)] at c2
      have hs : s < 2 ^ 16 := by omega
      by_cases c3 : inI v2 (nI 1) (nI 15) = true
      · obtain ⟨k, k1, k2, rfl⟩ := inI_1 c3 (by decide)
        have key := loop_or (f := fun x => M_sources_l38 (nI s) (nI k) x.1 x.2 (sti ν 0 0 (nI 0))) (g := srcG V s k) (N := V 0 0 0) (by omega) (fun n x hn => ?_) (fun x => ?_) 0
        · rw [if_pos c3, if_neg (by decide), key, bni_eq, Nat.zero_or, if_pos ⟨c2, c3⟩, ix_nI (by omega), ix_nI (by omega)]
        · have ho : s &&& (2 ^ n ^^^ 4294967295) < 2 ^ 16 := Nat.lt_of_le_of_lt Nat.and_le_left hs
          have ha : (s &&& (2 ^ n ^^^ 4294967295)) &&& (reV V n k ^^^ 4294967295) < 2 ^ 16 := Nat.lt_of_le_of_lt Nat.and_le_left ho
          show M_sources_l38 _ _ _ _ _ = _
          unfold M_sources_l38 M_sources_j75 srcG
          rw [eP, if_neg (nI_ge hn (by omega)), m_reachOf h' hw.2.2.2.2.2.1 hw.2.2.2.2.2.2.1 hn k1 (by omega), bnd_eq, shl1 n (by omega), show (-1 : Int32) = nI 4294967295 from by decide, nI_xor, nI_and, nI_xor, nI_and, nI_or, nI_add]
          by_cases e : (s &&& (2 ^ n ^^^ 4294967295)) &&& (reV V n k ^^^ 4294967295) = 0
          · rw [if_pos (by rw [e]; rfl), if_pos ((src_m hs (by omega)).1 e)]
          · rw [if_neg (nI_ne0 (by omega) (by omega)), if_neg (fun z => e ((src_m hs (by omega)).2 z)), Nat.or_zero]
        · show M_sources_l38 _ _ _ _ _ = _
          unfold M_sources_l38
          rw [eP, if_pos (nI_le (Nat.le_refl _) (by omega))]
      · rw [if_neg c3, if_pos (by decide), if_neg (fun z => c3 z.2)]
    · rw [if_pos ((srcIn P16 v1 c1).2 c2), if_neg (fun z => c2 z.1)]
/-! FOREBEARS -/
/-- from a version upwards: all that it came of, itself first; v + 1, 0 for none -/
def upV (V : VS) (x : Nat) : Nat := if x = 0 then 0 else V 13 0 (x - 1)
theorem upV_lt {V : VS} {x : Nat} (h8 : W8 V) (h0 : 0 < x) (hx : x ≤ V 0 0 1) : upV V x < x := by
  unfold upV
  rw [if_neg (by omega)]
  have := (h8 (x - 1) (by omega)).2.2
  omega
/-- y is on the way up from x -/
def onUp (V : VS) (x y : Nat) : Prop := ∃ k, itn k (upV V) x = y
theorem itn_up0 {V : VS} (k : Nat) : itn k (upV V) 0 = 0 := by
  induction k with
  | zero => rfl
  | succ k ih =>
    show upV V (itn k (upV V) 0) = 0
    rw [ih]
    rfl
theorem itn_s {α : Type} (f : α → α) (k : Nat) (x : α) : itn (k + 1) f x = itn k f (f x) := itn_add f k 1 x
theorem itn_upLe {V : VS} {x : Nat} (h8 : W8 V) (hx : x ≤ V 0 0 1) (k : Nat) : itn k (upV V) x ≤ x := by
  induction k with
  | zero => exact Nat.le_refl _
  | succ k ih =>
    show upV V (itn k (upV V) x) ≤ x
    by_cases e : itn k (upV V) x = 0
    · rw [e]
      exact Nat.zero_le _
    · have := upV_lt h8 (by omega) (Nat.le_trans ih hx)
      omega
theorem onUp_le {V : VS} {x y : Nat} (h8 : W8 V) (hx : x ≤ V 0 0 1) (h : onUp V x y) : y ≤ x := by
  obtain ⟨k, rfl⟩ := h
  exact itn_upLe h8 hx k
/-- one below on the way up from x is on the way up from what x came of -/
theorem onUp_up {V : VS} {x y : Nat} (h : onUp V x y) (hy : y ≠ x) : onUp V (upV V x) y := by
  obtain ⟨k, rfl⟩ := h
  cases k with
  | zero => exact absurd rfl hy
  | succ k => exact ⟨k, (itn_s _ _ _).symm⟩
theorem onUp_of {V : VS} {x y : Nat} (h : onUp V (upV V x) y) : onUp V x y := by
  obtain ⟨k, rfl⟩ := h
  exact ⟨k + 1, itn_s _ _ _⟩
/-- all come to none in the end -/
theorem onUp_0 {V : VS} (h8 : W8 V) : ∀ x, x ≤ V 0 0 1 → onUp V x 0 := by
  intro x
  induction x using Nat.strongRecOn with
  | ind x ih =>
    intro hx
    by_cases e : x = 0
    · subst e
      exact ⟨0, rfl⟩
    · have := upV_lt h8 (by omega) hx
      exact onUp_of (ih _ this (by omega))
