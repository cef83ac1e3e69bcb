/-! THE CHECK: counting, copies -/
theorem pcF_0 (k : Nat) : pcF k 0 = 0 := by
  cases k with
  | zero => rfl
  | succ k => exact if_pos rfl
theorem pcF_d (k m : Nat) : pcF (k + 1) (2 * m) = pcF k m := by
  by_cases e : m = 0
  · subst e
    rw [pcF_0, pcF_0]
  · rw [pcF, if_neg (by omega), show 2 * m % 2 = 0 by omega, show 2 * m / 2 = m by omega, Nat.zero_add]
theorem pcF_d1 (k m : Nat) : pcF (k + 1) (2 * m + 1) = 1 + pcF k m := by
  rw [pcF, if_neg (by omega), show (2 * m + 1) % 2 = 1 by omega, show (2 * m + 1) / 2 = m by omega]
theorem and_two (a b : Nat) : a &&& b = 2 * (a / 2 &&& b / 2) + (a % 2 &&& b % 2) := by
  have h1 : (a &&& b) / 2 = a / 2 &&& b / 2 := Nat.and_div_two
  have h2 : (a &&& b) % 2 = a % 2 &&& b % 2 := by
    have := Nat.and_mod_two_pow (a := a) (b := b) (n := 1)
    simpa using this
  omega
theorem pcF_and (k : Nat) : ∀ n, n < 2 ^ k → 0 < n → pcF k (n &&& (n - 1)) + 1 = pcF k n := by
  induction k with
  | zero =>
    intro n h h0
    simp at h
    omega
  | succ k ih =>
    intro n h h0
    rw [Nat.pow_succ] at h
    by_cases e : n % 2 = 1
    · obtain ⟨m, rfl⟩ : ∃ m, n = 2 * m + 1 := ⟨n / 2, by omega⟩
      have e1 : (2 * m + 1) &&& (2 * m + 1 - 1) = 2 * m := by
        rw [and_two, show (2 * m + 1) / 2 = m by omega, show (2 * m + 1 - 1) / 2 = m by omega, show (2 * m + 1) % 2 = 1 by omega, show (2 * m + 1 - 1) % 2 = 0 by omega, Nat.and_self]
        rfl
      rw [e1, pcF_d, pcF_d1]
      omega
    · obtain ⟨m, rfl⟩ : ∃ m, n = 2 * m := ⟨n / 2, by omega⟩
      have e1 : (2 * m) &&& (2 * m - 1) = 2 * (m &&& (m - 1)) := by
        rw [and_two, show (2 * m) / 2 = m by omega, show (2 * m - 1) / 2 = m - 1 by omega, show (2 * m) % 2 = 0 by omega, Nat.zero_and]
        rfl
      rw [e1, pcF_d, pcF_d]
      exact ih m (by omega) (by omega)
theorem popc_and {n : Nat} (h : n < 2 ^ 31) (h0 : 0 < n) : popc (n &&& (n - 1)) + 1 = popc n := pcF_and 64 n (Nat.lt_trans h (by decide)) h0
theorem M_pop {n : Nat} (h : n < 2 ^ 31) : M_ones (nI n) = some (nI (popc n)) := by
  have hb : ∀ k x, x < 2 ^ k → pcF k x ≤ k := by
    intro k
    induction k with
    | zero => exact fun x _ => Nat.le_refl _
    | succ k ih =>
      intro x hx
      rw [Nat.pow_succ] at hx
      by_cases e : x = 0
      · rw [e, pcF_0]
        omega
      · rw [pcF, if_neg e]
        have := ih (x / 2) (by omega)
        omega
  have h64 : popc n ≤ 64 := hb 64 n (Nat.lt_trans h (by decide))
  have key := iter_inv (f := fun s : Int32 × Int32 => M_ones_l4 s.1 s.2) (fun k s => ∃ x, s.1 = nI k ∧ s.2 = nI x ∧ k + popc x = popc n ∧ x < 2 ^ 31) (fun r => r = nI (popc n)) (popc n) ?_ ?_ 1000000 (nI 0, nI n) ⟨n, rfl, rfl, Nat.zero_add _, h⟩ (by omega)
  · obtain ⟨x, h1, h2⟩ := key
    unfold M_ones
    rw [h1, h2, bni_eq]
  · rintro k ⟨a, b⟩ hk ⟨x, rfl, rfl, hx, hl⟩
    have x0 : 0 < x := by
      rcases Nat.eq_zero_or_pos x with e | e
      · subst e
        have : popc 0 = 0 := pcF_0 64
        omega
      · exact e
    refine Or.inl ⟨(nI (k + 1), nI (x &&& (x - 1))), ?_, _, rfl, rfl, ?_, Nat.lt_of_le_of_lt Nat.and_le_left hl⟩
    · show M_ones_l4 _ _ = _
      unfold M_ones_l4
      rw [if_neg (nI_ne0 x0 hl), nI_add, nI_subE x0, nI_and]
    · have := popc_and hl x0
      omega
  · rintro ⟨a, b⟩ ⟨x, rfl, rfl, hx, hl⟩
    have x0 : x = 0 := by
      rcases Nat.eq_zero_or_pos x with e | e
      · exact e
      · have := popc_and hl e
        omega
    refine ⟨nI (popc n), ?_, rfl⟩
    show M_ones_l4 _ _ = _
    unfold M_ones_l4
    rw [if_pos (by rw [x0]; rfl)]
theorem m_comv {ν : Mm} {th : Nat} {V : VS} (h : HM ν th V) (hv : V 0 0 1 < 40) (e x f t : Nat) {fI tI : Int32} (hf : fI + nI 1 = nI f) (ht : tI + nI 1 = nI t) : ∃ ν2, M_comesVersion (nI e) (nI x) fI tI ν = some (nI (V 0 0 1), ν2) ∧ HM ν2 th (verV V e x f t) ∧ OutM (isO 1) ν ν2 := by
  have e0 := h.vn
  have pp : ∀ c, 11 ≤ c → c ≤ 14 → pot c 0 (V 0 0 1) := fun c c1 c2 => Or.inr (Or.inr (Or.inr (Or.inr (Or.inr (Or.inl ⟨c1, c2, rfl, hv⟩)))))
  have a1 := h.1.put 11 0 (V 0 0 1) e (o := 1) (k := 7 + V 0 0 1) (v := nI e) (pp 11 (by decide) (by decide)) rfl rfl rfl (by unfold own3; omega)
  have a2 := a1.put 12 0 (V 0 0 1) x (o := 1) (k := 47 + V 0 0 1) (v := nI x) (pp 12 (by decide) (by decide)) rfl rfl rfl (by unfold own3; omega)
  have a3 := a2.put 13 0 (V 0 0 1) f (o := 1) (k := 87 + V 0 0 1) (v := nI f) (pp 13 (by decide) (by decide)) rfl rfl rfl (by unfold own3; omega)
  have a4 := a3.put 14 0 (V 0 0 1) t (o := 1) (k := 127 + V 0 0 1) (v := nI t) (pp 14 (by decide) (by decide)) rfl rfl rfl (by unfold own3; omega)
  have a5 := a4.put 0 0 1 (V 0 0 1 + 1) (o := 1) (k := 6) (v := nI (V 0 0 1 + 1)) (Or.inl ⟨rfl, rfl, by decide⟩) rfl rfl rfl (by unfold own3; omega)
  have hO : ∀ b1 b2 b3 b4 b5 b6 b7 b8 b9 b10, OutM (isO 1) ν (sti (sti (sti (sti (sti ν 1 b1 b2) 1 b3 b4) 1 b5 b6) 1 b7 b8) 1 b9 b10) := fun b1 b2 b3 b4 b5 b6 b7 b8 b9 b10 => (((((OutM.rf (E := isO 1)).sti rfl).sti rfl).sti rfl).sti rfl).sti rfl
  unfold M_comesVersion
  simp (disch := omega) only [lt_eq, bnd_eq, bni_eq, bnd2_eq, nI_ltE, nI_leE, nI_eqE, eq_0, lt_0E, le_0, z_lt, z_le, eq_m1, m1_eq, nI_add, nI_mulE, ix_nI, ix_0, chv_nI, chk_ok, chk_T, sti_e, sti_n, sti_2, stl_1, stl_e, stl_n, if_true, if_false, not_true_eq_false, not_false_eq_true, eq_self, Bool.false_eq_true, Bool.true_eq_false, e0, hf, ht]
  refine ⟨_, rfl, h.of (a5.mono (fun c q k hl => ?_) (fun _ _ _ _ _ => rfl)) (verV_o (by omega) (by omega)) (fun p => verV_o (by omega) (by omega)) (verV_o (by omega) (by omega)) (hO _ _ _ _ _ _ _ _ _ _ 0 10 (by unfold isO; omega)) (hO _ _ _ _ _ _ _ _ _ _ 0 5 (by unfold isO; omega)) (hO _ _ _ _ _ _ _ _ _ _ 0 15 (by unfold isO; omega)), hO _ _ _ _ _ _ _ _ _ _⟩
  rcases live_ver hl.1 with x | x | x | x | x | x
  · exact Or.inl x
  · exact Or.inr (Or.inl x)
  · exact Or.inr (Or.inr (Or.inl x))
  · exact Or.inr (Or.inr (Or.inr (Or.inl x)))
  · exact Or.inr (Or.inr (Or.inr (Or.inr (Or.inl x))))
  · exact Or.inr (Or.inr (Or.inr (Or.inr (Or.inr ⟨x, hl.2⟩))))
theorem m_draw {ν : Mm} {th : Nat} {V : VS} (h : HM ν th V) {m : Nat} (h0 : 0 < m) (hm : m < 2 ^ 31) : ∃ ν2, M_draw (nI m) ν = some (nI (drwN (V 0 0 8) / 256 % m), ν2) ∧ HM ν2 th (d1V V) ∧ OutM (isO 1) ν ν2 := by
  have e := h.st
  have hlt := drwN_lt (V 0 0 8)
  have e1 : nI (1664525 * V 0 0 8 + 1013904223) = nI (drwN (V 0 0 8)) := by
    rw [Nat.mul_comm]
    exact (nI_mod _).symm
  have e2 := ushr8 hlt
  have e3 := pk_rem (a := drwN (V 0 0 8) / 256) (d := m) (by omega) h0 hm
  have n0 : ¬ nI m = 0 := nI_ne0 h0 hm
  have a1 := h.put1 0 0 8 (drwN (V 0 0 8)) (o := 1) (k := 1) (v := nI (drwN (V 0 0 8))) (live_0 (by decide)) rfl rfl rfl (by unfold own3; omega) (by omega)
  refine ⟨_, ?_, a1, OutM.rf.sti rfl⟩
  unfold M_draw
  rw [chv_nI (by decide) (by decide), chv_nI (by decide) (by decide), ix_nI (by decide), e, nI_mulE, nI_add, e1, lt_eq, chv_nI (by decide) (by decide), chk_ok n0, sti_e ⟨rfl, rfl⟩, e2, e3]
theorem m_copy {ν : Mm} {th : Nat} {V : VS} {v q d : Nat} (h : HM ν th V) (hw : WF d V) (hv : v < V 0 0 1) : ∃ ν2, M_copyOf (nI v) (nI q) ν = some (nI (copV V v q).2, ν2) ∧ HM ν2 th (copV V v q).1 ∧ OutM (isO 1) ν ν2 := by
  have e5 := h.thf
  have w10 := hw.2.2.2.2.2.2.2.2.2.2.2.2.2.2.1
  have w8 := hw.2.2.2.2.2.2.2.2.1 v hv
  have v40 := h.v40
  unfold copV M_copyOf
  rcases h.2.2.2 with ⟨rfl, e15⟩ | ⟨rfl, ez⟩
  · rw [e5, if_pos (by decide), e15]
    by_cases c1 : V 20 0 2 = 0
    · rw [if_pos (by rw [c1]; rfl), if_pos c1]
      exact ⟨ν, rfl, h, OutM.rf⟩
    · obtain ⟨ν1, g1, g2, g3⟩ := m_draw h (m := 1000) (by decide) (by decide)
      have f15 : ν1.1 0 15 = nI (V 20 0 2) := (g3 0 15 (by unfold isO; omega)).trans e15
      have hlt : drwN (V 0 0 8) / 256 % 1000 < 1000 := Nat.mod_lt _ (by decide)
      rw [if_neg (nI_ne0 (by omega) (by omega)), if_neg c1, g1, bnd2_eq, f15]
      by_cases c2 : V 20 0 2 ≤ drwN (V 0 0 8) / 256 % 1000
      · rw [if_neg (nI_nlt c2 (by omega)), if_pos c2]
        exact ⟨ν1, rfl, g2, g3⟩
      · obtain ⟨ν2, f1, f2, f3⟩ := m_draw g2 (m := 10) (by decide) (by decide)
        rw [d1V_8] at f1
        have ev := f2.vn
        rw [d1V_o (by omega), d1V_o (by omega)] at ev
        have hl2 : drwN (drwN (V 0 0 8)) / 256 % 10 < 10 := Nat.mod_lt _ (by decide)
        rw [if_pos (nI_lt (by omega) (by omega)), if_neg c2, f1, bnd2_eq, chv_nI (by decide) (by decide), ix_nI (by decide), ev]
        by_cases c3 : V 0 0 1 = 40
        · rw [if_pos (by rw [c3]), if_pos c3]
          exact ⟨ν2, rfl, f2, g3.tr f3⟩
        · have ec := f2.vc (v := v) (by rw [d1V_o (by omega), d1V_o (by omega)]; exact hv)
          have em := f2.vm (v := v) (by rw [d1V_o (by omega), d1V_o (by omega)]; exact hv)
          rw [d1V_o (by omega), d1V_o (by omega)] at ec em
          have hx : ∀ m, m < 10 → nI (V 12 0 v) ^^^ (nI 1 <<< (nI m &&& 31)) = nI (V 12 0 v ^^^ 2 ^ m) := fun m hm => by rw [shl1 m (by omega), nI_xor]
          obtain ⟨ν3, k1, k2, k3⟩ := m_comv f2 (by rw [d1V_o (by omega), d1V_o (by omega)]; omega) (if drwN (drwN (V 0 0 8)) / 256 % 10 = 0 then V 11 0 v - 1 else V 11 0 v) (V 12 0 v ^^^ 2 ^ (drwN (drwN (V 0 0 8)) / 256 % 10)) (v + 1) (q + 1) (fI := nI v) (tI := nI q) (by rw [nI_add]) (by rw [nI_add])
          rw [d1V_o (by omega), d1V_o (by omega)] at k1
          rw [if_neg (fun z => c3 ((nI_eq (by omega) (by decide)).1 z)), if_neg c3, nI_add, chv_nI (by omega) (by decide), ix_nI (by omega), ec]
          refine ⟨ν3, ?_, k2, (g3.tr f3).tr k3⟩
          unfold M_copyOf_j78 M_copyOf_j80
          simp only [nI_add]
          by_cases c4 : drwN (drwN (V 0 0 8)) / 256 % 10 = 0
          · rw [if_pos c4] at k1
            rw [if_pos (by rw [c4]; rfl)]
            by_cases c5 : V 11 0 v = 0
            · rw [c5] at k1
              rw [if_pos (by rw [c5]; decide), chv_nI (by omega) (by decide), ix_nI (by omega), em, hx _ (by omega), c5, k1, bnd2_eq]
            · rw [if_neg (nI_nle (by omega) (by omega)), chv_nI (by omega) (by decide), ix_nI (by omega), em, hx _ (by omega), nI_subE (by omega), k1, bnd2_eq]
          · rw [if_neg c4] at k1
            rw [if_neg (nI_ne0 (by omega) (by omega)), chv_nI (by omega) (by decide), ix_nI (by omega), em, hx _ (by omega), k1, bnd2_eq]
  · rw [e5, if_neg (by decide), if_pos ez]
    exact ⟨ν, rfl, h, OutM.rf⟩
