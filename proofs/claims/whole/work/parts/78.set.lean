/-! SET -/
def stOK (V : VS) (a b c : Int32) : Bool := inI a (nI 0) (nI 9) && (inI c (leastI (ix a)) (mostI (ix a)) && (decide (6 ≤ ix a) || pnV V b))
def stV (V : VS) (k p x : Nat) : VS := if k < 6 then vset V 1 p k x else vset V 20 0 (k - 6) x
theorem stOK_yes {V : VS} {k : Nat} {b c : Int32} (hk : k < 10) (h1 : inI c (leastI k) (mostI k) = true) (h2 : 6 ≤ k ∨ pnV V b = true) : stOK V (nI k) b c = true := by
  unfold stOK
  rw [ix_nI (by omega), h1, inI_nI (by omega) (by decide), decide_eq_true (show k ≤ 9 by omega)]
  rcases h2 with h2 | h2
  · simp [h2]
  · simp [h2]
theorem stOK_1 {V : VS} {a b c : Int32} (h : inI a (nI 0) (nI 9) = false) : stOK V a b c = false := by
  unfold stOK
  rw [h, Bool.false_and]
theorem stOK_2 {V : VS} {k : Nat} {b c : Int32} (hk : k < 10) (h : inI c (leastI k) (mostI k) = false) : stOK V (nI k) b c = false := by
  unfold stOK
  rw [ix_nI (by omega), h, Bool.false_and, Bool.and_false]
theorem stOK_3 {V : VS} {k : Nat} {b c : Int32} (hk : k < 6) (h : pnV V b = false) : stOK V (nI k) b c = false := by
  unfold stOK
  rw [ix_nI (by omega), h, decide_eq_false (show ¬ 6 ≤ k by omega), Bool.or_false, Bool.and_false, Bool.and_false]
theorem least_p : ∀ k, k < 10 → ¬ leastI k < nI 0 := by decide +kernel
theorem most_i : ∀ k, k < 10 → (mostI k).toInt ≤ 9999 := by decide +kernel
theorem can_nn {k : Nat} {c : Int32} (hk : k < 10) (h : inI c (leastI k) (mostI k) = true) : ∃ x, x ≤ 9999 ∧ c = nI x := by
  have h := of_decide_eq_true h
  have h1 : ¬ c < 0 := by
    have := least_p k hk
    rw [Int32.lt_iff_toInt_lt] at *
    have h3 := h.1
    have e0 : (nI 0).toInt = 0 := rfl
    have e1 : (0 : Int32).toInt = 0 := rfl
    omega
  obtain ⟨x, hx, rfl⟩ := nI_ofN h1
  refine ⟨x, ?_, rfl⟩
  have h2 := h.2
  rw [Int32.lt_iff_toInt_lt, nI_toInt hx] at h2
  have := most_i k hk
  omega
theorem c_stA {μ : Mm} {V : VS} {k p x : Nat} (h : HC μ 1 V) (hk : k < 10) (hp : k < 6 → p < V 0 0 0) : HC (sti μ (if k < 6 then 1 + (22 + 9 * p) else 20) (if k < 6 then k else k - 6) (nI x)) 1 (stV V k p x) := by
  unfold stV
  by_cases e : k < 6
  · rw [if_pos e, if_pos e, if_pos e]
    exact (h.put1 1 p k x (live_t (hp e) e) rfl rfl rfl (by unfold ownC; omega) (by omega)).1
  · rw [if_neg e, if_neg e, if_neg e]
    exact (h.put1 20 0 (k - 6) x (live_r (by omega)) rfl rfl rfl (by unfold ownC; omega) (by omega)).1
theorem c_set {μ : Mm} {V : VS} (h : HC μ 1 V) (a b c : Int32) : (stOK V a b c = false ∧ Nine_set a b c μ = some (nI 0, μ)) ∨ (stOK V a b c = true ∧ ∃ μ2, Nine_set a b c μ = some (nI 1, μ2) ∧ HC μ2 1 (stV V (ix a) (ix b) (ix c)) ∧ Act μ μ2) := by
  have P16 := h.P16
  unfold Nine_set
  rcases c1 : inI a (nI 0) (nI 9) with _ | _
  · rw [c_canN c1, bnd_eq, if_pos (by decide)]
    exact Or.inl ⟨stOK_1 c1, rfl⟩
  · obtain ⟨k, hk, rfl⟩ := inI_some c1 (by decide)
    rw [c_can (by omega), bnd_eq]
    rcases c2 : inI c (leastI k) (mostI k) with _ | _
    · rw [if_neg Bool.false_ne_true, if_pos (by decide)]
      exact Or.inl ⟨stOK_2 (by omega) c2, rfl⟩
    · rw [if_pos rfl, if_neg (by decide)]
      obtain ⟨x, hx, rfl⟩ := can_nn (by omega) c2
      by_cases e : k < 6
      · rw [if_pos (nI_lt e (by decide)), c_hasP h b, bnd_eq]
        rcases c3 : pnV V b with _ | _
        · have c3' : ¬ inI b (nI 0) (nI (V 0 0 0) - nI 1) = true := by
            show ¬ pnV V b = true
            rw [c3]
            decide
          rw [if_neg c3', if_pos (by decide)]
          exact Or.inl ⟨stOK_3 e c3, rfl⟩
        · obtain ⟨p, hp, rfl⟩ := pnV_some P16 c3
          have c3' : inI (nI p) (nI 0) (nI (V 0 0 0) - nI 1) = true := c3
          right
          refine ⟨stOK_yes (by omega) c2 (Or.inr c3), ?_⟩
          rw [if_pos c3', if_neg (by decide), chv_nI (by omega) (by decide), chv_nI (by omega) (by decide), lt_eq, ix_nI (by omega), ix_nI (by omega), ix_nI (by omega)]
          have g := c_stA (x := x) h (show k < 10 by omega) (fun _ => hp)
          rw [if_pos e, if_pos e] at g
          rw [show 1 + (21 + 9 * p) + 1 = 1 + (22 + 9 * p) by omega]
          unfold Nine_set_j63 Nine_forgetBefore
          rw [lt_eq, bnd_eq]
          refine ⟨_, rfl, g.past _, sti_e ⟨rfl, rfl⟩, fun k hk => ?_, ?_⟩
          · rw [sti_n (by omega), sti_n (by omega)]
          · exact (Out.rf.sti (E := fun o => o = 0 ∨ inW 1 o) (Or.inr ⟨by omega, by omega⟩)).sti (Or.inl rfl)
      · right
        refine ⟨stOK_yes (by omega) c2 (Or.inl (by omega)), ?_⟩
        rw [if_neg (nI_nlt (by omega) (by omega)), nI_subE (by omega), chv_nI (by omega) (by decide), ix_nI (by omega), ix_nI (by omega), ix_nI (by omega), lt_eq]
        have g := c_stA (p := ix b) (x := x) h (show k < 10 by omega) (fun z => absurd z e)
        rw [if_neg e, if_neg e] at g
        unfold Nine_set_j63 Nine_forgetBefore
        rw [lt_eq, bnd_eq]
        refine ⟨_, rfl, g.past _, sti_e ⟨rfl, rfl⟩, fun k hk => ?_, ?_⟩
        · rw [sti_n (by omega), sti_n (by omega)]
        · exact (Out.rf.sti (E := fun o => o = 0 ∨ inW 1 o) (Or.inr ⟨by omega, by omega⟩)).sti (Or.inl rfl)
theorem m_most9 : ∀ k, k < 10 → M_mostOf (nI k) = some (mostI k) := by
  intro k hk
  have : k = 0 ∨ k = 1 ∨ k = 2 ∨ k = 3 ∨ k = 4 ∨ k = 5 ∨ k = 6 ∨ k = 7 ∨ k = 8 ∨ k = 9 := by omega
  rcases this with rfl | rfl | rfl | rfl | rfl | rfl | rfl | rfl | rfl | rfl <;> decide +kernel
theorem m_can27 {k : Nat} (hk : k < 10) (c : Int32) (ν : Mm) : M_canSet_j27 (nI k) c ν = some (if inI c (leastI k) (mostI k) = true then nI 1 else nI 0) := by
  have go : ∀ l : Int32, M_canSet_j46 (nI k) c l ν = some (if inI c l (mostI k) = true then nI 1 else nI 0) := by
    intro l
    unfold M_canSet_j46
    rw [m_most9 k hk, bnd_eq, m_isIn, bnd_eq]
    split
    · exact chk_ok (Or.inr rfl)
    · exact chk_ok (Or.inl rfl)
  unfold M_canSet_j27
  by_cases e6 : k = 6
  · subst e6
    rw [if_pos rfl]
    exact go _
  · rw [if_neg (fun z => e6 ((nI_eq (by omega) (by decide)).1 z))]
    by_cases e7 : k = 7
    · subst e7
      rw [if_pos rfl]
      exact go _
    · rw [if_neg (fun z => e7 ((nI_eq (by omega) (by decide)).1 z)), go]
      have : leastI k = nI 0 := by
        have : k = 0 ∨ k = 1 ∨ k = 2 ∨ k = 3 ∨ k = 4 ∨ k = 5 ∨ k = 8 ∨ k = 9 := by omega
        rcases this with rfl | rfl | rfl | rfl | rfl | rfl | rfl | rfl <;> rfl
      rw [this]
theorem mst146 {a : Int32} (b c : Int32) (ν : Mm) (h : ¬ a = nI 9) : M_set_j146 a c ν = M_set_j157  ν := if_neg h
theorem mst135 {a : Int32} (b c : Int32) (ν : Mm) (h : ¬ a = nI 8) : M_set_j135 a c ν = M_set_j146 a c ν := if_neg h
theorem mst121 {a : Int32} (b c : Int32) (ν : Mm) (h : ¬ a = nI 7) : M_set_j121 a c ν = M_set_j135 a c ν := if_neg h
theorem mst107 {a : Int32} (b c : Int32) (ν : Mm) (h : ¬ a = nI 6) : M_set_j107 a c ν = M_set_j121 a c ν := if_neg h
theorem mst84 {a : Int32} (b c : Int32) (ν : Mm) (h : ¬ a = nI 5) : M_set_j84 a b c ν = M_set_j107 a c ν := if_neg h
theorem mst68 {a : Int32} (b c : Int32) (ν : Mm) (h : ¬ a = nI 4) : M_set_j68 a b c ν = M_set_j84 a b c ν := if_neg h
theorem mst52 {a : Int32} (b c : Int32) (ν : Mm) (h : ¬ a = nI 3) : M_set_j52 a b c ν = M_set_j68 a b c ν := if_neg h
theorem mst40 {a : Int32} (b c : Int32) (ν : Mm) (h : ¬ a = nI 2) : M_set_j40 a b c ν = M_set_j52 a b c ν := if_neg h
theorem mst28 {a : Int32} (b c : Int32) (ν : Mm) (h : ¬ a = nI 1) : M_set_j28 a b c ν = M_set_j40 a b c ν := if_neg h
theorem mst_end (ν : Mm) : M_set_j157 ν = some (nI 1, sti ν 0 3 (nI 0)) := rfl
def mstO (k : Nat) : Nat := if k < 3 then 4 + k else if k < 5 then 1 else 0
def mstK (k p : Nat) : Nat := if k < 3 then p else if k = 3 then 183 + p else if k = 4 then 199 + p else if k = 5 then 10 else k + 7
theorem mst_0 {p : Nat}{x : Nat} (ν : Mm) (hp : p < 16) : (chv (nI p) 16 <| lt (sti ν 4 (ix (nI p)) (nI x)) fun μ13 => M_set_j28 (nI 0) (nI p) (nI x) μ13) = some (nI 1, sti (sti ν 4 p (nI x)) 0 3 (nI 0)) := by
  rw [chv_nI (by omega) (by decide), ix_nI (by omega), lt_eq, mst28 (nI p) (nI x) _ (by decide), mst40 (nI p) (nI x) _ (by decide), mst52 (nI p) (nI x) _ (by decide), mst68 (nI p) (nI x) _ (by decide), mst84 (nI p) (nI x) _ (by decide), mst107 (nI p) (nI x) _ (by decide), mst121 (nI p) (nI x) _ (by decide), mst135 (nI p) (nI x) _ (by decide), mst146 (nI p) (nI x) _ (by decide), mst_end]
theorem mst_1 {p : Nat}{x : Nat} (ν : Mm) (hp : p < 16) : M_set_j28 (nI 1) (nI p) (nI x) ν = some (nI 1, sti (sti ν 5 p (nI x)) 0 3 (nI 0)) := by
  unfold M_set_j28
  rw [if_pos rfl, chv_nI (by omega) (by decide), ix_nI (by omega), lt_eq, mst40 (nI p) (nI x) _ (by decide), mst52 (nI p) (nI x) _ (by decide), mst68 (nI p) (nI x) _ (by decide), mst84 (nI p) (nI x) _ (by decide), mst107 (nI p) (nI x) _ (by decide), mst121 (nI p) (nI x) _ (by decide), mst135 (nI p) (nI x) _ (by decide), mst146 (nI p) (nI x) _ (by decide), mst_end]
theorem mst_2 {p : Nat}{x : Nat} (ν : Mm) (hp : p < 16) : M_set_j28 (nI 2) (nI p) (nI x) ν = some (nI 1, sti (sti ν 6 p (nI x)) 0 3 (nI 0)) := by
  rw [mst28 (nI p) (nI x) _ (by decide)]
  unfold M_set_j40
  rw [if_pos rfl, chv_nI (by omega) (by decide), ix_nI (by omega), lt_eq, mst52 (nI p) (nI x) _ (by decide), mst68 (nI p) (nI x) _ (by decide), mst84 (nI p) (nI x) _ (by decide), mst107 (nI p) (nI x) _ (by decide), mst121 (nI p) (nI x) _ (by decide), mst135 (nI p) (nI x) _ (by decide), mst146 (nI p) (nI x) _ (by decide), mst_end]
theorem mst_3 {p : Nat}{x : Nat} (ν : Mm) (hp : p < 16) : M_set_j28 (nI 3) (nI p) (nI x) ν = some (nI 1, sti (sti ν 1 (183 + p) (nI x)) 0 3 (nI 0)) := by
  rw [mst28 (nI p) (nI x) _ (by decide), mst40 (nI p) (nI x) _ (by decide)]
  unfold M_set_j52
  rw [if_pos rfl, nI_add, chv_nI (by omega) (by decide), ix_nI (by omega), lt_eq, mst68 (nI p) (nI x) _ (by decide), mst84 (nI p) (nI x) _ (by decide), mst107 (nI p) (nI x) _ (by decide), mst121 (nI p) (nI x) _ (by decide), mst135 (nI p) (nI x) _ (by decide), mst146 (nI p) (nI x) _ (by decide), mst_end]
theorem mst_4 {p : Nat}{x : Nat} (ν : Mm) (hp : p < 16) : M_set_j28 (nI 4) (nI p) (nI x) ν = some (nI 1, sti (sti ν 1 (199 + p) (nI x)) 0 3 (nI 0)) := by
  rw [mst28 (nI p) (nI x) _ (by decide), mst40 (nI p) (nI x) _ (by decide), mst52 (nI p) (nI x) _ (by decide)]
  unfold M_set_j68
  rw [if_pos rfl, nI_add, chv_nI (by omega) (by decide), ix_nI (by omega), lt_eq, mst84 (nI p) (nI x) _ (by decide), mst107 (nI p) (nI x) _ (by decide), mst121 (nI p) (nI x) _ (by decide), mst135 (nI p) (nI x) _ (by decide), mst146 (nI p) (nI x) _ (by decide), mst_end]
theorem mst_5 {p : Nat}{x : Nat} (ν : Mm) (hp : p < 16) : M_set_j28 (nI 5) (nI p) (nI x) ν = some (nI 1, sti (sti ν 0 10 (((ν.1 0 10 &&& ((nI 1 <<< (nI p &&& 31)) ^^^ (-1))) ||| (nI x <<< (nI p &&& 31))))) 0 3 (nI 0)) := by
  rw [mst28 (nI p) (nI x) _ (by decide), mst40 (nI p) (nI x) _ (by decide), mst52 (nI p) (nI x) _ (by decide), mst68 (nI p) (nI x) _ (by decide)]
  unfold M_set_j84
  rw [if_pos rfl, lt_eq, mst107 (nI p) (nI x) _ (by decide), mst121 (nI p) (nI x) _ (by decide), mst135 (nI p) (nI x) _ (by decide), mst146 (nI p) (nI x) _ (by decide), mst_end]
theorem mst_6 (b : Int32){x : Nat} (ν : Mm) : M_set_j28 (nI 6) b (nI x) ν = some (nI 1, sti (sti ν 0 13 ((nI x - nI 9))) 0 3 (nI 0)) := by
  rw [mst28 b (nI x) _ (by decide), mst40 b (nI x) _ (by decide), mst52 b (nI x) _ (by decide), mst68 b (nI x) _ (by decide), mst84 b (nI x) _ (by decide)]
  unfold M_set_j107
  rw [if_pos rfl, lt_eq, mst121 b (nI x) _ (by decide), mst135 b (nI x) _ (by decide), mst146 b (nI x) _ (by decide), mst_end]
theorem mst_7 (b : Int32){x : Nat} (ν : Mm) : M_set_j28 (nI 7) b (nI x) ν = some (nI 1, sti (sti ν 0 14 ((nI x - nI 9))) 0 3 (nI 0)) := by
  rw [mst28 b (nI x) _ (by decide), mst40 b (nI x) _ (by decide), mst52 b (nI x) _ (by decide), mst68 b (nI x) _ (by decide), mst84 b (nI x) _ (by decide), mst107 b (nI x) _ (by decide)]
  unfold M_set_j121
  rw [if_pos rfl, lt_eq, mst135 b (nI x) _ (by decide), mst146 b (nI x) _ (by decide), mst_end]
theorem mst_8 (b : Int32){x : Nat} (ν : Mm) : M_set_j28 (nI 8) b (nI x) ν = some (nI 1, sti (sti ν 0 15 (nI x)) 0 3 (nI 0)) := by
  rw [mst28 b (nI x) _ (by decide), mst40 b (nI x) _ (by decide), mst52 b (nI x) _ (by decide), mst68 b (nI x) _ (by decide), mst84 b (nI x) _ (by decide), mst107 b (nI x) _ (by decide), mst121 b (nI x) _ (by decide)]
  unfold M_set_j135
  rw [if_pos rfl, lt_eq, mst146 b (nI x) _ (by decide), mst_end]
theorem mst_9 (b : Int32){x : Nat} (ν : Mm) : M_set_j28 (nI 9) b (nI x) ν = some (nI 1, sti (sti ν 0 16 (nI x)) 0 3 (nI 0)) := by
  rw [mst28 b (nI x) _ (by decide), mst40 b (nI x) _ (by decide), mst52 b (nI x) _ (by decide), mst68 b (nI x) _ (by decide), mst84 b (nI x) _ (by decide), mst107 b (nI x) _ (by decide), mst121 b (nI x) _ (by decide), mst135 b (nI x) _ (by decide)]
  unfold M_set_j146
  rw [if_pos rfl, lt_eq, mst_end]
theorem stV_lo {V : VS} {k p x : Nat} (h : k < 6) : stV V k p x = vset V 1 p k x := if_pos h
theorem stV_hi {V : VS} {k p x : Nat} (h : ¬ k < 6) : stV V k p x = vset V 20 0 (k - 6) x := if_neg h
theorem m_st5 {ν : Mm} {V : VS} {p x : Nat} (h : HM ν 0 V) (hp : p < V 0 0 0) (hx : x < 2) : HM (sti ν 0 10 ((ν.1 0 10 &&& ((nI 1 <<< (nI p &&& 31)) ^^^ (-1))) ||| (nI x <<< (nI p &&& 31)))) 0 (vset V 1 p 5 x) := by
  have P16 := h.P16
  refine ⟨?_, fun q hq => ?_, ?_, ?_⟩
  · refine HN.mono (h.1.out (OutM.rf.sti (E := fun o k => o = 0 ∧ k = 10) ⟨rfl, rfl⟩) (fun o k z y => by unfold cellM at z; omega)) (fun c q k hl => ⟨live_same hl.1 (vset_ne (by omega)) (vset_ne (by omega)) (vset_ne (by omega)) (vset_ne (by omega)) (vset_ne (by omega)) (vset_ne (by omega)), hl.2⟩) (fun c q k hl ho => vset_ne (by unfold own3 at ho; omega))
  · rw [vset_ne (by omega)] at hq
    rw [sti_e ⟨rfl, rfl⟩, cst_bit _ (by omega) (by omega) hx]
    by_cases e : q = p
    · subst e
      rw [if_pos rfl, vset_eq ⟨rfl, rfl, rfl⟩]
    · rw [if_neg e, vset_ne (by omega)]
      exact h.2.1 q hq
  · rw [sti_n (by omega)]
    exact h.2.2.1
  · rw [sti_n (by omega), vset_ne (by omega)]
    exact h.2.2.2
theorem m_st8 {ν : Mm} {V : VS} {x : Nat} (h : HM ν 0 V) : HM (sti ν 0 15 (nI x)) 0 (vset V 20 0 2 x) := by
  refine ⟨?_, fun q hq => ?_, ?_, Or.inl ⟨rfl, ?_⟩⟩
  · refine HN.mono (h.1.out (OutM.rf.sti (E := fun o k => o = 0 ∧ k = 15) ⟨rfl, rfl⟩) (fun o k z y => by unfold cellM at z; omega)) (fun c q k hl => ⟨live_same hl.1 (vset_ne (by omega)) (vset_ne (by omega)) (vset_ne (by omega)) (vset_ne (by omega)) (vset_ne (by omega)) (vset_ne (by omega)), hl.2⟩) (fun c q k hl ho => vset_ne (by unfold own3 at ho; omega))
  · rw [vset_ne (by omega)] at hq
    rw [sti_n (by omega), vset_ne (by omega)]
    exact h.2.1 q hq
  · rw [sti_n (by omega)]
    exact h.2.2.1
  · rw [sti_e ⟨rfl, rfl⟩, vset_eq ⟨rfl, rfl, rfl⟩]
theorem stEA {ν : Mm} {o k : Nat} {v : Int32} (h : EA o k) : OutM EA ν (sti (sti ν o k v) 0 3 (nI 0)) := (OutM.rf.sti h).sti (Or.inr (Or.inr ⟨rfl, Or.inr (Or.inl rfl)⟩))
theorem m_st28 {ν : Mm} {V : VS} {k p x : Nat} (h : HM ν 0 V) (hk : k < 10) (hp : k < 6 → p < V 0 0 0) (hx : k = 5 → x < 2) (b : Int32) (hb : k < 6 → b = nI p) : ∃ ν2, (if nI k = 0 then chv b 16 <| lt (sti ν 4 (ix b) (nI x)) fun μ13 => M_set_j28 (nI k) b (nI x) μ13 else M_set_j28 (nI k) b (nI x) ν) = some (nI 1, ν2) ∧ HM ν2 0 (stV V k p x) ∧ ν2.1 0 3 = nI 0 ∧ OutM EA ν ν2 := by
  have P16 := h.P16
  have : k = 0 ∨ k = 1 ∨ k = 2 ∨ k = 3 ∨ k = 4 ∨ k = 5 ∨ k = 6 ∨ k = 7 ∨ k = 8 ∨ k = 9 := by omega
  rcases this with rfl | rfl | rfl | rfl | rfl | rfl | rfl | rfl | rfl | rfl
  · have hp := hp (by decide)
    obtain rfl := hb (by decide)
    rw [if_pos (show nI 0 = 0 from rfl), mst_0 ν (by omega), stV_lo (by decide)]
    exact ⟨_, rfl, (h.put1 1 p 0 x (o := 4) (k := p) (v := nI x) (live_t hp (by decide)) rfl rfl rfl (by unfold own3; omega) (by omega)).past _, sti_e ⟨rfl, rfl⟩, stEA (by unfold EA; omega)⟩
  · have hp := hp (by decide)
    obtain rfl := hb (by decide)
    rw [if_neg (by decide), mst_1 ν (by omega), stV_lo (by decide)]
    exact ⟨_, rfl, (h.put1 1 p 1 x (o := 5) (k := p) (v := nI x) (live_t hp (by decide)) rfl rfl rfl (by unfold own3; omega) (by omega)).past _, sti_e ⟨rfl, rfl⟩, stEA (by unfold EA; omega)⟩
  · have hp := hp (by decide)
    obtain rfl := hb (by decide)
    rw [if_neg (by decide), mst_2 ν (by omega), stV_lo (by decide)]
    exact ⟨_, rfl, (h.put1 1 p 2 x (o := 6) (k := p) (v := nI x) (live_t hp (by decide)) rfl rfl rfl (by unfold own3; omega) (by omega)).past _, sti_e ⟨rfl, rfl⟩, stEA (by unfold EA; omega)⟩
  · have hp := hp (by decide)
    obtain rfl := hb (by decide)
    rw [if_neg (by decide), mst_3 ν (by omega), stV_lo (by decide)]
    exact ⟨_, rfl, (h.put1 1 p 3 x (o := 1) (k := (183 + p)) (v := nI x) (live_t hp (by decide)) rfl rfl rfl (by unfold own3; omega) (by omega)).past _, sti_e ⟨rfl, rfl⟩, stEA (by unfold EA; omega)⟩
  · have hp := hp (by decide)
    obtain rfl := hb (by decide)
    rw [if_neg (by decide), mst_4 ν (by omega), stV_lo (by decide)]
    exact ⟨_, rfl, (h.put1 1 p 4 x (o := 1) (k := (199 + p)) (v := nI x) (live_t hp (by decide)) rfl rfl rfl (by unfold own3; omega) (by omega)).past _, sti_e ⟨rfl, rfl⟩, stEA (by unfold EA; omega)⟩
  · have hp := hp (by decide)
    obtain rfl := hb (by decide)
    rw [if_neg (by decide), mst_5 ν (by omega), stV_lo (by decide)]
    exact ⟨_, rfl, (m_st5 h hp (hx rfl)).past _, sti_e ⟨rfl, rfl⟩, stEA (by unfold EA; omega)⟩
  · rw [if_neg (by decide), mst_6 b ν, stV_hi (by decide)]
    exact ⟨_, rfl, (h.put1 20 0 0 x (o := 0) (k := 13) (v := nI x - nI 9) (live_r (by decide)) rfl rfl rfl (by unfold own3; omega) (by omega)).past _, sti_e ⟨rfl, rfl⟩, stEA (by unfold EA; omega)⟩
  · rw [if_neg (by decide), mst_7 b ν, stV_hi (by decide)]
    exact ⟨_, rfl, (h.put1 20 0 1 x (o := 0) (k := 14) (v := nI x - nI 9) (live_r (by decide)) rfl rfl rfl (by unfold own3; omega) (by omega)).past _, sti_e ⟨rfl, rfl⟩, stEA (by unfold EA; omega)⟩
  · rw [if_neg (by decide), mst_8 b ν, stV_hi (by decide)]
    exact ⟨_, rfl, (m_st8 h).past _, sti_e ⟨rfl, rfl⟩, stEA (by unfold EA; omega)⟩
  · rw [if_neg (by decide), mst_9 b ν, stV_hi (by decide)]
    exact ⟨_, rfl, (h.put1 20 0 3 x (o := 0) (k := 16) (v := nI x) (live_r (by decide)) rfl rfl rfl (by unfold own3; omega) (by omega)).past _, sti_e ⟨rfl, rfl⟩, stEA (by unfold EA; omega)⟩
theorem m_set {ν : Mm} {V : VS} (h : HM ν 0 V) (a b c : Int32) : (stOK V a b c = false ∧ M_set a b c ν = some (nI 0, sti ν 0 0 (nI 0))) ∨ (stOK V a b c = true ∧ ∃ ν2, M_set a b c ν = some (nI 1, ν2) ∧ HM ν2 0 (stV V (ix a) (ix b) (ix c)) ∧ ν2.1 0 3 = nI 0 ∧ OutM EA ν ν2) := by
  have P16 := h.P16
  have h' := h.told (nI 0)
  unfold M_set M_canSet
  rw [lt_eq, m_isIn]
  show (_ ∧ bnd (bnd (some _) _) _ = _) ∨ (_ ∧ ∃ ν2, bnd (bnd (some _) _) _ = _ ∧ _)
  rw [bnd_eq]
  rcases c1 : inI a (nI 0) (nI 9) with _ | _
  · rw [if_neg Bool.false_ne_true, if_pos (show nI 0 = 0 from rfl), bnd_eq, if_pos (by decide)]
    exact Or.inl ⟨stOK_1 c1, rfl⟩
  · obtain ⟨k, hk, rfl⟩ := inI_some c1 (by decide)
    rw [if_pos rfl, if_neg (show ¬ nI 1 = 0 by decide)]
    have fin : ∀ p, (k < 6 → p < V 0 0 0 ∧ b = nI p ∧ ix b = p) → inI c (leastI k) (mostI k) = true → ∃ ν2, (if nI k = 0 then chv b 16 <| lt (sti (sti ν 0 0 (nI 0)) 4 (ix b) c) fun μ13 => M_set_j28 (nI k) b c μ13 else M_set_j28 (nI k) b c (sti ν 0 0 (nI 0))) = some (nI 1, ν2) ∧ HM ν2 0 (stV V k (ix b) (ix c)) ∧ ν2.1 0 3 = nI 0 ∧ OutM EA ν ν2 := by
      intro p h1 c2
      obtain ⟨x, hx, rfl⟩ := can_nn (show k < 10 by omega) c2
      obtain ⟨ν2, g1, g2, g3, g4⟩ := m_st28 (p := ix b) (x := x) h' (show k < 10 by omega) (fun z => by rw [(h1 z).2.2]; exact (h1 z).1) (fun z => by
        subst z
        have c2 := of_decide_eq_true c2
        have c2 := c2.2
        have : mostI 5 = nI 1 := rfl
        rw [this] at c2
        exact Classical.byContradiction fun y => c2 (nI_lt (by omega) (by omega))) b (fun z => by rw [(h1 z).2.2]; exact (h1 z).2.1)
      rw [ix_nI (show x < 2 ^ 31 by omega)]
      exact ⟨ν2, g1, g2, g3, (OutM.rf.sti (E := EA) (Or.inr (Or.inr ⟨rfl, Or.inl rfl⟩))).tr g4⟩
    rcases c2 : inI c (leastI k) (mostI k) with _ | _
    · have no : stOK V (nI k) b c = false := stOK_2 (by omega) c2
      refine Or.inl ⟨no, ?_⟩
      by_cases e : k < 6
      · rw [if_neg (nI_ge e (by decide)), m_isP h' b, bnd_eq]
        rcases c3 : pnV V b with _ | _
        · rw [if_neg Bool.false_ne_true, if_pos (show nI 0 = 0 from rfl), bnd_eq, if_pos (by decide)]
        · rw [if_pos rfl, if_neg (show ¬ nI 1 = 0 by decide), m_can27 (by omega), c2, if_neg Bool.false_ne_true, bnd_eq, if_pos (by decide)]
      · rw [if_pos (nI_le (by omega) (by omega)), m_can27 (by omega), c2, if_neg Bool.false_ne_true, bnd_eq, if_pos (by decide)]
    · by_cases e : k < 6
      · rw [if_neg (nI_ge e (by decide)), m_isP h' b, bnd_eq]
        rcases c3 : pnV V b with _ | _
        · rw [if_neg Bool.false_ne_true, if_pos (show nI 0 = 0 from rfl), bnd_eq, if_pos (by decide)]
          exact Or.inl ⟨stOK_3 e c3, rfl⟩
        · obtain ⟨p, hp, rfl⟩ := pnV_some P16 c3
          rw [if_pos rfl, if_neg (show ¬ nI 1 = 0 by decide), m_can27 (by omega), c2, if_pos rfl, bnd_eq, if_neg (by decide), ix_nI (show k < 2 ^ 31 by omega)]
          exact Or.inr ⟨stOK_yes (by omega) c2 (Or.inr c3), fin p (fun _ => ⟨hp, rfl, ix_nI (by omega)⟩) c2⟩
      · rw [if_pos (nI_le (by omega) (by omega)), m_can27 (by omega), c2, if_pos rfl, bnd_eq, if_neg (by decide), ix_nI (show k < 2 ^ 31 by omega)]
        exact Or.inr ⟨stOK_yes (by omega) c2 (Or.inl (by omega)), fin 0 (fun z => absurd z e) c2⟩
