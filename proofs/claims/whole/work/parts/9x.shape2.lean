/-! WHAT IS MADE has the shape of the class, and of the check -/
def rX (k x j : Nat) : Option Nat := if k < 11 then (if (offT.getD k []).getD j 0 = 0 then none else some (x + (offT.getD k []).getD j 0)) else if k = 13 then (if j < 16 then some (x + 20 + 9 * j) else none) else if k = 14 then (if j < 6 then some (545 + 165 * j) else none) else none
theorem rC_X (x j : Nat) : rC x j = rX (kC x) x j := rfl
def rfok (i k : Nat) (rs : List (Nat × Nat)) : Bool := (List.range 20).all (fun j => decide (lkp rs j = rX k i j)) && rs.all (fun q => decide (q.1 < 20))
def ckS : Nat → List Ob → List Nat → List Nat → Bool
  | i, o :: t, k :: ks, l :: ls => decide (o.1 = k) && (decide (o.2.1 = l) && (rfok i k o.2.2 && ckS (i + 1) t ks ls))
  | _, [], [], [] => true
  | _, _, _, _ => false
theorem ckS_at : ∀ {i : Nat} {t : List Ob} {ks ls : List Nat}, ckS i t ks ls = true → ∀ m o, t[m]? = some o → o.1 = ks.getD m 99 ∧ o.2.1 = ls.getD m 0 ∧ rfok (i + m) o.1 o.2.2 = true
  | i, o :: t, k :: ks, l :: ls, h, m, o2, hm => by
    unfold ckS at h
    simp only [Bool.and_eq_true] at h
    obtain ⟨h1, h2, h3, h4⟩ := h
    have h1 := of_decide_eq_true h1
    have h2 := of_decide_eq_true h2
    cases m with
    | zero =>
      simp at hm
      subst hm
      subst h1
      exact ⟨rfl, h2, h3⟩
    | succ m =>
      have hm : t[m]? = some o2 := by simpa using hm
      obtain ⟨a, b, c⟩ := ckS_at h4 m o2 hm
      refine ⟨by simpa using a, by simpa using b, ?_⟩
      rw [show i + (m + 1) = i + 1 + m by omega]
      exact c
  | i, [], _, _, _, m, o2, hm => by simp at hm
  | i, o :: t, [], _, h, m, o2, hm => by
    unfold ckS at h
    cases h
  | i, o :: t, k :: ks, [], h, m, o2, hm => by
    unfold ckS at h
    cases h
theorem lkp_no {rs : List (Nat × Nat)} {n j : Nat} (h : rs.all (fun q => decide (q.1 < n)) = true) (hj : n ≤ j) : lkp rs j = none := by
  cases e : lkp rs j with
  | none => rfl
  | some y =>
    have := of_decide_eq_true (List.all_eq_true.mp h _ (lookup_in e))
    have : j < n := this
    omega
theorem rX_no {k x j : Nat} (hj : 20 ≤ j) : rX k x j = none := by
  unfold rX
  by_cases c : k < 11
  · rw [if_pos c, if_pos (offT_no k c j (by omega))]
  · rw [if_neg c, if_neg (show ¬ j < 16 by omega), if_neg (show ¬ j < 6 by omega)]
    split
    · rfl
    · split <;> rfl
theorem ckC : ckS 0 (bd10 0) kcs lcs = true := by decide +kernel
theorem shl_SC : shl (bd10 0) = SC := by
  have g : ∀ i, i < 1535 → ∃ o, (bd10 0)[i]? = some o := fun i hi => ⟨_, List.getElem?_eq_getElem (by rw [len_bd10]; exact hi)⟩
  have n : ∀ i, ¬ i < 1535 → (bd10 0)[i]? = none := fun i hi => List.getElem?_eq_none (by rw [len_bd10]; omega)
  have k9 : ∀ i, ¬ i < 1535 → kC i = 99 := fun i hi => by
    unfold kC
    rw [List.getD_eq_getElem?_getD, List.getElem?_eq_none (by rw [kcs_len]; omega)]
    rfl
  have e1 : obK (bd10 0) = kC := funext fun i => by
    unfold obK
    by_cases c : i < 1535
    · obtain ⟨o, ho⟩ := g i c
      rw [ho]
      exact (ckS_at ckC i o ho).1
    · rw [n i c, k9 i c]
  have e2 : obL (bd10 0) = lC := funext fun i => by
    unfold obL
    by_cases c : i < 1535
    · obtain ⟨o, ho⟩ := g i c
      rw [ho]
      exact (ckS_at ckC i o ho).2.1
    · rw [n i c]
      unfold lC
      rw [List.getD_eq_getElem?_getD, List.getElem?_eq_none (by rw [lcs_len]; omega)]
      rfl
  have e3 : obR (bd10 0) = rC := funext fun i => funext fun j => by
    unfold obR
    by_cases c : i < 1535
    · obtain ⟨o, ho⟩ := g i c
      obtain ⟨z1, z2, z3⟩ := ckS_at ckC i o ho
      rw [ho, rC_X, show kC i = o.1 from z1.symm]
      show lkp o.2.2 j = _
      unfold rfok at z3
      rw [Bool.and_eq_true] at z3
      rw [Nat.zero_add] at z3
      by_cases cj : j < 20
      · exact of_decide_eq_true (List.all_eq_true.mp z3.1 j (List.mem_range.mpr cj))
      · rw [lkp_no z3.2 (by omega), rX_no (by omega)]
    · rw [n i c, rC_X, k9 i c]
      unfold rX
      rw [if_neg (by decide), if_neg (by decide), if_neg (by decide)]
  unfold shl SC
  rw [e1, e2, e3, len_bd10]
theorem ckM : ∀ i, i < 25 → obK (bd11 0) i = kM i ∧ obL (bd11 0) i = lms.getD i 0 ∧ (∀ j, j < 60 → obR (bd11 0) i j = rM i j) := by decide +kernel
theorem ckM2 : (bd11 0).all (fun o => o.2.2.all (fun q => decide (q.1 < 60))) = true := by decide +kernel
theorem shl_SM : shl (bd11 0) = SM := by
  have n : ∀ i, ¬ i < 25 → (bd11 0)[i]? = none := fun i hi => List.getElem?_eq_none (by rw [len_bd11]; omega)
  have e1 : obK (bd11 0) = kM := funext fun i => by
    by_cases c : i < 25
    · exact (ckM i c).1
    · unfold obK kM
      rw [n i c, if_neg (by omega), if_neg c]
  have e2 : obL (bd11 0) = fun x => lms.getD x 0 := funext fun i => by
    by_cases c : i < 25
    · exact (ckM i c).2.1
    · unfold obL
      rw [n i c, List.getD_eq_getElem?_getD, List.getElem?_eq_none (show lms.length ≤ i by show 25 ≤ i; omega)]
      rfl
  have e3 : obR (bd11 0) = rM := funext fun i => funext fun j => by
    by_cases c : i < 25
    · by_cases cj : j < 60
      · exact (ckM i c).2.2 j cj
      · have z : rM i j = none := by
          unfold rM
          rw [List.getD_eq_getElem?_getD, List.getElem?_eq_none (show offM.length ≤ j by show 51 ≤ j; omega)]
          split
          · rfl
          · rfl
        rw [z]
        unfold obR
        cases e : (bd11 0)[i]? with
        | none => rfl
        | some o => exact lkp_no (List.all_eq_true.mp ckM2 o (List.mem_of_getElem? e)) (by omega)
    · unfold obR rM
      rw [n i c, if_neg (by omega)]
  unfold shl SM
  rw [e1, e2, e3, len_bd11]
