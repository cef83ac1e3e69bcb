/-! TO PICK; to tell the STATE; a version told -/
def pkOK (V : VS) (n : Nat) (pv : Nat → Nat) (v : Int32) : Bool := bnI (V 0 0 1) v && (decide (n < 8) && !anyB (fun i => decide (pv i = ix v)) n)
theorem c_pick0 {μ : Mm} : Nine_pick (-1) μ = some (nI 0, sti μ 181 1 (nI 0)) := by
  unfold Nine_pick Nine_pick_j54
  rw [if_pos rfl, lt_eq, sti_1, if_pos ⟨rfl, rfl⟩]
theorem m_pick0 {ν : Mm} : M_pick (-1) ν = some (nI 0, sti (sti ν 0 0 (nI 0)) 0 17 (nI 0)) := by
  unfold M_pick
  rw [lt_eq, if_pos rfl, lt_eq]
theorem c_find {μ : Mm} {V : VS} {n j : Nat} {pv : Nat → Nat} (hp : pickC μ 181 n pv) (hB : pickB V n pv) (hv : V 0 0 1 ≤ 40) (hj : j < V 0 0 1) : iter 1000000 (fun s => Picks_canTake_l2 181 (nI j) s μ) (nI 0) = some (if anyB (fun i => decide (pv i = j)) n = true then Sum.inl () else Sum.inr ()) := by
  have n8 := hB.1
  have hb := hB.2
  refine loop_find (f := fun s => Picks_canTake_l2 181 (nI j) s μ) (b := fun i => decide (pv i = j)) (N := n) (by omega) (fun k hk hx => ?_) (fun k hk hx => ?_) ?_
  · have hx := of_decide_eq_true hx
    show Picks_canTake_l2 _ _ _ _ = _
    unfold Picks_canTake_l2
    rw [hp.1, if_neg (nI_ge hk (by omega)), chv_nI (by omega) (by decide), ix_nI (by omega), hp.2 k hk, if_pos (by rw [hx])]
  · have hx := of_decide_eq_false hx
    have l1 := hb k hk
    show Picks_canTake_l2 _ _ _ _ = _
    unfold Picks_canTake_l2
    rw [hp.1, if_neg (nI_ge hk (by omega)), chv_nI (by omega) (by decide), ix_nI (by omega), hp.2 k hk, if_neg (fun z => hx ((nI_eq (by omega) (by omega)).1 z)), nI_add]
  · show Picks_canTake_l2 _ _ _ _ = _
    unfold Picks_canTake_l2
    rw [hp.1, if_pos (nI_le (Nat.le_refl _) (by omega))]
theorem m_find {ν : Mm} {V : VS} {n j : Nat} {pv : Nat → Nat} (hp : pickM ν n pv) (hB : pickB V n pv) (hv : V 0 0 1 ≤ 40) (hj : j < V 0 0 1) : iter 1000000 (fun s => M_pick_l38 (nI j) s ν) (nI 0) = some (if anyB (fun i => decide (pv i = j)) n = true then Sum.inl () else Sum.inr ()) := by
  have n8 := hB.1
  have hb := hB.2
  refine loop_find (f := fun s => M_pick_l38 (nI j) s ν) (b := fun i => decide (pv i = j)) (N := n) (by omega) (fun k hk hx => ?_) (fun k hk hx => ?_) ?_
  · have hx := of_decide_eq_true hx
    show M_pick_l38 _ _ _ = _
    unfold M_pick_l38
    rw [hp.1, if_neg (nI_ge hk (by omega)), chv_nI (by omega) (by decide), ix_nI (by omega), hp.2 k hk, if_pos (by rw [hx])]
  · have hx := of_decide_eq_false hx
    have l1 := hb k hk
    show M_pick_l38 _ _ _ = _
    unfold M_pick_l38
    rw [hp.1, if_neg (nI_ge hk (by omega)), chv_nI (by omega) (by decide), ix_nI (by omega), hp.2 k hk, if_neg (fun z => hx ((nI_eq (by omega) (by omega)).1 z)), nI_add]
  · show M_pick_l38 _ _ _ = _
    unfold M_pick_l38
    rw [hp.1, if_pos (nI_le (Nat.le_refl _) (by omega))]
theorem c_pick {μ : Mm} {V : VS} {n : Nat} {pv : Nat → Nat} {v : Int32} (h : HC μ 1 V) (hp : pickC μ 181 n pv) (hB : pickB V n pv) (hv : ¬ v = -1) : Nine_pick v μ = if pkOK V n pv v = true then some (nI (n + 1), sti (sti μ 182 n v) 181 1 (nI (n + 1))) else some (-1, μ) := by
  have v40 := h.v40
  have n8 := hB.1
  have hh : Versions_has 3 v μ = _ := c_hasV h v
  unfold Nine_pick Nine_pick_j54 pkOK
  rw [if_neg hv, hh, bnd_eq]
  by_cases c1 : bnI (V 0 0 1) v = true
  · obtain ⟨j, hj, rfl⟩ := bnI_some (by omega) c1
    rw [if_pos c1, if_neg (by decide), c1, Bool.true_and, ix_nI (by omega)]
    unfold Picks_canTake
    rw [c_find hp hB v40 hj, bni_eq]
    by_cases c2 : anyB (fun i => decide (pv i = j)) n = true
    · rw [if_pos c2, c2, if_neg (show ¬ ((decide (n < 8) && !true) = true) by simp)]
      rfl
    · rw [if_neg c2, show anyB (fun i => decide (pv i = j)) n = false by simpa using c2]
      show bnd (if nI 8 ≤ μ.1 181 1 then _ else _) _ = _
      rw [hp.1]
      by_cases c3 : n < 8
      · rw [if_neg (nI_ge c3 (by decide)), bnd_eq, if_neg (by decide), if_pos (by simp [c3])]
        unfold Picks_take
        rw [hp.1, if_neg (nI_ge c3 (by decide)), chv_nI (by omega) (by decide), ix_nI (by omega), lt_eq, sti_1, if_neg (fun z => absurd z.1 (by decide)), hp.1, nI_add, lt_eq, bnd_eq, sti_1, if_pos ⟨rfl, rfl⟩]
      · rw [if_pos (nI_le (by omega) (by omega)), bnd_eq, if_pos (by decide), if_neg (by simp [c3])]
  · rw [if_neg c1, if_pos (by decide), show bnI (V 0 0 1) v = false by simpa using c1, Bool.false_and, if_neg (by decide)]
theorem m_pick {ν : Mm} {V : VS} {n : Nat} {pv : Nat → Nat} {v : Int32} (h : HM ν 0 V) (hp : pickM ν n pv) (hB : pickB V n pv) (hv : ¬ v = -1) : M_pick v ν = if pkOK V n pv v = true then some (nI (n + 1), sti (sti (sti ν 0 0 (nI 0)) 9 n v) 0 17 (nI (n + 1))) else some (-1, sti ν 0 0 (nI 0)) := by
  have h' := h.told (nI 0)
  have v40 := h.v40
  have n8 := hB.1
  have hp' : pickM (sti ν 0 0 (nI 0)) n pv := hp
  unfold M_pick pkOK
  rw [lt_eq, if_neg hv, m_hasV h' v, bnd_eq]
  by_cases c1 : bnI (V 0 0 1) v = true
  · obtain ⟨j, hj, rfl⟩ := bnI_some (by omega) c1
    rw [if_pos c1, if_neg (by decide), c1, Bool.true_and, ix_nI (by omega), hp'.1]
    by_cases c3 : n < 8
    · rw [if_neg (fun z => by have := (nI_eq (by omega) (by decide)).1 z; omega), m_find hp' hB v40 hj, bni_eq]
      by_cases c2 : anyB (fun i => decide (pv i = j)) n = true
      · rw [if_pos c2, c2, if_neg (show ¬ ((decide (n < 8) && !true) = true) by simp)]
        rfl
      · rw [if_neg c2, show anyB (fun i => decide (pv i = j)) n = false by simpa using c2, if_pos (by simp [c3])]
        show chv (nI n) 8 _ = _
        rw [chv_nI (by omega) (by decide), ix_nI (by omega), lt_eq, sti_1, if_neg (fun z => absurd z.1 (by decide)), hp'.1, nI_add, lt_eq, sti_1, if_pos ⟨rfl, rfl⟩]
    · rw [if_pos (by rw [show n = 8 by omega]), if_neg (by simp [c3])]
  · rw [if_neg c1, if_pos (by decide), show bnI (V 0 0 1) v = false by simpa using c1, Bool.false_and, if_neg (by decide)]
/-- what an act that empties the past may change -/
def Act (μ μ2 : Mm) : Prop := μ2.1 0 8 = nI 0 ∧ (∀ k, k ≠ 8 → μ2.1 0 k = μ.1 0 k) ∧ Out (fun o => o = 0 ∨ inW 1 o) μ μ2
def EA (o k : Nat) : Prop := o = 1 ∨ (4 ≤ o ∧ o ≤ 8) ∨ (o = 0 ∧ (k = 0 ∨ k = 3 ∨ k = 6 ∨ k = 10 ∨ (13 ≤ k ∧ k ≤ 16)))
theorem HC.past {μ : Mm} {V : VS} (h : HC μ 1 V) (x : Int32) : HC (sti μ 0 8 x) 1 V := h.out (Out.rf.sti (E := fun o => o = 0) rfl) (fun o z y => by
  have := z.1
  omega)
theorem HM.past {ν : Mm} {th : Nat} {V : VS} (h : HM ν th V) (v : Int32) : HM (sti ν 0 3 v) th V := h.out (OutM.rf.sti (E := fun o k => o = 0 ∧ k = 3) ⟨rfl, rfl⟩) (fun o k z y => by
  unfold cellN cellM at z
  omega)
theorem c_state {μ : Mm} {V : VS} (h : HC μ 1 V) (v : Int32) : ∃ μ2, Nine_state v μ = some (nI (V 0 0 8), μ2) ∧ HC μ2 1 (vset V 0 0 8 (uN v)) ∧ Act μ μ2 := by
  obtain ⟨g1, g2⟩ := h.put1 0 0 8 (uN v) (o := 1) (k := 6) (v := v) (live_0 (by decide)) rfl rfl (by rw [show eC 0 (uN v) = nI (uN v) from rfl, nI_uN]) (by unfold ownC; omega) (by omega)
  refine ⟨sti (sti μ 1 6 v) 0 8 (nI 0), ?_, g1.past _, ?_, fun k hk => ?_, ?_⟩
  · unfold Nine_state Nine_forgetBefore
    rw [lt_eq, lt_eq, bnd_eq, h.st]
  · rw [sti_1, if_pos ⟨rfl, rfl⟩]
  · rw [sti_1, if_neg (fun z => hk z.2), sti_1, if_neg (fun z => absurd z.1 (by decide))]
  · exact (g2.mono (fun o z => Or.inr z)).sti (Or.inl rfl)
theorem m_state {ν : Mm} {V : VS} (h : HM ν 0 V) (v : Int32) : ∃ ν2, M_state v ν = some (nI (V 0 0 8), ν2) ∧ HM ν2 0 (vset V 0 0 8 (uN v)) ∧ ν2.1 0 3 = nI 0 ∧ OutM EA ν ν2 := by
  have h' := h.told (nI 0)
  have g1 := h'.put1 0 0 8 (uN v) (o := 1) (k := 1) (v := v) (live_0 (by decide)) rfl rfl (by rw [show eM 0 8 (uN v) = nI (uN v) from rfl, nI_uN]) (by unfold own3; omega) (by omega)
  refine ⟨sti (sti (sti ν 0 0 (nI 0)) 1 1 v) 0 3 (nI 0), ?_, g1.past _, ?_, ?_⟩
  · unfold M_state
    rw [lt_eq, chv_nI (by decide) (by decide), chv_nI (by decide) (by decide), ix_nI (by decide), lt_eq, lt_eq, h'.st]
  · rw [sti_1, if_pos ⟨rfl, rfl⟩]
  · exact ((OutM.rf.sti (Or.inr (Or.inr ⟨rfl, Or.inl rfl⟩))).sti (Or.inl rfl)).sti (Or.inr (Or.inr ⟨rfl, Or.inr (Or.inl rfl)⟩))
