/-! THE CLASS: a letter removed, a line of the book -/
theorem oC_let {c q k p : Nat} (h : pot c q k) (h1 : ownC c) (h2 : 24 + 9 * p ≤ oC c q k) (h3 : oC c q k ≤ 29 + 9 * p) : (6 ≤ c ∧ c ≤ 10) ∧ q = p := by
  revert h1 h2 h3
  refine pot_cases (Z := fun c q k => ownC c → 24 + 9 * p ≤ oC c q k → oC c q k ≤ 29 + 9 * p → (6 ≤ c ∧ c ≤ 10) ∧ q = p) h ?h0 ?h01 ?h02 ?h03 ?h04 ?h05 ?h06 ?h07 ?h08 ?h09 ?h10 ?h11 ?h12 ?h13 ?h14 ?h15 ?h2 ?h3 ?h4 ?h5 ?h6 ?h7 ?h8 ?h9 ?hX ?hv11 ?hv12 ?hv13 ?hv14 ?hw15 ?hw16 ?hw17 ?hw18 ?hr ?h21 ?h22 ?hb23 ?hb24 ?hb25 ?hb26 ?hb27
  case h21 => exact fun p _ h1 => absurd rfl h1.1
  case h22 => exact fun p _ h1 => absurd rfl h1.2
  all_goals (intros; rename_i h2 h3; simp only [oC, Nat.reduceEqDiff, if_true, if_false] at h2 h3; omega)
theorem oC_way {c q k : Nat} (h : pot c q k) (h1 : ownC c) (h2 : 7 ≤ oC c q k) (h3 : oC c q k ≤ 12) : (15 ≤ c ∧ c ≤ 18) ∨ (c = 0 ∧ k = 2) := by
  revert h1 h2 h3
  refine pot_cases (Z := fun c q k => ownC c → 7 ≤ oC c q k → oC c q k ≤ 12 → (15 ≤ c ∧ c ≤ 18) ∨ (c = 0 ∧ k = 2)) h ?h0 ?h01 ?h02 ?h03 ?h04 ?h05 ?h06 ?h07 ?h08 ?h09 ?h10 ?h11 ?h12 ?h13 ?h14 ?h15 ?h2 ?h3 ?h4 ?h5 ?h6 ?h7 ?h8 ?h9 ?hX ?hv11 ?hv12 ?hv13 ?hv14 ?hw15 ?hw16 ?hw17 ?hw18 ?hr ?h21 ?h22 ?hb23 ?hb24 ?hb25 ?hb26 ?hb27
  case h21 => exact fun p _ h1 => absurd rfl h1.1
  case h22 => exact fun p _ h1 => absurd rfl h1.2
  all_goals (intros; rename_i h2 h3; simp only [oC, Nat.reduceEqDiff, if_true, if_false] at h2 h3; omega)
section
variable {V : VS} {p i c q k : Nat}
theorem remV_o (h : ¬ (6 ≤ c ∧ c ≤ 10 ∧ q = p)) : remV V p i c q k = V c q k := by
  unfold remV
  rw [if_neg (by omega), if_neg (by omega)]
theorem remV_6 : remV V p i 6 q 0 = if q = p then V 6 p 0 - 1 else V 6 q 0 := by
  unfold remV
  rw [if_neg (by omega)]
  by_cases e : q = p
  · rw [if_pos ⟨rfl, e, rfl⟩, if_pos e]
  · rw [if_neg (by omega), if_neg e]
theorem remV_l (h : 7 ≤ c ∧ c ≤ 10) : remV V p i c p k = if i ≤ k then V c p (k + 1) else V c p k := by
  unfold remV
  by_cases e : i ≤ k
  · rw [if_pos ⟨h, rfl, e⟩, if_pos e]
  · rw [if_neg (by omega), if_neg (by omega), if_neg e]
theorem live_rem (h : live (remV V p i) c q k) : live V c q k := by
  refine live_sub h (remV_o (by omega)) (Nat.le_of_eq (remV_o (by omega))) ?_ (Nat.le_of_eq (remV_o (by omega))) (Nat.le_of_eq (remV_o (by omega))) (Nat.le_of_eq (remV_o (by omega)))
  rw [remV_6]
  split
  · rename_i e
    rw [e]
    omega
  · omega
theorem live_let (h : live V c q k) (hc : 7 ≤ c ∧ c ≤ 10) : q < V 0 0 0 ∧ k < V 6 q 0 := by
  unfold live at h
  omega
end
theorem c_remP {μ : Mm} {w : Nat} {V : VS} {p i : Nat} (h : HC μ w V) (hp : p < V 0 0 0) (hi : i < V 6 p 0) : ∃ μ2, Letters_remove (w + (21 + 9 * p) + 3) (nI i) μ = some μ2 ∧ HC μ2 w (remV V p i) ∧ Out (inW w) μ μ2 := by
  have p16 : p < 16 := Nat.lt_of_lt_of_le hp h.P16
  have m3 := h.h3 hp
  obtain ⟨l1, l2, l3, l4, l5⟩ := h.lens p16
  refine ⟨_, c_lrem (h.hc hp) hi m3 (by decide) l1 l2 l3 l4 l5, ⟨?_, h.2.1, ?_⟩, ?_⟩
  · intro c q k hl
    have hl2 := live_rem hl
    have hpo := pot_of h hl2
    refine ⟨hpo, fun ho => ?_⟩
    have hv := (h.1 c q k hl2).2 ho
    show (if _ then _ else if _ then _ else _) = _
    by_cases hc : (6 ≤ c ∧ c ≤ 10) ∧ q = p
    · obtain ⟨hc, rfl⟩ := hc
      by_cases h6 : c = 6
      · subst h6
        have hk : k = 0 := by unfold pot at hpo; omega
        subst hk
        rw [if_neg (by simp only [oC]; omega), if_pos ⟨by simp only [oC]; omega, rfl⟩, remV_6, if_pos rfl]
        rfl
      · have hc2 : 7 ≤ c ∧ c ≤ 10 := by omega
        have hk := (live_let hl hc2).2
        rw [remV_6, if_pos rfl] at hk
        have : c = 7 ∨ c = 8 ∨ c = 9 ∨ c = 10 := by omega
        rw [remV_l hc2]
        by_cases hik : i ≤ k
        · have hl3 : live V c q (k + 1) := Or.inr (Or.inr (Or.inr (Or.inr (Or.inl ⟨hc2.1, hc2.2, hp, by omega⟩))))
          have hv3 := (h.1 c q (k + 1) hl3).2 ho
          rw [if_pos hik]
          rcases this with rfl | rfl | rfl | rfl
          · rw [if_pos ⟨by simp only [oC]; omega, hik, by simp only [pC]; omega⟩]
            exact hv3
          · rw [if_pos ⟨by simp only [oC]; omega, hik, by simp only [pC]; omega⟩]
            exact hv3
          · rw [if_pos ⟨by simp only [oC]; omega, hik, by simp only [pC]; omega⟩]
            exact hv3
          · rw [if_pos ⟨by simp only [oC]; omega, hik, by simp only [pC]; omega⟩]
            exact hv3
        · rw [if_neg hik]
          rcases this with rfl | rfl | rfl | rfl
          · rw [if_neg (by simp only [pC]; omega), if_neg (by simp only [oC]; omega)]
            exact hv
          · rw [if_neg (by simp only [pC]; omega), if_neg (by simp only [oC]; omega)]
            exact hv
          · rw [if_neg (by simp only [pC]; omega), if_neg (by simp only [oC]; omega)]
            exact hv
          · rw [if_neg (by simp only [pC]; omega), if_neg (by simp only [oC]; omega)]
            exact hv
    · have hn : ¬ (24 + 9 * p ≤ oC c q k ∧ oC c q k ≤ 29 + 9 * p) := fun z => hc (oC_let hpo ho z.1 z.2)
      rw [if_neg (by omega), if_neg (by omega), remV_o (by omega)]
      exact hv
  · intro q hq
    rw [remV_o (by omega)] at hq
    rw [remV_o (by omega), remV_o (by omega)]
    exact h.2.2 q hq
  · refine fun o ho => ⟨fun k => ?_, fun k => rfl⟩
    unfold inW at ho
    show (if _ then _ else if _ then _ else _) = _
    rw [if_neg (by omega), if_neg (by omega)]
/-- the i-th is not on the way any more -/
def wremV (V : VS) (i : Nat) : VS := fun c2 p2 k => if (15 ≤ c2 ∧ c2 ≤ 18) ∧ p2 = 0 ∧ i ≤ k then V c2 p2 (k + 1) else if c2 = 0 ∧ p2 = 0 ∧ k = 2 then V 0 0 2 - 1 else V c2 p2 k
theorem c_remW {μ : Mm} {w : Nat} {V : VS} {i : Nat} (h : HC μ w V) (hi : i < V 0 0 2) : ∃ μ2, Letters_remove (w + 7) (nI i) μ = some μ2 ∧ HC μ2 w (wremV V i) ∧ Out (inW w) μ μ2 := by
  have m60 := h.w60
  obtain ⟨l1, l2, l3, l4, l5⟩ := h.lenw
  have ro : ∀ {c q k : Nat}, ¬ (15 ≤ c ∧ c ≤ 18) → ¬ (c = 0 ∧ k = 2) → wremV V i c q k = V c q k := by
    intro c q k h1 h2
    unfold wremV
    rw [if_neg (by omega), if_neg (by omega)]
  have r2 : wremV V i 0 0 2 = V 0 0 2 - 1 := rfl
  refine ⟨_, c_lrem h.wn hi m60 (by decide) l1 l2 l3 l4 l5, ⟨?_, h.2.1, ?_⟩, ?_⟩
  · intro c q k hl
    have hl2 : live V c q k := live_sub hl (ro (by omega) (by omega)) (Nat.le_of_eq (ro (by omega) (by omega))) (Nat.le_of_eq (ro (by omega) (by omega))) (Nat.le_of_eq (ro (by omega) (by omega))) (by rw [r2]; omega) (Nat.le_of_eq (ro (by omega) (by omega)))
    have hpo := pot_of h hl2
    refine ⟨hpo, fun ho => ?_⟩
    have hv := (h.1 c q k hl2).2 ho
    show (if _ then _ else if _ then _ else _) = _
    by_cases hc : 15 ≤ c ∧ c ≤ 18
    · have hk : q = 0 ∧ k < V 0 0 2 - 1 := by
        unfold live at hl
        rw [r2] at hl
        omega
      obtain ⟨rfl, hk⟩ := hk
      have : c = 15 ∨ c = 16 ∨ c = 17 ∨ c = 18 := by omega
      by_cases hik : i ≤ k
      · have hl3 : live V c 0 (k + 1) := Or.inr (Or.inr (Or.inr (Or.inr (Or.inr (Or.inr (Or.inl ⟨hc.1, hc.2, rfl, by omega⟩))))))
        have hv3 := (h.1 c 0 (k + 1) hl3).2 ho
        rw [show wremV V i c 0 k = V c 0 (k + 1) from if_pos ⟨hc, rfl, hik⟩]
        rcases this with rfl | rfl | rfl | rfl
        · rw [if_pos ⟨by simp only [oC]; omega, hik, by simp only [pC]; omega⟩]
          exact hv3
        · rw [if_pos ⟨by simp only [oC]; omega, hik, by simp only [pC]; omega⟩]
          exact hv3
        · rw [if_pos ⟨by simp only [oC]; omega, hik, by simp only [pC]; omega⟩]
          exact hv3
        · rw [if_pos ⟨by simp only [oC]; omega, hik, by simp only [pC]; omega⟩]
          exact hv3
      · rw [show wremV V i c 0 k = V c 0 k by unfold wremV; rw [if_neg (by omega), if_neg (by omega)]]
        rcases this with rfl | rfl | rfl | rfl
        · rw [if_neg (by simp only [pC]; omega), if_neg (by simp only [oC]; omega)]
          exact hv
        · rw [if_neg (by simp only [pC]; omega), if_neg (by simp only [oC]; omega)]
          exact hv
        · rw [if_neg (by simp only [pC]; omega), if_neg (by simp only [oC]; omega)]
          exact hv
        · rw [if_neg (by simp only [pC]; omega), if_neg (by simp only [oC]; omega)]
          exact hv
    · by_cases hc2 : c = 0 ∧ k = 2
      · obtain ⟨rfl, rfl⟩ := hc2
        have hq : q = 0 := by unfold pot at hpo; omega
        subst hq
        rw [show oC 0 0 2 = 7 from rfl, show pC 0 2 = 5 from rfl, if_neg (show ¬ ((w + 7 + 1 ≤ w + 7 ∧ w + 7 ≤ w + 7 + 5) ∧ i ≤ 5 ∧ 5 < V 0 0 2 - 1) by omega), if_pos ⟨rfl, rfl⟩]
        rfl
      · have hn : ¬ (7 ≤ oC c q k ∧ oC c q k ≤ 12) := fun z => (oC_way hpo ho z.1 z.2).elim hc hc2
        rw [if_neg (by omega), if_neg (by omega), ro hc hc2]
        exact hv
  · intro q hq
    rw [ro (by omega) (by omega)] at hq
    rw [ro (by omega) (by omega), ro (by omega) (by omega)]
    exact h.2.2 q hq
  · refine fun o ho => ⟨fun k => ?_, fun k => rfl⟩
    unfold inW at ho
    show (if _ then _ else if _ then _ else _) = _
    rw [if_neg (by omega), if_neg (by omega)]
