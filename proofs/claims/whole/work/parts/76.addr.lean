/-! AN ADDRESS: rows of people made shorter, longer -/
theorem HC.shr {μ : Mm} {w : Nat} {V : VS} {p x : Nat} (h : HC μ w V) (hp : p < V 0 0 0) (hx : x ≤ V 3 p 0) : HC (sti μ (w + (21 + 9 * p)) 3 (nI x)) w (vset V 3 p 0 x) := by
  have hpt : pot 3 p 0 := pot_of h (live_p hp (by omega))
  refine ⟨HP.mono (h.1.put 3 p 0 x hpt rfl rfl rfl (by unfold ownC; omega)) (fun c q k hl => ?_) (fun _ _ _ _ _ => rfl), h.2.1, fun q hq => ?_⟩
  · refine Or.inr (live_sub hl (vset_ne (by omega)) ?_ (by rw [vset_ne (by omega)]; omega) (by rw [vset_ne (by omega)]; omega) (by rw [vset_ne (by omega)]; omega) (by rw [vset_ne (by omega)]; omega))
    rw [vset_at]
    split
    · rename_i z
      rw [z.2.1]
      exact hx
    · omega
  · rw [vset_ne (by omega)] at hq
    rw [vset_ne (by omega), vset_ne (by omega)]
    exact h.2.2 q hq
theorem HC.grow {μ : Mm} {w : Nat} {V : VS} {p y : Nat} (h : HC μ w V) (hp : p < V 0 0 0) (h9 : V 3 p 0 < 9) : HC (sti (sti μ (w + (21 + 9 * p) + 2) (V 3 p 0) (nI y)) (w + (21 + 9 * p)) 3 (nI (V 3 p 0 + 1))) w (vset (vset V 2 p (V 3 p 0) y) 3 p 0 (V 3 p 0 + 1)) := by
  have P16 := h.P16
  have hpt : pot 3 p 0 := pot_of h (live_p hp (by omega))
  have hp2 : pot 2 p (V 3 p 0) := Or.inr (Or.inr (Or.inl ⟨rfl, by omega, h9⟩))
  have g1 := h.1.put 2 p (V 3 p 0) y (o := w + (21 + 9 * p) + 2) (k := V 3 p 0) (v := nI y) hp2 (by show _ = w + (23 + 9 * p); omega) rfl rfl (by unfold ownC; omega)
  have g2 := g1.put 3 p 0 (V 3 p 0 + 1) (o := w + (21 + 9 * p)) (k := 3) (v := nI (V 3 p 0 + 1)) hpt rfl rfl rfl (by unfold ownC; omega)
  refine ⟨HP.mono g2 (fun c q k hl => ?_) (fun _ _ _ _ _ => rfl), h.2.1, fun q hq => ?_⟩
  · rcases live_diff hl (show _ = V 0 0 0 by rw [vset_ne (by omega), vset_ne (by omega)]) with z | z | z | z | z | z
    · exact Or.inr (Or.inr z)
    · obtain ⟨rfl, z1, z2, z3⟩ := z
      rw [vset_at] at z3
      split at z3
      · rename_i e
        obtain ⟨_, rfl, _⟩ := e
        exact Or.inr (Or.inl ⟨rfl, rfl, by omega⟩)
      · rw [vset_ne (by omega)] at z3
        omega
    · have z5 := z.2.2.2.2
      rw [vset_ne (by omega), vset_ne (by omega)] at z5
      omega
    · have z5 := z.2.2.2.2
      rw [vset_ne (by omega), vset_ne (by omega)] at z5
      omega
    · have z5 := z.2.2.2.2
      rw [vset_ne (by omega), vset_ne (by omega)] at z5
      omega
    · have z5 := z.2.2.2.2
      rw [vset_ne (by omega), vset_ne (by omega)] at z5
      omega
  · rw [vset_ne (by omega), vset_ne (by omega)] at hq
    rw [vset_ne (by omega), vset_ne (by omega), vset_ne (by omega), vset_ne (by omega)]
    exact h.2.2 q hq
theorem m_shr {ν : Mm} {V : VS} {p x : Nat} (h : HM ν 0 V) (hp : p < V 0 0 0) (hx : x ≤ V 3 p 0) : HM (sti ν 7 p (nI x)) 0 (vset V 3 p 0 x) := by
  have P16 := h.P16
  have hpt : pot 3 p 0 := h.pot (live_p hp (by omega)) (by omega) (by omega)
  refine h.of ?_ (vset_ne (by omega)) (fun p => vset_ne (by omega)) (vset_ne (by omega)) (sti_n (by omega)) (sti_n (by omega)) (sti_n (by omega))
  refine HN.mono (h.1.put 3 p 0 x hpt rfl rfl rfl (by unfold own3; omega)) (fun c q k hl => ?_) (fun _ _ _ _ _ => rfl)
  refine Or.inr ⟨live_sub hl.1 (vset_ne (by omega)) ?_ (by rw [vset_ne (by omega)]; omega) (by rw [vset_ne (by omega)]; omega) (by rw [vset_ne (by omega)]; omega) (by rw [vset_ne (by omega)]; omega), hl.2⟩
  rw [vset_at]
  split
  · rename_i z
    rw [z.2.1]
    exact hx
  · omega
theorem m_grow {ν : Mm} {V : VS} {p y : Nat} (h : HM ν 0 V) (hp : p < V 0 0 0) (h9 : V 3 p 0 < 9) : HM (sti (sti ν 8 (9 * p + V 3 p 0) (nI y)) 7 p (nI (V 3 p 0 + 1))) 0 (vset (vset V 2 p (V 3 p 0) y) 3 p 0 (V 3 p 0 + 1)) := by
  have P16 := h.P16
  have hpt : pot 3 p 0 := h.pot (live_p hp (by omega)) (by omega) (by omega)
  have hp2 : pot 2 p (V 3 p 0) := Or.inr (Or.inr (Or.inl ⟨rfl, by omega, h9⟩))
  have g1 := h.1.put 2 p (V 3 p 0) y (o := 8) (k := 9 * p + V 3 p 0) (v := nI y) hp2 rfl rfl rfl (by unfold own3; omega)
  have g2 := g1.put 3 p 0 (V 3 p 0 + 1) (o := 7) (k := p) (v := nI (V 3 p 0 + 1)) hpt rfl rfl rfl (by unfold own3; omega)
  refine h.of ?_ (by rw [vset_ne (by omega), vset_ne (by omega)]) (fun p => by rw [vset_ne (by omega), vset_ne (by omega)]) (by rw [vset_ne (by omega), vset_ne (by omega)]) (by rw [sti_n (by omega), sti_n (by omega)]) (by rw [sti_n (by omega), sti_n (by omega)]) (by rw [sti_n (by omega), sti_n (by omega)])
  refine HN.mono g2 (fun c q k hl => ?_) (fun _ _ _ _ _ => rfl)
  rcases live_diff hl.1 (show _ = V 0 0 0 by rw [vset_ne (by omega), vset_ne (by omega)]) with z | z | z | z | z | z
  · exact Or.inr (Or.inr ⟨z, hl.2⟩)
  · obtain ⟨rfl, z1, z2, z3⟩ := z
    rw [vset_at] at z3
    split at z3
    · rename_i e
      obtain ⟨_, rfl, _⟩ := e
      exact Or.inr (Or.inl ⟨rfl, rfl, by omega⟩)
    · rw [vset_ne (by omega)] at z3
      omega
  · have z5 := z.2.2.2.2
    rw [vset_ne (by omega), vset_ne (by omega)] at z5
    omega
  · have z5 := z.2.2.2.2
    rw [vset_ne (by omega), vset_ne (by omega)] at z5
    omega
  · have z5 := z.2.2.2.2
    rw [vset_ne (by omega), vset_ne (by omega)] at z5
    omega
  · have z5 := z.2.2.2.2
    rw [vset_ne (by omega), vset_ne (by omega)] at z5
    omega
