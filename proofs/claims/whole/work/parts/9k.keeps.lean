/-! WHAT THE ACTS KEEP of what holds of every state -/
theorem wf_pers {V : VS} {d a b c : Nat} (hw : WF d V) (h16 : V 0 0 0 < 16) (ha : a < 6) (hb : b < 3) (hc : c < 100) : WF d (prV V a b c) := by
  obtain ⟨w0, w1, w2, w3, w4, w5, w6, w7, w8, w9, w10⟩ := hw
  have o : ∀ c2 q k, ¬ (c2 = 0 ∧ q = 0 ∧ k = 0) → (q ≠ V 0 0 0 ∨ c2 = 0 ∨ c2 = 2 ∨ (7 ≤ c2 ∧ c2 ≤ 20) ∨ 23 ≤ c2) → prV V a b c c2 q k = V c2 q k := fun _ _ _ h h2 => prV_o h h2
  have z : ∀ c2 k, ((c2 = 1 ∧ 3 ≤ k ∧ k < 6) ∨ (((3 ≤ c2 ∧ c2 ≤ 6) ∨ c2 = 21 ∨ c2 = 22) ∧ k = 0)) → prV V a b c c2 (V 0 0 0) k = 0 := fun _ _ h => prV_z h
  refine ⟨?_, ?_, ?_, ?_, ?_, ?_, ?_, ?_, ?_, ?_, ?_⟩
  · rw [prV_P]; omega
  · rw [o _ _ _ (by omega) (by omega)]; exact w1
  · rw [o _ _ _ (by omega) (by omega)]; exact w2
  · rw [o _ _ _ (by omega) (by omega)]; exact w3
  · rw [o _ _ _ (by omega) (by omega)]; exact w4
  · intro p hp
    rw [prV_P] at hp
    by_cases e : p = V 0 0 0
    · subst e
      rw [prV_1.1, prV_1.2.1, prV_1.2.2, z 1 3 (by omega), z 1 4 (by omega), z 1 5 (by omega), z 3 0 (by omega), z 4 0 (by omega), z 6 0 (by omega), z 21 0 (by omega), z 22 0 (by omega)]
      exact ⟨ha, hb, hc, by decide, by decide, by decide, by decide, Or.inr ⟨rfl, rfl⟩, by decide, by decide, by decide⟩
    · rw [o 1 p 0 (by omega) (Or.inl e), o 1 p 1 (by omega) (Or.inl e), o 1 p 2 (by omega) (Or.inl e), o 1 p 3 (by omega) (Or.inl e), o 1 p 4 (by omega) (Or.inl e), o 1 p 5 (by omega) (Or.inl e), o 3 p 0 (by omega) (Or.inl e), o 4 p 0 (by omega) (Or.inl e), o 6 p 0 (by omega) (Or.inl e), o 21 p 0 (by omega) (Or.inl e), o 22 p 0 (by omega) (Or.inl e)]
      exact w5 p (by omega)
  · intro p i hp hi
    rw [prV_P] at hp ⊢
    by_cases e : p = V 0 0 0
    · subst e
      rw [z 3 0 (by omega)] at hi
      omega
    · rw [o 3 p 0 (by omega) (Or.inl e)] at hi
      rw [o 2 p i (by omega) (by omega)]
      have := w6 p i (by omega) hi
      omega
  · intro p i hp hi
    rw [prV_P] at hp
    by_cases e : p = V 0 0 0
    · subst e
      rw [z 6 0 (by omega)] at hi
      omega
    · rw [o 6 p 0 (by omega) (Or.inl e)] at hi
      rw [o 7 p i (by omega) (by omega), o 0 0 1 (by omega) (by omega), o 9 p i (by omega) (by omega), o 10 p i (by omega) (by omega)]
      exact w7 p i (by omega) hi
  · intro v hv
    rw [o 0 0 1 (by omega) (by omega)] at hv
    rw [o 11 0 v (by omega) (by omega), o 12 0 v (by omega) (by omega), o 13 0 v (by omega) (by omega)]
    exact w8 v hv
  · intro i hi
    rw [o 0 0 2 (by omega) (by omega)] at hi
    rw [o 15 0 i (by omega) (by omega), o 16 0 i (by omega) (by omega), o 17 0 i (by omega) (by omega), o 18 0 i (by omega) (by omega), o 0 0 1 (by omega) (by omega), prV_P]
    have := w9 i hi
    omega
  · unfold W10
    rw [o 20 0 0 (by omega) (by omega), o 20 0 1 (by omega) (by omega), o 20 0 2 (by omega) (by omega), o 20 0 3 (by omega) (by omega)]
    exact w10
theorem lv_pers {V : VS} {a b c : Nat} (h : LV V) : LV (prV V a b c) := fun p i hp hi => by
  rw [prV_P] at hp
  by_cases e : p = V 0 0 0
  · subst e
    rw [prV_z (c2 := 6) (by omega)] at hi
    omega
  · rw [prV_o (by omega) (Or.inl e)] at hi ⊢
    exact h p i (by omega) hi
theorem wf_rule {V : VS} {d k x : Nat} (hw : WF d V) (hx : (k = 0 → 1 ≤ x ∧ x ≤ 9) ∧ (k = 1 → 1 ≤ x ∧ x ≤ 20) ∧ (k = 2 → x ≤ 1000) ∧ (k = 3 → x < 2)) : WF d (vset V 20 0 k x) := by
  obtain ⟨w0, w1, w2, w3, w4, w5, w6, w7, w8, w9, w10⟩ := hw
  have o : ∀ c2 q j, c2 ≠ 20 → vset V 20 0 k x c2 q j = V c2 q j := fun c2 q j h => vset_ne (by omega)
  unfold WF W5 W6 W7 W8 W9
  simp (disch := omega) only [o]
  refine ⟨w0, w1, w2, w3, w4, w5, w6, w7, w8, w9, ?_⟩
  unfold W10 at w10 ⊢
  simp only [vset_at]
  refine ⟨?_, ?_, ?_, ?_, ?_, ?_⟩ <;> split <;> omega
theorem wf_told {V : VS} {d p k x : Nat} (hw : WF d V) (hx : (k = 0 → x < 6) ∧ (k = 1 → x < 3) ∧ (k = 2 → x < 100) ∧ (k = 3 → x < 100) ∧ (k = 4 → x < 10000) ∧ (k = 5 → x < 2)) : WF d (vset V 1 p k x) := by
  obtain ⟨w0, w1, w2, w3, w4, w5, w6, w7, w8, w9, w10⟩ := hw
  have o : ∀ c2 q j, c2 ≠ 1 → vset V 1 p k x c2 q j = V c2 q j := fun c2 q j h => vset_ne (by omega)
  unfold WF W6 W7 W8 W9 W10
  simp (disch := omega) only [o]
  refine ⟨w0, w1, w2, w3, w4, fun q hq => ?_, w6, w7, w8, w9, w10⟩
  rw [o 0 0 0 (by decide)] at hq
  simp (disch := omega) only [o]
  obtain ⟨a0, a1, a2, a3, a4, a5, a6⟩ := w5 q hq
  refine ⟨?_, ?_, ?_, ?_, ?_, ?_, a6⟩ <;> rw [vset_at] <;> split <;> omega
theorem wf_row {V : VS} {d p x : Nat} (hw : WF d V) (h9 : V 3 p 0 < 9) (hx : x < V 0 0 0) (hne : x ≠ p) : WF d (vset (vset V 2 p (V 3 p 0) x) 3 p 0 (V 3 p 0 + 1)) := by
  obtain ⟨w0, w1, w2, w3, w4, w5, w6, w7, w8, w9, w10⟩ := hw
  have o : ∀ c2 q j, c2 ≠ 2 → c2 ≠ 3 → vset (vset V 2 p (V 3 p 0) x) 3 p 0 (V 3 p 0 + 1) c2 q j = V c2 q j := fun c2 q j h h2 => by rw [vset_ne (by omega), vset_ne (by omega)]
  have o3 : ∀ q, q ≠ p → vset (vset V 2 p (V 3 p 0) x) 3 p 0 (V 3 p 0 + 1) 3 q 0 = V 3 q 0 := fun q h => by rw [vset_ne (by omega), vset_ne (by omega)]
  have e3 : vset (vset V 2 p (V 3 p 0) x) 3 p 0 (V 3 p 0 + 1) 3 p 0 = V 3 p 0 + 1 := vset_eq ⟨rfl, rfl, rfl⟩
  have o2 : ∀ q i, vset (vset V 2 p (V 3 p 0) x) 3 p 0 (V 3 p 0 + 1) 2 q i = if q = p ∧ i = V 3 p 0 then x else V 2 q i := fun q i => by
    rw [vset_ne (by omega), vset_at]
    by_cases c : q = p ∧ i = V 3 p 0
    · rw [if_pos ⟨rfl, c.1, c.2⟩, if_pos c]
    · rw [if_neg (fun z => c z.2), if_neg c]
  unfold WF W7 W8 W9 W10
  simp (disch := omega) only [o]
  refine ⟨w0, w1, w2, w3, w4, fun q hq => ?_, fun q i hq hi => ?_, w7, w8, w9, w10⟩
  · rw [o 0 0 0 (by decide) (by decide)] at hq
    simp (disch := omega) only [o]
    obtain ⟨a0, a1, a2, a3, a4, a5, a6, a7, a8⟩ := w5 q hq
    refine ⟨a0, a1, a2, a3, a4, a5, ?_, ?_, a8⟩
    · by_cases e : q = p
      · subst e
        rw [e3]
        omega
      · rw [o3 q e]
        exact a6
    · by_cases e : q = p
      · subst e
        rw [e3]
        omega
      · rw [o3 q e]
        exact a7
  · rw [o 0 0 0 (by decide) (by decide)] at hq ⊢
    rw [o2]
    by_cases e : q = p
    · subst e
      rw [e3] at hi
      by_cases e2 : i = V 3 q 0
      · rw [if_pos ⟨rfl, e2⟩]
        exact ⟨hx, hne⟩
      · rw [if_neg (fun z => e2 z.2)]
        exact w6 q i hq (by omega)
    · rw [o3 q e] at hi
      rw [if_neg (fun z => e z.1)]
      exact w6 q i hq hi
theorem wf_row0 {V : VS} {d p : Nat} (hw : WF d V) : WF d (vset (vset V 3 p 0 0) 4 p 0 0) := by
  obtain ⟨w0, w1, w2, w3, w4, w5, w6, w7, w8, w9, w10⟩ := hw
  have o : ∀ c2 q j, c2 ≠ 4 → c2 ≠ 3 → vset (vset V 3 p 0 0) 4 p 0 0 c2 q j = V c2 q j := fun c2 q j h h2 => by rw [vset_ne (by omega), vset_ne (by omega)]
  have o3 : ∀ q, vset (vset V 3 p 0 0) 4 p 0 0 3 q 0 = if q = p then 0 else V 3 q 0 := fun q => by
    rw [vset_ne (by omega), vset_at]
    by_cases c : q = p
    · rw [if_pos ⟨rfl, c, rfl⟩, if_pos c]
    · rw [if_neg (fun z => c z.2.1), if_neg c]
  have o4 : ∀ q, vset (vset V 3 p 0 0) 4 p 0 0 4 q 0 = if q = p then 0 else V 4 q 0 := fun q => by
    rw [vset_at]
    by_cases c : q = p
    · rw [if_pos ⟨rfl, c, rfl⟩, if_pos c]
    · rw [if_neg (fun z => c z.2.1), if_neg c, vset_ne (by omega)]
  unfold WF W7 W8 W9 W10
  simp (disch := omega) only [o]
  refine ⟨w0, w1, w2, w3, w4, fun q hq => ?_, fun q i hq hi => ?_, w7, w8, w9, w10⟩
  · rw [o 0 0 0 (by decide) (by decide)] at hq
    rw [o3, o4]
    simp (disch := omega) only [o]
    obtain ⟨a0, a1, a2, a3, a4, a5, a6, a7, a8⟩ := w5 q hq
    by_cases e : q = p
    · rw [if_pos e, if_pos e]
      exact ⟨a0, a1, a2, a3, a4, a5, by decide, Or.inr ⟨rfl, rfl⟩, a8⟩
    · rw [if_neg e, if_neg e]
      exact ⟨a0, a1, a2, a3, a4, a5, a6, a7, a8⟩
  · rw [o 0 0 0 (by decide) (by decide)] at hq ⊢
    rw [o3] at hi
    rw [o _ _ _ (by decide) (by decide)]
    by_cases e : q = p
    · rw [if_pos e] at hi
      omega
    · rw [if_neg e] at hi
      exact w6 q i hq hi
