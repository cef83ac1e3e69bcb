/-! A PERSON; how much is told; what was wrong -/
theorem if_00 {α : Type} {a b : α} : (if nI 0 = (0 : Int32) then a else b) = a := if_pos rfl
def prOK (V : VS) (a b c : Int32) : Bool := inI a (nI 0) (nI 5) && (inI b (nI 0) (nI 2) && (inI c (nI 0) (nI 99) && decide (V 0 0 0 < 16)))
def prV (V : VS) (a b c : Nat) : VS := vset (vset (vset (vset (vset (vset (vset (vset (vset (vset (vset (vset (vset V 1 (V 0 0 0) 0 a) 1 (V 0 0 0) 1 b) 1 (V 0 0 0) 2 c) 1 (V 0 0 0) 3 0) 1 (V 0 0 0) 4 0) 1 (V 0 0 0) 5 0) 6 (V 0 0 0) 0 0) 3 (V 0 0 0) 0 0) 4 (V 0 0 0) 0 0) 5 (V 0 0 0) 0 0) 21 (V 0 0 0) 0 0) 22 (V 0 0 0) 0 0) 0 0 0 (V 0 0 0 + 1)
theorem prV_o {V : VS} {a b c c2 q k : Nat} (h : ¬ (c2 = 0 ∧ q = 0 ∧ k = 0)) (h2 : q ≠ V 0 0 0 ∨ c2 = 0 ∨ c2 = 2 ∨ (7 ≤ c2 ∧ c2 ≤ 20) ∨ 23 ≤ c2) : prV V a b c c2 q k = V c2 q k := by
  unfold prV
  simp (disch := omega) only [vset_ne]
theorem prV_P {V : VS} {a b c : Nat} : prV V a b c 0 0 0 = V 0 0 0 + 1 := rfl
theorem prV_z {V : VS} {a b c c2 k : Nat} (h : (c2 = 1 ∧ 3 ≤ k ∧ k < 6) ∨ (((3 ≤ c2 ∧ c2 ≤ 6) ∨ c2 = 21 ∨ c2 = 22) ∧ k = 0)) : prV V a b c c2 (V 0 0 0) k = 0 := by
  have : (c2 = 1 ∧ k = 3) ∨ (c2 = 1 ∧ k = 4) ∨ (c2 = 1 ∧ k = 5) ∨ (c2 = 3 ∧ k = 0) ∨ (c2 = 4 ∧ k = 0) ∨ (c2 = 5 ∧ k = 0) ∨ (c2 = 6 ∧ k = 0) ∨ (c2 = 21 ∧ k = 0) ∨ (c2 = 22 ∧ k = 0) := by omega
  unfold prV
  rcases this with ⟨rfl, rfl⟩ | ⟨rfl, rfl⟩ | ⟨rfl, rfl⟩ | ⟨rfl, rfl⟩ | ⟨rfl, rfl⟩ | ⟨rfl, rfl⟩ | ⟨rfl, rfl⟩ | ⟨rfl, rfl⟩ | ⟨rfl, rfl⟩ <;> simp (disch := omega) only [vset_ne, vset_eq]
theorem prV_1 {V : VS} {a b c : Nat} : prV V a b c 1 (V 0 0 0) 0 = a ∧ prV V a b c 1 (V 0 0 0) 1 = b ∧ prV V a b c 1 (V 0 0 0) 2 = c := by
  unfold prV
  refine ⟨?_, ?_, ?_⟩ <;> simp (disch := omega) only [vset_ne, vset_eq]
/-- those that are there with one more person -/
theorem live_pr {V : VS} {a b c c2 q k : Nat} (h : live (prV V a b c) c2 q k) : live V c2 q k ∨ (q = V 0 0 0 ∧ ((c2 = 1 ∧ k < 6) ∨ (((3 ≤ c2 ∧ c2 ≤ 6) ∨ c2 = 21 ∨ c2 = 22) ∧ k = 0))) := by
  unfold live at h
  have n3 : q ≠ V 0 0 0 → prV V a b c 3 q 0 = V 3 q 0 := fun e => prV_o (by omega) (Or.inl e)
  have n6 : q ≠ V 0 0 0 → prV V a b c 6 q 0 = V 6 q 0 := fun e => prV_o (by omega) (Or.inl e)
  have z3 : prV V a b c 3 (V 0 0 0) 0 = 0 := prV_z (by omega)
  have z6 : prV V a b c 6 (V 0 0 0) 0 = 0 := prV_z (by omega)
  have o1 : prV V a b c 0 0 1 = V 0 0 1 := prV_o (by omega) (by omega)
  have o2 : prV V a b c 0 0 2 = V 0 0 2 := prV_o (by omega) (by omega)
  have o3 : prV V a b c 0 0 3 = V 0 0 3 := prV_o (by omega) (by omega)
  rw [o1, o2, o3, prV_P] at h
  rcases h with ⟨rfl, rfl, y⟩ | ⟨rfl, y, y2⟩ | ⟨rfl, y, y2⟩ | ⟨y, y2, rfl⟩ | ⟨y, y1, y2, y3⟩ | ⟨y, y1, rfl, y3⟩ | ⟨y, y1, rfl, y3⟩ | ⟨rfl, rfl, y⟩ | ⟨y, y1, rfl, y3⟩
  · exact Or.inl (live_0 y)
  · by_cases e : q = V 0 0 0
    · exact Or.inr ⟨e, Or.inl ⟨rfl, y2⟩⟩
    · exact Or.inl (live_t (by omega) y2)
  · by_cases e : q = V 0 0 0
    · rw [e, z3] at y2
      exact absurd y2 (Nat.not_lt_zero _)
    · rw [n3 e] at y2
      exact Or.inl (Or.inr (Or.inr (Or.inl ⟨rfl, by omega, y2⟩)))
  · by_cases e : q = V 0 0 0
    · exact Or.inr ⟨e, Or.inr ⟨y, rfl⟩⟩
    · exact Or.inl (live_p (by omega) y)
  · by_cases e : q = V 0 0 0
    · rw [e, z6] at y3
      exact absurd y3 (Nat.not_lt_zero _)
    · rw [n6 e] at y3
      exact Or.inl (live_l (by omega) ⟨y, y1⟩ y3)
  · exact Or.inl (live_v y3 ⟨y, y1⟩)
  · exact Or.inl (way_live ⟨y, y1⟩ y3)
  · exact Or.inl (live_r y)
  · exact Or.inl (live_b ⟨y, y1⟩ y3)
theorem pr12 {c2 k : Nat} (z : (c2 = 1 ∧ k < 6) ∨ (((3 ≤ c2 ∧ c2 ≤ 6) ∨ c2 = 21 ∨ c2 = 22) ∧ k = 0)) : (c2 = 1 ∧ k = 0) ∨ (c2 = 1 ∧ k = 1) ∨ (c2 = 1 ∧ k = 2) ∨ (c2 = 1 ∧ k = 3) ∨ (c2 = 1 ∧ k = 4) ∨ (c2 = 1 ∧ k = 5) ∨ (c2 = 3 ∧ k = 0) ∨ (c2 = 4 ∧ k = 0) ∨ (c2 = 5 ∧ k = 0) ∨ (c2 = 6 ∧ k = 0) ∨ (c2 = 21 ∧ k = 0) ∨ (c2 = 22 ∧ k = 0) := by
  rcases z with ⟨rfl, z⟩ | ⟨z, rfl⟩
  · have : k = 0 ∨ k = 1 ∨ k = 2 ∨ k = 3 ∨ k = 4 ∨ k = 5 := by omega
    rcases this with rfl | rfl | rfl | rfl | rfl | rfl <;> simp
  · have : c2 = 3 ∨ c2 = 4 ∨ c2 = 5 ∨ c2 = 6 ∨ c2 = 21 ∨ c2 = 22 := by omega
    rcases this with rfl | rfl | rfl | rfl | rfl | rfl <;> simp
theorem prOK_no {V : VS} {a b c : Int32} (h : ¬ (inI a (nI 0) (nI 5) = true ∧ inI b (nI 0) (nI 2) = true ∧ inI c (nI 0) (nI 99) = true ∧ V 0 0 0 < 16)) : prOK V a b c = false := by
  unfold prOK
  rcases e1 : inI a (nI 0) (nI 5) with _ | _
  · rfl
  · rcases e2 : inI b (nI 0) (nI 2) with _ | _
    · rfl
    · rcases e3 : inI c (nI 0) (nI 99) with _ | _
      · rfl
      · rw [decide_eq_false (fun z => h ⟨e1, e2, e3, z⟩)]
        rfl
theorem c_pr {μ : Mm} {V : VS} {a b c : Nat} (h : HC μ 1 V) (h16 : V 0 0 0 < 16) : ∃ μ2, World_addPerson 1 (nI a) (nI b) (nI c) μ = some (nI (V 0 0 0), μ2) ∧ HC μ2 1 (prV V a b c) ∧ Out (inW 1) μ μ2 := by
  have hP := h.P
  have g0 := h.1
  have g1 := g0.put 1 (V 0 0 0) 0 a (o := 1 + (21 + 9 * V 0 0 0) + 1) (k := 0) (v := nI a) (Or.inr (Or.inl ⟨rfl, h16, by decide⟩)) (by show _ = 1 + (_ + 9 * V 0 0 0); omega) rfl rfl (by unfold ownC; omega)
  have g2 := g1.put 1 (V 0 0 0) 1 b (o := 1 + (21 + 9 * V 0 0 0) + 1) (k := 1) (v := nI b) (Or.inr (Or.inl ⟨rfl, h16, by decide⟩)) (by show _ = 1 + (_ + 9 * V 0 0 0); omega) rfl rfl (by unfold ownC; omega)
  have g3 := g2.put 1 (V 0 0 0) 2 c (o := 1 + (21 + 9 * V 0 0 0) + 1) (k := 2) (v := nI c) (Or.inr (Or.inl ⟨rfl, h16, by decide⟩)) (by show _ = 1 + (_ + 9 * V 0 0 0); omega) rfl rfl (by unfold ownC; omega)
  have g4 := g3.put 1 (V 0 0 0) 3 0 (o := 1 + (21 + 9 * V 0 0 0) + 1) (k := 3) (v := nI 0) (Or.inr (Or.inl ⟨rfl, h16, by decide⟩)) (by show _ = 1 + (_ + 9 * V 0 0 0); omega) rfl rfl (by unfold ownC; omega)
  have g5 := g4.put 1 (V 0 0 0) 4 0 (o := 1 + (21 + 9 * V 0 0 0) + 1) (k := 4) (v := nI 0) (Or.inr (Or.inl ⟨rfl, h16, by decide⟩)) (by show _ = 1 + (_ + 9 * V 0 0 0); omega) rfl rfl (by unfold ownC; omega)
  have g6 := g5.put 1 (V 0 0 0) 5 0 (o := 1 + (21 + 9 * V 0 0 0) + 1) (k := 5) (v := nI 0) (Or.inr (Or.inl ⟨rfl, h16, by decide⟩)) (by show _ = 1 + (_ + 9 * V 0 0 0); omega) rfl rfl (by unfold ownC; omega)
  have g7 := g6.put 6 (V 0 0 0) 0 0 (o := 1 + (21 + 9 * V 0 0 0) + 3) (k := 5) (v := nI 0) (Or.inr (Or.inr (Or.inr (Or.inl ⟨by decide, h16, rfl⟩)))) (by show _ = 1 + (_ + 9 * V 0 0 0); omega) rfl rfl (by unfold ownC; omega)
  have g8 := g7.put 3 (V 0 0 0) 0 0 (o := 1 + (21 + 9 * V 0 0 0)) (k := 3) (v := nI 0) (Or.inr (Or.inr (Or.inr (Or.inl ⟨by decide, h16, rfl⟩)))) (by show _ = 1 + (_ + 9 * V 0 0 0); omega) rfl rfl (by unfold ownC; omega)
  have g9 := g8.put 4 (V 0 0 0) 0 0 (o := 1 + (21 + 9 * V 0 0 0)) (k := 4) (v := nI 0) (Or.inr (Or.inr (Or.inr (Or.inl ⟨by decide, h16, rfl⟩)))) (by show _ = 1 + (_ + 9 * V 0 0 0); omega) rfl rfl (by unfold ownC; omega)
  have g10 := g9.put 5 (V 0 0 0) 0 0 (o := 1 + (21 + 9 * V 0 0 0)) (k := 5) (v := nI 0) (Or.inr (Or.inr (Or.inr (Or.inl ⟨by decide, h16, rfl⟩)))) (by show _ = 1 + (_ + 9 * V 0 0 0); omega) rfl rfl (by unfold ownC; omega)
  have g11 := g10.putN 21 (V 0 0 0) 0 0 (Or.inr (Or.inr (Or.inr (Or.inl ⟨by decide, h16, rfl⟩)))) (by unfold ownC; omega)
  have g12 := g11.putN 22 (V 0 0 0) 0 0 (Or.inr (Or.inr (Or.inr (Or.inl ⟨by decide, h16, rfl⟩)))) (by unfold ownC; omega)
  unfold World_addPerson Person_begin
  rw [hP, if_pos (nI_lt h16 (by decide)), chv_nI h16 (by decide), ix_nI (by omega)]
  simp only [chv_nI (show 0 < 6 by decide) (by decide), chv_nI (show 1 < 6 by decide) (by decide), chv_nI (show 2 < 6 by decide) (by decide), chv_nI (show 3 < 6 by decide) (by decide), chv_nI (show 4 < 6 by decide) (by decide), chv_nI (show 5 < 6 by decide) (by decide), lt_eq, bnd_eq, ix_nI (show 0 < 2 ^ 31 by decide), ix_nI (show 1 < 2 ^ 31 by decide), ix_nI (show 2 < 2 ^ 31 by decide), ix_nI (show 3 < 2 ^ 31 by decide), ix_nI (show 4 < 2 ^ 31 by decide), ix_nI (show 5 < 2 ^ 31 by decide)]
  have o1 : Out (fun o => inW 1 o ∧ o ≠ 1) μ (sti (sti (sti (sti (sti (sti (sti (sti (sti (sti μ (1 + (21 + 9 * V 0 0 0) + 1) 0 (nI a)) (1 + (21 + 9 * V 0 0 0) + 1) 1 (nI b)) (1 + (21 + 9 * V 0 0 0) + 1) 2 (nI c)) (1 + (21 + 9 * V 0 0 0) + 1) 3 (nI 0)) (1 + (21 + 9 * V 0 0 0) + 1) 4 (nI 0)) (1 + (21 + 9 * V 0 0 0) + 1) 5 (nI 0)) (1 + (21 + 9 * V 0 0 0) + 3) 5 (nI 0)) (1 + (21 + 9 * V 0 0 0)) 3 (nI 0)) (1 + (21 + 9 * V 0 0 0)) 4 (nI 0)) (1 + (21 + 9 * V 0 0 0)) 5 (nI 0)) := by
    have z : ∀ j, j < 4 → inW 1 (1 + (21 + 9 * V 0 0 0) + j) ∧ 1 + (21 + 9 * V 0 0 0) + j ≠ 1 := fun j hj => ⟨⟨by omega, by omega⟩, by omega⟩
    exact (((((((((Out.rf.sti (z 1 (by decide))).sti (z 1 (by decide))).sti (z 1 (by decide))).sti (z 1 (by decide))).sti (z 1 (by decide))).sti (z 1 (by decide))).sti (z 3 (by decide))).sti (z 0 (by decide))).sti (z 0 (by decide))).sti (z 0 (by decide))
  have r2 : (sti (sti (sti (sti (sti (sti (sti (sti (sti (sti μ (1 + (21 + 9 * V 0 0 0) + 1) 0 (nI a)) (1 + (21 + 9 * V 0 0 0) + 1) 1 (nI b)) (1 + (21 + 9 * V 0 0 0) + 1) 2 (nI c)) (1 + (21 + 9 * V 0 0 0) + 1) 3 (nI 0)) (1 + (21 + 9 * V 0 0 0) + 1) 4 (nI 0)) (1 + (21 + 9 * V 0 0 0) + 1) 5 (nI 0)) (1 + (21 + 9 * V 0 0 0) + 3) 5 (nI 0)) (1 + (21 + 9 * V 0 0 0)) 3 (nI 0)) (1 + (21 + 9 * V 0 0 0)) 4 (nI 0)) (1 + (21 + 9 * V 0 0 0)) 5 (nI 0)).2 = μ.2 := rfl
  generalize (sti (sti (sti (sti (sti (sti (sti (sti (sti (sti μ (1 + (21 + 9 * V 0 0 0) + 1) 0 (nI a)) (1 + (21 + 9 * V 0 0 0) + 1) 1 (nI b)) (1 + (21 + 9 * V 0 0 0) + 1) 2 (nI c)) (1 + (21 + 9 * V 0 0 0) + 1) 3 (nI 0)) (1 + (21 + 9 * V 0 0 0) + 1) 4 (nI 0)) (1 + (21 + 9 * V 0 0 0) + 1) 5 (nI 0)) (1 + (21 + 9 * V 0 0 0) + 3) 5 (nI 0)) (1 + (21 + 9 * V 0 0 0)) 3 (nI 0)) (1 + (21 + 9 * V 0 0 0)) 4 (nI 0)) (1 + (21 + 9 * V 0 0 0)) 5 (nI 0)) = μ9 at g12 o1 r2 ⊢
  have e1 : μ9.1 1 1 = nI (V 0 0 0) := by
    rw [(o1 1 (fun z => z.2 rfl)).1]
    exact hP
  have g12' : HP (stl μ9 (1 + (21 + 9 * V 0 0 0)) 6 0) 1 _ _ := g12
  have g13 := g12'.put 0 0 0 (V 0 0 0 + 1) (o := 1) (k := 1) (v := nI (V 0 0 0 + 1)) (Or.inl ⟨rfl, rfl, by decide⟩) rfl rfl rfl (by unfold ownC; omega)
  rw [stl_1, e1, nI_add, sti_e ⟨rfl, rfl⟩, nI_subE (by omega)]
  refine ⟨_, by rw [show V 0 0 0 + 1 - 1 = V 0 0 0 by omega], ⟨HP.mono g13 (fun c2 q k hl => ?_) (fun _ _ _ _ _ => rfl), h.2.1, fun q hq => ?_⟩, ?_⟩
  · rcases live_pr hl with z | ⟨rfl, z⟩
    · exact Or.inr (Or.inr (Or.inr (Or.inr (Or.inr (Or.inr (Or.inr (Or.inr (Or.inr (Or.inr (Or.inr (Or.inr (Or.inr z))))))))))))
    · rcases pr12 z with ⟨rfl, rfl⟩ | ⟨rfl, rfl⟩ | ⟨rfl, rfl⟩ | ⟨rfl, rfl⟩ | ⟨rfl, rfl⟩ | ⟨rfl, rfl⟩ | ⟨rfl, rfl⟩ | ⟨rfl, rfl⟩ | ⟨rfl, rfl⟩ | ⟨rfl, rfl⟩ | ⟨rfl, rfl⟩ | ⟨rfl, rfl⟩ <;> simp [lput]
  · rw [prV_P] at hq
    rw [sti_2]
    by_cases e : q = V 0 0 0
    · subst e
      rw [stl_e ⟨rfl, rfl⟩, prV_z (c2 := 21) (by omega), prV_z (c2 := 22) (by omega)]
      rfl
    · rw [stl_n (by omega), r2, prV_o (c2 := 21) (by omega) (by omega), prV_o (c2 := 22) (by omega) (by omega)]
      exact h.2.2 q (by omega)
  · exact ((o1.mono (fun o z => z.1)).stl ⟨by omega, by omega⟩).sti ⟨by omega, by omega⟩
theorem c_person {μ : Mm} {V : VS} (h : HC μ 1 V) (a b c : Int32) : (prOK V a b c = false ∧ Nine_person a b c μ = some (-1, μ)) ∨ (prOK V a b c = true ∧ ∃ μ2, Nine_person a b c μ = some (nI (V 0 0 0), μ2) ∧ HC μ2 1 (prV V (ix a) (ix b) (ix c)) ∧ Act μ μ2) := by
  have P16 := h.P16
  unfold Nine_person
  rw [c_can (k := 0) (by decide), bnd_eq]
  rcases c1 : inI a (nI 0) (nI 5) with _ | _
  · rw [show inI a (leastI 0) (mostI 0) = false from c1, if_neg Bool.false_ne_true, if_pos (show nI 0 = 0 from rfl)]
    exact Or.inl ⟨prOK_no (fun z => by rw [c1] at z; exact Bool.false_ne_true z.1), rfl⟩
  · rw [show inI a (leastI 0) (mostI 0) = true from c1, if_pos rfl, if_neg (by decide), c_can (k := 1) (by decide), bnd_eq]
    rcases c2 : inI b (nI 0) (nI 2) with _ | _
    · rw [show inI b (leastI 1) (mostI 1) = false from c2, if_neg Bool.false_ne_true, if_pos (show nI 0 = 0 from rfl)]
      exact Or.inl ⟨prOK_no (fun z => by rw [c2] at z; exact Bool.false_ne_true z.2.1), rfl⟩
    · rw [show inI b (leastI 1) (mostI 1) = true from c2, if_pos rfl, if_neg (by decide), c_can (k := 2) (by decide), bnd_eq]
      rcases c3 : inI c (nI 0) (nI 99) with _ | _
      · rw [show inI c (leastI 2) (mostI 2) = false from c3, if_neg Bool.false_ne_true, if_pos (show nI 0 = 0 from rfl)]
        exact Or.inl ⟨prOK_no (fun z => by rw [c3] at z; exact Bool.false_ne_true z.2.2.1), rfl⟩
      · rw [show inI c (leastI 2) (mostI 2) = true from c3, if_pos rfl, if_neg (by decide), h.P]
        by_cases c4 : V 0 0 0 < 16
        · right
          refine ⟨by unfold prOK; rw [c1, c2, c3, decide_eq_true c4]; rfl, ?_⟩
          rw [if_neg (fun z => by have := (nI_eq (by omega) (by decide)).1 z; omega)]
          obtain ⟨i, hi, rfl⟩ := inI_some c1 (by decide)
          obtain ⟨j, hj, rfl⟩ := inI_some c2 (by decide)
          obtain ⟨m, hm, rfl⟩ := inI_some c3 (by decide)
          obtain ⟨μ2, g1, g2, g3⟩ := c_pr (a := i) (b := j) (c := m) (h.past (nI 0)) c4
          unfold Nine_forgetBefore
          rw [lt_eq, bnd_eq, g1, bnd2_eq, ix_nI (by omega), ix_nI (by omega), ix_nI (by omega)]
          have o0 : ∀ k, μ2.1 0 k = (sti μ 0 8 (nI 0)).1 0 k := (g3 0 (fun z => by have := z.1; omega)).1
          refine ⟨μ2, rfl, g2, ?_, fun k hk => ?_, ?_⟩
          · rw [o0, sti_e ⟨rfl, rfl⟩]
          · rw [o0, sti_n (fun z => hk z.2)]
          · exact (Out.rf.sti (E := fun o => o = 0 ∨ inW 1 o) (Or.inl rfl)).tr (g3.mono (fun o z => Or.inr z))
        · rw [if_pos (by rw [show V 0 0 0 = 16 by omega])]
          exact Or.inl ⟨prOK_no (fun z => c4 z.2.2.2), rfl⟩
theorem vset_comm {V : VS} {c p i x c2 p2 i2 x2 : Nat} (h : ¬ (c = c2 ∧ p = p2 ∧ i = i2)) : vset (vset V c p i x) c2 p2 i2 x2 = vset (vset V c2 p2 i2 x2) c p i x := by
  funext a b d
  simp only [vset_at]
  by_cases e : a = c ∧ b = p ∧ d = i
  · rw [if_pos e, if_neg (by omega), if_pos e]
  · rw [if_neg e, if_neg e]
theorem m_pr {ν : Mm} {V : VS} {a b c : Nat} (h : HM ν 0 V) (h16 : V 0 0 0 < 16) : HM (sti (sti (sti (sti (sti (sti (sti (sti (sti (sti (sti (sti (sti ν 4 (V 0 0 0) (nI a)) 5 (V 0 0 0) (nI b)) 6 (V 0 0 0) (nI c)) 0 10 (ν.1 0 10 &&& ((nI 1 <<< (nI (V 0 0 0) &&& 31)) ^^^ (-1)))) 7 (V 0 0 0) (nI 0)) 1 (167 + V 0 0 0) (nI 0)) 1 (183 + V 0 0 0) (nI 0)) 1 (199 + V 0 0 0) (nI 0)) 1 (215 + V 0 0 0) (nI 0)) 1 (231 + V 0 0 0) (nI 0)) 1 (247 + V 0 0 0) (nI 0)) 1 (263 + V 0 0 0) (nI 0)) 0 6 (nI (V 0 0 0 + 1))) 0 (prV V a b c) := by
  have g0 := h.1
  have g1 := g0.put 1 (V 0 0 0) 0 a (o := 4) (k := V 0 0 0) (v := nI a) (Or.inr (Or.inl ⟨rfl, h16, by decide⟩)) rfl rfl rfl (by unfold own3; omega)
  have g2 := g1.put 1 (V 0 0 0) 1 b (o := 5) (k := V 0 0 0) (v := nI b) (Or.inr (Or.inl ⟨rfl, h16, by decide⟩)) rfl rfl rfl (by unfold own3; omega)
  have g3 := g2.put 1 (V 0 0 0) 2 c (o := 6) (k := V 0 0 0) (v := nI c) (Or.inr (Or.inl ⟨rfl, h16, by decide⟩)) rfl rfl rfl (by unfold own3; omega)
  have g4 := g3.free (o := 0) (k := 10) (ν.1 0 10 &&& ((nI 1 <<< (nI (V 0 0 0) &&& 31)) ^^^ (-1))) (by unfold cellM; omega)
  have g5 := g4.put 3 (V 0 0 0) 0 0 (o := 7) (k := V 0 0 0) (v := nI 0) (Or.inr (Or.inr (Or.inr (Or.inl ⟨by decide, h16, rfl⟩)))) rfl rfl rfl (by unfold own3; omega)
  have g6 := g5.put 4 (V 0 0 0) 0 0 (o := 1) (k := 167 + V 0 0 0) (v := nI 0) (Or.inr (Or.inr (Or.inr (Or.inl ⟨by decide, h16, rfl⟩)))) rfl rfl rfl (by unfold own3; omega)
  have g7 := g6.put 1 (V 0 0 0) 3 0 (o := 1) (k := 183 + V 0 0 0) (v := nI 0) (Or.inr (Or.inl ⟨rfl, h16, by decide⟩)) rfl rfl rfl (by unfold own3; omega)
  have g8 := g7.put 1 (V 0 0 0) 4 0 (o := 1) (k := 199 + V 0 0 0) (v := nI 0) (Or.inr (Or.inl ⟨rfl, h16, by decide⟩)) rfl rfl rfl (by unfold own3; omega)
  have g9 := g8.put 21 (V 0 0 0) 0 0 (o := 1) (k := 215 + V 0 0 0) (v := nI 0) (Or.inr (Or.inr (Or.inr (Or.inl ⟨by decide, h16, rfl⟩)))) rfl rfl rfl (by unfold own3; omega)
  have g10 := g9.put 22 (V 0 0 0) 0 0 (o := 1) (k := 231 + V 0 0 0) (v := nI 0) (Or.inr (Or.inr (Or.inr (Or.inl ⟨by decide, h16, rfl⟩)))) rfl rfl rfl (by unfold own3; omega)
  have g11 := g10.put 5 (V 0 0 0) 0 0 (o := 1) (k := 247 + V 0 0 0) (v := nI 0) (Or.inr (Or.inr (Or.inr (Or.inl ⟨by decide, h16, rfl⟩)))) rfl rfl rfl (by unfold own3; omega)
  have g12 := g11.put 6 (V 0 0 0) 0 0 (o := 1) (k := 263 + V 0 0 0) (v := nI 0) (Or.inr (Or.inr (Or.inr (Or.inl ⟨by decide, h16, rfl⟩)))) rfl rfl rfl (by unfold own3; omega)
  have g13 := g12.putN 1 (V 0 0 0) 5 0 (Or.inr (Or.inl ⟨rfl, h16, by decide⟩)) (by unfold own3; omega)
  have g14 := g13.put 0 0 0 (V 0 0 0 + 1) (o := 0) (k := 6) (v := nI (V 0 0 0 + 1)) (Or.inl ⟨rfl, rfl, by decide⟩) rfl rfl rfl (by unfold own3; omega)
  have eV : vset (vset (vset (vset (vset (vset (vset (vset (vset (vset (vset (vset (vset V 1 (V 0 0 0) 0 a) 1 (V 0 0 0) 1 b) 1 (V 0 0 0) 2 c) 3 (V 0 0 0) 0 0) 4 (V 0 0 0) 0 0) 1 (V 0 0 0) 3 0) 1 (V 0 0 0) 4 0) 21 (V 0 0 0) 0 0) 22 (V 0 0 0) 0 0) 5 (V 0 0 0) 0 0) 6 (V 0 0 0) 0 0) 1 (V 0 0 0) 5 0) 0 0 0 (V 0 0 0 + 1) = prV V a b c := by
    unfold prV
    rw [vset_comm (c := 4) (p := V 0 0 0) (i := 0) (x := 0) (c2 := 1) (p2 := V 0 0 0) (i2 := 3) (x2 := 0) (by omega), vset_comm (c := 4) (p := V 0 0 0) (i := 0) (x := 0) (c2 := 1) (p2 := V 0 0 0) (i2 := 4) (x2 := 0) (by omega), vset_comm (c := 22) (p := V 0 0 0) (i := 0) (x := 0) (c2 := 5) (p2 := V 0 0 0) (i2 := 0) (x2 := 0) (by omega), vset_comm (c := 22) (p := V 0 0 0) (i := 0) (x := 0) (c2 := 6) (p2 := V 0 0 0) (i2 := 0) (x2 := 0) (by omega), vset_comm (c := 22) (p := V 0 0 0) (i := 0) (x := 0) (c2 := 1) (p2 := V 0 0 0) (i2 := 5) (x2 := 0) (by omega), vset_comm (c := 3) (p := V 0 0 0) (i := 0) (x := 0) (c2 := 1) (p2 := V 0 0 0) (i2 := 3) (x2 := 0) (by omega), vset_comm (c := 3) (p := V 0 0 0) (i := 0) (x := 0) (c2 := 1) (p2 := V 0 0 0) (i2 := 4) (x2 := 0) (by omega), vset_comm (c := 21) (p := V 0 0 0) (i := 0) (x := 0) (c2 := 5) (p2 := V 0 0 0) (i2 := 0) (x2 := 0) (by omega), vset_comm (c := 21) (p := V 0 0 0) (i := 0) (x := 0) (c2 := 6) (p2 := V 0 0 0) (i2 := 0) (x2 := 0) (by omega), vset_comm (c := 21) (p := V 0 0 0) (i := 0) (x := 0) (c2 := 1) (p2 := V 0 0 0) (i2 := 5) (x2 := 0) (by omega), vset_comm (c := 5) (p := V 0 0 0) (i := 0) (x := 0) (c2 := 6) (p2 := V 0 0 0) (i2 := 0) (x2 := 0) (by omega), vset_comm (c := 5) (p := V 0 0 0) (i := 0) (x := 0) (c2 := 1) (p2 := V 0 0 0) (i2 := 5) (x2 := 0) (by omega), vset_comm (c := 4) (p := V 0 0 0) (i := 0) (x := 0) (c2 := 6) (p2 := V 0 0 0) (i2 := 0) (x2 := 0) (by omega), vset_comm (c := 4) (p := V 0 0 0) (i := 0) (x := 0) (c2 := 1) (p2 := V 0 0 0) (i2 := 5) (x2 := 0) (by omega), vset_comm (c := 3) (p := V 0 0 0) (i := 0) (x := 0) (c2 := 6) (p2 := V 0 0 0) (i2 := 0) (x2 := 0) (by omega), vset_comm (c := 3) (p := V 0 0 0) (i := 0) (x := 0) (c2 := 1) (p2 := V 0 0 0) (i2 := 5) (x2 := 0) (by omega), vset_comm (c := 6) (p := V 0 0 0) (i := 0) (x := 0) (c2 := 1) (p2 := V 0 0 0) (i2 := 5) (x2 := 0) (by omega)]
  rw [eV] at g14
  refine ⟨HN.mono g14 (fun c2 q k hl => ?_) (fun _ _ _ _ _ => rfl), fun q hq => ?_, ?_, Or.inl ⟨rfl, ?_⟩⟩
  · rcases live_pr hl.1 with z | ⟨rfl, z⟩
    · have hl2 : liveT 0 V c2 q k := ⟨z, fun y => absurd y (by decide)⟩
      exact Or.inr (Or.inr (Or.inr (Or.inr (Or.inr (Or.inr (Or.inr (Or.inr (Or.inr (Or.inr (Or.inr (Or.inr (Or.inr hl2))))))))))))
    · rcases pr12 z with ⟨rfl, rfl⟩ | ⟨rfl, rfl⟩ | ⟨rfl, rfl⟩ | ⟨rfl, rfl⟩ | ⟨rfl, rfl⟩ | ⟨rfl, rfl⟩ | ⟨rfl, rfl⟩ | ⟨rfl, rfl⟩ | ⟨rfl, rfl⟩ | ⟨rfl, rfl⟩ | ⟨rfl, rfl⟩ | ⟨rfl, rfl⟩ <;> simp [lput]
  · rw [prV_P] at hq
    simp (disch := omega) only [sti_n, sti_e]
    rw [clr_bit _ (by omega) (by omega)]
    by_cases e : q = V 0 0 0
    · subst e
      rw [if_pos rfl, prV_z (by omega)]
    · rw [if_neg e, prV_o (by omega) (by omega)]
      exact h.2.1 q (by omega)
  · simp (disch := omega) only [sti_n]
    exact h.2.2.1
  · simp (disch := omega) only [sti_n]
    rw [prV_o (by omega) (by omega)]
    exact h.2.2.2.elim (fun z => z.2) (fun z => absurd z.1 (by decide))
theorem m_person {ν : Mm} {V : VS} (h : HM ν 0 V) (a b c : Int32) : (prOK V a b c = false ∧ M_person a b c ν = some (-1, sti ν 0 0 (nI 0))) ∨ (prOK V a b c = true ∧ ∃ ν2, M_person a b c ν = some (nI (V 0 0 0), ν2) ∧ HM ν2 0 (prV V (ix a) (ix b) (ix c)) ∧ ν2.1 0 3 = nI 0 ∧ OutM EA ν ν2) := by
  have P16 := h.P16
  have h' := h.told (nI 0)
  have eP : (sti ν 0 0 (nI 0)).1 0 6 = nI (V 0 0 0) := h'.P
  unfold M_person
  rw [lt_eq, m_isIn, bnd_eq]
  rcases c1 : inI a (nI 0) (nI 5) with _ | _
  · rw [if_neg Bool.false_ne_true, if_pos (by rfl)]
    exact Or.inl ⟨prOK_no (fun z => by rw [c1] at z; exact Bool.false_ne_true z.1), rfl⟩
  · rw [if_pos rfl, if_neg (by decide), m_isIn, bnd_eq]
    rcases c2 : inI b (nI 0) (nI 2) with _ | _
    · rw [if_neg Bool.false_ne_true, if_pos (by rfl)]
      exact Or.inl ⟨prOK_no (fun z => by rw [c2] at z; exact Bool.false_ne_true z.2.1), rfl⟩
    · rw [if_pos rfl, if_neg (by decide), m_isIn, bnd_eq]
      rcases c3 : inI c (nI 0) (nI 99) with _ | _
      · rw [if_neg Bool.false_ne_true, if_pos (by rfl)]
        exact Or.inl ⟨prOK_no (fun z => by rw [c3] at z; exact Bool.false_ne_true z.2.2.1), rfl⟩
      · rw [if_pos rfl, if_neg (by decide), eP]
        by_cases c4 : V 0 0 0 < 16
        · right
          refine ⟨by unfold prOK; rw [c1, c2, c3, decide_eq_true c4]; rfl, ?_⟩
          rw [if_neg (fun z => by have := (nI_eq (by omega) (by decide)).1 z; omega)]
          obtain ⟨i, hi, rfl⟩ := inI_some c1 (by decide)
          obtain ⟨j, hj, rfl⟩ := inI_some c2 (by decide)
          obtain ⟨m, hm, rfl⟩ := inI_some c3 (by decide)
          have g := m_pr (a := i) (b := j) (c := m) h' c4
          simp (disch := omega) only [chv_nI, nI_add, ix_nI, lt_eq]
          have e2 : (sti (sti (sti (sti ν 0 0 (nI 0)) 4 (V 0 0 0) (nI i)) 5 (V 0 0 0) (nI j)) 6 (V 0 0 0) (nI m)).1 0 10 = (sti ν 0 0 (nI 0)).1 0 10 := by
            simp (disch := omega) only [sti_n]
          rw [e2]
          generalize ((sti ν 0 0 (nI 0)).1 0 10 &&& ((nI 1 <<< (nI (V 0 0 0) &&& 31)) ^^^ (-1))) = W at g ⊢
          have e3 : (sti (sti (sti (sti (sti (sti (sti (sti (sti (sti (sti (sti (sti ν 0 0 (nI 0)) 4 (V 0 0 0) (nI i)) 5 (V 0 0 0) (nI j)) 6 (V 0 0 0) (nI m)) 0 10 W) 7 (V 0 0 0) (nI 0)) 1 (167 + V 0 0 0) (nI 0)) 1 (183 + V 0 0 0) (nI 0)) 1 (199 + V 0 0 0) (nI 0)) 1 (215 + V 0 0 0) (nI 0)) 1 (231 + V 0 0 0) (nI 0)) 1 (247 + V 0 0 0) (nI 0)) 1 (263 + V 0 0 0) (nI 0)).1 0 6 = nI (V 0 0 0) := by
            rw [← eP]
            simp (disch := omega) only [sti_n]
          rw [e3, nI_add]
          refine ⟨_, rfl, g.past _, sti_e ⟨rfl, rfl⟩, ?_⟩
          have z1 : ∀ k, EA 1 k := fun k => Or.inl rfl
          have z4 : ∀ k, EA 4 k := fun k => Or.inr (Or.inl ⟨by decide, by decide⟩)
          have z5 : ∀ k, EA 5 k := fun k => Or.inr (Or.inl ⟨by decide, by decide⟩)
          have z6 : ∀ k, EA 6 k := fun k => Or.inr (Or.inl ⟨by decide, by decide⟩)
          have z7 : ∀ k, EA 7 k := fun k => Or.inr (Or.inl ⟨by decide, by decide⟩)
          have z0 : ∀ k, k = 0 ∨ k = 3 ∨ k = 6 ∨ k = 10 → EA 0 k := fun k hk => Or.inr (Or.inr ⟨rfl, by omega⟩)
          exact ((((((((((((((OutM.rf.sti (z0 0 (by decide))).sti (z4 _)).sti (z5 _)).sti (z6 _)).sti (z0 10 (by decide))).sti (z7 _)).sti (z1 _)).sti (z1 _)).sti (z1 _)).sti (z1 _)).sti (z1 _)).sti (z1 _)).sti (z1 _)).sti (z0 6 (by decide))).sti (z0 3 (by decide))
        · rw [if_pos (by rw [show V 0 0 0 = 16 by omega])]
          exact Or.inl ⟨prOK_no (fun z => c4 z.2.2.2), rfl⟩
