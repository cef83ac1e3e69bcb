/-! THE CLASS: a line of the book; what becomes of a letter that comes -/
section
variable {V : VS} {v f t x c q k : Nat}
theorem bookV_o (h : ¬ (23 ≤ c ∧ c ≤ 27)) (h2 : ¬ (c = 0 ∧ k = 3)) : bookV V v f t x c q k = V c q k := by
  unfold bookV
  split
  · simp (disch := omega) only [vset_ne]
  · rfl
theorem bookV_3 : bookV V v f t x 0 0 3 = if V 0 0 3 < 200 then V 0 0 3 + 1 else V 0 0 3 := by
  unfold bookV
  split
  · rw [vset_eq ⟨rfl, rfl, rfl⟩]
  · rfl
theorem bookV_n (h : ¬ k = V 0 0 3) (h2 : c ≠ 0) : bookV V v f t x c q k = V c q k := by
  unfold bookV
  split
  · simp (disch := omega) only [vset_ne]
  · rfl
theorem live_book (h3 : V 0 0 3 < 200) (h : live (bookV V v f t x) c q k) : lput (lput (lput (lput (lput (lput (live V) 23 0 (V 0 0 3)) 24 0 (V 0 0 3)) 25 0 (V 0 0 3)) 26 0 (V 0 0 3)) 27 0 (V 0 0 3)) 0 0 3 c q k := by
  rcases live_diff h (bookV_o (by omega) (by omega)) with h | h | h | h | h | h
  · exact lput_of (lput_of (lput_of (lput_of (lput_of (lput_of h)))))
  · rw [bookV_o (by omega) (by omega)] at h
    omega
  · rw [bookV_o (by omega) (by omega)] at h
    omega
  · rw [bookV_o (by omega) (by omega)] at h
    omega
  · rw [bookV_o (by omega) (by omega)] at h
    omega
  · rw [bookV_3, if_pos h3] at h
    obtain ⟨c1, c2, rfl, k1, k2⟩ := h
    have e2 : k = V 0 0 3 := by omega
    have : c = 23 ∨ c = 24 ∨ c = 25 ∨ c = 26 ∨ c = 27 := by omega
    subst e2
    rcases this with rfl | rfl | rfl | rfl | rfl
    · exact lput_of (lput_of (lput_of (lput_of (lput_of (Or.inl ⟨rfl, rfl, rfl⟩)))))
    · exact lput_of (lput_of (lput_of (lput_of (Or.inl ⟨rfl, rfl, rfl⟩))))
    · exact lput_of (lput_of (lput_of (Or.inl ⟨rfl, rfl, rfl⟩)))
    · exact lput_of (lput_of (Or.inl ⟨rfl, rfl, rfl⟩))
    · exact lput_of (Or.inl ⟨rfl, rfl, rfl⟩)
end
theorem c_book {μ : Mm} {w : Nat} {V : VS} (h : HC μ w V) (v f t x : Nat) : ∃ μ2, Book_add (w + 13) (nI (V 0 0 4)) (nI v) (nI f) (nI t) (nI x) μ = some μ2 ∧ HC μ2 w (bookV V v f t x) ∧ Out (inW w) μ μ2 := by
  have b := h.b200
  have e0 := h.bn
  unfold Book_add
  by_cases h3 : V 0 0 3 < 200
  · simp (disch := omega) only [lt_eq, bnd_eq, bni_eq, bnd2_eq, nI_ltE, nI_leE, nI_eqE, eq_0, lt_0E, le_0, z_lt, z_le, eq_m1, m1_eq, nI_add, nI_mulE, ix_nI, ix_0, chv_nI, chk_ok, chk_T, sti_e, sti_n, sti_2, stl_1, stl_e, stl_n, if_true, if_false, not_true_eq_false, not_false_eq_true, eq_self, Bool.false_eq_true, Bool.true_eq_false, e0, h3]
    have pp : ∀ c, 23 ≤ c → c ≤ 27 → pot c 0 (V 0 0 3) := fun c c1 c2 => Or.inr (Or.inr (Or.inr (Or.inr (Or.inr (Or.inr (Or.inr (Or.inr ⟨c1, c2, rfl, h3⟩)))))))
    refine ⟨_, rfl, ⟨?_, h.2.1, ?_⟩, ?_⟩
    · have a1 := h.1.put 23 0 (V 0 0 3) (V 0 0 4) (o := w + 13 + 1) (k := V 0 0 3) (v := nI (V 0 0 4)) (pp 23 (by decide) (by decide)) (by show _ = w + 14; omega) rfl rfl ⟨by decide, by decide⟩
      have a2 := a1.put 24 0 (V 0 0 3) v (o := w + 13 + 2) (k := V 0 0 3) (v := nI v) (pp 24 (by decide) (by decide)) (by show _ = w + 15; omega) rfl rfl ⟨by decide, by decide⟩
      have a3 := a2.put 25 0 (V 0 0 3) f (o := w + 13 + 3) (k := V 0 0 3) (v := nI f) (pp 25 (by decide) (by decide)) (by show _ = w + 16; omega) rfl rfl ⟨by decide, by decide⟩
      have a4 := a3.put 26 0 (V 0 0 3) t (o := w + 13 + 4) (k := V 0 0 3) (v := nI t) (pp 26 (by decide) (by decide)) (by show _ = w + 17; omega) rfl rfl ⟨by decide, by decide⟩
      have a5 := a4.put 27 0 (V 0 0 3) x (o := w + 13 + 5) (k := V 0 0 3) (v := nI x) (pp 27 (by decide) (by decide)) (by show _ = w + 18; omega) rfl rfl ⟨by decide, by decide⟩
      have a6 := a5.put 0 0 3 (V 0 0 3 + 1) (o := w + 13) (k := 5) (v := nI (V 0 0 3 + 1)) (Or.inl ⟨rfl, rfl, by decide⟩) rfl rfl rfl ⟨by decide, by decide⟩
      refine HP.mono a6 (fun c q k hl => live_book h3 hl) (fun c q k hl ho => ?_)
      unfold bookV
      rw [if_pos h3]
    · intro q hq
      rw [bookV_o (by omega) (by omega)] at hq
      rw [bookV_o (by omega) (by omega), bookV_o (by omega) (by omega)]
      exact h.2.2 q hq
    · exact (Out.rf.sti ⟨by omega, by omega⟩ |>.sti ⟨by omega, by omega⟩ |>.sti ⟨by omega, by omega⟩ |>.sti ⟨by omega, by omega⟩ |>.sti ⟨by omega, by omega⟩ |>.sti ⟨by omega, by omega⟩)
  · simp (disch := omega) only [lt_eq, bnd_eq, bni_eq, bnd2_eq, nI_ltE, nI_leE, nI_eqE, eq_0, lt_0E, le_0, z_lt, z_le, eq_m1, m1_eq, nI_add, nI_mulE, ix_nI, ix_0, chv_nI, chk_ok, chk_T, sti_e, sti_n, sti_2, stl_1, stl_e, stl_n, if_true, if_false, not_true_eq_false, not_false_eq_true, eq_self, Bool.false_eq_true, Bool.true_eq_false, e0, h3]
    refine ⟨_, rfl, ?_, Out.rf⟩
    unfold bookV
    rw [if_neg h3]
    exact h
/-- a store of one component that changes what is there in no way -/
theorem live_same {V U : VS} {c q k : Nat} (h : live U c q k) (e0 : U 0 0 0 = V 0 0 0) (e3 : U 3 q 0 = V 3 q 0) (e6 : U 6 q 0 = V 6 q 0) (e1 : U 0 0 1 = V 0 0 1) (e2 : U 0 0 2 = V 0 0 2) (e4 : U 0 0 3 = V 0 0 3) : live V c q k := live_sub h e0 (Nat.le_of_eq e3) (Nat.le_of_eq e6) (Nat.le_of_eq e1) (Nat.le_of_eq e2) (Nat.le_of_eq e4)
theorem HC.put1 {μ : Mm} {w : Nat} {V : VS} (h : HC μ w V) (c p i x : Nat) {o k : Nat} {v : Int32} (hl : live V c p i) (ho : o = w + oC c p i) (hk : k = pC c i) (hv : v = eC c x) (h1 : ownC c) (h2 : c ≠ 3 ∧ c ≠ 6 ∧ ¬ (c = 0 ∧ i < 4)) : HC (sti μ o k v) w (vset V c p i x) ∧ Out (inW w) μ (sti μ o k v) := by
  have hb := oC_lt (pot_of h hl)
  refine ⟨⟨?_, h.2.1, ?_⟩, Out.rf.sti (by subst ho; exact ⟨by omega, by omega⟩)⟩
  · refine HP.mono (h.1.put c p i x (pot_of h hl) ho hk hv h1) (fun c2 q k hl => ?_) (fun _ _ _ _ _ => rfl)
    refine lput_of (live_same hl ?_ ?_ ?_ ?_ ?_ ?_) <;> exact vset_ne (by omega)
  · intro q hq
    rw [vset_ne (by omega)] at hq
    unfold ownC at h1
    rw [vset_ne (by omega), vset_ne (by omega)]
    exact h.2.2 q hq
