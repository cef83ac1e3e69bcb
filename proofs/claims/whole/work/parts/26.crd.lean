/-! THE CLASS: reading a world -/
section
variable {μ : Mm} {w : Nat} {V : VS} {p i v j : Nat}
theorem HC.P (h : HC μ w V) : μ.1 w 1 = nI (V 0 0 0) := (h.1 0 0 0 (by unfold live; omega)).2 (by unfold ownC; omega)
theorem HC.vn (h : HC μ w V) : μ.1 (w + 2) 4 = nI (V 0 0 1) := (h.1 0 0 1 (by unfold live; omega)).2 (by unfold ownC; omega)
theorem HC.wn (h : HC μ w V) : μ.1 (w + 7) 5 = nI (V 0 0 2) := (h.1 0 0 2 (by unfold live; omega)).2 (by unfold ownC; omega)
theorem HC.bn (h : HC μ w V) : μ.1 (w + 13) 5 = nI (V 0 0 3) := (h.1 0 0 3 (by unfold live; omega)).2 (by unfold ownC; omega)
theorem HC.dy (h : HC μ w V) : μ.1 w 7 = nI (V 0 0 4) := (h.1 0 0 4 (by unfold live; omega)).2 (by unfold ownC; omega)
theorem HC.fr (h : HC μ w V) : μ.1 w 8 = nI (V 0 0 5) := (h.1 0 0 5 (by unfold live; omega)).2 (by unfold ownC; omega)
theorem HC.cu (h : HC μ w V) : μ.1 w 9 = nI (V 0 0 6) := (h.1 0 0 6 (by unfold live; omega)).2 (by unfold ownC; omega)
theorem HC.lo (h : HC μ w V) : μ.1 w 10 = nI (V 0 0 7) := (h.1 0 0 7 (by unfold live; omega)).2 (by unfold ownC; omega)
theorem HC.st (h : HC μ w V) : μ.1 w 6 = nI (V 0 0 8) := (h.1 0 0 8 (by unfold live; omega)).2 (by unfold ownC; omega)
theorem HC.wr (h : HC μ w V) : μ.1 w 11 = nI (V 0 0 9) := (h.1 0 0 9 (by unfold live; omega)).2 (by unfold ownC; omega)
theorem HC.told (h : HC μ w V) (hp : p < V 0 0 0) (hj : j < 6) : μ.1 (w + (21 + 9 * p) + 1) j = nI (V 1 p j) := by
  rw [show w + (21 + 9 * p) + 1 = w + (22 + 9 * p) by omega]
  exact (h.1 1 p j (by unfold live; omega)).2 (by unfold ownC; omega)
theorem HC.row (h : HC μ w V) (hp : p < V 0 0 0) (hi : i < V 3 p 0) : μ.1 (w + (21 + 9 * p) + 2) i = nI (V 2 p i) := by
  rw [show w + (21 + 9 * p) + 2 = w + (23 + 9 * p) by omega]
  exact (h.1 2 p i (by unfold live; omega)).2 (by unfold ownC; omega)
theorem HC.rc (h : HC μ w V) (hp : p < V 0 0 0) : μ.1 (w + (21 + 9 * p)) 3 = nI (V 3 p 0) := (h.1 3 p 0 (by unfold live; omega)).2 (by unfold ownC; omega)
theorem HC.nx (h : HC μ w V) (hp : p < V 0 0 0) : μ.1 (w + (21 + 9 * p)) 4 = nI (V 4 p 0) := (h.1 4 p 0 (by unfold live; omega)).2 (by unfold ownC; omega)
theorem HC.sn (h : HC μ w V) (hp : p < V 0 0 0) : μ.1 (w + (21 + 9 * p)) 5 = nI (V 5 p 0) := (h.1 5 p 0 (by unfold live; omega)).2 (by unfold ownC; omega)
theorem HC.hc (h : HC μ w V) (hp : p < V 0 0 0) : μ.1 (w + (21 + 9 * p) + 3) 5 = nI (V 6 p 0) := by
  rw [show w + (21 + 9 * p) + 3 = w + (24 + 9 * p) by omega]
  exact (h.1 6 p 0 (by unfold live; omega)).2 (by unfold ownC; omega)
theorem HC.lv (h : HC μ w V) (hp : p < V 0 0 0) (hi : i < V 6 p 0) : μ.1 (w + (21 + 9 * p) + 4) i = nI (V 7 p i) := by
  rw [show w + (21 + 9 * p) + 4 = w + (25 + 9 * p) by omega]
  exact (h.1 7 p i (by unfold live; omega)).2 (by unfold ownC; omega)
theorem HC.lf (h : HC μ w V) (hp : p < V 0 0 0) (hi : i < V 6 p 0) : μ.1 (w + (21 + 9 * p) + 5) i = nI (V 8 p i) - nI 1 := by
  rw [show w + (21 + 9 * p) + 5 = w + (26 + 9 * p) by omega]
  exact (h.1 8 p i (by unfold live; omega)).2 (by unfold ownC; omega)
theorem HC.ld (h : HC μ w V) (hp : p < V 0 0 0) (hi : i < V 6 p 0) : μ.1 (w + (21 + 9 * p) + 7) i = nI (V 9 p i) := by
  rw [show w + (21 + 9 * p) + 7 = w + (28 + 9 * p) by omega]
  exact (h.1 9 p i (by unfold live; omega)).2 (by unfold ownC; omega)
theorem HC.ll (h : HC μ w V) (hp : p < V 0 0 0) (hi : i < V 6 p 0) : μ.1 (w + (21 + 9 * p) + 8) i = nI (V 10 p i) := by
  rw [show w + (21 + 9 * p) + 8 = w + (29 + 9 * p) by omega]
  exact (h.1 10 p i (by unfold live; omega)).2 (by unfold ownC; omega)
theorem HC.vc (h : HC μ w V) (hv : v < V 0 0 1) : μ.1 (w + 3) v = nI (V 11 0 v) := (h.1 11 0 v (by unfold live; omega)).2 (by unfold ownC; omega)
theorem HC.vm (h : HC μ w V) (hv : v < V 0 0 1) : μ.1 (w + 4) v = nI (V 12 0 v) := (h.1 12 0 v (by unfold live; omega)).2 (by unfold ownC; omega)
theorem HC.vp (h : HC μ w V) (hv : v < V 0 0 1) : μ.1 (w + 5) v = nI (V 13 0 v) - nI 1 := (h.1 13 0 v (by unfold live; omega)).2 (by unfold ownC; omega)
theorem HC.vw (h : HC μ w V) (hv : v < V 0 0 1) : μ.1 (w + 6) v = nI (V 14 0 v) - nI 1 := (h.1 14 0 v (by unfold live; omega)).2 (by unfold ownC; omega)
theorem HC.wv (h : HC μ w V) (hi : i < V 0 0 2) : μ.1 (w + 8) i = nI (V 15 0 i) := (h.1 15 0 i (by unfold live; omega)).2 (by unfold ownC; omega)
theorem HC.wf (h : HC μ w V) (hi : i < V 0 0 2) : μ.1 (w + 9) i = nI (V 16 0 i) := (h.1 16 0 i (by unfold live; omega)).2 (by unfold ownC; omega)
theorem HC.wt (h : HC μ w V) (hi : i < V 0 0 2) : μ.1 (w + 10) i = nI (V 17 0 i) := (h.1 17 0 i (by unfold live; omega)).2 (by unfold ownC; omega)
theorem HC.wd (h : HC μ w V) (hi : i < V 0 0 2) : μ.1 (w + 11) i = nI (V 18 0 i) := (h.1 18 0 i (by unfold live; omega)).2 (by unfold ownC; omega)
theorem HC.ru (h : HC μ w V) (hj : j < 4) : μ.1 (w + 19) j = nI (V 20 0 j) := (h.1 20 0 j (by unfold live; omega)).2 (by unfold ownC; omega)
theorem HC.b0 (h : HC μ w V) (hi : i < V 0 0 3) : μ.1 (w + 14) i = nI (V 23 0 i) := (h.1 23 0 i (by unfold live; omega)).2 (by unfold ownC; omega)
theorem HC.b1 (h : HC μ w V) (hi : i < V 0 0 3) : μ.1 (w + 15) i = nI (V 24 0 i) := (h.1 24 0 i (by unfold live; omega)).2 (by unfold ownC; omega)
theorem HC.b2 (h : HC μ w V) (hi : i < V 0 0 3) : μ.1 (w + 16) i = nI (V 25 0 i) := (h.1 25 0 i (by unfold live; omega)).2 (by unfold ownC; omega)
theorem HC.b3 (h : HC μ w V) (hi : i < V 0 0 3) : μ.1 (w + 17) i = nI (V 26 0 i) := (h.1 26 0 i (by unfold live; omega)).2 (by unfold ownC; omega)
theorem HC.b4 (h : HC μ w V) (hi : i < V 0 0 3) : μ.1 (w + 18) i = nI (V 27 0 i) := (h.1 27 0 i (by unfold live; omega)).2 (by unfold ownC; omega)
theorem HC.P16 (h : HC μ w V) : V 0 0 0 ≤ 16 := by
  by_cases hh : 16 < V 0 0 0
  · have := (h.1 1 16 0 (by unfold live; omega)).1
    unfold pot at this
    omega
  · omega
theorem HC.v40 (h : HC μ w V) : V 0 0 1 ≤ 40 := by
  by_cases hh : 40 < V 0 0 1
  · have := (h.1 11 0 40 (by unfold live; omega)).1
    unfold pot at this
    omega
  · omega
theorem HC.w60 (h : HC μ w V) : V 0 0 2 ≤ 60 := by
  by_cases hh : 60 < V 0 0 2
  · have := (h.1 15 0 60 (by unfold live; omega)).1
    unfold pot at this
    omega
  · omega
theorem HC.b200 (h : HC μ w V) : V 0 0 3 ≤ 200 := by
  by_cases hh : 200 < V 0 0 3
  · have := (h.1 23 0 200 (by unfold live; omega)).1
    unfold pot at this
    omega
  · omega
theorem HC.h3 (h : HC μ w V) (hp : p < V 0 0 0) : V 6 p 0 ≤ 3 := by
  by_cases hh : 3 < V 6 p 0
  · have := (h.1 7 p 3 (by unfold live; omega)).1
    unfold pot at this
    omega
  · omega
theorem HC.r9 (h : HC μ w V) (hp : p < V 0 0 0) : V 3 p 0 ≤ 9 := by
  by_cases hh : 9 < V 3 p 0
  · have := (h.1 2 p 9 (by unfold live; omega)).1
    unfold pot at this
    omega
  · omega
theorem HC.lens (h : HC μ w V) (hp : p < 16) : sL SC (w + (21 + 9 * p) + 3 + 1) = 3 ∧ sL SC (w + (21 + 9 * p) + 3 + 2) = 3 ∧ sL SC (w + (21 + 9 * p) + 3 + 3) = 3 ∧ sL SC (w + (21 + 9 * p) + 3 + 4) = 3 ∧ sL SC (w + (21 + 9 * p) + 3 + 5) = 3 := by
  have k := h.2.1
  have a0 := len_per (j := 0) k hp (by decide)
  have a1 := len_per (j := 1) k hp (by decide)
  have a2 := len_per (j := 2) k hp (by decide)
  have a3 := len_per (j := 3) k hp (by decide)
  have a4 := len_per (j := 4) k hp (by decide)
  refine ⟨?_, ?_, ?_, ?_, ?_⟩
  · rw [show w + (21 + 9 * p) + 3 + 1 = w + (25 + 9 * p + 0) by omega]; exact a0
  · rw [show w + (21 + 9 * p) + 3 + 2 = w + (25 + 9 * p + 1) by omega]; exact a1
  · rw [show w + (21 + 9 * p) + 3 + 3 = w + (25 + 9 * p + 2) by omega]; exact a2
  · rw [show w + (21 + 9 * p) + 3 + 4 = w + (25 + 9 * p + 3) by omega]; exact a3
  · rw [show w + (21 + 9 * p) + 3 + 5 = w + (25 + 9 * p + 4) by omega]; exact a4
theorem HC.lenw (h : HC μ w V) : sL SC (w + 7 + 1) = 60 ∧ sL SC (w + 7 + 2) = 60 ∧ sL SC (w + 7 + 3) = 60 ∧ sL SC (w + 7 + 4) = 60 ∧ sL SC (w + 7 + 5) = 60 := len_way h.2.1
end
