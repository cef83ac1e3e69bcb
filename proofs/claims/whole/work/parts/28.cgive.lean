/-! THE CLASS: a letter given -/
theorem pot_of {V : VS} {μ : Mm} {w : Nat} (h : HC μ w V) {c p i : Nat} (hl : live V c p i) : pot c p i := (h.1 c p i hl).1
theorem sub64 : ∀ v, v < 40 → (1 : Int64) <<< (Int32.toInt64 (nI v) &&& 63) = Int64.ofNat (2 ^ v) := by decide +kernel
theorem or_add {a b j m : Nat} (h : a < 2 ^ m) (h2 : j < m) : (a + 2 ^ m * b) ||| 2 ^ j = (a ||| 2 ^ j) + 2 ^ m * b := by
  have h3 : (a ||| 2 ^ j) < 2 ^ m := Nat.or_lt_two_pow h (Nat.pow_lt_pow_right (by decide) h2)
  rw [Nat.add_comm a, Nat.add_comm (a ||| 2 ^ j), Nat.two_pow_add_eq_or_of_lt h, Nat.two_pow_add_eq_or_of_lt h3, Nat.or_assoc]
theorem or_add2 {a b j m : Nat} (h : a < 2 ^ m) : (a + 2 ^ m * b) ||| 2 ^ (m + j) = a + 2 ^ m * (b ||| 2 ^ j) := by
  rw [Nat.add_comm a, Nat.add_comm a, Nat.two_pow_add_eq_or_of_lt h, Nat.two_pow_add_eq_or_of_lt h, Nat.or_assoc, Nat.or_comm a, ← Nat.or_assoc]
  congr 1
  rw [Nat.pow_add, Nat.mul_comm, Nat.mul_comm (2 ^ m) (2 ^ j), Nat.mul_comm (2 ^ m), ← Nat.shiftLeft_eq, ← Nat.shiftLeft_eq, ← Nat.shiftLeft_eq, Nat.shiftLeft_or_distrib]
theorem i64_or (a b : Nat) : Int64.ofNat a ||| Int64.ofNat b = Int64.ofNat (a ||| b) := by
  apply Int64.toBitVec_inj.1
  simp
theorem h64_lo {a b v : Nat} (h : a < 2 ^ 20) (h2 : v < 20) : h64 a b ||| ((1 : Int64) <<< (Int32.toInt64 (nI v) &&& 63)) = h64 (a ||| 2 ^ v) b := by
  rw [sub64 v (by omega)]
  unfold h64
  rw [← or_add h h2, i64_or]
theorem h64_hi {a b v : Nat} (h : a < 2 ^ 20) (h2 : 20 ≤ v) (h3 : v < 40) : h64 a b ||| ((1 : Int64) <<< (Int32.toInt64 (nI v) &&& 63)) = h64 a (b ||| 2 ^ (v - 20)) := by
  rw [sub64 v (by omega)]
  unfold h64
  rw [← or_add2 h, i64_or, show 20 + (v - 20) = v by omega]
theorem c_give {μ : Mm} {w : Nat} {V : VS} {p v f : Nat} {fi : Int32} (h : HC μ w V) (hw : W5 V) (hp : p < V 0 0 0) (h3 : V 6 p 0 < 3) (hv : v < V 0 0 1) (hf : fi = nI f - nI 1) : ∃ μ2, World_give w (nI p) (nI v) fi μ = some μ2 ∧ HC μ2 w (giveV V p v f) ∧ Out (inW w) μ μ2 := by
  have p16 : p < 16 := Nat.lt_of_lt_of_le hp h.P16
  have v40 : v < 40 := Nat.lt_of_lt_of_le hv h.v40
  obtain ⟨l1, l2, l3, l4, l5⟩ := h.lens p16
  have e0 := h.hc hp
  have e1 := h.dy
  have e2 := h.ru (j := 1) (by decide)
  have e3 := h.ru (j := 0) (by decide)
  have ha := c_ladd e0 h3 (by decide) l1 l2 l3 l4 l5 (nI v) fi (nI p) (nI (V 0 0 4 + V 20 0 1)) (nI (V 20 0 0))
  have hh : ∀ c k, Out (inW w) μ c → Out (inW w) μ (stl c (w + (21 + 9 * p)) 6 k) := fun c k z => z.stl ⟨by omega, by omega⟩
  have pp : ∀ c, 7 ≤ c → c ≤ 10 → pot c p (V 6 p 0) := fun c c1 c2 => Or.inr (Or.inr (Or.inr (Or.inr (Or.inl ⟨c1, c2, p16, h3⟩))))
  unfold World_give
  simp (disch := omega) only [lt_eq, bnd_eq, bni_eq, bnd2_eq, nI_ltE, nI_leE, nI_eqE, eq_0, lt_0E, le_0, z_lt, z_le, eq_m1, m1_eq, nI_add, nI_mulE, ix_nI, ix_0, chv_nI, chk_ok, chk_T, sti_e, sti_n, sti_2, stl_1, stl_e, stl_n, if_true, if_false, not_true_eq_false, not_false_eq_true, eq_self, Bool.false_eq_true, Bool.true_eq_false, e1, e2, e3, ha]
  refine ⟨_, rfl, ⟨?_, h.2.1, ?_⟩, ?_⟩
  · have a1 := h.1.put 7 p (V 6 p 0) v (o := w + (21 + 9 * p) + 3 + 1) (k := V 6 p 0) (v := nI v) (pp 7 (by decide) (by decide)) (by show _ = w + (25 + 9 * p); omega) rfl rfl ⟨by decide, by decide⟩
    have a2 := a1.put 8 p (V 6 p 0) f (o := w + (21 + 9 * p) + 3 + 2) (k := V 6 p 0) (v := fi) (pp 8 (by decide) (by decide)) (by show _ = w + (26 + 9 * p); omega) rfl hf ⟨by decide, by decide⟩
    have a3 := a2.free (o := w + (21 + 9 * p) + 3 + 3) (k := V 6 p 0) (nI p) (by omega) (by unfold freeC; omega)
    have a4 := a3.put 9 p (V 6 p 0) (V 0 0 4 + V 20 0 1) (o := w + (21 + 9 * p) + 3 + 4) (k := V 6 p 0) (v := nI (V 0 0 4 + V 20 0 1)) (pp 9 (by decide) (by decide)) (by show _ = w + (28 + 9 * p); omega) rfl rfl ⟨by decide, by decide⟩
    have a5 := a4.put 10 p (V 6 p 0) (V 20 0 0) (o := w + (21 + 9 * p) + 3 + 5) (k := V 6 p 0) (v := nI (V 20 0 0)) (pp 10 (by decide) (by decide)) (by show _ = w + (29 + 9 * p); omega) rfl rfl ⟨by decide, by decide⟩
    have a6 := a5.put 6 p 0 (V 6 p 0 + 1) (o := w + (21 + 9 * p) + 3) (k := 5) (v := nI (V 6 p 0 + 1)) (Or.inr (Or.inr (Or.inr (Or.inl ⟨by omega, p16, rfl⟩)))) (by show _ = w + (24 + 9 * p); omega) rfl rfl ⟨by decide, by decide⟩
    refine HP.mono a6 (fun c q k hl => live_give hl) (fun c q k hl ho => ?_)
    unfold giveV
    exact hadV_o ho.1 ho.2
  · intro q hq
    rw [giveV_o (by decide) (by decide) (by decide)] at hq
    have hb := hw q hq
    rw [giveV_21, giveV_22]
    by_cases e : q = p
    · subst e
      rw [stl_e ⟨rfl, rfl⟩]
      by_cases ev : v < 20
      · rw [if_pos ⟨ev, rfl⟩, if_neg (by omega), ← h64_lo (by omega) ev, h.2.2 q hq]
      · rw [if_neg (by omega), if_pos ⟨by omega, rfl⟩, ← h64_hi (by omega) (by omega) v40, h.2.2 q hq]
    · rw [stl_n (by omega), if_neg (by omega), if_neg (by omega)]
      exact h.2.2 q hq
  · exact (Out.rf.sti ⟨by omega, by omega⟩ |>.sti ⟨by omega, by omega⟩ |>.sti ⟨by omega, by omega⟩ |>.sti ⟨by omega, by omega⟩ |>.sti ⟨by omega, by omega⟩ |>.sti ⟨by omega, by omega⟩).stl ⟨by omega, by omega⟩
