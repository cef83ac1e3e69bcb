/-! THE CHECK: a letter given, a letter lost -/
theorem sub9 (a b c : Int32) : a + (b - c) + c = a + b := by
  rw [Int32.add_assoc, Int32.sub_add_cancel]
theorem i32_sa (b c : Int32) : b - c + c = b := Int32.sub_add_cancel b c
def isO (n o : Nat) (_ : Nat) : Prop := o = n
theorem m_holds {ν : Mm} {th : Nat} {V : VS} {p v f : Nat} {fI : Int32} (h : HM ν th V) (hp : p < V 0 0 0) (h3 : V 6 p 0 < 3) (hv : v < V 0 0 1) (hf : fI + nI 1 = nI f) : ∃ ν2, M_holds (nI p) (nI v) fI ν = some ν2 ∧ HM ν2 th (giveV V p v f) ∧ OutM (isO 1) ν ν2 := by
  have p16 : p < 16 := Nat.lt_of_lt_of_le hp h.P16
  have v40 : v < 40 := Nat.lt_of_lt_of_le hv h.v40
  have e0 := h.hc hp
  have e1 := h.dy
  have e2 := h.r1
  have e3 := h.r0
  have e4 := h.hl hp
  have e5 := h.hh hp
  have q1 : nI (V 0 0 4) + (nI (V 20 0 1) - nI 9) + nI 9 = nI (V 0 0 4 + V 20 0 1) := by rw [sub9, nI_add]
  have q0 : nI (V 20 0 0) - nI 9 + nI 9 = nI (V 20 0 0) := i32_sa _ _
  have pp : ∀ c, 7 ≤ c → c ≤ 10 → pot c p (V 6 p 0) := fun c c1 c2 => Or.inr (Or.inr (Or.inr (Or.inr (Or.inl ⟨c1, c2, p16, h3⟩))))
  have po : ∀ c, ((3 ≤ c ∧ c ≤ 6) ∨ c = 21 ∨ c = 22) → pot c p 0 := fun c hc => Or.inr (Or.inr (Or.inr (Or.inl ⟨hc, p16, rfl⟩)))
  have a1 := h.1.put 7 p (V 6 p 0) v (o := 1) (k := 279 + 4 * (3 * p + V 6 p 0)) (v := nI v) (pp 7 (by decide) (by decide)) rfl rfl rfl (by unfold own3; omega)
  have a2 := a1.put 8 p (V 6 p 0) f (o := 1) (k := 279 + 4 * (3 * p + V 6 p 0) + 1) (v := nI f) (pp 8 (by decide) (by decide)) rfl rfl rfl (by unfold own3; omega)
  have a3 := a2.put 9 p (V 6 p 0) (V 0 0 4 + V 20 0 1) (o := 1) (k := 279 + 4 * (3 * p + V 6 p 0) + 2) (v := nI (V 0 0 4 + V 20 0 1)) (pp 9 (by decide) (by decide)) rfl rfl rfl (by unfold own3; omega)
  have a4 := a3.put 10 p (V 6 p 0) (V 20 0 0) (o := 1) (k := 279 + 4 * (3 * p + V 6 p 0) + 3) (v := nI (V 20 0 0)) (pp 10 (by decide) (by decide)) rfl rfl rfl (by unfold own3; omega)
  have a5 := a4.put 6 p 0 (V 6 p 0 + 1) (o := 1) (k := 263 + p) (v := nI (V 6 p 0 + 1)) (po 6 (by omega)) rfl rfl rfl (by unfold own3; omega)
  have hO : ∀ b1 b2 b3 b4 b5 b6 b7 b8 b9 b10 b11 b12, OutM (isO 1) ν (sti (sti (sti (sti (sti (sti ν 1 b1 b2) 1 b3 b4) 1 b5 b6) 1 b7 b8) 1 b9 b10) 1 b11 b12) := fun b1 b2 b3 b4 b5 b6 b7 b8 b9 b10 b11 b12 => ((((((OutM.rf (E := isO 1)).sti rfl).sti rfl).sti rfl).sti rfl).sti rfl).sti rfl
  have fin : ∀ (ν2 : Mm), OutM (isO 1) ν ν2 → (∀ L, HN ν2 (giveV V p v f) L → (∀ c q k, liveT th (giveV V p v f) c q k → L c q k) → HM ν2 th (giveV V p v f)) := by
    intro ν2 ho L hL hl
    exact h.of (hL.mono hl (fun _ _ _ _ _ => rfl)) (giveV_o (by omega) (by omega) (by omega)) (fun p => giveV_o (by omega) (by omega) (by omega)) (giveV_o (by omega) (by omega) (by omega)) (ho 0 10 (by unfold isO; omega)) (ho 0 5 (by unfold isO; omega)) (ho 0 15 (by unfold isO; omega))
  have lg : ∀ c q k, liveT th (giveV V p v f) c q k → lput (lput (lput (lput (lput (liveT th V) 7 p (V 6 p 0)) 8 p (V 6 p 0)) 9 p (V 6 p 0)) 10 p (V 6 p 0)) 6 p 0 c q k := by
    intro c q k hl
    rcases live_give hl.1 with x | x | x | x | x | x
    · exact Or.inl x
    · exact Or.inr (Or.inl x)
    · exact Or.inr (Or.inr (Or.inl x))
    · exact Or.inr (Or.inr (Or.inr (Or.inl x)))
    · exact Or.inr (Or.inr (Or.inr (Or.inr (Or.inl x))))
    · exact Or.inr (Or.inr (Or.inr (Or.inr (Or.inr ⟨x, hl.2⟩))))
  unfold M_holds M_letterAt
  by_cases ev : v < 20
  · have nv : ¬ 20 ≤ v := by omega
    have a6 := a5.put 21 p 0 (V 21 p 0 ||| 2 ^ v) (o := 1) (k := 215 + p) (v := nI (V 21 p 0 ||| 2 ^ v)) (po 21 (by omega)) rfl rfl rfl (by unfold own3; omega)
    have es : nI (V 21 p 0) ||| nI 1 <<< (nI v &&& 31) = nI (V 21 p 0 ||| 2 ^ v) := by rw [shl1 v (by omega), nI_or]
    have eg : giveV V p v f = vset (vset (vset (vset (vset (vset V 7 p (V 6 p 0) v) 8 p (V 6 p 0) f) 9 p (V 6 p 0) (V 0 0 4 + V 20 0 1)) 10 p (V 6 p 0) (V 20 0 0)) 6 p 0 (V 6 p 0 + 1)) 21 p 0 (V 21 p 0 ||| 2 ^ v) := by
      unfold giveV hadV
      rw [if_pos ev]
      simp (disch := omega) only [vset_ne]
    rw [← eg] at a6
    simp (disch := omega) only [lt_eq, bnd_eq, bni_eq, bnd2_eq, nI_ltE, nI_leE, nI_eqE, eq_0, lt_0E, le_0, z_lt, z_le, eq_m1, m1_eq, nI_add, nI_mulE, ix_nI, ix_0, chv_nI, chk_ok, chk_T, sti_e, sti_n, sti_2, stl_1, stl_e, stl_n, if_true, if_false, not_true_eq_false, not_false_eq_true, eq_self, Bool.false_eq_true, Bool.true_eq_false, e0, e1, e2, e3, e4, hf, q1, q0, nv, es, Nat.add_zero]
    exact ⟨_, rfl, fin _ (hO _ _ _ _ _ _ _ _ _ _ _ _) _ a6 (fun c q k hl => lput_of (lg c q k hl)), hO _ _ _ _ _ _ _ _ _ _ _ _⟩
  · have nv : 20 ≤ v := by omega
    have a6 := a5.put 22 p 0 (V 22 p 0 ||| 2 ^ (v - 20)) (o := 1) (k := 231 + p) (v := nI (V 22 p 0 ||| 2 ^ (v - 20))) (po 22 (by omega)) rfl rfl rfl (by unfold own3; omega)
    have es : nI (V 22 p 0) ||| nI 1 <<< ((nI v - nI 20) &&& 31) = nI (V 22 p 0 ||| 2 ^ (v - 20)) := by rw [nI_subE nv, shl1 (v - 20) (by omega), nI_or]
    have eg : giveV V p v f = vset (vset (vset (vset (vset (vset V 7 p (V 6 p 0) v) 8 p (V 6 p 0) f) 9 p (V 6 p 0) (V 0 0 4 + V 20 0 1)) 10 p (V 6 p 0) (V 20 0 0)) 6 p 0 (V 6 p 0 + 1)) 22 p 0 (V 22 p 0 ||| 2 ^ (v - 20)) := by
      unfold giveV hadV
      rw [if_neg (by omega)]
      simp (disch := omega) only [vset_ne]
    rw [← eg] at a6
    simp (disch := omega) only [lt_eq, bnd_eq, bni_eq, bnd2_eq, nI_ltE, nI_leE, nI_eqE, eq_0, lt_0E, le_0, z_lt, z_le, eq_m1, m1_eq, nI_add, nI_mulE, ix_nI, ix_0, chv_nI, chk_ok, chk_T, sti_e, sti_n, sti_2, stl_1, stl_e, stl_n, if_true, if_false, not_true_eq_false, not_false_eq_true, eq_self, Bool.false_eq_true, Bool.true_eq_false, e0, e1, e2, e3, e5, hf, q1, q0, nv, es, Nat.add_zero]
    exact ⟨_, rfl, fin _ (hO _ _ _ _ _ _ _ _ _ _ _ _) _ a6 (fun c q k hl => lput_of (lg c q k hl)), hO _ _ _ _ _ _ _ _ _ _ _ _⟩
