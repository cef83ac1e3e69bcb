/-! ADDRESS, SET: the bits of the stopped ones -/
theorem sm31 : ∀ q, q < 31 → (nI q &&& 31).toBitVec.smod 32 = BitVec.ofNat 32 q := by decide +kernel
theorem b32 (x : Int32) {q : Nat} (hq : q < 31) : (x >>> (nI q &&& 31)) &&& nI 1 = nI (if x.toBitVec.getLsbD q then 1 else 0) := by
  apply Int32.toBitVec_inj.mp
  rw [Int32.toBitVec_and, Int32.toBitVec_shiftRight, sm31 q hq]
  show _ = BitVec.ofNat 32 _
  rw [show (nI 1).toBitVec = 1#32 from rfl]
  apply BitVec.eq_of_getLsbD_eq
  intro i hi
  rw [BitVec.getLsbD_and, BitVec.sshiftRight_eq', BitVec.getLsbD_sshiftRight, BitVec.toNat_ofNat, Nat.mod_eq_of_lt (show q < 2 ^ 32 by omega)]
  by_cases h0 : i = 0
  · subst h0
    by_cases e : x.toBitVec.getLsbD q = true
    · rw [Nat.add_zero, e]
      simp [show q < 32 by omega]
    · have e : x.toBitVec.getLsbD q = false := by simpa using e
      rw [Nat.add_zero, e]
      simp [show q < 32 by omega]
  · have : (1#32).getLsbD i = false := by simp [h0]
    rw [this, Bool.and_false]
    split
    · exact this.symm
    · simp
theorem shl_bit (v : Int32) {p : Nat} (hp : p < 31) (i : Nat) : (v <<< (nI p &&& 31)).toBitVec.getLsbD i = (decide (i < 32) && !decide (i < p) && v.toBitVec.getLsbD (i - p)) := by
  rw [Int32.toBitVec_shiftLeft, sm31 p hp, BitVec.shiftLeft_eq', BitVec.toNat_ofNat, Nat.mod_eq_of_lt (show p < 2 ^ 32 by omega), BitVec.getLsbD_shiftLeft]
theorem one_bit {p q : Nat} (hp : p < 31) (hq : q < 31) : ((nI 1 <<< (nI p &&& 31)) : Int32).toBitVec.getLsbD q = decide (q = p) := by
  rw [shl_bit _ hp, show (nI 1).toBitVec = 1#32 from rfl]
  by_cases e : q = p
  · subst e; simp; omega
  · by_cases e2 : q < p
    · simp [e, e2]
    · have : q - p ≠ 0 := by omega
      simp [e, this]
theorem clr_bit (x : Int32) {p q : Nat} (hp : p < 31) (hq : q < 31) : ((x &&& ((nI 1 <<< (nI p &&& 31)) ^^^ (-1))) >>> (nI q &&& 31)) &&& nI 1 = if q = p then nI 0 else (x >>> (nI q &&& 31)) &&& nI 1 := by
  rw [b32 _ hq, b32 _ hq, Int32.toBitVec_and, Int32.toBitVec_xor, BitVec.getLsbD_and, BitVec.getLsbD_xor, one_bit hp hq, show ((-1 : Int32)).toBitVec = BitVec.allOnes 32 from by decide, BitVec.getLsbD_allOnes, decide_eq_true (show q < 32 by omega)]
  by_cases e : q = p
  · simp [e]
  · simp [e]
theorem cst_bit (x : Int32) {p q s : Nat} (hp : p < 31) (hq : q < 31) (hs : s < 2) : (((x &&& ((nI 1 <<< (nI p &&& 31)) ^^^ (-1))) ||| (nI s <<< (nI p &&& 31))) >>> (nI q &&& 31)) &&& nI 1 = if q = p then nI s else (x >>> (nI q &&& 31)) &&& nI 1 := by
  rw [b32 _ hq, Int32.toBitVec_or, BitVec.getLsbD_or]
  have hc := clr_bit x hp hq
  rw [b32 _ hq] at hc
  rcases (show s = 0 ∨ s = 1 by omega) with rfl | rfl
  · have : ((nI 0 <<< (nI p &&& 31)) : Int32).toBitVec.getLsbD q = false := by
      rw [shl_bit _ hp, show (nI 0).toBitVec = 0#32 from rfl]; simp
    rw [this, Bool.or_false, hc]
  · rw [one_bit hp hq]
    by_cases e : q = p
    · rw [if_pos e, decide_eq_true e, Bool.or_true, if_pos rfl]
    · rw [decide_eq_false e, Bool.or_false, hc, if_neg e, if_neg e]

def adOK (V : VS) (a b : Int32) : Bool := pnV V a && (decide (b = -1) || (pnV V b && (!decide (b = a) && decide (V 3 (ix a) 0 < 9))))
def adV (V : VS) (a : Nat) (b : Int32) : VS := if b = -1 then vset (vset V 3 a 0 0) 4 a 0 0 else vset (vset V 2 a (V 3 a 0) (ix b)) 3 a 0 (V 3 a 0 + 1)
theorem adOK_no {V : VS} {a b : Int32} (h : ¬ (pnV V a = true ∧ (b = -1 ∨ (pnV V b = true ∧ ¬ b = a ∧ V 3 (ix a) 0 < 9)))) : adOK V a b = false := by
  unfold adOK
  rcases hp : pnV V a with _ | _
  · rfl
  · by_cases e : b = -1
    · exact absurd ⟨hp, Or.inl e⟩ h
    · rcases hq : pnV V b with _ | _
      · simp [e]
      · by_cases e2 : b = a
        · subst e2
          simp [e]
        · by_cases e3 : V 3 (ix a) 0 < 9
          · exact absurd ⟨hp, Or.inr ⟨hq, e2, e3⟩⟩ h
          · simp [e, e3]
theorem adOK_yes {V : VS} {a b : Int32} (h : pnV V a = true ∧ (b = -1 ∨ (pnV V b = true ∧ ¬ b = a ∧ V 3 (ix a) 0 < 9))) : adOK V a b = true := by
  unfold adOK
  rw [h.1]
  rcases h.2 with e | ⟨e1, e2, e3⟩
  · simp [e]
  · simp [e1, e2, e3]
theorem c_address {μ : Mm} {V : VS} {d : Nat} (h : HC μ 1 V) (hw : WF d V) (a b : Int32) : (adOK V a b = false ∧ Nine_address a b μ = some (-1, μ)) ∨ (adOK V a b = true ∧ ∃ μ2, Nine_address a b μ = some (nI ((adV V (ix a) b) 3 (ix a) 0), μ2) ∧ HC μ2 1 (adV V (ix a) b) ∧ Act μ μ2) := by
  have P16 := h.P16
  unfold Nine_address
  rw [c_hasP h a, bnd_eq]
  by_cases c1 : pnV V a = true
  · obtain ⟨p, hp, rfl⟩ := pnV_some P16 c1
    have c1' : inI (nI p) (nI 0) (nI (V 0 0 0) - nI 1) = true := c1
    rw [if_pos c1', if_neg (by decide), chv_nI (by omega) (by decide), ix_nI (by omega)]
    by_cases c2 : b = -1
    · right
      refine ⟨adOK_yes ⟨c1, Or.inl c2⟩, ?_⟩
      rw [if_pos c2, lt_eq, lt_eq]
      have g1 := h.shr (x := 0) hp (Nat.zero_le _)
      have g2 := (g1.put1 4 p 0 0 (o := 1 + (21 + 9 * p)) (k := 4) (v := nI 0) (live_p (by rw [vset_ne (by omega)]; exact hp) (by omega)) rfl rfl rfl (by unfold ownC; omega) (by omega)).1
      have ea : adV V p b = vset (vset V 3 p 0 0) 4 p 0 0 := if_pos c2
      rw [ea]
      unfold Nine_address_j91 Nine_forgetBefore
      rw [lt_eq, bnd_eq, sti_n (by omega), sti_n (by omega), sti_e (by omega)]
      refine ⟨_, by rw [vset_ne (by omega), vset_eq ⟨rfl, rfl, rfl⟩], g2.past _, sti_e ⟨rfl, rfl⟩, fun k hk => ?_, ?_⟩
      · rw [sti_n (by omega), sti_n (by omega), sti_n (by omega)]
      · exact ((Out.rf.sti (E := fun o => o = 0 ∨ inW 1 o) (Or.inr ⟨by omega, by omega⟩)).sti (Or.inr ⟨by omega, by omega⟩)).sti (Or.inl rfl)
    · rw [if_neg c2, c_hasP h b, bnd_eq]
      by_cases c3 : pnV V b = true
      · obtain ⟨q, hq, rfl⟩ := pnV_some P16 c3
        have c3' : inI (nI q) (nI 0) (nI (V 0 0 0) - nI 1) = true := c3
        rw [if_pos c3', if_neg (by decide)]
        by_cases c4 : nI q = nI p
        · rw [if_pos c4]
          exact Or.inl ⟨adOK_no (fun z => z.2.elim c2 (fun y => y.2.1 c4)), rfl⟩
        · rw [if_neg c4, h.rc hp]
          by_cases c5 : V 3 p 0 < 9
          · right
            refine ⟨adOK_yes ⟨c1, Or.inr ⟨c3, c4, by rw [ix_nI (by omega)]; exact c5⟩⟩, ?_⟩
            rw [if_neg (nI_ge c5 (by decide)), chv_nI c5 (by decide), ix_nI (by omega), lt_eq, sti_n (by omega), h.rc hp, nI_add, lt_eq]
            have g2 := h.grow (y := q) hp c5
            have ea : adV V p (nI q) = vset (vset V 2 p (V 3 p 0) q) 3 p 0 (V 3 p 0 + 1) := by
              unfold adV
              rw [if_neg c2, ix_nI (by omega)]
            rw [ea]
            unfold Nine_address_j91 Nine_forgetBefore
            rw [lt_eq, bnd_eq, sti_n (by omega), sti_e (by omega)]
            refine ⟨_, by rw [vset_eq ⟨rfl, rfl, rfl⟩], g2.past _, sti_e ⟨rfl, rfl⟩, fun k hk => ?_, ?_⟩
            · rw [sti_n (by omega), sti_n (by omega), sti_n (by omega)]
            · exact ((Out.rf.sti (E := fun o => o = 0 ∨ inW 1 o) (Or.inr ⟨by omega, by omega⟩)).sti (Or.inr ⟨by omega, by omega⟩)).sti (Or.inl rfl)
          · rw [if_pos (nI_le (by omega) (by have := h.r9 hp; omega))]
            exact Or.inl ⟨adOK_no (fun z => z.2.elim c2 (fun y => c5 (by have := y.2.2; rw [ix_nI (by omega)] at this; exact this))), rfl⟩
      · have c3' : ¬ inI b (nI 0) (nI (V 0 0 0) - nI 1) = true := c3
        rw [if_neg c3', if_pos (by decide)]
        exact Or.inl ⟨adOK_no (fun z => z.2.elim c2 (fun y => c3 y.1)), rfl⟩
  · have c1' : ¬ inI a (nI 0) (nI (V 0 0 0) - nI 1) = true := c1
    rw [if_neg c1', if_pos (by decide)]
    exact Or.inl ⟨adOK_no (fun z => c1 z.1), rfl⟩
theorem m_address {ν : Mm} {V : VS} {d : Nat} (h : HM ν 0 V) (hw : WF d V) (a b : Int32) : (adOK V a b = false ∧ M_address a b ν = some (-1, sti ν 0 0 (nI 0))) ∨ (adOK V a b = true ∧ ∃ ν2, M_address a b ν = some (nI ((adV V (ix a) b) 3 (ix a) 0), ν2) ∧ HM ν2 0 (adV V (ix a) b) ∧ ν2.1 0 3 = nI 0 ∧ OutM EA ν ν2) := by
  have P16 := h.P16
  have h' := h.told (nI 0)
  unfold M_address
  rw [lt_eq, m_isP h' a, bnd_eq]
  by_cases c1 : pnV V a = true
  · obtain ⟨p, hp, rfl⟩ := pnV_some P16 c1
    rw [if_pos c1, if_neg (by decide)]
    have r9 : V 3 p 0 ≤ 9 := (hw.2.2.2.2.2.1 p hp).2.2.2.2.2.2.1
    by_cases c2 : b = -1
    · right
      refine ⟨adOK_yes ⟨c1, Or.inl c2⟩, ?_⟩
      rw [if_pos c2, chv_nI (by omega) (by decide), ix_nI (by omega), lt_eq, nI_add, chv_nI (by omega) (by decide), ix_nI (by omega), lt_eq, lt_eq]
      have g1 := m_shr (x := 0) h' hp (Nat.zero_le _)
      have g2 := g1.put1 4 p 0 0 (o := 1) (k := 167 + p) (v := nI 0) (live_p (by rw [vset_ne (by omega)]; exact hp) (by omega)) rfl rfl rfl (by unfold own3; omega) (by omega)
      have ea : adV V p b = vset (vset V 3 p 0 0) 4 p 0 0 := if_pos c2
      rw [ea]
      refine ⟨_, by rw [vset_ne (by omega), vset_eq ⟨rfl, rfl, rfl⟩], g2.past _, sti_e ⟨rfl, rfl⟩, ?_⟩
      exact (((OutM.rf.sti (E := EA) (Or.inr (Or.inr ⟨rfl, Or.inl rfl⟩))).sti (Or.inr (Or.inl ⟨by decide, by decide⟩))).sti (Or.inl rfl)).sti (Or.inr (Or.inr ⟨rfl, Or.inr (Or.inl rfl)⟩))
    · rw [if_neg c2, m_isP h' b, bnd_eq]
      by_cases c3 : pnV V b = true
      · obtain ⟨q, hq, rfl⟩ := pnV_some P16 c3
        rw [if_pos c3, if_neg (by decide)]
        by_cases c4 : nI q = nI p
        · rw [if_pos c4]
          exact Or.inl ⟨adOK_no (fun z => z.2.elim c2 (fun y => y.2.1 c4)), rfl⟩
        · have e1 : (sti ν 0 0 (nI 0)).1 7 p = nI (V 3 p 0) := h'.rc hp
          rw [if_neg c4, chv_nI (by omega) (by decide), ix_nI (by omega), e1]
          by_cases c5 : V 3 p 0 < 9
          · right
            refine ⟨adOK_yes ⟨c1, Or.inr ⟨c3, c4, by rw [ix_nI (by omega)]; exact c5⟩⟩, ?_⟩
            rw [if_neg (fun z => by have := (nI_eq (by omega) (by decide)).1 z; omega), chv_nI (by omega) (by decide), nI_mulE, nI_add, chv_nI (by omega) (by decide), ix_nI (by omega), lt_eq, chv_nI (by omega) (by decide), chv_nI (by omega) (by decide), sti_n (by omega), e1, nI_add, lt_eq, lt_eq, chv_nI (by omega) (by decide)]
            have g2 := m_grow (y := q) h' hp c5
            have ea : adV V p (nI q) = vset (vset V 2 p (V 3 p 0) q) 3 p 0 (V 3 p 0 + 1) := by
              unfold adV
              rw [if_neg c2, ix_nI (by omega)]
            rw [ea]
            refine ⟨_, by rw [vset_eq ⟨rfl, rfl, rfl⟩, sti_n (by omega), sti_e (by omega)], g2.past _, sti_e ⟨rfl, rfl⟩, ?_⟩
            exact (((OutM.rf.sti (E := EA) (Or.inr (Or.inr ⟨rfl, Or.inl rfl⟩))).sti (Or.inr (Or.inl ⟨by decide, by decide⟩))).sti (Or.inr (Or.inl ⟨by decide, by decide⟩))).sti (Or.inr (Or.inr ⟨rfl, Or.inr (Or.inl rfl)⟩))
          · rw [if_pos (by rw [show V 3 p 0 = 9 by omega])]
            exact Or.inl ⟨adOK_no (fun z => z.2.elim c2 (fun y => c5 (by have := y.2.2; rw [ix_nI (by omega)] at this; exact this))), rfl⟩
      · rw [if_neg c3, if_pos (by decide)]
        exact Or.inl ⟨adOK_no (fun z => z.2.elim c2 (fun y => c3 y.1)), rfl⟩
  · rw [if_neg c1, if_pos (by decide)]
    exact Or.inl ⟨adOK_no (fun z => c1 z.1), rfl⟩
