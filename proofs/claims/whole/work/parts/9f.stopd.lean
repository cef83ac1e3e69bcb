/-! ONE WHO WRITES NOTHING may as well be stopped -/
section
variable {p y : Nat}
def s5 (p y : Nat) (V : VS) : VS := vset V 1 p 5 y
theorem s5_at {V : VS} {c q k : Nat} (h : ¬ (c = 1 ∧ q = p ∧ k = 5)) : s5 p y V c q k = V c q k := vset_ne h
theorem s5_eq {V : VS} : s5 p y V 1 p 5 = y := vset_eq ⟨rfl, rfl, rfl⟩
theorem s5_set {V : VS} {c q k x : Nat} (h : ¬ (c = 1 ∧ q = p ∧ k = 5)) : vset (s5 p y V) c q k x = s5 p y (vset V c q k x) := by
  funext c2 q2 k2
  by_cases e : c2 = 1 ∧ q2 = p ∧ k2 = 5
  · obtain ⟨rfl, rfl, rfl⟩ := e
    rw [s5_eq, vset_ne (by omega), s5_eq]
  · rw [s5_at e]
    by_cases e2 : c2 = c ∧ q2 = q ∧ k2 = k
    · rw [vset_eq e2, vset_eq e2]
    · rw [vset_ne e2, vset_ne e2, s5_at e]
theorem s5_had {V : VS} {q v : Nat} : hadV (s5 p y V) q v = s5 p y (hadV V q v) := by
  unfold hadV
  by_cases e : v < 20
  · simp (disch := omega) only [if_pos e, s5_at, s5_set]
  · simp (disch := omega) only [if_neg e, s5_at, s5_set]
theorem s5_give {V : VS} {q v f : Nat} : giveV (s5 p y V) q v f = s5 p y (giveV V q v f) := by
  unfold giveV
  simp (disch := omega) only [s5_at, s5_set, s5_had]
theorem s5_rem {V : VS} {q i : Nat} : remV (s5 p y V) q i = s5 p y (remV V q i) := by
  funext c2 q2 k2
  by_cases e : c2 = 1 ∧ q2 = p ∧ k2 = 5
  · obtain ⟨rfl, rfl, rfl⟩ := e
    rw [s5_eq]
    unfold remV
    rw [if_neg (by omega), if_neg (by omega), s5_eq]
  · rw [s5_at e]
    unfold remV
    by_cases e2 : (7 ≤ c2 ∧ c2 ≤ 10) ∧ q2 = q ∧ i ≤ k2
    · rw [if_pos e2, if_pos e2, s5_at (by omega)]
    · rw [if_neg e2, if_neg e2]
      by_cases e3 : c2 = 6 ∧ q2 = q ∧ k2 = 0
      · rw [if_pos e3, if_pos e3, s5_at (by omega)]
      · rw [if_neg e3, if_neg e3, s5_at e]
theorem s5_wmv {V : VS} {s k : Nat} : wmvV (s5 p y V) s k = s5 p y (wmvV V s k) := by
  funext c2 q2 k2
  by_cases e : c2 = 1 ∧ q2 = p ∧ k2 = 5
  · obtain ⟨rfl, rfl, rfl⟩ := e
    rw [s5_eq]
    unfold wmvV
    rw [if_neg (by omega), s5_eq]
  · rw [s5_at e]
    unfold wmvV
    by_cases e2 : (15 ≤ c2 ∧ c2 ≤ 18) ∧ q2 = 0 ∧ k2 = s
    · rw [if_pos e2, if_pos e2, s5_at (by omega)]
    · rw [if_neg e2, if_neg e2, s5_at e]
theorem s5_book {V : VS} {v f t x : Nat} : bookV (s5 p y V) v f t x = s5 p y (bookV V v f t x) := by
  unfold bookV
  rw [s5_at (c := 0) (k := 3) (by omega)]
  by_cases e : V 0 0 3 < 200
  · simp (disch := omega) only [if_pos e, s5_at, s5_set]
  · rw [if_neg e, if_neg e]
theorem s5_rcv {V : VS} {v f t : Nat} : rcvV (s5 p y V) v f t = (s5 p y (rcvV V v f t).1, (rcvV V v f t).2) := by
  unfold rcvV
  rw [s5_at (c := 1) (k := 1) (by omega), s5_at (c := 5) (by omega), s5_at (c := 6) (by omega)]
  split
  · rfl
  · split
    · rfl
    · split
      · simp (disch := omega) only [s5_at, s5_set]
      · simp (disch := omega) only [s5_give]
theorem s5_rcb {V : VS} {v f t : Nat} : rcbV (s5 p y V) v f t = (s5 p y (rcbV V v f t).1, (rcbV V v f t).2) := by
  unfold rcbV
  rw [s5_rcv, s5_book]
theorem s5_arv {V : VS} (k : Nat) : arvS (s5 p y V) k = (s5 p y (arvS V k).1, (arvS V k).2) := by
  induction k with
  | zero => rfl
  | succ k ih =>
    unfold arvS
    rw [ih, s5_at (c := 0) (by omega), s5_at (c := 18) (by omega), s5_at (c := 15) (by omega), s5_at (c := 16) (by omega), s5_at (c := 17) (by omega)]
    split
    · rw [s5_wmv]
    · rw [s5_rcb]
theorem s5_dayB {V : VS} : dayB (s5 p y V) = (s5 p y (dayB V).1, (dayB V).2) := by
  unfold dayB
  rw [s5_at (c := 20) (by omega)]
  split
  · unfold brgV
    rw [s5_at (c := 0) (by omega), s5_arv, s5_set (by omega)]
  · rfl
theorem s5_nm {V : VS} {q i : Nat} : nmV (s5 p y V) q i = nmV V q i := by
  funext k
  unfold nmV
  split <;> simp (disch := omega) only [s5_at]
theorem s5_d1 {V : VS} : d1V (s5 p y V) = s5 p y (d1V V) := by
  unfold d1V
  simp (disch := omega) only [s5_at, s5_set]
theorem s5_ver {V : VS} {a b d e : Nat} : verV (s5 p y V) a b d e = s5 p y (verV V a b d e) := by
  unfold verV
  simp (disch := omega) only [s5_at, s5_set]
theorem s5_cop {V : VS} {v q : Nat} : copV (s5 p y V) v q = (s5 p y (copV V v q).1, (copV V v q).2) := by
  unfold copV
  rw [s5_at (c := 20) (by omega), s5_at (c := 0) (k := 8) (by omega), s5_at (c := 0) (k := 1) (by omega), s5_at (c := 11) (by omega), s5_at (c := 12) (by omega), s5_d1, s5_d1, s5_ver]
  split
  · rfl
  · split
    · rfl
    · split <;> rfl
theorem s5_way {V : VS} {v f t e : Nat} : wayV (s5 p y V) v f t e = s5 p y (wayV V v f t e) := by
  unfold wayV
  simp (disch := omega) only [s5_at, s5_set]
theorem s5_pst {T : TT} {V : VS} {v f t : Nat} : pstV T (s5 p y V) v f t = s5 p y (pstV T V v f t) := by
  unfold pstV
  rw [s5_at (c := 0) (k := 2) (by omega), s5_at (c := 0) (k := 7) (by omega), s5_at (c := 0) (k := 4) (by omega), s5_at (c := 1) (k := 0) (by omega), s5_at (c := 1) (k := 0) (by omega), s5_way]
  split
  · rw [s5_set (by omega)]
  · rfl
theorem s5_snt {V : VS} {q i t : Nat} : sntV (s5 p y V) q i t = s5 p y (sntV V q i t) := by
  unfold sntV
  simp (disch := omega) only [s5_at, s5_set]
theorem s5_snd {T : TT} {V : VS} {q i : Nat} : sndV T (s5 p y V) q i = s5 p y (sndV T V q i) := by
  unfold sndV
  rw [s5_at (c := 7) (by omega), s5_at (c := 4) (by omega), s5_at (c := 2) (by omega), s5_cop, s5_pst, s5_snt]
theorem s5_wr1 {T : TT} {V : VS} {q i : Nat} : wr1V T (s5 p y V) q i = s5 p y (wr1V T V q i) := by
  unfold wr1V wriN
  rw [s5_nm, s5_at (c := 10) (by omega), s5_at (c := 1) (by omega)]
  generalize min (T.1 (nmV V q i)) (min (V 10 q i) (V 1 q 3)) = n
  induction n with
  | zero => rfl
  | succ n ih =>
    show sndV T (itn n (fun U => sndV T U q i) (s5 p y V)) q i = s5 p y (sndV T (itn n (fun U => sndV T U q i) V) q i)
    rw [ih, s5_snd]
theorem s5_wr2 {T : TT} {q : Nat} (s : VS × Nat) : wr2V T q (s5 p y s.1, s.2) = (s5 p y (wr2V T q s).1, (wr2V T q s).2) := by
  unfold wr2V
  dsimp only
  rw [s5_wr1, s5_at (c := 10) (by omega)]
  split
  · simp (disch := omega) only [s5_rem, s5_at, s5_set]
  · rfl
theorem s5_wrp {T : TT} {V : VS} {q : Nat} : wrpV T (s5 p y V) q = s5 p y (wrpV T V q) := by
  unfold wrpV
  rw [s5_at (c := 6) (by omega)]
  have key : ∀ n, itn n (wr2V T q) (s5 p y V, 0) = (s5 p y (itn n (wr2V T q) (V, 0)).1, (itn n (wr2V T q) (V, 0)).2) := by
    intro n
    induction n with
    | zero => rfl
    | succ n ih =>
      show wr2V T q (itn n (wr2V T q) (s5 p y V, 0)) = _
      rw [ih, s5_wr2]
      rfl
  rw [key]
theorem s5_cu2 {T : TT} {q : Nat} (s : VS × Nat) : cu2V T q (s5 p y s.1, s.2) = (s5 p y (cu2V T q s).1, (cu2V T q s).2) := by
  have e4 : s5 p y s.1 0 0 4 = s.1 0 0 4 := s5_at (by omega)
  have e9 : s5 p y s.1 9 q s.2 = s.1 9 q s.2 := s5_at (by omega)
  by_cases e : s.1 0 0 4 < s.1 9 q s.2
  · rw [cu2V_pos e, cu2V_pos (s := (s5 p y s.1, s.2)) (show s5 p y s.1 0 0 4 < s5 p y s.1 9 q s.2 by rw [e4, e9]; exact e)]
  · rw [cu2V_neg e, cu2V_neg (s := (s5 p y s.1, s.2)) (show ¬ s5 p y s.1 0 0 4 < s5 p y s.1 9 q s.2 by rw [e4, e9]; exact e)]
    simp (disch := omega) only [s5_nm, s5_at, s5_set, s5_rem]
theorem s5_cup {T : TT} {V : VS} {q : Nat} : cupV T (s5 p y V) q = s5 p y (cupV T V q) := by
  unfold cupV
  rw [s5_at (c := 6) (by omega)]
  have key : ∀ n, itn n (cu2V T q) (s5 p y V, 0) = (s5 p y (itn n (cu2V T q) (V, 0)).1, (itn n (cu2V T q) (V, 0)).2) := by
    intro n
    induction n with
    | zero => rfl
    | succ n ih =>
      show cu2V T q (itn n (cu2V T q) (s5 p y V, 0)) = _
      rw [ih, s5_cu2]
      rfl
  rw [key]
theorem s5_cua {T : TT} {V : VS} (n : Nat) : cuaV T (s5 p y V) n = s5 p y (cuaV T V n) := by
  induction n with
  | zero => rfl
  | succ n ih =>
    unfold cuaV
    rw [ih, s5_at (c := 1) (k := 1) (by omega), s5_cup]
    split <;> rfl
theorem s5_over {V : VS} : overV (s5 p y V) = overV V := by
  have e : busy (s5 p y V) = busy V := by
    funext q
    unfold busy
    rw [s5_at (c := 1) (k := 1) (by omega), s5_at (c := 6) (by omega)]
  unfold overV
  rw [e, s5_at (c := 0) (by omega), s5_at (c := 0) (by omega)]
end
/-! who wrote -/
theorem uN_nIm (y : Nat) : uN (nI y) = y % 2 ^ 32 := by
  unfold uN nI
  show (BitVec.ofNat 32 y).toNat = _
  rw [BitVec.toNat_ofNat]
theorem orN_bit (x : Nat) {i p : Nat} (hi : i < 31) (hp : p < 31) : (orN x i).testBit p = (x.testBit p || decide (p = i)) := by
  unfold orN
  rw [shl1 i hi, nI_or, uN_nIm, Nat.testBit_mod_two_pow, decide_eq_true (show p < 32 by omega), Bool.true_and, Nat.testBit_or, Nat.testBit_two_pow]
  congr 1
  exact decide_eq_decide.2 ⟨fun z => z.symm, fun z => z.symm⟩
section
variable {T : TT} {V : VS} {d p : Nat}
abbrev wb (V : VS) (p : Nat) : Bool := (V 0 0 9).testBit p
theorem snd_9 {q i : Nat} : sndV T V q i 0 0 9 = orN (V 0 0 9) q := by
  unfold sndV sntV
  rw [vset_eq ⟨rfl, rfl, rfl⟩, pstV_o (by omega) (by omega), copV_o (by omega) (by omega)]
theorem wb_snd {q i : Nat} (hq : q < 16) (hp : p < 16) : wb (sndV T V q i) p = (wb V p || decide (p = q)) := by
  unfold wb
  rw [snd_9, orN_bit _ (by omega) (by omega)]
theorem wb_wr1 {q i : Nat} (hq : q < 16) (hp : p < 16) : wb (wr1V T V q i) p = (wb V p || (decide (p = q) && decide (0 < wriN T V q i))) := by
  unfold wr1V
  generalize wriN T V q i = n
  have : ∀ n, wb (itn n (fun U => sndV T U q i) V) p = (wb V p || (decide (p = q) && decide (0 < n))) := by
    intro n
    induction n with
    | zero => simp [itn]
    | succ n ih =>
      show wb (sndV T (itn n (fun U => sndV T U q i) V) q i) p = _
      rw [wb_snd hq hp, ih]
      cases wb V p <;> cases decide (p = q) <;> simp
  exact this n
theorem wb_wr2 {q : Nat} (hq : q < 16) (hp : p < 16) (s : VS × Nat) : wb (wr2V T q s).1 p = (wb s.1 p || (decide (p = q) && decide (0 < wriN T s.1 q s.2))) := by
  rw [← wb_wr1 hq hp]
  by_cases z : wr1V T s.1 q s.2 10 q s.2 = 0
  · rw [wr2V_pos z]
    show (vset (remV (wr1V T s.1 q s.2) q s.2) 0 0 5 (wr1V T s.1 q s.2 0 0 5 + 1) 0 0 9).testBit p = _
    rw [vset_ne (by omega), remV_o (by omega)]
  · rw [wr2V_neg z]
theorem wb_itn2 {q : Nat} (hq : q < 16) (hp : p < 16) (s : VS × Nat) (n : Nat) (h : wb s.1 p = true) : wb (itn n (wr2V T q) s).1 p = true := by
  induction n with
  | zero => exact h
  | succ n ih =>
    show wb (wr2V T q (itn n (wr2V T q) s)).1 p = true
    rw [wb_wr2 hq hp, ih, Bool.true_or]
theorem wb_wrp {q : Nat} (hq : q < 16) (hp : p < 16) (h : wb V p = true) : wb (wrpV T V q) p = true := wb_itn2 hq hp (V, 0) _ h
theorem wb_wra {n : Nat} (hp : p < 16) (hP : n ≤ 16) (k : Nat) (hk : k ≤ n) (h : wb (wraV T V k) p = true) : wb (wraV T V n) p = true := by
  induction n with
  | zero =>
    have : k = 0 := by omega
    rw [this] at h
    exact h
  | succ n ih =>
    by_cases e : k = n + 1
    · rw [e] at h
      exact h
    · have := ih (by omega) (by omega)
      unfold wraV
      split
      · exact wb_wrp (by omega) hp this
      · exact this
/-- one who writes nothing leaves all as it was -/
theorem wrp_id (hL : LV V) (hp : p < V 0 0 0) (hP : V 0 0 0 ≤ 16) (h : wb (wrpV T V p) p = false) : wrpV T V p = V := by
  have key : ∀ n, n ≤ V 6 p 0 → itn n (wr2V T p) (V, 0) = (V, n) ∨ wb (itn n (wr2V T p) (V, 0)).1 p = true := by
    intro n
    induction n with
    | zero => exact fun _ => Or.inl rfl
    | succ n ih =>
      intro hn
      rcases ih (by omega) with e | e
      · show wr2V T p (itn n (wr2V T p) (V, 0)) = _ ∨ wb (wr2V T p (itn n (wr2V T p) (V, 0))).1 p = true
        rw [e]
        by_cases c : 0 < wriN T V p n
        · right
          rw [wb_wr2 (by omega) (by omega), decide_eq_true rfl, decide_eq_true c]
          simp
        · left
          have e1 : wr1V T V p n = V := by
            unfold wr1V
            rw [show wriN T V p n = 0 by omega]
            rfl
          have l := hL p n hp (by omega)
          rw [wr2V_neg (by dsimp only; rw [e1]; omega)]
          dsimp only
          rw [e1]
      · right
        show wb (wr2V T p (itn n (wr2V T p) (V, 0))).1 p = true
        rw [wb_wr2 (by omega) (by omega), e, Bool.true_or]
  unfold wrpV at h ⊢
  rcases key _ (Nat.le_refl _) with e | e
  · rw [e]
  · rw [e] at h
    cases h
theorem day_9 (hw : WF d V) (hB : TB T) : dayV T V 0 0 9 = dayW T V 0 0 9 := by
  have w1 := hw.dayB
  have k1 := wraV_k w1 hB (V 0 0 0) (Nat.le_of_eq dayB_P.symm)
  have e0 : dayW T V 0 0 0 = V 0 0 0 := (k1.2 0 0 0 (by unfold wraK; omega)).trans dayB_P
  have k2 := cuaV_k (T := T) k1.1 (V 0 0 0) (Nat.le_of_eq e0.symm)
  unfold dayV
  rw [vset_ne (by omega)]
  exact k2.2 0 0 9 (by unfold cuaK; omega)
theorem wb_day (hw : WF d V) (hB : TB T) (hp : p < 16) (h : wb V p = true) : wb (dayV T V) p = true := by
  unfold wb
  rw [day_9 hw hB]
  refine wb_wra hp hw.1 0 (Nat.zero_le _) ?_
  show ((dayB V).1 0 0 9).testBit p = true
  rw [dayB_o (by omega) (by omega) (by omega) (by omega) (by omega) (by omega)]
  exact h
theorem s5_day (hw : WF d V) (hB : TB T) (hL : LV V) (hp : p < V 0 0 0) (h : wb (dayV T V) p = false) : dayV T (s5 p 1 V) = s5 p 1 (dayV T V) := by
  have hP := hw.1
  have w1 := hw.dayB
  have l1 := hL.dayB hw.2.2.2.2.2.2.2.2.2.2.1
  have h : wb (wraV T (dayB V).1 (V 0 0 0)) p = false := by
    unfold wb at h
    rw [day_9 hw hB] at h
    exact h
  have key : ∀ k, k ≤ V 0 0 0 → wraV T (s5 p 1 (dayB V).1) k = s5 p 1 (wraV T (dayB V).1 k) := by
    intro k
    induction k with
    | zero => exact fun _ => rfl
    | succ k ih =>
      intro hk
      have ih := ih (by omega)
      obtain ⟨a1, a2⟩ := wraV_k w1 hB k (by rw [dayB_P]; omega)
      show (if wraV T (s5 p 1 (dayB V).1) k 1 k 1 ≠ 2 ∧ wraV T (s5 p 1 (dayB V).1) k 1 k 5 = 0 ∧ 0 < wraV T (s5 p 1 (dayB V).1) k 3 k 0 then wrpV T (wraV T (s5 p 1 (dayB V).1) k) k else wraV T (s5 p 1 (dayB V).1) k) = s5 p 1 (if wraV T (dayB V).1 k 1 k 1 ≠ 2 ∧ wraV T (dayB V).1 k 1 k 5 = 0 ∧ 0 < wraV T (dayB V).1 k 3 k 0 then wrpV T (wraV T (dayB V).1 k) k else wraV T (dayB V).1 k)
      rw [ih]
      by_cases e : k = p
      · subst e
        rw [s5_eq, if_neg (fun z => absurd z.2.1 (by decide))]
        by_cases c : wraV T (dayB V).1 k 1 k 1 ≠ 2 ∧ wraV T (dayB V).1 k 1 k 5 = 0 ∧ 0 < wraV T (dayB V).1 k 3 k 0
        · rw [if_pos c]
          congr 1
          refine (wrp_id (l1.wra w1 hB k (by rw [dayB_P]; omega)) ?_ ?_ ?_).symm
          · rw [a2 0 0 0 (by unfold wraK; omega), dayB_P]
            exact hp
          · rw [a2 0 0 0 (by unfold wraK; omega), dayB_P]
            exact hP
          · cases z : wb (wrpV T (wraV T (dayB V).1 k) k) k with
            | false => rfl
            | true =>
              have y : wb (wraV T (dayB V).1 (k + 1)) k = true := by
                show wb (if wraV T (dayB V).1 k 1 k 1 ≠ 2 ∧ wraV T (dayB V).1 k 1 k 5 = 0 ∧ 0 < wraV T (dayB V).1 k 3 k 0 then wrpV T (wraV T (dayB V).1 k) k else wraV T (dayB V).1 k) k = true
                rw [if_pos c]
                exact z
              have := wb_wra (T := T) (V := (dayB V).1) (p := k) (n := V 0 0 0) (by omega) hP (k + 1) hk y
              rw [h] at this
              cases this
        · rw [if_neg c]
      · rw [s5_at (by omega), s5_at (by omega), s5_at (by omega), s5_wrp]
        split <;> rfl
  unfold dayV dayW
  rw [s5_dayB, s5_at (c := 0) (by omega), s5_at (c := 0) (by omega)]
  dsimp only
  rw [key _ (Nat.le_refl _), s5_cua, s5_set (by omega)]
theorem wb_itn (hw : WF d V) (hB : TB T) (hp : p < 16) (n k : Nat) (hk : k ≤ n) (h : wb (itn k (dayV T) V) p = true) : wb (itn n (dayV T) V) p = true := by
  induction n with
  | zero =>
    have : k = 0 := by omega
    rw [this] at h
    exact h
  | succ n ih =>
    by_cases e : k = n + 1
    · rw [e] at h
      exact h
    · have w := (itn_day (T := T) hw hB n).1
      exact wb_day w hB hp (ih (by omega))
theorem itn_LV (hw : WF d V) (hB : TB T) (hL : LV V) (k : Nat) : LV (itn k (dayV T) V) := by
  induction k with
  | zero => exact hL
  | succ k ih => exact LV.day ih (itn_day (T := T) hw hB k).1 hB
/-- the same over all days -/
theorem s5_itn (hw : WF d V) (hB : TB T) (hL : LV V) (hp : p < V 0 0 0) (n : Nat) (h : wb (itn n (dayV T) V) p = false) (k : Nat) (hk : k ≤ n) : itn k (dayV T) (s5 p 1 V) = s5 p 1 (itn k (dayV T) V) := by
  have hP := hw.1
  induction k with
  | zero => rfl
  | succ k ih =>
    have w := itn_day (T := T) hw hB k
    show dayV T (itn k (dayV T) (s5 p 1 V)) = s5 p 1 (dayV T (itn k (dayV T) V))
    rw [ih (by omega)]
    refine s5_day w.1 hB (itn_LV hw hB hL k) (by rw [w.2]; exact hp) ?_
    cases z : wb (dayV T (itn k (dayV T) V)) p with
    | false => rfl
    | true =>
      have := wb_itn hw hB (show p < 16 by omega) n (k + 1) hk z
      rw [h] at this
      cases this
end
