/-! THE PAST: what stays from state to state, what lies in the rows before -/
def stc (c k : Nat) : Prop := (c = 1 ∧ (k < 3 ∨ k = 5)) ∨ c = 2 ∨ c = 3 ∨ c = 20 ∨ (c = 0 ∧ k = 0)
def BK (A B : VS) : Prop := A 0 0 3 ≤ B 0 0 3 ∧ ∀ c i, 23 ≤ c ∧ c ≤ 27 → i < A 0 0 3 → A c 0 i = B c 0 i
def Stat (A B : VS) : Prop := (∀ c q k, stc c k → A c q k = B c q k) ∧ BK A B
theorem BK.rf {A : VS} : BK A A := ⟨Nat.le_refl _, fun _ _ _ _ => rfl⟩
theorem BK.tr {A B C : VS} (h : BK A B) (h2 : BK B C) : BK A C := ⟨Nat.le_trans h.1 h2.1, fun c i hc hi => (h.2 c i hc hi).trans (h2.2 c i hc (Nat.lt_of_lt_of_le hi h.1))⟩
theorem BK.same {A B : VS} (h : B 0 0 3 = A 0 0 3) (h2 : ∀ c i, 23 ≤ c ∧ c ≤ 27 → B c 0 i = A c 0 i) : BK A B := ⟨Nat.le_of_eq h.symm, fun c i hc _ => (h2 c i hc).symm⟩
theorem Stat.rf {A : VS} : Stat A A := ⟨fun _ _ _ _ => rfl, BK.rf⟩
theorem Stat.tr {A B C : VS} (h : Stat A B) (h2 : Stat B C) : Stat A C := ⟨fun c q k z => (h.1 c q k z).trans (h2.1 c q k z), h.2.tr h2.2⟩
theorem BK.book {V : VS} {v f t x : Nat} : BK V (bookV V v f t x) := by
  unfold bookV
  split
  · refine ⟨by rw [vset_eq ⟨rfl, rfl, rfl⟩]; omega, fun c i hc hi => ?_⟩
    simp (disch := omega) only [vset_ne]
  · exact BK.rf
theorem rcvV_o {V : VS} {v f t c q k : Nat} (h : ¬ (6 ≤ c ∧ c ≤ 10)) (h2 : c ≠ 21) (h3 : c ≠ 22) (h5 : ¬ (c = 0 ∧ k = 7)) : (rcvV V v f t).1 c q k = V c q k := by
  unfold rcvV
  split
  · rfl
  · split
    · rfl
    · split
      · exact vset_ne (by omega)
      · exact giveV_o h h2 h3
theorem BK.rcb {V : VS} {v f t : Nat} : BK V (rcbV V v f t).1 := (BK.same (B := (rcvV V v f t).1) (rcvV_o (by omega) (by omega) (by omega) (by omega)) (fun c i hc => rcvV_o (by omega) (by omega) (by omega) (by omega))).tr BK.book
theorem BK.arv {V : VS} (k : Nat) : BK V (arvS V k).1 := by
  induction k with
  | zero => exact BK.rf
  | succ k ih =>
    unfold arvS
    split
    · have z : BK (arvS V k).1 (wmvV (arvS V k).1 (arvS V k).2.1 k) := BK.same (wmvV_o (by omega)) (fun c i hc => wmvV_o (by omega))
      exact ih.tr z
    · exact ih.tr BK.rcb
theorem BK.dayB {V : VS} : BK V (dayB V).1 := by
  unfold Jvm.Pilot.CNineCopiesLaw_law_r8239_772bdc.dayB
  split
  · have z : BK (arvS V (V 0 0 2)).1 (vset (arvS V (V 0 0 2)).1 0 0 2 (arvS V (V 0 0 2)).2.1) := BK.same (vset_ne (by omega)) (fun c i hc => vset_ne (by omega))
    exact (BK.arv (V 0 0 2)).tr z
  · exact BK.rf
theorem dayB_P {V : VS} : (dayB V).1 0 0 0 = V 0 0 0 := dayB_o (by omega) (by omega) (by omega) (by omega) (by omega) (by omega)
theorem Stat.day {V : VS} {d : Nat} {T : TT} (hw : WF d V) (hB : TB T) : Stat V (dayV T V) := by
  have w1 := hw.dayB
  have k1 := wraV_k w1 hB (V 0 0 0) (Nat.le_of_eq dayB_P.symm)
  have e0 : dayW T V 0 0 0 = V 0 0 0 := (k1.2 0 0 0 (by unfold wraK; omega)).trans dayB_P
  have k2 := cuaV_k (T := T) k1.1 (V 0 0 0) (Nat.le_of_eq e0.symm)
  have o : ∀ c q j, wraK c j → cuaK c j → ¬ (c = 0 ∧ j = 4) → dayV T V c q j = (Jvm.Pilot.CNineCopiesLaw_law_r8239_772bdc.dayB V).1 c q j := by
    intro c q j h1 h2 h3
    exact (vset_ne (by omega)).trans ((k2.2 c q j h2).trans (k1.2 c q j h1))
  refine ⟨fun c q k z => ?_, ?_⟩
  · unfold stc at z
    rw [o c q k (by unfold wraK; omega) (by unfold cuaK; omega) (by omega)]
    exact (dayB_o (by omega) (by omega) (by omega) (by omega) (by omega) (by omega)).symm
  · exact BK.dayB.tr (BK.same (o 0 0 3 (by unfold wraK; omega) (by unfold cuaK; omega) (by omega)) (fun c i hc => o c 0 i (by unfold wraK; omega) (by unfold cuaK; omega) (by omega)))
theorem Stat.give {V : VS} {p v f : Nat} : Stat V (giveV V p v f) := ⟨fun c q k z => (giveV_o (by unfold stc at z; omega) (by unfold stc at z; omega) (by unfold stc at z; omega)).symm, BK.same (giveV_o (by omega) (by omega) (by omega)) (fun c i hc => giveV_o (by omega) (by omega) (by omega))⟩
theorem Stat.rem {V : VS} {p i : Nat} : Stat V (remV V p i) := ⟨fun c q k z => (remV_o (by unfold stc at z; omega)).symm, BK.same (remV_o (by omega)) (fun c i hc => remV_o (by omega))⟩
def w0V (V : VS) : VS := vset V 0 0 9 0
theorem w0V_o {V : VS} {c q k : Nat} (h : ¬ (c = 0 ∧ k = 9)) : w0V V c q k = V c q k := vset_ne (by omega)
theorem Stat.w0 {V : VS} : Stat (w0V V) V := ⟨fun c q k z => w0V_o (by unfold stc at z; omega), BK.same (A := w0V V) (B := V) (w0V_o (by omega)).symm (fun c i hc => (w0V_o (by omega)).symm)⟩
theorem WF.w0 {V : VS} {d : Nat} (hw : WF d V) : WF d (w0V V) := hw.lost (by decide)
theorem live_w0 {V : VS} {c q k : Nat} (h : live (w0V V) c q k) : live V c q k := live_same h (w0V_o (by omega)) (w0V_o (by omega)) (w0V_o (by omega)) (w0V_o (by omega)) (w0V_o (by omega)) (w0V_o (by omega))
theorem LV.w0 {V : VS} (h : LV V) : LV (w0V V) := fun p i hp hi => by
  rw [w0V_o (by omega)] at hp hi ⊢
  exact h p i hp hi
/-- the past, as a row of states: u of them, the oldest first -/
def HS (u : Nat) (H : Nat → VS) (V : VS) : Prop := (∀ j, j < u → Stat (H j) V ∧ WF 9999 (H j) ∧ LV (H j)) ∧ ∀ i j, i < j → j < u → Stat (H i) (H j)
def pshH (u : Nat) (H : Nat → VS) (V : VS) : Nat → VS := fun j => if u < 6 then (if j < u then H j else w0V V) else if j < 5 then H (j + 1) else w0V V
def pshU (u : Nat) : Nat := if u < 6 then u + 1 else 6
theorem HS.push {u : Nat} {H : Nat → VS} {V : VS} (h : HS u H V) (hu : u ≤ 6) (hw : WF 9999 V) (hl : LV V) : HS (pshU u) (pshH u H V) V := by
  unfold pshU pshH
  by_cases e : u < 6
  · simp only [if_pos e]
    refine ⟨fun j hj => ?_, fun i j hi hj => ?_⟩
    · by_cases e2 : j < u
      · simp only [if_pos e2]
        exact h.1 j e2
      · simp only [if_neg e2]
        exact ⟨Stat.w0, hw.w0, hl.w0⟩
    · by_cases e2 : j < u
      · simp only [if_pos e2, if_pos (show i < u by omega)]
        exact h.2 i j hi e2
      · simp only [if_neg e2, if_pos (show i < u by omega)]
        have z := (h.1 i (by omega)).1
        exact ⟨fun c q k y => (z.1 c q k y).trans (w0V_o (by unfold stc at y; omega)).symm, z.2.tr (BK.same (w0V_o (by omega)) (fun c i hc => w0V_o (by omega)))⟩
  · simp only [if_neg e]
    have e6 : u = 6 := by omega
    subst e6
    refine ⟨fun j hj => ?_, fun i j hi hj => ?_⟩
    · by_cases e2 : j < 5
      · simp only [if_pos e2]
        exact h.1 (j + 1) (by omega)
      · simp only [if_neg e2]
        exact ⟨Stat.w0, hw.w0, hl.w0⟩
    · by_cases e2 : j < 5
      · simp only [if_pos e2, if_pos (show i < 5 by omega)]
        exact h.2 (i + 1) (j + 1) (by omega) (by omega)
      · simp only [if_neg e2, if_pos (show i < 5 by omega)]
        have z := (h.1 (i + 1) (by omega)).1
        exact ⟨fun c q k y => (z.1 c q k y).trans (w0V_o (by unfold stc at y; omega)).symm, z.2.tr (BK.same (w0V_o (by omega)) (fun c i hc => w0V_o (by omega)))⟩
theorem HS.to {u : Nat} {H : Nat → VS} {V U : VS} (h : HS u H V) (hS : Stat V U) : HS u H U := ⟨fun j hj => ⟨(h.1 j hj).1.tr hS, (h.1 j hj).2⟩, h.2⟩
/-- in the class: six worlds in a ring -/
def HisC (μ : Mm) (u nx : Nat) (H : Nat → VS) : Prop := μ.1 0 8 = nI u ∧ μ.1 0 9 = nI nx ∧ nx < 6 ∧ u ≤ 6 ∧ ∀ j, j < u → HC μ (545 + 165 * ((nx + 6 - u + j) % 6)) (H j)
theorem sk_bef : ∀ i, i < 6 → sK SC (545 + 165 * i) = 9 := by decide +kernel
theorem mod6 : ∀ n, n < 12 → nI n - nI n / nI 6 * nI 6 = nI (n % 6) := by decide +kernel
theorem min6 : ∀ n, n < 7 → jmin (nI 6) (nI n + nI 1) = nI (pshU n) := by decide +kernel
def EP (o : Nat) : Prop := 545 ≤ o ∧ o < 1535
theorem HisC.out {μ μ2 : Mm} {u nx : Nat} {H : Nat → VS} {E : Nat → Prop} (h : HisC μ u nx H) (ho : Out E μ μ2) (hE : ∀ o, EP o → ¬ E o) (h8 : μ2.1 0 8 = μ.1 0 8) (h9 : μ2.1 0 9 = μ.1 0 9) : HisC μ2 u nx H := by
  obtain ⟨a, b, c, d, e⟩ := h
  refine ⟨h8.trans a, h9.trans b, c, d, fun j hj => (e j hj).out ho (fun o z => hE o ?_)⟩
  have : (nx + 6 - u + j) % 6 < 6 := Nat.mod_lt _ (by decide)
  unfold inW at z
  unfold EP
  omega
theorem c_push {μ : Mm} {V : VS} {u nx : Nat} {H : Nat → VS} (h : HC μ 1 V) (hH : HisC μ u nx H) : ∃ μ2, Nine_keepBefore μ = some μ2 ∧ HC μ2 1 V ∧ HisC μ2 (pshU u) ((nx + 1) % 6) (pshH u H V) ∧ (∀ k, k ≠ 8 → k ≠ 9 → μ2.1 0 k = μ.1 0 k) ∧ Out (fun o => o = 0 ∨ EP o) μ μ2 := by
  obtain ⟨a, b, c, d, e⟩ := hH
  have sk := sk_bef nx c
  obtain ⟨μ1, g1, g2, g3⟩ := c_cpW (w2 := 545 + 165 * nx) h sk (Or.inl (by omega))
  have o0 : ∀ k, μ1.1 0 k = μ.1 0 k := (g3 0 (fun z => by have := z.1; omega)).1
  unfold Nine_keepBefore
  rw [b, chv_nI c (by decide), ix_nI (by omega), g1, bnd_eq, chk_ok (by decide), o0, b, nI_add, mod6 _ (by omega), lt_eq, sti_n (by omega), o0, a, min6 _ (by omega), lt_eq]
  have o1 : Out (fun o => o = 0) μ1 (sti (sti μ1 0 9 (nI ((nx + 1) % 6))) 0 8 (nI (pshU u))) := (Out.rf.sti (E := fun o => o = 0) rfl).sti rfl
  have far1 : ∀ m, m < 6 → ∀ U, HC μ1 (545 + 165 * m) U → HC (sti (sti μ1 0 9 (nI ((nx + 1) % 6))) 0 8 (nI (pshU u))) (545 + 165 * m) U := fun m hm U z => z.out o1 (fun o y w => by
    unfold inW at y
    omega)
  have far2 : ∀ m, m < 6 → m ≠ nx → ∀ U, HC μ (545 + 165 * m) U → HC μ1 (545 + 165 * m) U := fun m hm hx U z => z.out g3 (fun o y w => by
    unfold inW at y w
    omega)
  refine ⟨_, rfl, ?_, ⟨sti_e ⟨rfl, rfl⟩, by rw [sti_n (by omega), sti_e ⟨rfl, rfl⟩], Nat.mod_lt _ (by decide), by unfold pshU; split <;> omega, fun j hj => ?_⟩, fun k h8 h9 => ?_, ?_⟩
  · exact (h.out g3 (fun o y w => by
      unfold inW at y w
      omega)).out o1 (fun o y w => by
      unfold inW at y
      omega)
  · unfold pshU at hj ⊢
    unfold pshH
    by_cases e1 : u < 6
    · rw [if_pos e1] at hj ⊢
      rw [if_pos e1]
      by_cases e2 : j < u
      · rw [if_pos e2, show ((nx + 1) % 6 + 6 - (u + 1) + j) % 6 = (nx + 6 - u + j) % 6 by omega]
        have z := far1 _ (Nat.mod_lt _ (by decide)) _ (far2 _ (Nat.mod_lt _ (by decide)) (by omega) _ (e j e2))
        unfold pshU at z
        rw [if_pos e1] at z
        exact z
      · rw [if_neg e2, show ((nx + 1) % 6 + 6 - (u + 1) + j) % 6 = nx by omega]
        have z := far1 _ c _ g2
        unfold pshU at z
        rw [if_pos e1] at z
        exact z
    · rw [if_neg e1] at hj ⊢
      rw [if_neg e1]
      have e6 : u = 6 := by omega
      subst e6
      by_cases e2 : j < 5
      · rw [if_pos e2, show ((nx + 1) % 6 + 6 - 6 + j) % 6 = (nx + 6 - 6 + (j + 1)) % 6 by omega]
        exact far1 _ (Nat.mod_lt _ (by decide)) _ (far2 _ (Nat.mod_lt _ (by decide)) (by omega) _ (e (j + 1) (by omega)))
      · rw [if_neg e2, show ((nx + 1) % 6 + 6 - 6 + j) % 6 = nx by omega]
        exact far1 _ c _ g2
  · rw [sti_n (by omega), sti_n (by omega), o0]
  · refine (g3.mono (fun o z => Or.inr ?_)).tr (o1.mono (fun o z => Or.inl z))
    unfold inW at z
    unfold EP
    omega
theorem sub5 : ∀ n, n < 6 → (nI n + nI 6) - nI 1 - ((nI n + nI 6) - nI 1) / nI 6 * nI 6 = nI ((n + 5) % 6) := by decide +kernel
/-- one act undone -/
theorem c_undo0 {μ : Mm} {nx : Nat} {H : Nat → VS} (hH : HisC μ 0 nx H) : Nine_undo μ = some (nI 0, μ) := by
  unfold Nine_undo
  rw [hH.1, if_00]
theorem c_undo {μ : Mm} {u nx n : Nat} {V : VS} {H : Nat → VS} {pv : Nat → Nat} (h : HC μ 1 V) (hH : HisC μ (u + 1) nx H) (hS : HS (u + 1) H V) (hp : pickC μ 181 n pv) (hB : pickB V n pv) : ∃ μ2, Nine_undo μ = some (nI 1, μ2) ∧ HC μ2 1 (w0V (H u)) ∧ HisC μ2 u ((nx + 5) % 6) H ∧ pickC μ2 181 (kpF pv (H u 0 0 1) n).1 (kpF pv (H u 0 0 1) n).2 ∧ (∀ k, k ≠ 8 → k ≠ 9 → μ2.1 0 k = μ.1 0 k) ∧ Out (fun o => o = 0 ∨ inW 1 o ∨ o = 181 ∨ o = 182) μ μ2 := by
  obtain ⟨a, b, c, d, e⟩ := hH
  have v40 := h.v40
  have hu := e u (Nat.lt_succ_self u)
  rw [show (nx + 6 - (u + 1) + u) % 6 = (nx + 5) % 6 by omega] at hu
  have hx : (nx + 5) % 6 < 6 := Nat.mod_lt _ (by decide)
  generalize hm : (nx + 5) % 6 = m at hu hx
  have o1 : Out (fun o => o = 0) μ (sti (sti μ 0 8 (nI u)) 0 9 (nI m)) := (Out.rf.sti (E := fun o => o = 0) rfl).sti rfl
  have far1 : ∀ j, j < 6 → ∀ U, HC μ (545 + 165 * j) U → HC (sti (sti μ 0 8 (nI u)) 0 9 (nI m)) (545 + 165 * j) U := fun m hm U z => z.out o1 (fun o y w => by
    unfold inW at y
    omega)
  obtain ⟨μ1, g1, g2, g3⟩ := c_cpW (w2 := 1) (far1 m hx _ hu) (by decide +kernel) (Or.inr (by omega))
  have vn : μ1.1 3 4 = nI (H u 0 0 1) := g2.vn
  have hp1 : pickC μ1 181 n pv := by
    refine ⟨?_, fun i hi => ?_⟩
    · rw [(g3 181 (fun z => by have := z.2; omega)).1, sti_n (by omega), sti_n (by omega)]
      exact hp.1
    · rw [(g3 182 (fun z => by have := z.2; omega)).1, sti_n (by omega), sti_n (by omega)]
      exact hp.2 i hi
  have hv : H u 0 0 1 ≤ 40 := (hS.1 u (Nat.lt_succ_self u)).2.1.2.1
  obtain ⟨μ2, g4, g5, g6⟩ := c_keepB (m := H u 0 0 1) hp1 hB.1 (fun i hi => by have := hB.2 i hi; omega) (by omega)
  have o0 : ∀ k, μ2.1 0 k = (sti (sti μ 0 8 (nI u)) 0 9 (nI m)).1 0 k := fun k => ((g6 0 (by omega)).1 k).trans ((g3 0 (fun z => by have := z.1; omega)).1 k)
  unfold Nine_undo
  rw [a, if_neg (fun z => by have := (nI_eq (b := 0) (by omega) (by decide)).1 z; omega), nI_subE (by omega), Nat.add_sub_cancel, lt_eq, chk_ok (by decide), sti_n (by omega), b, sub5 _ c, hm, lt_eq, sti_e ⟨rfl, rfl⟩, chv_nI hx (by decide), ix_nI (by omega), g1, bnd_eq, vn, g4, bnd_eq]
  refine ⟨μ2, rfl, ?_, ⟨?_, ?_, hx, by omega, fun j hj => ?_⟩, g5, fun k h8 h9 => ?_, ?_⟩
  · exact g2.out g6 (fun o y w => by
      unfold inW at y
      omega)
  · rw [o0, sti_n (by omega), sti_e ⟨rfl, rfl⟩]
  · rw [o0, sti_e ⟨rfl, rfl⟩]
  · have := e j (by omega)
    rw [show (nx + 6 - (u + 1) + j) % 6 = (m + 6 - u + j) % 6 by omega] at this
    exact ((far1 _ (Nat.mod_lt _ (by decide)) _ this).out g3 (fun o y w => by
      unfold inW at y w
      omega)).out g6 (fun o y w => by
      unfold inW at y
      omega)
  · rw [o0, sti_n (by omega), sti_n (by omega)]
  · exact ((o1.mono (fun o z => Or.inl z)).tr (g3.mono (fun o z => Or.inr (Or.inl z)))).tr (g6.mono (fun o z => by omega))
