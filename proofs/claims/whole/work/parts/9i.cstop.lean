/-! WHOM TO STOP: the class -/
theorem hb_any (m : Nat) {i : Nat} (hi : i < 31) : hb (nI m) i = m.testBit i := by
  unfold hb
  rw [b32 _ hi]
  have e : (nI m).toBitVec.getLsbD i = m.testBit i := by
    show (BitVec.ofNat 32 m).getLsbD i = _
    rw [BitVec.getLsbD_ofNat, decide_eq_true (show i < 32 by omega), Bool.true_and]
  rw [e]
  cases m.testBit i
  · rfl
  · rfl
/-- the first one of k that will do -/
def fS (T : TT) (U : VS) (n P k : Nat) : Nat := frs (fun i => eS T U n (tb k i)) (cn k P)
def stF (T : TT) (U : VS) (n P : Nat) : Nat → Nat → Int32
  | 0, _ => -1
  | m + 1, k => if fS T U n P k < cn k P then nI (tb k (fS T U n P k)) else stF T U n P m (k + 1)
def stopR (V : VS) (T : TT) (v : Int32) : Int32 := if inI v (nI 0) (nI 99) = true then stF T (thV V) (ix v) (V 0 0 0) 4 0 else -1
/-- all sets ahead of the i-th of k -/
def ahd (k i k2 i2 : Nat) : Prop := k2 < k ∨ (k2 = k ∧ i2 < i)
theorem frs_all {b : Nat → Bool} {n : Nat} (h : ∀ k, k < n → b k = false) : frs b n = n := by
  have := frs_le b n
  by_cases e : frs b n < n
  · have z := frs_is e
    rw [h _ e] at z
    cases z
  · omega
theorem frs_at {b : Nat → Bool} {n i : Nat} (hi : i < n) (h : ∀ k, k < i → b k = false) (h2 : b i = true) : frs b n = i := by
  have := frs_le b n
  by_cases e : frs b n < i
  · have z := frs_is (b := b) (n := n) (by omega)
    rw [h _ e] at z
    cases z
  · by_cases e2 : i < frs b n
    · have z := frs_not e2
      rw [h2] at z
      cases z
    · omega
theorem stF_none {T : TT} {U : VS} {n P : Nat} (h : ∀ k i, k < 4 → i < cn k P → eS T U n (tb k i) = false) (m : Nat) : ∀ k, m + k = 4 → stF T U n P m k = -1 := by
  induction m with
  | zero => exact fun _ _ => rfl
  | succ m ih =>
    intro k hk
    have e : fS T U n P k = cn k P := frs_all (fun i hi => h k i (by omega) hi)
    show (if fS T U n P k < cn k P then _ else stF T U n P m (k + 1)) = -1
    rw [e, if_neg (Nat.lt_irrefl _)]
    exact ih (k + 1) (by omega)
theorem stF_at {T : TT} {U : VS} {n P k i : Nat} (hk : k < 4) (hi : i < cn k P) (h : ∀ k2 i2, k2 < 4 → i2 < cn k2 P → ahd k i k2 i2 → eS T U n (tb k2 i2) = false) (h2 : eS T U n (tb k i) = true) (m : Nat) : ∀ k2, k2 ≤ k → m + k2 = 4 → stF T U n P m k2 = nI (tb k i) := by
  induction m with
  | zero =>
    intro k2 h3 h4
    omega
  | succ m ih =>
    intro k2 h3 h4
    show (if fS T U n P k2 < cn k2 P then nI (tb k2 (fS T U n P k2)) else stF T U n P m (k2 + 1)) = _
    by_cases e : k2 = k
    · subst e
      have z : fS T U n P k2 = i := frs_at hi (fun j hj => h k2 j hk (by omega) (Or.inr ⟨rfl, hj⟩)) h2
      rw [z, if_pos hi]
    · have z : fS T U n P k2 = cn k2 P := frs_all (fun j hj => h k2 j (by omega) hj (Or.inl (by omega)))
      rw [z, if_neg (Nat.lt_irrefl _)]
      exact ih (k2 + 1) (by omega) (by omega)
def ESt (o : Nat) : Prop := EW 366 166 o ∨ o = 531
/-- some are stopped in thought -/
theorem c_stopS {μ : Mm} {V U : VS} {s : Nat} (h1 : μ.1 1 1 = nI (V 0 0 0)) (h : HC μ 366 U) (hU : U 0 0 0 = V 0 0 0) (hP : V 0 0 0 ≤ 16) (hs : s < 2 ^ V 0 0 0) (n : Int32) : ∃ μ2, iter 1000000 (fun q => Nine_endsWithout_l70 (nI s) n q.1 q.2) (nI 0, μ) = some μ2 ∧ HC μ2 366 (stS U s) ∧ Out (inW 366) μ μ2 := by
  have s16 : s < 2 ^ 31 := Nat.lt_of_lt_of_le hs (Nat.pow_le_pow_right (by decide) (by omega))
  have key := iter_inv (f := fun q : Int32 × Mm => Nine_endsWithout_l70 (nI s) n q.1 q.2)
    (fun j q => q.1 = nI j ∧ HC q.2 366 (fun c p k => if c = 1 ∧ k = 5 ∧ s.testBit p = true ∧ p < j then 1 else U c p k) ∧ Out (inW 366) μ q.2)
    (fun m => HC m 366 (stS U s) ∧ Out (inW 366) μ m) (V 0 0 0) ?_ ?_ 1000000 (nI 0, μ) ⟨rfl, ?_, Out.rf⟩ (by omega)
  · obtain ⟨m, k1, k2, k3⟩ := key
    exact ⟨m, k1, k2, k3⟩
  · rintro j ⟨s1, m⟩ hj ⟨rfl, g1, g2⟩
    have g1 : HC m 366 (fun c p k => if c = 1 ∧ k = 5 ∧ s.testBit p = true ∧ p < j then 1 else U c p k) := g1
    have g2 : Out (inW 366) μ m := g2
    have e1 : m.1 1 1 = nI (V 0 0 0) := ((g2 1 (by unfold inW; omega)).1 1).trans h1
    have l : Nine_endsWithout_l70 (nI s) n (nI j) m = if s.testBit j = true then some (.inl (nI (j + 1), sti m (366 + (22 + 9 * j)) 5 (nI 1))) else some (.inl (nI (j + 1), m)) := by
      unfold Nine_endsWithout_l70 Nine_endsWithout_j104
      rw [e1, if_neg (nI_ge hj (by omega)), c_hasBit, bnd_eq, hb_any _ (by omega)]
      cases s.testBit j with
      | true => rw [if_pos rfl, if_10, chv_nI (by omega) (by decide), chv_nI (by decide) (by decide), ix_nI (by omega), ix_nI (by decide), lt_eq, nI_add, if_pos rfl, show 366 + (21 + 9 * j) + 1 = 366 + (22 + 9 * j) by omega]
      | false => rw [if_neg Bool.false_ne_true, if_00, nI_add, if_neg Bool.false_ne_true]
    left
    cases e : s.testBit j with
    | true =>
      rw [e, if_pos rfl] at l
      obtain ⟨a1, a2⟩ := g1.put1 1 j 5 1 (o := 366 + (22 + 9 * j)) (k := 5) (v := nI 1) (live_t (by show j < (if (0 : Nat) = 1 ∧ _ then 1 else U 0 0 0); rw [if_neg (by omega), hU]; exact hj) (by decide)) rfl rfl rfl ⟨by decide, by decide⟩ (by omega)
      refine ⟨_, l, rfl, ?_, g2.tr a2⟩
      have ef : (fun c p k => if c = 1 ∧ k = 5 ∧ s.testBit p = true ∧ p < j + 1 then 1 else U c p k) = vset (fun c p k => if c = 1 ∧ k = 5 ∧ s.testBit p = true ∧ p < j then 1 else U c p k) 1 j 5 1 := by
        funext c p k
        by_cases z : c = 1 ∧ p = j ∧ k = 5
        · obtain ⟨rfl, rfl, rfl⟩ := z
          rw [vset_eq ⟨rfl, rfl, rfl⟩, if_pos ⟨rfl, rfl, e, Nat.lt_succ_self _⟩]
        · rw [vset_ne z]
          by_cases z2 : c = 1 ∧ k = 5 ∧ s.testBit p = true ∧ p < j
          · rw [if_pos z2, if_pos ⟨z2.1, z2.2.1, z2.2.2.1, by omega⟩]
          · rw [if_neg z2, if_neg (fun y => z2 ⟨y.1, y.2.1, y.2.2.1, by have := y.2.2.2; have : p ≠ j := fun w => z ⟨y.1, w, y.2.1⟩; omega⟩)]
      show HC _ 366 (fun c p k => if c = 1 ∧ k = 5 ∧ s.testBit p = true ∧ p < j + 1 then 1 else U c p k)
      rw [ef]
      exact a1
    | false =>
      rw [e, if_neg Bool.false_ne_true] at l
      refine ⟨_, l, rfl, ?_, g2⟩
      have ef : (fun c p k => if c = 1 ∧ k = 5 ∧ s.testBit p = true ∧ p < j + 1 then 1 else U c p k) = (fun c p k => if c = 1 ∧ k = 5 ∧ s.testBit p = true ∧ p < j then 1 else U c p k) := by
        funext c p k
        by_cases z2 : c = 1 ∧ k = 5 ∧ s.testBit p = true ∧ p < j
        · rw [if_pos z2, if_pos ⟨z2.1, z2.2.1, z2.2.2.1, by omega⟩]
        · rw [if_neg z2, if_neg (fun y => z2 ⟨y.1, y.2.1, y.2.2.1, by
            have h1 := y.2.2.2
            have h2 := y.2.2.1
            have : p ≠ j := fun w => by rw [w, e] at h2; cases h2
            omega⟩)]
      show HC _ 366 (fun c p k => if c = 1 ∧ k = 5 ∧ s.testBit p = true ∧ p < j + 1 then 1 else U c p k)
      rw [ef]
      exact g1
  · rintro ⟨s1, m⟩ ⟨rfl, g1, g2⟩
    have g1 : HC m 366 (fun c p k => if c = 1 ∧ k = 5 ∧ s.testBit p = true ∧ p < V 0 0 0 then 1 else U c p k) := g1
    have g2 : Out (inW 366) μ m := g2
    have e1 : m.1 1 1 = nI (V 0 0 0) := ((g2 1 (by unfold inW; omega)).1 1).trans h1
    refine ⟨m, ?_, ?_, g2⟩
    · show Nine_endsWithout_l70 _ _ _ _ = _
      unfold Nine_endsWithout_l70
      rw [e1, if_pos (nI_le (Nat.le_refl _) (by omega))]
    · have ef : stS U s = (fun c p k => if c = 1 ∧ k = 5 ∧ s.testBit p = true ∧ p < V 0 0 0 then 1 else U c p k) := by
        funext c p k
        unfold stS
        by_cases z2 : c = 1 ∧ k = 5 ∧ s.testBit p = true
        · have : p < V 0 0 0 := by
            by_cases y : p < V 0 0 0
            · exact y
            · have := Nat.testBit_lt_two_pow (Nat.lt_of_lt_of_le hs (Nat.pow_le_pow_right (by decide) (show V 0 0 0 ≤ p by omega)))
              rw [z2.2.2] at this
              cases this
          rw [if_pos z2, if_pos ⟨z2.1, z2.2.1, z2.2.2, this⟩]
        · rw [if_neg z2, if_neg (fun y => z2 ⟨y.1, y.2.1, y.2.2.1⟩)]
      rw [ef]
      exact g1
  · have ef : (fun c p k => if c = 1 ∧ k = 5 ∧ s.testBit p = true ∧ p < 0 then 1 else U c p k) = U := by
      funext c p k
      exact if_neg (fun y => Nat.not_lt_zero _ y.2.2.2)
    show HC μ 366 (fun c p k => if c = 1 ∧ k = 5 ∧ s.testBit p = true ∧ p < 0 then 1 else U c p k)
    rw [ef]
    exact h
/-- days in thought until it is over, n at most -/
theorem c_untilS {μ : Mm} {W : VS} {T : TT} {d n : Nat} (h : HC μ 366 W) (hw : WF d W) (hd : d + 100 < 2 ^ 30) (hn : n ≤ 99) (hT : TC μ 166 T) (hB : TB T) (v : Int32) : ∃ μ2, iter 1000000 (fun q => Nine_endsWithout_l112 v (nI n) q.1 q.2) (nI 0, μ) = some μ2 ∧ HC μ2 366 (itn (frs (ovB T W) n) (dayV T) W) ∧ Out (EW 366 166) μ μ2 := by
  have hF := frs_le (ovB T W) n
  have key := iter_inv (f := fun q : Int32 × Mm => Nine_endsWithout_l112 v (nI n) q.1 q.2)
    (fun k q => q.1 = nI k ∧ HC q.2 366 (itn k (dayV T) W) ∧ Out (EW 366 166) μ q.2)
    (fun m => HC m 366 (itn (frs (ovB T W) n) (dayV T) W) ∧ Out (EW 366 166) μ m) (frs (ovB T W) n) ?_ ?_ 1000000 (nI 0, μ) ⟨rfl, h, Out.rf⟩ (by omega)
  · obtain ⟨m, k1, k2, k3⟩ := key
    exact ⟨m, k1, k2, k3⟩
  · rintro k ⟨s1, m⟩ hk ⟨rfl, hC, hO⟩
    have hC : HC m 366 (itn k (dayV T) W) := hC
    have hO : Out (EW 366 166) μ m := hO
    obtain ⟨i1, i2⟩ := itn_day (T := T) hw hB k
    obtain ⟨m2, f1, f2, f3⟩ := c_day hC i1 (by omega) (hT.out hO (fun o e => EW_law apart_th e)) hB apart_th
    have hb : overV (itn k (dayV T) W) = false := frs_not hk
    refine Or.inl ⟨(nI (k + 1), m2), ?_, rfl, f2, hO.tr f3⟩
    show Nine_endsWithout_l112 _ _ _ _ = _
    unfold Nine_endsWithout_l112
    rw [if_neg (nI_ge (by omega) (by omega)), c_over hC i1.2.2.2.2.2.1, hb, bnd_eq, if_neg Bool.false_ne_true, if_00, f1, bnd2_eq, nI_add]
  · rintro ⟨s1, m⟩ ⟨rfl, hC, hO⟩
    have hC : HC m 366 (itn (frs (ovB T W) n) (dayV T) W) := hC
    have hwF := (itn_day (T := T) hw hB (frs (ovB T W) n)).1
    refine ⟨m, ?_, hC, hO⟩
    show Nine_endsWithout_l112 _ _ _ _ = _
    unfold Nine_endsWithout_l112
    by_cases e : frs (ovB T W) n < n
    · have hb : overV (itn (frs (ovB T W) n) (dayV T) W) = true := frs_is (b := ovB T W) e
      rw [if_neg (nI_ge e (by omega)), c_over hC hwF.2.2.2.2.2.1, hb, bnd_eq, if_pos rfl, if_10]
    · rw [if_pos (nI_le (by omega) (by omega))]
theorem eS_over {T : TT} {U : VS} {n s : Nat} : overV (itn (frs (ovB T (stS U s)) n) (dayV T) (stS U s)) = eS T U n s ∧ (eS T U n s = false → frs (ovB T (stS U s)) n = n) := by
  have hF := frs_le (ovB T (stS U s)) n
  unfold eS
  by_cases e : frs (ovB T (stS U s)) n < n
  · have z := frs_is (b := ovB T (stS U s)) e
    rw [frs_lt e, decide_eq_true (by omega)]
    exact ⟨z, fun y => Bool.noConfusion y⟩
  · have en : frs (ovB T (stS U s)) n = n := by omega
    rw [frs_succ en, en]
    refine ⟨?_, fun _ => rfl⟩
    show ovB T (stS U s) n = _
    cases z : ovB T (stS U s) n with
    | true => rw [if_pos rfl, decide_eq_true (Nat.le_refl n)]
    | false => rw [if_neg Bool.false_ne_true, decide_eq_false (by omega)]
/-- what was found of the sets ahead -/
def PrS (T : TT) (V : VS) (n k i : Nat) (μ : Mm) : Prop := ∀ k2 i2, k2 < 4 → i2 < cn k2 (V 0 0 0) → ahd k i k2 i2 → eS T (thV V) n (tb k2 i2) = false ∧ (k2 ≤ 2 → μ.1 531 (slt (tb k2 i2)) = nI (wS T (thV V) n (tb k2 i2)))
theorem c_ends {μ : Mm} {V : VS} {T : TT} {n k i : Nat} (h : HC μ 1 V) (hw : WF 9999 V) (hL : LV V) (hT : TC μ 166 T) (hB : TB T) (hn : n ≤ 99) (hk : k < 4) (hi : i < cn k (V 0 0 0)) (hp : PrS T V n k i μ) : ∃ μ2, Nine_endsWithout (nI (tb k i)) (nI n) μ = some (if eS T (thV V) n (tb k i) = true then nI 1 else nI 0, μ2) ∧ (eS T (thV V) n (tb k i) = false → μ2.1 531 (slt (tb k i)) = nI (wS T (thV V) n (tb k i))) ∧ (∀ j, j ≠ slt (tb k i) → μ2.1 531 j = μ.1 531 j) ∧ Out ESt μ μ2 := by
  have hP := hw.1
  have h11 : μ.1 1 1 = nI (V 0 0 0) := h.P
  have c16 := (cn_16 k hk (V 0 0 0) (by omega)).1
  obtain ⟨pp, p16⟩ := tb_p hk (show i < cn k 16 by omega)
  have sP : tb k i < 2 ^ V 0 0 0 := (tb_lt hk (by omega) (by omega)).2 hi
  have sl := slt_lt (s := tb k i) p16
  have eU : thV V 0 0 0 = V 0 0 0 := thV_o (by omega) (by omega)
  have key := iter_inv (f := fun q : Int32 => Nine_endsWithout_l2 (nI (tb k i)) (nI n) q μ)
    (fun j q => q = nI j)
    (fun x => x = Sum.inr () ∨ ∃ p, p < V 0 0 0 ∧ (tb k i).testBit p = true ∧ (wS T (thV V) n (tb k i ^^^ 2 ^ p)).testBit p = false ∧ eS T (thV V) n (tb k i ^^^ 2 ^ p) = false ∧ x = Sum.inl (nI (wS T (thV V) n (tb k i ^^^ 2 ^ p)))) (V 0 0 0) ?_ ?_ 1000000 (nI 0) rfl (by omega)
  · obtain ⟨x, k1, k2⟩ := key
    rcases k2 with rfl | ⟨p, hp1, hp2, hp3, hp4, rfl⟩
    · obtain ⟨m1, a1, a2, a3⟩ := c_begin h
      have m11 : m1.1 1 1 = nI (V 0 0 0) := ((a3 1 (by unfold inW; omega)).1 1).trans h11
      obtain ⟨m2, b1, b2, b3⟩ := c_stopS m11 a2 eU hP sP (nI n)
      have o2 : Out (EW 366 166) μ m2 := (a3.tr b3).mono (fun o z => EW_w z)
      obtain ⟨m3, d1, d2, d3⟩ := c_untilS (n := n) b2 (hw.thV.stS) (by decide) hn (hT.out o2 (fun o e => EW_law apart_th e)) hB (nI (tb k i))
      have o3 : Out (EW 366 166) μ m3 := o2.tr d3
      obtain ⟨e1, e2⟩ := eS_over (T := T) (U := thV V) (n := n) (s := tb k i)
      have hwF := (itn_day (T := T) (hw.thV.stS (s := tb k i)) hB (frs (ovB T (stS (thV V) (tb k i))) n)).1
      have w9 : m3.1 366 11 = nI (itn (frs (ovB T (stS (thV V) (tb k i))) n) (dayV T) (stS (thV V) (tb k i)) 0 0 9) := (d2.1 0 0 9 (live_0 (by decide))).2 ⟨by decide, by decide⟩
      generalize hz : sti m3 531 (slt (tb k i)) (m3.1 366 11) = m4
      have o4 : Out (fun o => o = 531) m3 m4 := by
        rw [← hz]
        exact Out.rf.sti rfl
      have d4 : HC m4 366 (itn (frs (ovB T (stS (thV V) (tb k i))) n) (dayV T) (stS (thV V) (tb k i))) := d2.out o4 (fun o y z => by unfold inW at y; omega)
      refine ⟨m4, ?_, fun y => ?_, fun j hj => ?_, (o3.mono (fun o z => Or.inl z)).tr (o4.mono (fun o z => Or.inr z))⟩
      · unfold Nine_endsWithout Nine_endsWithout_j145
        rw [k1, bni_eq]
        show bnd (Nine_beginThought μ) _ = _
        rw [a1, bnd_eq, b1, bni_eq, d1, bni_eq, c_slot p16, bnd_eq, chv_nI sl (by decide), ix_nI (by omega), hz, lt_eq, c_over d4 hwF.2.2.2.2.2.1, e1, bnd_eq]
        cases eS T (thV V) n (tb k i) with
        | true => rw [if_pos rfl, chk_ok (show nI 1 = 0 ∨ nI 1 = 1 from Or.inr rfl)]
        | false => rw [if_neg Bool.false_ne_true, chk_ok (show nI 0 = 0 ∨ nI 0 = 1 from Or.inl rfl)]
      · rw [← hz, sti_e ⟨rfl, rfl⟩, w9, e2 y]
        rfl
      · rw [← hz, sti_n (by omega)]
        exact (o3 531 (by unfold EW inW; omega)).1 j
    · obtain ⟨s1, s2⟩ := same_S (T := T) hw.thV hB hL.thV (show p < thV V 0 0 0 by rw [eU]; exact hp1) hp2 hp3
      rw [hp4] at s1
      refine ⟨sti μ 531 (slt (tb k i)) (nI (wS T (thV V) n (tb k i ^^^ 2 ^ p))), ?_, fun _ => ?_, fun j hj => sti_n (by omega), Out.rf.sti (Or.inr rfl)⟩
      · unfold Nine_endsWithout
        rw [k1, bni_eq]
        show bnd (Nine_writerSlot (nI (tb k i))) _ = _
        rw [c_slot p16, bnd_eq, chv_nI sl (by decide), ix_nI (by omega), lt_eq, s1, if_neg Bool.false_ne_true]
      · rw [sti_e ⟨rfl, rfl⟩, s2]
  · rintro j q hj rfl
    show (∃ s2, Nine_endsWithout_l2 _ _ _ _ = _ ∧ _) ∨ (∃ x, Nine_endsWithout_l2 _ _ _ _ = _ ∧ _)
    unfold Nine_endsWithout_l2 Nine_endsWithout_j58
    rw [h11, if_neg (nI_ge hj (by omega)), c_hasBit, bnd_eq, hb_any _ (by omega)]
    cases e : (tb k i).testBit j with
    | false =>
      rw [if_neg Bool.false_ne_true, if_00, nI_add]
      exact Or.inl ⟨_, rfl, rfl⟩
    | true =>
      obtain ⟨k1, b1, b2⟩ := sub_set hk (show i < cn k 16 by omega) (show j < 16 by omega) e
      obtain ⟨i2, hi2, e2⟩ := tb_all (s := tb k i ^^^ 2 ^ j) (k := k - 1) (by omega) (by omega) b1
      have hi3 : i2 < cn (k - 1) (V 0 0 0) := (tb_lt (by omega) (by omega) hi2).1 (by rw [e2]; omega)
      obtain ⟨f1, f2⟩ := hp (k - 1) i2 (by omega) hi3 (Or.inl (by omega))
      rw [e2] at f1 f2
      have f2 := f2 (by omega)
      have sl2 := slt_lt (s := tb k i ^^^ 2 ^ j) (by omega)
      rw [if_pos rfl, if_10, shl1 j (by omega), nI_xor, c_slot (by omega), bnd_eq, chv_nI sl2 (by decide), ix_nI (by omega), f2, c_hasBit, bnd_eq, hb_any _ (by omega)]
      cases z : (wS T (thV V) n (tb k i ^^^ 2 ^ j)).testBit j with
      | true =>
        rw [if_pos rfl, if_10, nI_add]
        exact Or.inl ⟨_, rfl, rfl⟩
      | false =>
        rw [if_neg Bool.false_ne_true, if_00]
        exact Or.inr ⟨_, rfl, Or.inr ⟨j, hj, e, z, f1, rfl⟩⟩
  · rintro q rfl
    refine ⟨Sum.inr (), ?_, Or.inl rfl⟩
    show Nine_endsWithout_l2 _ _ _ _ = _
    unfold Nine_endsWithout_l2
    rw [h11, if_pos (nI_le (Nat.le_refl _) (by omega))]
/-- how many sets are ahead of those of k -/
def ofS (k P : Nat) : Nat := (if 1 ≤ k then cn 0 P else 0) + (if 2 ≤ k then cn 1 P else 0) + (if 3 ≤ k then cn 2 P else 0)
theorem cn_zero : ∀ P, P < 17 → ∀ k, k < 3 → cn k P = 0 → cn (k + 1) P = 0 := by decide +kernel
theorem cn_no {P k : Nat} (hP : P < 17) (h : cn k P = 0) (k2 : Nat) (h1 : k ≤ k2) (h2 : k2 < 4) : cn k2 P = 0 := by
  induction k2 with
  | zero =>
    have : k = 0 := by omega
    rw [this] at h
    exact h
  | succ k2 ih =>
    by_cases e : k = k2 + 1
    · rw [← e]
      exact h
    · exact cn_zero P hP k2 (by omega) (ih (by omega) (by omega))
theorem of_next {P k i : Nat} (hk : k < 4) (hi : i < cn k P) (h : (nxK P k i).1 < 4) : ofS (nxK P k i).1 P + (nxK P k i).2 = ofS k P + i + 1 := by
  unfold nxK at h ⊢
  by_cases e : 1 ≤ k ∧ i + 1 < cn k P
  · rw [if_pos e]
    rfl
  · rw [if_neg e] at h ⊢
    have h : k + 1 < 4 := h
    show ofS (k + 1) P + 0 = _
    have : k = 0 ∨ k = 1 ∨ k = 2 := by omega
    unfold ofS
    rcases this with rfl | rfl | rfl
    · have : i < 1 := hi
      show cn 0 P + 0 + 0 + 0 = 0 + 0 + 0 + i + 1
      have : cn 0 P = 1 := rfl
      omega
    · show cn 0 P + cn 1 P + 0 + 0 = cn 0 P + 0 + 0 + i + 1
      omega
    · show cn 0 P + cn 1 P + cn 2 P + 0 = cn 0 P + cn 1 P + 0 + i + 1
      omega
theorem ahd_next {P k i k2 i2 : Nat} (h2 : i2 < cn k2 P) (h : ahd (nxK P k i).1 (nxK P k i).2 k2 i2) : ahd k i k2 i2 ∨ (k2 = k ∧ i2 = i) := by
  unfold nxK at h
  unfold ahd at h ⊢
  by_cases e : 1 ≤ k ∧ i + 1 < cn k P
  · rw [if_pos e] at h
    have h : k2 < k ∨ (k2 = k ∧ i2 < i + 1) := h
    omega
  · rw [if_neg e] at h
    have h : k2 < k + 1 ∨ (k2 = k + 1 ∧ i2 < 0) := h
    by_cases c : k2 = k
    · subst c
      by_cases c0 : k2 = 0
      · subst c0
        have h2 : i2 < 1 := h2
        omega
      · omega
    · omega
theorem c_stop {μ : Mm} {V : VS} {T : TT} (h : HC μ 1 V) (hw : WF 9999 V) (hL : LV V) (hT : TC μ 166 T) (hB : TB T) (v : Int32) : ∃ μ2, Nine_stop v μ = some (stopR V T v, μ2) ∧ Out ESt μ μ2 := by
  have hP := hw.1
  unfold Nine_stop stopR
  by_cases c1 : inI v (nI 0) (nI 99) = true
  · obtain ⟨n, hn, rfl⟩ := inI_some c1 (by decide)
    rw [if_neg (show ¬ nI n < 0 from nI_pos (by omega)), if_pos (nI_le hn (by decide)), if_pos c1, ix_nI (by omega)]
    have key := iter_inv (f := fun s : Int32 × Int32 × Mm => Nine_stop_l16 (nI n) s.1 s.2.1 s.2.2)
      (fun j s => s.2.1 = nI j ∧ Out ESt μ s.2.2 ∧ ((s.1 = -1 ∧ stF T (thV V) n (V 0 0 0) 4 0 = -1) ∨ ∃ k i, k < 4 ∧ i < cn k (V 0 0 0) ∧ s.1 = nI (tb k i) ∧ j = ofS k (V 0 0 0) + i ∧ PrS T V n k i s.2.2))
      (fun x => ∃ m, (x = Sum.inl (stF T (thV V) n (V 0 0 0) 4 0, m) ∨ (x = Sum.inr m ∧ stF T (thV V) n (V 0 0 0) 4 0 = -1)) ∧ Out ESt μ m) 697 ?_ ?_ 1000000 (nI 0, nI 0, μ) ⟨rfl, Out.rf, Or.inr ⟨0, 0, by decide, by show 0 < 1; decide, rfl, rfl, fun k2 i2 _ h2 h3 => by unfold ahd at h3; omega⟩⟩ (by decide)
    · obtain ⟨x, k1, m, k2, k3⟩ := key
      rw [k1, bni_eq]
      rcases k2 with rfl | ⟨rfl, k2⟩
      · exact ⟨m, rfl, k3⟩
      · exact ⟨m, by rw [k2]; rfl, k3⟩
    · rintro j ⟨s1, s2, m⟩ hj ⟨rfl, g1, g2⟩
      have g1 : Out ESt μ m := g1
      rcases g2 with ⟨rfl, g2⟩ | ⟨k, i, hk, hi, rfl, e, g3⟩
      · right
        refine ⟨Sum.inr m, ?_, m, Or.inr ⟨rfl, g2⟩, g1⟩
        show Nine_stop_l16 _ _ _ _ = _
        unfold Nine_stop_l16
        rw [if_neg (nI_ge hj (by decide)), if_pos rfl]
      · have g3 : PrS T V n k i m := g3
        have c16 := (cn_16 k hk (V 0 0 0) (by omega)).1
        obtain ⟨pp, p16⟩ := tb_p hk (show i < cn k 16 by omega)
        have hm : HC m 1 V := h.out g1 (fun o z y => by unfold inW at z; unfold ESt EW inW at y; omega)
        obtain ⟨m2, a1, a2, a3, a4⟩ := c_ends hm hw hL (hT.out g1 (fun o z => by
          rcases z with z | z
          · exact EW_law apart_th z
          · unfold lawOut
            omega)) hB hn hk hi g3
        have m11 : m2.1 1 1 = nI (V 0 0 0) := ((a4 1 (by unfold ESt EW inW; omega)).1 1).trans hm.P
        have l : Nine_stop_l16 (nI n) (nI (tb k i)) (nI j) m = if eS T (thV V) n (tb k i) = true then some (.inr (Sum.inl (nI (tb k i), m2))) else some (.inl ((if (nxK (V 0 0 0) k i).1 < 4 ∧ (nxK (V 0 0 0) k i).2 < cn (nxK (V 0 0 0) k i).1 (V 0 0 0) then nI (tb (nxK (V 0 0 0) k i).1 (nxK (V 0 0 0) k i).2) else -1), nI (j + 1), m2)) := by
          unfold Nine_stop_l16
          rw [if_neg (nI_ge hj (by decide)), if_neg (fun z => by rw [eq_m1 (by omega)] at z; exact z), a1, bnd2_eq]
          cases eS T (thV V) n (tb k i) with
          | true => rw [if_pos rfl, if_10, if_pos rfl]
          | false => rw [if_neg Bool.false_ne_true, if_00, m11, c_behind (by omega) hk hi, bnd_eq, nI_add, if_neg Bool.false_ne_true]
        cases ee : eS T (thV V) n (tb k i) with
        | true =>
          rw [ee, if_pos rfl] at l
          refine Or.inr ⟨_, l, m2, Or.inl ?_, g1.tr a4⟩
          rw [stF_at hk hi (fun k2 i2 q1 q2 q3 => (g3 k2 i2 q1 q2 q3).1) ee 4 0 (Nat.zero_le _) rfl]
        | false =>
          rw [ee, if_neg Bool.false_ne_true] at l
          have pr : PrS T V n (nxK (V 0 0 0) k i).1 (nxK (V 0 0 0) k i).2 m2 := by
            intro k2 i2 q1 q2 q3
            rcases ahd_next q2 q3 with q4 | ⟨rfl, rfl⟩
            · obtain ⟨f1, f2⟩ := g3 k2 i2 q1 q2 q4
              refine ⟨f1, fun q5 => ?_⟩
              have c162 := (cn_16 k2 q1 (V 0 0 0) (by omega)).1
              obtain ⟨pp2, p162⟩ := tb_p q1 (show i2 < cn k2 16 by omega)
              rw [a3 _ (fun z => ?_)]
              · exact f2 q5
              · have z2 := slt_one p162 p16 (by omega) z.symm
                rw [z2] at pp
                have : k2 = k := by omega
                subst this
                unfold ahd at q4
                by_cases c0 : 1 ≤ k2
                · rcases Nat.lt_or_gt_of_ne (show i2 ≠ i by omega) with c | c
                  · have := tb_mono q1 c0 i (by omega) i2 c
                    omega
                  · have := tb_mono q1 c0 i2 (by omega) i c
                    omega
                · have : k2 = 0 := by omega
                  subst this
                  have hi : i < 1 := hi
                  omega
            · exact ⟨ee, fun _ => a2 ee⟩
          refine Or.inl ⟨_, l, rfl, g1.tr a4, ?_⟩
          by_cases cv : (nxK (V 0 0 0) k i).1 < 4 ∧ (nxK (V 0 0 0) k i).2 < cn (nxK (V 0 0 0) k i).1 (V 0 0 0)
          · right
            rw [if_pos cv]
            exact ⟨_, _, cv.1, cv.2, rfl, by rw [of_next hk hi cv.1, e], pr⟩
          · left
            rw [if_neg cv]
            refine ⟨rfl, stF_none (fun k2 i2 q1 q2 => ?_) 4 0 rfl⟩
            refine (pr k2 i2 q1 q2 ?_).1
            unfold nxK at cv ⊢
            unfold ahd
            by_cases e1 : 1 ≤ k ∧ i + 1 < cn k (V 0 0 0)
            · rw [if_pos e1] at cv
              exact absurd ⟨hk, e1.2⟩ cv
            · rw [if_neg e1] at cv ⊢
              show k2 < k + 1 ∨ _
              by_cases c5 : k2 < k + 1
              · exact Or.inl c5
              · exfalso
                have c6 : k + 1 < 4 := by omega
                have c7 : cn (k + 1) (V 0 0 0) = 0 := by
                  by_cases c8 : 0 < cn (k + 1) (V 0 0 0)
                  · exact absurd ⟨c6, c8⟩ cv
                  · omega
                have := cn_no (show V 0 0 0 < 17 by omega) c7 k2 (by omega) q1
                omega
    · rintro ⟨s1, s2, m⟩ ⟨rfl, g1, g2⟩
      rcases g2 with ⟨rfl, g2⟩ | ⟨k, i, hk, hi, rfl, e, g3⟩
      · refine ⟨Sum.inr m, ?_, m, Or.inr ⟨rfl, g2⟩, g1⟩
        show Nine_stop_l16 _ _ _ _ = _
        unfold Nine_stop_l16
        rw [if_pos (show nI 697 ≤ nI 697 by decide)]
      · have := lt_trip k hk (V 0 0 0) (by omega)
        unfold ofS at e
        omega
  · rw [if_neg c1]
    unfold inI at c1
    by_cases c2 : v < 0
    · rw [if_pos c2]
      exact ⟨μ, rfl, Out.rf⟩
    · rw [if_neg c2, if_neg (fun z => c1 (decide_eq_true ⟨c2, Int32.not_lt.2 z⟩))]
      exact ⟨μ, rfl, Out.rf⟩
