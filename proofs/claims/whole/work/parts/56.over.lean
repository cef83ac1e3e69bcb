/-! WHEN IT IS OVER -/
/-- the least one below n that is so, else n -/
def frs (b : Nat → Bool) : Nat → Nat
  | 0 => 0
  | n + 1 => if frs b n < n then frs b n else if b n = true then n else n + 1
theorem frs_le (b : Nat → Bool) (n : Nat) : frs b n ≤ n := by
  induction n with
  | zero => exact Nat.le_refl _
  | succ n ih =>
    unfold frs
    split
    · omega
    · split <;> omega
theorem frs_is {b : Nat → Bool} {n : Nat} (h : frs b n < n) : b (frs b n) = true := by
  induction n with
  | zero => omega
  | succ n ih =>
    unfold frs at h ⊢
    by_cases e : frs b n < n
    · rw [if_pos e]
      exact ih e
    · rw [if_neg e] at h ⊢
      by_cases e2 : b n = true
      · rw [if_pos e2]
        exact e2
      · rw [if_neg e2] at h
        omega
theorem frs_not {b : Nat → Bool} {n k : Nat} (h : k < frs b n) : b k = false := by
  induction n with
  | zero =>
    unfold frs at h
    omega
  | succ n ih =>
    unfold frs at h
    by_cases e : frs b n < n
    · rw [if_pos e] at h
      exact ih h
    · rw [if_neg e] at h
      have hn : frs b n = n := by
        have := frs_le b n
        omega
      by_cases e2 : b n = true
      · rw [if_pos e2] at h
        exact ih (by omega)
      · rw [if_neg e2] at h
        by_cases e3 : k = n
        · subst e3
          simpa using e2
        · exact ih (by omega)
theorem frs_succ {b : Nat → Bool} {n : Nat} (h : frs b n = n) : frs b (n + 1) = if b n = true then n else n + 1 := by
  rw [frs, if_neg (by omega)]
theorem frs_lt {b : Nat → Bool} {n : Nat} (h : frs b n < n) : frs b (n + 1) = frs b n := by
  rw [frs, if_pos h]
def ovB (T : TT) (V : VS) (k : Nat) : Bool := overV (itn k (dayV T) V)
/-- behind how many days, m at most; else none -/
def ovR (T : TT) (V : VS) (m : Nat) : Int32 := if frs (ovB T V) (m + 1) ≤ m then nI (frs (ovB T V) (m + 1)) else -1
theorem m_overBy {ν : Mm} {V : VS} {T : TT} {m d : Nat} (h : HM ν 1 V) (hw : WF d V) (hd : d + m < 2 ^ 30) (hm : m ≤ 300) (hT : TM ν T) (hB : TB T) : ∃ ν2, M_overBy (nI m) ν = some (ovR T V m, ν2) ∧ OutM EX ν ν2 := by
  have hF := frs_le (ovB T V) m
  have key := iter_inv (f := fun s : Int32 × Mm => M_overBy_l2 (nI m) s.1 s.2)
    (fun k s => s.1 = nI k ∧ HM s.2 1 (itn k (dayV T) V) ∧ OutM EX ν s.2)
    (fun x => x.1 = nI (frs (ovB T V) m) ∧ HM x.2 1 (itn (frs (ovB T V) m) (dayV T) V) ∧ OutM EX ν x.2) (frs (ovB T V) m) ?_ ?_ 1000000 (nI 0, ν) ⟨rfl, h, OutM.rf⟩ (by omega)
  · obtain ⟨x, h1, h2, h3, h4⟩ := key
    have hwF := (itn_day (T := T) hw hB (frs (ovB T V) m)).1
    refine ⟨x.2, ?_, h4⟩
    unfold M_overBy M_overBy_j26 ovR
    rw [h1, bni_eq, m_over h3 hwF.2.2.2.2.2.1, bnd_eq, h2]
    show (if (if ovB T V (frs (ovB T V) m) = true then nI 1 else nI 0) = 0 then _ else _) = _
    by_cases e : frs (ovB T V) m < m
    · rw [frs_lt e, if_pos (frs_is e), if_neg (by decide), if_pos (by omega)]
    · have e : frs (ovB T V) m = m := by omega
      rw [frs_succ e, e]
      by_cases e2 : ovB T V m = true
      · rw [if_pos e2, if_neg (by decide), if_pos e2, if_pos (Nat.le_refl _)]
      · rw [if_neg e2, if_pos (by decide), if_neg e2, if_neg (by omega)]
  · rintro k ⟨kI, m1⟩ hk ⟨rfl, hC, hO⟩
    have hC : HM m1 1 (itn k (dayV T) V) := hC
    have hO : OutM EX ν m1 := hO
    obtain ⟨i1, i2⟩ := itn_day (T := T) hw hB k
    obtain ⟨m2, f1, f2, f3⟩ := m_day hC i1 (by omega) (hT.out hO (fun o k e => EX_law e)) hB
    refine Or.inl ⟨(nI (k + 1), m2), ?_, rfl, f2, hO.tr (f3.mono (fun o k e => EG_X e))⟩
    show M_overBy_l2 _ _ _ = _
    unfold M_overBy_l2
    have hb : overV (itn k (dayV T) V) = false := frs_not hk
    rw [if_neg (nI_ge (by omega) (by omega)), m_over hC i1.2.2.2.2.2.1, hb, bnd_eq, if_pos (by decide), f1, bnd2_eq, nI_add]
  · rintro ⟨kI, m1⟩ ⟨rfl, hC, hO⟩
    have hC : HM m1 1 (itn (frs (ovB T V) m) (dayV T) V) := hC
    have hwF := (itn_day (T := T) hw hB (frs (ovB T V) m)).1
    refine ⟨(nI (frs (ovB T V) m), m1), ?_, rfl, hC, hO⟩
    show M_overBy_l2 _ _ _ = _
    unfold M_overBy_l2
    by_cases e : frs (ovB T V) m < m
    · have hb : overV (itn (frs (ovB T V) m) (dayV T) V) = true := frs_is e
      rw [if_neg (nI_ge e (by omega)), m_over hC hwF.2.2.2.2.2.1, hb, bnd_eq, if_neg (by decide)]
    · rw [if_pos (nI_le (by omega) (by omega))]
theorem m_overA {ν : Mm} {V : VS} {T : TT} (h : HM ν 0 V) (hw : WF 9999 V) (hT : TM ν T) (hB : TB T) : ∃ ν2, M_over ν = some (ovR T (thV V) 200, ν2) ∧ OutM EQ ν ν2 := by
  have h' := h.told (nI 0)
  have hT' := hT.told (nI 0)
  have hO : OutM EQ ν (sti ν 0 0 (nI 0)) := OutM.rf.sti (Or.inr ⟨rfl, rfl⟩)
  obtain ⟨ν2, g1, g2⟩ := m_overBy (m := 200) (m_think h') hw.thV (by decide) (by decide) (hT'.out (thM_law _) (fun _ _ e => e)) hB
  have hb := m_back h' g2
  refine ⟨_, ?_, hO.tr (hb.mono (fun o k e => Or.inl e))⟩
  unfold M_over
  rw [lt_eq, m_thinksE, bnd_eq, show sti (bcM (sti ν 0 0 (nI 0)) 3 0 1 0 712) 0 5 (nI 1) = thM (sti ν 0 0 (nI 0)) from rfl, g1, bnd2_eq, m_endsE, bnd_eq]
theorem c_overA {μ : Mm} {V : VS} {T : TT} (h : HC μ 1 V) (hw : WF 9999 V) (hT : TC μ 166 T) (hB : TB T) : ∃ μ2, Nine_over μ = some (ovR T (thV V) 200, μ2) ∧ Out (EW 366 166) μ μ2 := by
  obtain ⟨μ1, g1, g2, g3⟩ := c_begin h
  have hF := frs_le (ovB T (thV V)) 201
  have key := iter_inv (f := fun s : Int32 × Mm => Nine_over_l6 s.1 s.2)
    (fun k s => s.1 = nI k ∧ HC s.2 366 (itn k (dayV T) (thV V)) ∧ Out (EW 366 166) μ s.2)
    (fun x => ∃ m, x = (if frs (ovB T (thV V)) 201 ≤ 200 then Sum.inl (nI (frs (ovB T (thV V)) 201), m) else Sum.inr m) ∧ Out (EW 366 166) μ m) (frs (ovB T (thV V)) 201) ?_ ?_ 1000000 (nI 0, μ1) ⟨rfl, g2, g3.mono (fun o e => EW_w e)⟩ (by omega)
  · obtain ⟨x, h1, m, h2, h3⟩ := key
    refine ⟨m, ?_, h3⟩
    unfold Nine_over ovR
    rw [g1, bnd_eq, h1, bni_eq, h2]
    by_cases e : frs (ovB T (thV V)) 201 ≤ 200
    · rw [if_pos e, if_pos (show frs (ovB T (thV V)) (200 + 1) ≤ 200 from e)]
      rfl
    · rw [if_neg e, if_neg (show ¬ frs (ovB T (thV V)) (200 + 1) ≤ 200 from e)]
      rfl
  · rintro k ⟨kI, m⟩ hk ⟨rfl, hC, hO⟩
    have hC : HC m 366 (itn k (dayV T) (thV V)) := hC
    have hO : Out (EW 366 166) μ m := hO
    obtain ⟨i1, i2⟩ := itn_day (T := T) hw.thV hB k
    obtain ⟨m2, f1, f2, f3⟩ := c_day hC i1 (by omega) (hT.out hO (fun o e => EW_law apart_th e)) hB apart_th
    refine Or.inl ⟨(nI (k + 1), m2), ?_, rfl, f2, hO.tr f3⟩
    show Nine_over_l6 _ _ = _
    unfold Nine_over_l6
    have hb : overV (itn k (dayV T) (thV V)) = false := frs_not hk
    rw [if_neg (nI_nlt (by omega) (by omega)), c_over hC i1.2.2.2.2.2.1, hb, bnd_eq, if_pos (by decide), f1, bnd2_eq, nI_add]
  · rintro ⟨kI, m⟩ ⟨rfl, hC, hO⟩
    have hC : HC m 366 (itn (frs (ovB T (thV V)) 201) (dayV T) (thV V)) := hC
    have hwF := (itn_day (T := T) hw.thV hB (frs (ovB T (thV V)) 201)).1
    refine ⟨_, ?_, m, rfl, hO⟩
    show Nine_over_l6 _ _ = _
    unfold Nine_over_l6
    by_cases e : frs (ovB T (thV V)) 201 ≤ 200
    · have hb : overV (itn (frs (ovB T (thV V)) 201) (dayV T) (thV V)) = true := frs_is (b := ovB T (thV V)) (n := 201) (by omega)
      rw [if_neg (nI_nlt e (by decide)), c_over hC hwF.2.2.2.2.2.1, hb, bnd_eq, if_neg (by decide), if_pos e]
    · rw [if_pos (nI_lt (by omega) (by omega)), if_neg e]
/-! which curse lasts -/
def cuI (V : VS) (c p i : Nat) : Nat := if V 11 0 (V 7 p i) = c then 1 else 0
def cuF (V : VS) (c p : Nat) : Nat := sumF (cuI V c p) (V 6 p 0)
def cuN (V : VS) (c : Nat) : Nat := sumF (cuF V c) (V 0 0 0)
def cmB (V : VS) : Nat → Nat × Nat
  | 0 => (0, 0)
  | c + 1 => if (cmB V c).2 < cuN V c then (c + 1, cuN V c) else cmB V c
theorem sumF_le {g : Nat → Nat} {b : Nat} (n : Nat) (h : ∀ k, k < n → g k ≤ b) : sumF g n ≤ b * n := by
  induction n with
  | zero => exact Nat.le_refl _
  | succ n ih =>
    have h1 := ih (fun k hk => h k (by omega))
    have h2 := h n (by omega)
    rw [sumF, Nat.mul_succ]
    omega
theorem cuN_le {V : VS} {c : Nat} (hP : V 0 0 0 ≤ 16) (h3 : ∀ p, p < V 0 0 0 → V 6 p 0 ≤ 3) : cuN V c ≤ 48 := by
  have h1 : ∀ p, p < V 0 0 0 → cuF V c p ≤ 3 := fun p hp => by
    have := sumF_le (g := cuI V c p) (b := 1) (V 6 p 0) (fun k _ => by unfold cuI; split <;> omega)
    have := h3 p hp
    unfold cuF
    omega
  have := sumF_le (g := cuF V c) (b := 3) (V 0 0 0) h1
  unfold cuN
  omega
theorem cmB_le {V : VS} {c : Nat} (hP : V 0 0 0 ≤ 16) (h3 : ∀ p, p < V 0 0 0 → V 6 p 0 ≤ 3) : (cmB V c).1 ≤ c ∧ (cmB V c).2 ≤ 48 := by
  induction c with
  | zero => exact ⟨Nat.le_refl _, Nat.zero_le _⟩
  | succ c ih =>
    have := cuN_le (c := c) hP h3
    unfold cmB
    split
    · exact ⟨Nat.le_refl _, this⟩
    · exact ⟨Nat.le_succ_of_le ih.1, ih.2⟩
theorem c_chw {μ : Mm} {w d : Nat} {V : VS} (h : HC μ w V) (hw : WF d V) (c : Nat) (hc : c < 2 ^ 31) : World_countHeldWith w (nI c) μ = some (nI (cuN V c)) := by
  have P16 := h.P16
  have v40 := h.v40
  have eP := h.P
  have key := loop_sum (f := fun s => World_countHeldWith_l4 w (nI c) s.1 s.2 μ) (g := cuF V c) (N := V 0 0 0) (by omega) (fun n s hn => ?_) (fun s => ?_) 0
  · unfold World_countHeldWith
    rw [key, bni_eq, Nat.zero_add]
    rfl
  · have m3 := h.h3 hn
    have ec := h.hc hn
    have l1 := (h.lens (show n < 16 by omega)).1
    have key2 := loop_sum (f := fun s => World_countHeldWith_l26 w (nI c) s.1 (nI n) ((w + (21 + 9 * n)) + 3) s.2 μ) (g := cuI V c n) (N := V 6 n 0) (by omega) (fun i s2 hi => ?_) (fun s2 => ?_) s
    · show World_countHeldWith_l4 _ _ _ _ _ = _
      unfold World_countHeldWith_l4
      rw [eP, if_neg (nI_ge hn (by omega)), chv_nI (by omega) (by decide), ix_nI (by omega), key2, bni_eq, nI_add]
      rfl
    · obtain ⟨z1, z2, z3⟩ := hw.2.2.2.2.2.2.2.1 n i hn hi
      have y1 := (hw.2.2.2.2.2.2.2.2.1 _ z1).1
      have e7 : μ.1 (w + (21 + 9 * n) + 3 + 1) i = nI (V 7 n i) := h.lv hn hi
      have ev := h.vc z1
      show World_countHeldWith_l26 _ _ _ _ _ _ _ = _
      unfold World_countHeldWith_l26 World_countHeldWith_j59 cuI
      rw [ec, if_neg (nI_ge hi (by omega)), l1, chv_nI (by omega) (by decide), ix_nI (by omega), e7, chv_nI (by omega) (by decide), ix_nI (by omega), ev, nI_add, nI_add]
      by_cases e : V 11 0 (V 7 n i) = c
      · rw [if_pos (by rw [e]), if_pos e]
      · rw [if_neg (fun z => e ((nI_eq (by omega) hc).1 z)), if_neg e]
        rfl
    · show World_countHeldWith_l26 _ _ _ _ _ _ _ = _
      unfold World_countHeldWith_l26
      rw [ec, if_pos (nI_le (Nat.le_refl _) (by omega))]
  · show World_countHeldWith_l4 _ _ _ _ _ = _
    unfold World_countHeldWith_l4
    rw [eP, if_pos (nI_le (Nat.le_refl _) (by omega))]
theorem c_common {μ : Mm} {w d : Nat} {V : VS} (h : HC μ w V) (hw : WF d V) : World_commonestCurse w μ = some (nI (cmB V 10).1 - nI 1) := by
  have P16 := h.P16
  have h3 : ∀ p, p < V 0 0 0 → V 6 p 0 ≤ 3 := fun p hp => h.h3 hp
  have key := iter_traj (f := fun s : Int32 × Int32 × Int32 => World_commonestCurse_l6 w s.1 s.2.1 s.2.2 μ) (fun c => (nI (cmB V c).1 - nI 1, nI (cmB V c).2, nI c)) (y := nI (cmB V 10).1 - nI 1) 10 1000000 ?_ ?_ (by decide)
  · unfold World_commonestCurse
    have e0 : (-1 : Int32) = nI (cmB V 0).1 - nI 1 := (by decide : (-1 : Int32) = nI 0 - nI 1)
    rw [e0]
    rw [show (nI (cmB V 0).1 - nI 1, nI 0, nI 0) = (nI (cmB V 0).1 - nI 1, nI (cmB V 0).2, nI 0) from rfl, key, bni_eq]
  · intro c hc
    have b := cmB_le (c := c) P16 h3
    have bn := cuN_le (c := c) P16 h3
    show World_commonestCurse_l6 _ _ _ _ _ = _
    unfold World_commonestCurse_l6 World_commonestCurse_j30
    rw [if_neg (nI_nlt (by omega) (by omega)), c_chw h hw c (by omega), bnd_eq, nI_add]
    by_cases e : (cmB V c).2 < cuN V c
    · have e1 : cmB V (c + 1) = (c + 1, cuN V c) := if_pos e
      rw [if_neg (nI_ge e (by omega)), e1, ← nI_add, show nI c + nI 1 - nI 1 = nI c by rw [nI_add, nI_subE (by omega)]; rfl]
    · have e1 : cmB V (c + 1) = cmB V c := if_neg e
      rw [if_pos (nI_le (by omega) (by omega)), e1]
  · show World_commonestCurse_l6 _ _ _ _ _ = _
    unfold World_commonestCurse_l6
    rw [if_pos (nI_lt (a := 9) (b := 10) (by decide) (by decide))]
