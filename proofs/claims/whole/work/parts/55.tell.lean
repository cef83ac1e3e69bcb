/-! WHAT CAN BE TOLD, and thoughts: many, over -/
def inI (v lo hi : Int32) : Bool := decide (¬ v < lo ∧ ¬ hi < v)
theorem inI_some {v : Int32} {n : Nat} (h : inI v (nI 0) (nI n) = true) (hn : n < 2 ^ 31) : ∃ j, j ≤ n ∧ v = nI j := by
  have h := of_decide_eq_true h
  exact nI_of2 (M := nI n) (nI_toInt hn) h.1 (Int32.not_lt.1 h.2)
theorem inI_nI {j n : Nat} (hj : j < 2 ^ 31) (hn : n < 2 ^ 31) : inI (nI j) (nI 0) (nI n) = decide (j ≤ n) := by
  unfold inI
  by_cases e : j ≤ n
  · rw [decide_eq_true e, decide_eq_true]
    exact ⟨nI_nlt (Nat.zero_le _) hj, nI_nlt e hn⟩
  · rw [decide_eq_false e, decide_eq_false]
    intro z
    exact z.2 (nI_lt (by omega) hj)
theorem m_isIn (v lo hi : Int32) : M_isIn v lo hi = some (if inI v lo hi = true then nI 1 else nI 0) := by
  unfold M_isIn inI
  by_cases h1 : v < lo
  · rw [if_pos h1, if_neg (by rw [decide_eq_true_iff]; exact fun z => z.1 h1)]
  · rw [if_neg h1]
    by_cases h2 : hi < v
    · rw [if_pos h2, if_neg (by rw [decide_eq_true_iff]; exact fun z => z.2 h2)]
    · rw [if_neg h2, if_pos (by rw [decide_eq_true_iff]; exact ⟨h1, h2⟩)]
def leastI (k : Nat) : Int32 := leastT.getD k 0
def mostI (k : Nat) : Int32 := mostT.getD k 0
theorem c_can {k : Nat} (hk : k < 10) (v : Int32) (μ : Mm) : Nine_canBeTold (nI k) v μ = some (if inI v (leastI k) (mostI k) = true then nI 1 else nI 0) := by
  unfold Nine_canBeTold inI leastI mostI
  have h10 : ¬ (10 : Int32) ≤ nI k := nI_ge (b := 10) hk (by decide)
  rw [if_neg (nI_pos (by omega)), if_neg h10, chv_nI hk (by decide), ix_nI (by omega)]
  by_cases h1 : v < leastT.getD k 0
  · rw [if_pos h1, if_neg (by rw [decide_eq_true_iff]; exact fun z => z.1 h1)]
  · rw [if_neg h1, chv_nI hk (by decide)]
    by_cases h2 : mostT.getD k 0 < v
    · rw [if_pos h2, if_neg (by rw [decide_eq_true_iff]; exact fun z => z.2 h2)]
    · rw [if_neg h2, if_pos (by rw [decide_eq_true_iff]; exact ⟨h1, h2⟩)]
theorem c_canN {x : Int32} (h : inI x (nI 0) (nI 9) = false) (v : Int32) (μ : Mm) : Nine_canBeTold x v μ = some (nI 0) := by
  unfold Nine_canBeTold
  have h := of_decide_eq_false h
  by_cases h1 : x < 0
  · rw [if_pos h1]
  · have h10 : (10 : Int32) ≤ x := by
      obtain ⟨j, hj, rfl⟩ := nI_ofN h1
      refine nI_le (a := 10) ?_ hj
      by_cases e : 10 ≤ j
      · exact e
      · exact absurd ⟨nI_nlt (Nat.zero_le _) hj, nI_nlt (by omega) (by decide)⟩ h
    rw [if_neg h1, if_pos h10]
theorem m_town (v : Int32) : M_isTown v = some (if inI v (nI 0) (nI 5) = true then nI 1 else nI 0) := by
  unfold M_isTown
  by_cases h1 : v < 0
  · rw [if_pos h1, if_neg (by unfold inI; rw [decide_eq_true_iff]; exact fun z => z.1 h1)]
  · rw [if_neg h1]
    obtain ⟨j, hj, rfl⟩ := nI_ofN h1
    rw [inI_nI hj (by decide)]
    by_cases e : j ≤ 5
    · rw [if_neg (nI_ge (b := 6) (by omega) (by decide)), if_pos (by simpa using e)]
    · rw [if_pos (nI_le (a := 6) (by omega) hj), if_neg (by simpa using e)]
theorem c_begin {μ : Mm} {V : VS} (h : HC μ 1 V) : ∃ μ2, Nine_beginThought μ = some μ2 ∧ HC μ2 366 (thV V) ∧ Out (inW 366) μ μ2 := by
  obtain ⟨μ1, g1, g2, g3⟩ := c_cpW (w2 := 366) h (by decide +kernel) (by unfold far; omega)
  obtain ⟨a1, b1⟩ := g2.put1 20 0 2 0 (o := 385) (k := 2) (v := nI 0) (live_r (by decide)) rfl rfl rfl ⟨by decide, by decide⟩ (by omega)
  refine ⟨_, ?_, a1, g3.tr b1⟩
  unfold Nine_beginThought
  rw [g1, bnd_eq, chv_nI (by decide) (by decide), ix_nI (by decide), lt_eq]
theorem apart_th : apart 366 166 := by unfold apart; omega
theorem c_ahead {μ : Mm} {V : VS} {T : TT} {n : Nat} (h : HC μ 1 V) (hw : WF 9999 V) (hT : TC μ 166 T) (hB : TB T) (hn : n ≤ 99) : ∃ μ2, Nine_thinkAhead (nI n) μ = some (nI 1, μ2) ∧ HC μ2 366 (itn n (dayV T) (thV V)) ∧ Out (EW 366 166) μ μ2 := by
  obtain ⟨μ1, g1, g2, g3⟩ := c_begin h
  have key := iter_inv (f := fun s : Int32 × Mm => Nine_thinkAhead_l18 (nI n) s.1 s.2)
    (fun k s => s.1 = nI k ∧ HC s.2 366 (itn k (dayV T) (thV V)) ∧ Out (EW 366 166) μ s.2)
    (fun m => HC m 366 (itn n (dayV T) (thV V)) ∧ Out (EW 366 166) μ m) n ?_ ?_ 1000000 (nI 0, μ1) ⟨rfl, g2, g3.mono (fun o e => EW_w e)⟩ (by omega)
  · obtain ⟨m, h1, h2, h4⟩ := key
    refine ⟨m, ?_, h2, h4⟩
    unfold Nine_thinkAhead
    rw [if_neg (nI_pos (by omega)), if_pos (nI_le hn (by decide)), g1, bnd_eq, h1, bni_eq]
  · rintro k ⟨kI, m⟩ hk ⟨rfl, hC, hO⟩
    have hC : HC m 366 (itn k (dayV T) (thV V)) := hC
    have hO : Out (EW 366 166) μ m := hO
    obtain ⟨i1, i2⟩ := itn_day (T := T) hw.thV hB k
    obtain ⟨m2, f1, f2, f3⟩ := c_day hC i1 (by omega) (hT.out hO (fun o e => EW_law apart_th e)) hB apart_th
    refine Or.inl ⟨(nI (k + 1), m2), ?_, rfl, f2, hO.tr f3⟩
    show Nine_thinkAhead_l18 _ _ _ = _
    unfold Nine_thinkAhead_l18
    rw [if_neg (nI_ge hk (by omega)), f1, bnd2_eq, nI_add]
  · rintro ⟨kI, m⟩ ⟨rfl, hC, hO⟩
    refine ⟨m, ?_, hC, hO⟩
    show Nine_thinkAhead_l18 _ _ _ = _
    unfold Nine_thinkAhead_l18
    rw [if_pos (nI_le (Nat.le_refl _) (by omega))]
theorem c_aheadN {μ : Mm} {v : Int32} (h : inI v (nI 0) (nI 99) = false) : Nine_thinkAhead v μ = some (nI 0, μ) := by
  have h := of_decide_eq_false h
  unfold Nine_thinkAhead
  by_cases h1 : v < 0
  · rw [if_pos h1]
  · rw [if_neg h1, if_neg (fun z => h ⟨h1, Int32.not_lt.2 z⟩)]
/-- n days of the check's in thought -/
theorem m_ahead {ν : Mm} {V : VS} {T : TT} {n : Nat} {f : Int32 × Mm → Option ((Int32 × Mm) ⊕ Mm)} (h : HM ν 0 V) (hw : WF 9999 V) (hT : TM ν T) (hB : TB T) (hn : n ≤ 99) (hf : ∀ k m, k < n → f (nI k, m) = bnd2 (M_goesBy m) fun _ m2 => some (.inl (nI k + nI 1, m2))) (he : ∀ m, f (nI n, m) = some (.inr m)) : ∃ ν2, iter 1000000 f (nI 0, thM ν) = some ν2 ∧ HM ν2 1 (itn n (dayV T) (thV V)) ∧ OutM EX (thM ν) ν2 := by
  have key := iter_inv (f := f)
    (fun k s => s.1 = nI k ∧ HM s.2 1 (itn k (dayV T) (thV V)) ∧ OutM EX (thM ν) s.2)
    (fun m => HM m 1 (itn n (dayV T) (thV V)) ∧ OutM EX (thM ν) m) n ?_ ?_ 1000000 (nI 0, thM ν) ⟨rfl, m_think h, OutM.rf⟩ (by omega)
  · obtain ⟨m, h1, h2, h4⟩ := key
    exact ⟨m, h1, h2, h4⟩
  · rintro k ⟨kI, m⟩ hk ⟨rfl, hC, hO⟩
    have hC : HM m 1 (itn k (dayV T) (thV V)) := hC
    have hO : OutM EX (thM ν) m := hO
    obtain ⟨i1, i2⟩ := itn_day (T := T) hw.thV hB k
    obtain ⟨m2, f1, f2, f3⟩ := m_day hC i1 (by omega) (hT.out ((thM_law ν).tr (hO.mono (fun o k e => EX_law e))) (fun _ _ e => e)) hB
    refine Or.inl ⟨(nI (k + 1), m2), ?_, rfl, f2, hO.tr (f3.mono (fun o k e => EG_X e))⟩
    rw [hf k m hk, f1, bnd2_eq, nI_add]
  · rintro ⟨kI, m⟩ ⟨rfl, hC, hO⟩
    exact ⟨m, he m, hC, hO⟩
def manyR (V : VS) (T : TT) (v1 v2 : Int32) : Int32 := if (v2 = -1 ∨ inI v2 (nI 0) (nI 5) = true) ∧ inI v1 (nI 0) (nI 99) = true then nI (sumF (heldG (itn (ix v1) (dayV T) (thV V)) v2) (V 0 0 0)) else -1
theorem c_many {μ : Mm} {V : VS} {T : TT} (h : HC μ 1 V) (hw : WF 9999 V) (hT : TC μ 166 T) (hB : TB T) (v1 v2 : Int32) : ∃ μ2, Nine_many v1 v2 μ = some (manyR V T v1 v2, μ2) ∧ Out (EW 366 166) μ μ2 := by
  have key : ∃ μ2, Nine_many_j13 v1 v2 μ = some (if inI v1 (nI 0) (nI 99) = true then nI (sumF (heldG (itn (ix v1) (dayV T) (thV V)) v2) (V 0 0 0)) else -1, μ2) ∧ Out (EW 366 166) μ μ2 := by
    unfold Nine_many_j13
    by_cases c1 : inI v1 (nI 0) (nI 99) = true
    · obtain ⟨n, hn, rfl⟩ := inI_some c1 (by decide)
      obtain ⟨μ2, g1, g2, g3⟩ := c_ahead h hw hT hB hn
      have e0 := (itn_day (T := T) hw.thV hB n).2
      rw [thV_o (by omega) (by omega)] at e0
      refine ⟨μ2, ?_, g3⟩
      rw [g1, bnd2_eq, if_neg (by decide), c_held g2, bnd_eq, if_pos c1, ix_nI (by omega), e0]
    · have c1' : inI v1 (nI 0) (nI 99) = false := by simpa using c1
      refine ⟨μ, ?_, Out.rf⟩
      rw [c_aheadN c1', bnd2_eq, if_pos (by decide), if_neg c1]
  obtain ⟨μ2, k1, k2⟩ := key
  unfold Nine_many manyR
  by_cases c2 : v2 = -1
  · refine ⟨μ2, ?_, k2⟩
    rw [if_pos c2, k1]
    by_cases c1 : inI v1 (nI 0) (nI 99) = true
    · rw [if_pos c1, if_pos ⟨Or.inl c2, c1⟩]
    · rw [if_neg c1, if_neg (fun z => c1 z.2)]
  · rw [if_neg c2, c_can (k := 0) (by decide), bnd_eq]
    by_cases c3 : inI v2 (nI 0) (nI 5) = true
    · have c3' : inI v2 (leastI 0) (mostI 0) = true := c3
      refine ⟨μ2, ?_, k2⟩
      rw [if_pos c3', if_neg (by decide), k1]
      by_cases c1 : inI v1 (nI 0) (nI 99) = true
      · rw [if_pos c1, if_pos ⟨Or.inr c3, c1⟩]
      · rw [if_neg c1, if_neg (fun z => c1 z.2)]
    · have c3' : ¬ inI v2 (leastI 0) (mostI 0) = true := c3
      refine ⟨μ, ?_, Out.rf⟩
      rw [if_neg c3', if_pos (by decide), if_neg (fun z => z.1.elim c2 c3)]
def EQ (o k : Nat) : Prop := ET o k ∨ (o = 0 ∧ k = 0)
theorem HM.told {ν : Mm} {th : Nat} {V : VS} (h : HM ν th V) (v : Int32) : HM (sti ν 0 0 v) th V := h.out (OutM.rf.sti (E := fun o k => o = 0 ∧ k = 0) ⟨rfl, rfl⟩) (fun o k z y => by
  unfold cellN cellM at z
  omega)
theorem TM.told {ν : Mm} {T : TT} (h : TM ν T) (v : Int32) : TM (sti ν 0 0 v) T := h.out (OutM.rf.sti (E := fun o k => o = 0 ∧ k = 0) ⟨rfl, rfl⟩) (fun o k z => by
  unfold lawOutM
  omega)
theorem m_many {ν : Mm} {V : VS} {T : TT} (h : HM ν 0 V) (hw : WF 9999 V) (hT : TM ν T) (hB : TB T) (v1 v2 : Int32) : ∃ ν2, M_many v1 v2 ν = some (manyR V T v1 v2, ν2) ∧ OutM EQ ν ν2 := by
  have h' := h.told (nI 0)
  have hT' := hT.told (nI 0)
  have hO : OutM EQ ν (sti ν 0 0 (nI 0)) := OutM.rf.sti (Or.inr ⟨rfl, rfl⟩)
  unfold M_many manyR
  rw [lt_eq, m_isIn, bnd_eq]
  by_cases c1 : inI v1 (nI 0) (nI 99) = true
  · have key : ∃ ν2, M_many_j31 v1 v2 (sti ν 0 0 (nI 0)) = some (nI (sumF (heldG (itn (ix v1) (dayV T) (thV V)) v2) (V 0 0 0)), ν2) ∧ OutM EQ ν ν2 := by
      obtain ⟨n, hn, rfl⟩ := inI_some c1 (by decide)
      obtain ⟨ν2, g1, g2, g3⟩ := m_ahead (f := fun s : Int32 × Mm => M_many_l37 (nI n) v2 s.1 s.2) h' hw hT' hB hn (fun k m hk => by show M_many_l37 _ _ _ _ = _; unfold M_many_l37; rw [if_neg (nI_ge hk (by omega))]) (fun m => by show M_many_l37 _ _ _ _ = _; unfold M_many_l37; rw [if_pos (nI_le (Nat.le_refl _) (by omega))])
      have e0 := (itn_day (T := T) hw.thV hB n).2
      rw [thV_o (by omega) (by omega)] at e0
      have hb := m_back h' g3
      refine ⟨_, ?_, hO.tr (hb.mono (fun o k e => Or.inl e))⟩
      unfold M_many_j31
      rw [m_thinksE, bnd_eq, show sti (bcM (sti ν 0 0 (nI 0)) 3 0 1 0 712) 0 5 (nI 1) = thM (sti ν 0 0 (nI 0)) from rfl, g1, bni_eq, m_held g2, bnd_eq, m_endsE, bnd_eq, ix_nI (by omega), e0]
    obtain ⟨ν2, k1, k2⟩ := key
    rw [if_pos c1, if_neg (by decide)]
    by_cases c2 : v2 = -1
    · refine ⟨ν2, ?_, k2⟩
      rw [if_pos c2, k1, if_pos ⟨Or.inl c2, c1⟩]
    · rw [if_neg c2, m_town, bnd_eq]
      by_cases c3 : inI v2 (nI 0) (nI 5) = true
      · refine ⟨ν2, ?_, k2⟩
        rw [if_pos c3, if_neg (by decide), k1, if_pos ⟨Or.inr c3, c1⟩]
      · refine ⟨_, ?_, hO⟩
        rw [if_neg c3, if_pos (by decide), if_neg (fun z => z.1.elim c2 c3)]
  · refine ⟨_, ?_, hO⟩
    rw [if_neg c1, if_pos (by decide), if_neg (fun z => c1 z.2)]
