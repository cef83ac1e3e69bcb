/-! WHICH CURSE LASTS -/
theorem HM.out23 {ν ν2 : Mm} {th : Nat} {V : VS} (h : HM ν th V) (ho : OutM (isO 23) ν ν2) : HM ν2 th V := h.out ho (fun o k z => by
  unfold cellN cellM at z
  unfold isO
  omega)
theorem m_most {ν : Mm} {th d : Nat} {V : VS} (h : HM ν th V) (hw : WF d V) : ∃ ν2, M_mostHeld ν = some (nI (cmB V 10).1 - nI 1, ν2) ∧ OutM (isO 23) ν ν2 := by
  have P16 := h.P16
  have v40 := h.v40
  have h3 : ∀ p, p < V 0 0 0 → V 6 p 0 ≤ 3 := fun p hp => h.h3 hp
  have k1 := iter_inv (f := fun s : Int32 × Mm => M_mostHeld_l2 s.1 s.2) (fun k s => s.1 = nI k ∧ OutM (isO 23) ν s.2 ∧ ∀ c, c < k → s.2.1 23 c = nI 0) (fun m => OutM (isO 23) ν m ∧ ∀ c, c < 10 → m.1 23 c = nI 0) 10 ?_ ?_ 1000000 (nI 0, ν) ⟨rfl, OutM.rf, fun c hc => absurd hc (by omega)⟩ (by decide)
  rotate_left
  · rintro k ⟨kI, m⟩ hk ⟨rfl, hO, hz⟩
    have hO : OutM (isO 23) ν m := hO
    refine Or.inl ⟨(nI (k + 1), sti m 23 k (nI 0)), ?_, rfl, hO.sti rfl, fun c hc => ?_⟩
    · show M_mostHeld_l2 _ _ = _
      unfold M_mostHeld_l2
      rw [if_neg (nI_ge hk (by decide)), chv_nI hk (by decide), ix_nI (by omega), lt_eq, nI_add]
    · by_cases e : c = k
      · subst e
        exact sti_e ⟨rfl, rfl⟩
      · exact (sti_n (by omega)).trans (hz c (by omega))
  · rintro ⟨kI, m⟩ ⟨rfl, hO, hz⟩
    refine ⟨m, ?_, hO, hz⟩
    show M_mostHeld_l2 _ _ = _
    unfold M_mostHeld_l2
    rw [if_pos (show nI 10 ≤ nI 10 by decide)]
  obtain ⟨m1, e1, o1, z1⟩ := k1
  have k2 := iter_inv (f := fun s : Int32 × Mm => M_mostHeld_l23 s.1 s.2) (fun n s => s.1 = nI n ∧ OutM (isO 23) ν s.2 ∧ ∀ c, c < 10 → s.2.1 23 c = nI (sumF (cuF V c) n)) (fun m => OutM (isO 23) ν m ∧ ∀ c, c < 10 → m.1 23 c = nI (cuN V c)) (V 0 0 0) ?_ ?_ 1000000 (nI 0, m1) ⟨rfl, o1, z1⟩ (by omega)
  rotate_left
  · rintro n ⟨nI', m⟩ hn ⟨rfl, hO, hz⟩
    have hO : OutM (isO 23) ν m := hO
    have hz : ∀ c, c < 10 → m.1 23 c = nI (sumF (cuF V c) n) := hz
    have hC := h.out23 hO
    have eP := hC.P
    have m3 := h3 n hn
    have k3 := iter_inv (f := fun s : Int32 × Mm => M_mostHeld_l33 (nI n) s.1 s.2) (fun i s => s.1 = nI i ∧ OutM (isO 23) ν s.2 ∧ ∀ c, c < 10 → s.2.1 23 c = nI (sumF (cuF V c) n + sumF (cuI V c n) i)) (fun m2 => OutM (isO 23) ν m2 ∧ ∀ c, c < 10 → m2.1 23 c = nI (sumF (cuF V c) (n + 1))) (V 6 n 0) ?_ ?_ 1000000 (nI 0, m) ⟨rfl, hO, hz⟩ (by omega)
    · obtain ⟨m2, f1, f2, f3⟩ := k3
      refine Or.inl ⟨(nI (n + 1), m2), ?_, rfl, f2, f3⟩
      show M_mostHeld_l23 _ _ = _
      unfold M_mostHeld_l23
      rw [eP, if_neg (nI_ge hn (by omega)), f1, bni_eq, nI_add]
    · rintro i ⟨iI, m2⟩ hi ⟨rfl, hO2, hz2⟩
      have hO2 : OutM (isO 23) ν m2 := hO2
      have hz2 : ∀ c, c < 10 → m2.1 23 c = nI (sumF (cuF V c) n + sumF (cuI V c n) i) := hz2
      have hC2 := h.out23 hO2
      obtain ⟨y1, y2, y3⟩ := hw.2.2.2.2.2.2.2.1 n i hn hi
      have y4 := (hw.2.2.2.2.2.2.2.2.1 _ y1).1
      have ec := hC2.hc hn
      have e7 := hC2.lv hn hi
      have ev := hC2.vc y1
      refine Or.inl ⟨(nI (i + 1), sti m2 23 (V 11 0 (V 7 n i)) (nI (sumF (cuF V (V 11 0 (V 7 n i))) n + sumF (cuI V (V 11 0 (V 7 n i)) n) i + 1))), ?_, rfl, hO2.sti rfl, fun c hc => ?_⟩
      · show M_mostHeld_l33 _ _ _ = _
        unfold M_mostHeld_l33 M_letterAt
        simp only [nI_add, nI_mulE, bnd_eq, Nat.add_zero]
        rw [chv_nI (by omega) (by decide), ix_nI (by omega), ec, if_neg (nI_ge hi (by omega)), chv_nI (by omega) (by decide), ix_nI (by omega), e7, nI_add, chv_nI (by omega) (by decide), ix_nI (by omega), ev, lt_eq, chv_nI (by omega) (by decide), chv_nI (by omega) (by decide), ix_nI (by omega), hz2 _ y4, nI_add, lt_eq]
      · show (sti _ _ _ _).1 23 c = _
        by_cases e : c = V 11 0 (V 7 n i)
        · rw [sti_e ⟨rfl, e⟩, e, sumF, show cuI V (V 11 0 (V 7 n i)) n i = 1 from if_pos rfl, Nat.add_assoc]
        · rw [sti_n (by omega), hz2 c hc, sumF, show cuI V c n i = 0 from if_neg (fun z => e z.symm)]
          rfl
    · rintro ⟨iI, m2⟩ ⟨rfl, hO2, hz2⟩
      have hC2 := h.out23 hO2
      have ec := hC2.hc hn
      refine ⟨m2, ?_, hO2, hz2⟩
      show M_mostHeld_l33 _ _ _ = _
      unfold M_mostHeld_l33
      simp only [nI_add]
      rw [chv_nI (by omega) (by decide), ix_nI (by omega), ec, if_pos (nI_le (Nat.le_refl _) (by omega))]
  · rintro ⟨nI', m⟩ ⟨rfl, hO, hz⟩
    have hC := h.out23 hO
    have eP := hC.P
    refine ⟨m, ?_, hO, hz⟩
    show M_mostHeld_l23 _ _ = _
    unfold M_mostHeld_l23
    rw [eP, if_pos (nI_le (Nat.le_refl _) (by omega))]
  obtain ⟨m2, e2, o2, z2⟩ := k2
  have b : ∀ c, (cmB V c).1 ≤ c ∧ (cmB V c).2 ≤ 48 := fun c => cmB_le (c := c) P16 h3
  have bn : ∀ c, cuN V c ≤ 48 := fun c => cuN_le (c := c) P16 h3
  have st : ∀ c, ((cmB V c).1 = 0 ∧ (cmB V c).2 = 0) ∨ (0 < (cmB V c).2 ∧ 0 < (cmB V c).1 ∧ cuN V ((cmB V c).1 - 1) = (cmB V c).2) := by
    intro c
    induction c with
    | zero => exact Or.inl ⟨rfl, rfl⟩
    | succ c ih =>
      unfold cmB
      split
      · rename_i hh
        exact Or.inr ⟨by show 0 < cuN V c; omega, by show 0 < c + 1; omega, rfl⟩
      · exact ih
  have k4 := iter_inv (f := fun s : Int32 × Int32 => M_mostHeld_l99 s.1 s.2 m2) (fun c s => s.2 = nI (c + 1) ∧ s.1 = nI ((cmB V (c + 1)).1 - 1) ∧ cuN V ((cmB V (c + 1)).1 - 1) = (cmB V (c + 1)).2) (fun x => x = nI ((cmB V 10).1 - 1) ∧ cuN V ((cmB V 10).1 - 1) = (cmB V 10).2) 9 ?_ ?_ 1000000 (nI 0, nI 1) ?_ (by decide)
  · obtain ⟨x, f1, rfl, f3⟩ := k4
    have b10 := b 10
    refine ⟨m2, ?_, o2⟩
    unfold M_mostHeld
    rw [e1, bni_eq, e2, bni_eq, f1, bni_eq, chv_nI (by omega) (by decide), ix_nI (by omega), z2 _ (by omega), f3]
    rcases st 10 with ⟨s1, s2⟩ | ⟨s1, s2, s3⟩
    · rw [s1, s2, if_pos (by decide)]
      rfl
    · rw [if_neg (nI_ne0 s1 (by omega)), nI_subE s2]
  · rintro c ⟨s1, s2⟩ hc ⟨rfl, rfl, hs⟩
    have bc := b (c + 1)
    have bnc := bn (c + 1)
    refine Or.inl ?_
    show ∃ s2, M_mostHeld_l99 _ _ _ = _ ∧ _
    unfold M_mostHeld_l99 M_mostHeld_j122
    rw [if_neg (nI_ge (by omega) (by decide)), chv_nI (by omega) (by decide), chv_nI (by omega) (by decide), ix_nI (by omega), ix_nI (by omega), z2 _ (by omega), z2 _ (by omega), hs, nI_add]
    by_cases e : (cmB V (c + 1)).2 < cuN V (c + 1)
    · have e1 : cmB V (c + 1 + 1) = (c + 1 + 1, cuN V (c + 1)) := if_pos e
      refine ⟨(nI (c + 1), nI (c + 1 + 1)), ?_, rfl, ?_, ?_⟩
      · rw [if_neg (nI_ge e (by omega))]
      · rw [e1]
        rfl
      · rw [e1]
        rfl
    · have e1 : cmB V (c + 1 + 1) = cmB V (c + 1) := if_neg e
      refine ⟨(nI ((cmB V (c + 1)).1 - 1), nI (c + 1 + 1)), ?_, rfl, ?_, ?_⟩
      · rw [if_pos (nI_le (by omega) (by omega))]
      · rw [e1]
      · rw [e1]
        exact hs
  · rintro ⟨s1, s2⟩ ⟨rfl, rfl, hs⟩
    refine ⟨_, ?_, rfl, hs⟩
    show M_mostHeld_l99 _ _ _ = _
    unfold M_mostHeld_l99
    rw [if_pos (show nI 10 ≤ nI (9 + 1) by decide)]
  · refine ⟨rfl, ?_, ?_⟩
    · show nI 0 = nI ((if 0 < cuN V 0 then (0 + 1, cuN V 0) else (0, 0)).1 - 1)
      split <;> rfl
    · show cuN V ((if 0 < cuN V 0 then (0 + 1, cuN V 0) else (0, 0)).1 - 1) = (if 0 < cuN V 0 then (0 + 1, cuN V 0) else (0, 0)).2
      split
      · rfl
      · show cuN V 0 = 0
        omega
def lastsR (V : VS) (T : TT) (v : Int32) : Int32 := if inI v (nI 0) (nI 99) = true then nI (cmB (itn (ix v) (dayV T) (thV V)) 10).1 - nI 1 else -1
theorem c_lasts {μ : Mm} {V : VS} {T : TT} (h : HC μ 1 V) (hw : WF 9999 V) (hT : TC μ 166 T) (hB : TB T) (v : Int32) : ∃ μ2, Nine_lasts v μ = some (lastsR V T v, μ2) ∧ Out (EW 366 166) μ μ2 := by
  unfold Nine_lasts lastsR
  by_cases c1 : inI v (nI 0) (nI 99) = true
  · obtain ⟨n, hn, rfl⟩ := inI_some c1 (by decide)
    obtain ⟨μ2, g1, g2, g3⟩ := c_ahead h hw hT hB hn
    have hwn := (itn_day (T := T) hw.thV hB n).1
    refine ⟨μ2, ?_, g3⟩
    rw [g1, bnd2_eq, if_neg (by decide), c_common g2 hwn, bnd_eq, if_pos c1, ix_nI (by omega)]
  · have c1' : inI v (nI 0) (nI 99) = false := by simpa using c1
    refine ⟨μ, ?_, Out.rf⟩
    rw [c_aheadN c1', bnd2_eq, if_pos (by decide), if_neg c1]
theorem m_lasts {ν : Mm} {V : VS} {T : TT} (h : HM ν 0 V) (hw : WF 9999 V) (hT : TM ν T) (hB : TB T) (v : Int32) : ∃ ν2, M_lasts v ν = some (lastsR V T v, ν2) ∧ OutM EQ ν ν2 := by
  have h' := h.told (nI 0)
  have hT' := hT.told (nI 0)
  have hO : OutM EQ ν (sti ν 0 0 (nI 0)) := OutM.rf.sti (Or.inr ⟨rfl, rfl⟩)
  unfold M_lasts lastsR
  rw [lt_eq, m_isIn, bnd_eq]
  by_cases c1 : inI v (nI 0) (nI 99) = true
  · obtain ⟨n, hn, rfl⟩ := inI_some c1 (by decide)
    obtain ⟨ν2, g1, g2, g3⟩ := m_ahead (f := fun s : Int32 × Mm => M_lasts_l24 (nI n) s.1 s.2) h' hw hT' hB hn (fun k m hk => by show M_lasts_l24 _ _ _ = _; unfold M_lasts_l24; rw [if_neg (nI_ge hk (by omega))]) (fun m => by show M_lasts_l24 _ _ _ = _; unfold M_lasts_l24; rw [if_pos (nI_le (Nat.le_refl _) (by omega))])
    have hwn := (itn_day (T := T) hw.thV hB n).1
    obtain ⟨ν3, f1, f2⟩ := m_most g2 hwn
    have hb := m_back h' (g3.tr (f2.mono (fun o k e => Or.inr (Or.inr (Or.inr e)))))
    refine ⟨_, ?_, hO.tr (hb.mono (fun o k e => Or.inl e))⟩
    rw [if_pos c1, if_neg (by decide), m_thinksE, bnd_eq, show sti (bcM (sti ν 0 0 (nI 0)) 3 0 1 0 712) 0 5 (nI 1) = thM (sti ν 0 0 (nI 0)) from rfl, g1, bni_eq, f1, bnd2_eq, m_endsE, bnd_eq, if_pos c1, ix_nI (by omega)]
  · refine ⟨_, ?_, hO⟩
    rw [if_neg c1, if_pos (by decide), if_neg c1]
