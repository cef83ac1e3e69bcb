/-! THE CHECK: the post comes -/
def isB (th o : Nat) (_ : Nat) : Prop := o = 1 ∨ (o = 10 ∧ th = 0)
theorem HM.b200 {ν : Mm} {V : VS} (h : HM ν 0 V) : V 0 0 3 ≤ 200 := by
  by_cases hh : 200 < V 0 0 3
  · have := (h.1 23 0 200 ⟨Or.inr (Or.inr (Or.inr (Or.inr (Or.inr (Or.inr (Or.inr (Or.inr ⟨by omega, by omega, rfl, hh⟩))))))), fun z => absurd z (by decide)⟩).1
    unfold Jvm.Pilot.CNineCopiesLaw_law_r8239_772bdc.pot at this
    omega
  · omega
theorem m_notes {ν : Mm} {th : Nat} {V : VS} (h : HM ν th V) (v f t x : Nat) : ∃ ν2, M_notes (nI v) (nI f) (nI t) (nI x) ν = some ν2 ∧ HM ν2 th (bookV V v f t x) ∧ OutM (isB th) ν ν2 := by
  have e5 := h.thf
  have hth : th = 0 ∨ th = 1 := h.2.2.2.elim (fun z => Or.inl z.1) (fun z => Or.inr z.1)
  unfold M_notes
  rcases hth with rfl | rfl
  · have e2 := h.bn
    have e0 := h.dy
    have b := h.b200
    by_cases h3 : V 0 0 3 < 200
    · have n3 : ¬ V 0 0 3 = 200 := by omega
      have pp : ∀ c, 23 ≤ c → c ≤ 27 → pot c 0 (V 0 0 3) := fun c c1 c2 => Or.inr (Or.inr (Or.inr (Or.inr (Or.inr (Or.inr (Or.inr (Or.inr ⟨c1, c2, rfl, h3⟩)))))))
      have a1 := h.1.put 23 0 (V 0 0 3) (V 0 0 4) (o := 10) (k := 5 * V 0 0 3) (v := nI (V 0 0 4)) (pp 23 (by decide) (by decide)) rfl rfl rfl (by unfold own3; omega)
      have a2 := a1.put 24 0 (V 0 0 3) v (o := 10) (k := 5 * V 0 0 3 + 1) (v := nI v) (pp 24 (by decide) (by decide)) rfl rfl rfl (by unfold own3; omega)
      have a3 := a2.put 25 0 (V 0 0 3) f (o := 10) (k := 5 * V 0 0 3 + 2) (v := nI f) (pp 25 (by decide) (by decide)) rfl rfl rfl (by unfold own3; omega)
      have a4 := a3.put 26 0 (V 0 0 3) t (o := 10) (k := 5 * V 0 0 3 + 3) (v := nI t) (pp 26 (by decide) (by decide)) rfl rfl rfl (by unfold own3; omega)
      have a5 := a4.put 27 0 (V 0 0 3) x (o := 10) (k := 5 * V 0 0 3 + 4) (v := nI x) (pp 27 (by decide) (by decide)) rfl rfl rfl (by unfold own3; omega)
      have a6 := a5.put 0 0 3 (V 0 0 3 + 1) (o := 1) (k := 2) (v := nI (V 0 0 3 + 1)) (Or.inl ⟨rfl, rfl, by decide⟩) rfl rfl rfl (by unfold own3; omega)
      have eg : bookV V v f t x = vset (vset (vset (vset (vset (vset V 23 0 (V 0 0 3) (V 0 0 4)) 24 0 (V 0 0 3) v) 25 0 (V 0 0 3) f) 26 0 (V 0 0 3) t) 27 0 (V 0 0 3) x) 0 0 3 (V 0 0 3 + 1) := if_pos h3
      rw [← eg] at a6
      have hO : ∀ b1 b2 b3 b4 b5 b6 b7 b8 b9 b10 b11 b12, OutM (isB 0) ν (sti (sti (sti (sti (sti (sti ν 10 b1 b2) 10 b3 b4) 10 b5 b6) 10 b7 b8) 10 b9 b10) 1 b11 b12) := fun b1 b2 b3 b4 b5 b6 b7 b8 b9 b10 b11 b12 => ((((((OutM.rf (E := isB 0)).sti (Or.inr ⟨rfl, rfl⟩)).sti (Or.inr ⟨rfl, rfl⟩)).sti (Or.inr ⟨rfl, rfl⟩)).sti (Or.inr ⟨rfl, rfl⟩)).sti (Or.inr ⟨rfl, rfl⟩)).sti (Or.inl rfl)
      simp only [e5, nI_0, if_true, nI_mulE, e2, e0]
      rw [chv_nI (by decide) (by decide), ix_nI (by decide), e2, if_neg (fun z => n3 ((nI_eq (by omega) (by decide)).1 z)), chv_nI (by decide) (by decide)]
      simp only [nI_add, nI_mulE]
      simp (disch := omega) only [lt_eq, bnd_eq, bni_eq, bnd2_eq, nI_ltE, nI_leE, nI_eqE, eq_0, lt_0E, le_0, z_lt, z_le, eq_m1, m1_eq, nI_add, nI_mulE, ix_nI, ix_0, chv_nI, chk_ok, chk_T, sti_e, sti_n, sti_2, stl_1, stl_e, stl_n, if_true, if_false, not_true_eq_false, not_false_eq_true, eq_self, Bool.false_eq_true, Bool.true_eq_false, e0, e2]
      refine ⟨_, rfl, h.of (a6.mono (fun c q k hl => ?_) (fun _ _ _ _ _ => rfl)) (bookV_o (by omega) (by omega)) (fun p => bookV_o (by omega) (by omega)) (bookV_o (by omega) (by omega)) (hO _ _ _ _ _ _ _ _ _ _ _ _ 0 10 (by unfold isB; omega)) (hO _ _ _ _ _ _ _ _ _ _ _ _ 0 5 (by unfold isB; omega)) (hO _ _ _ _ _ _ _ _ _ _ _ _ 0 15 (by unfold isB; omega)), hO _ _ _ _ _ _ _ _ _ _ _ _⟩
      rcases live_book h3 hl.1 with x | x | x | x | x | x | x
      · exact Or.inl x
      · exact Or.inr (Or.inl x)
      · exact Or.inr (Or.inr (Or.inl x))
      · exact Or.inr (Or.inr (Or.inr (Or.inl x)))
      · exact Or.inr (Or.inr (Or.inr (Or.inr (Or.inl x))))
      · exact Or.inr (Or.inr (Or.inr (Or.inr (Or.inr (Or.inl x)))))
      · exact Or.inr (Or.inr (Or.inr (Or.inr (Or.inr (Or.inr ⟨x, hl.2⟩)))))
    · refine ⟨ν, ?_, ?_, OutM.rf⟩
      · rw [e5, if_pos (by decide), chv_nI (by decide) (by decide), ix_nI (by decide), e2, if_pos (by rw [show V 0 0 3 = 200 by omega])]
      · unfold bookV
        rw [if_neg h3]
        exact h
  · refine ⟨ν, ?_, ?_, OutM.rf⟩
    · rw [e5, if_neg (by decide)]
    · refine h.of (h.1.mono (fun c q k hl => ?_) (fun c q k hl ho => ?_)) (bookV_o (by omega) (by omega)) (fun p => bookV_o (by omega) (by omega)) (bookV_o (by omega) (by omega)) rfl rfl rfl
      · have n := hl.2 rfl
        refine ⟨?_, hl.2⟩
        rcases live_diff hl.1 (bookV_o (by omega) (by omega)) with z | z | z | z | z | z
        · exact z
        · rw [bookV_o (by omega) (by omega)] at z
          omega
        · rw [bookV_o (by omega) (by omega)] at z
          omega
        · rw [bookV_o (by omega) (by omega)] at z
          omega
        · rw [bookV_o (by omega) (by omega)] at z
          omega
        · omega
      · have n := hl.2 rfl
        exact bookV_o (by omega) (by omega)
theorem m_comes {ν : Mm} {th : Nat} {V : VS} {v f t : Nat} (h : HM ν th V) (hw : W5 V) (ht : t < V 0 0 0) (hv : v < V 0 0 1) : ∃ ν2, M_comesTo (nI v) (nI f) (nI t) ν = some (nI (rcvV V v f t).2, ν2) ∧ HM ν2 th (rcvV V v f t).1 ∧ OutM (isO 1) ν ν2 := by
  have t16 : t < 16 := Nat.lt_of_lt_of_le ht h.P16
  have ek := h.kind ht
  have es := h.sn ht
  have eh := h.hc ht
  have el := h.lo
  have w5 := hw t ht
  unfold M_comesTo rcvV
  simp only [nI_add]
  rw [chv_nI t16 (by decide), ix_nI (by omega), ek]
  by_cases c1 : V 1 t 1 = 1
  · refine ⟨ν, ?_, ?_, OutM.rf⟩
    · rw [if_pos (by rw [c1]), if_pos c1]
    · rw [if_pos c1]
      exact h
  · rw [if_neg (fun z => c1 ((nI_eq (by omega) (by decide)).1 z)), chv_nI (by omega) (by decide), ix_nI (by omega), es, if_neg c1]
    by_cases c2 : hb (nI (V 5 t 0)) f = true
    · have c2' : (nI (V 5 t 0) >>> (nI f &&& 31)) &&& nI 1 = nI 1 := of_decide_eq_true c2
      refine ⟨ν, ?_, ?_, OutM.rf⟩
      · rw [if_pos c2', if_pos c2]
      · rw [if_pos c2]
        exact h
    · have c2' : ¬ (nI (V 5 t 0) >>> (nI f &&& 31)) &&& nI 1 = nI 1 := fun z => c2 (decide_eq_true z)
      rw [if_neg c2', if_neg c2, chv_nI (by omega) (by decide), ix_nI (by omega), eh]
      by_cases c3 : V 6 t 0 = 3
      · have a1 := h.put1 0 0 7 (V 0 0 7 + 1) (o := 1) (k := 5) (v := nI (V 0 0 7 + 1)) (live_0 (by decide)) rfl rfl rfl (by unfold own3; omega) (by omega)
        rw [if_pos (by rw [c3]), chv_nI (by decide) (by decide), chv_nI (by decide) (by decide), ix_nI (by decide), el, if_pos c3, nI_add]
        exact ⟨_, rfl, a1, OutM.rf.sti rfl⟩
      · obtain ⟨ν1, g1, g2, g3⟩ := m_holds (f := f + 1) (fI := nI f) h ht (by omega) hv (by rw [nI_add])
        rw [if_neg (fun z => c3 ((nI_eq (by omega) (by decide)).1 z)), if_neg c3, g1, bnd_eq]
        exact ⟨_, rfl, g2, g3⟩
theorem pM_way {c q k s : Nat} (h : pot c q k) (h1 : own3 c k) (h0 : mo c k = 1) (h2 : 472 + 4 * s ≤ pM c q k) (h3 : pM c q k < 472 + 4 * s + 4) : (15 ≤ c ∧ c ≤ 18) ∧ q = 0 ∧ k = s := by
  revert h1 h0 h2 h3
  refine pot_cases (Z := fun c q k => own3 c k → mo c k = 1 → 472 + 4 * s ≤ pM c q k → pM c q k < 472 + 4 * s + 4 → (15 ≤ c ∧ c ≤ 18) ∧ q = 0 ∧ k = s) h ?h0 ?h01 ?h02 ?h03 ?h04 ?h05 ?h06 ?h07 ?h08 ?h09 ?h10 ?h11 ?h12 ?h13 ?h14 ?h15 ?h2 ?h3 ?h4 ?h5 ?h6 ?h7 ?h8 ?h9 ?hX ?hv11 ?hv12 ?hv13 ?hv14 ?hw15 ?hw16 ?hw17 ?hw18 ?hr ?h21 ?h22 ?hb23 ?hb24 ?hb25 ?hb26 ?hb27
  case h15 => exact fun p _ h1 => absurd ⟨rfl, rfl⟩ h1.1
  case h09 => exact fun h1 => absurd ⟨rfl, rfl⟩ h1.2.2
  case h10 => exact fun p _ _ h0 => absurd h0 (by decide)
  case h11 => exact fun p _ _ h0 => absurd h0 (by decide)
  case h12 => exact fun p _ _ h0 => absurd h0 (by decide)
  case h2 => exact fun p i _ _ _ h0 => absurd h0 (by show ¬ 8 = 1; decide)
  case h3 => exact fun p _ _ h0 => absurd h0 (by decide)
  case hr => exact fun p _ _ h0 => absurd h0 (by show ¬ 0 = 1; decide)
  case hb23 => exact fun p _ _ h0 => absurd h0 (by show ¬ 10 = 1; decide)
  case hb24 => exact fun p _ _ h0 => absurd h0 (by show ¬ 10 = 1; decide)
  case hb25 => exact fun p _ _ h0 => absurd h0 (by show ¬ 10 = 1; decide)
  case hb26 => exact fun p _ _ h0 => absurd h0 (by show ¬ 10 = 1; decide)
  case hb27 => exact fun p _ _ h0 => absurd h0 (by show ¬ 10 = 1; decide)
  all_goals (intros; rename_i h2 h3; simp only [pM, Nat.reduceEqDiff, if_true, if_false] at h2 h3; omega)
/-- w words of the k-th on the way stand at the s-th -/
def wmG (ν : Mm) (s k w : Nat) : Mm := (fun o x => if o = 1 ∧ 472 + 4 * s ≤ x ∧ x < 472 + 4 * s + w then ν.1 1 (x - (472 + 4 * s) + (472 + 4 * k)) else ν.1 o x, ν.2)
theorem wmG_s (ν : Mm) {s k w : Nat} : sti (wmG ν s k w) 1 (472 + 4 * s + w) (ν.1 1 (472 + 4 * k + w)) = wmG ν s k (w + 1) := by
  refine Prod.ext ?_ rfl
  funext o x
  show (if _ then _ else if _ then _ else _) = if _ then _ else _
  by_cases e : o = 1 ∧ x = 472 + 4 * s + w
  · obtain ⟨rfl, rfl⟩ := e
    rw [if_pos ⟨rfl, rfl⟩, if_pos ⟨rfl, by omega, by omega⟩, show 472 + 4 * s + w - (472 + 4 * s) + (472 + 4 * k) = 472 + 4 * k + w by omega]
  · rw [if_neg e]
    by_cases e2 : o = 1 ∧ 472 + 4 * s ≤ x ∧ x < 472 + 4 * s + w
    · rw [if_pos e2, if_pos (by omega)]
    · rw [if_neg e2, if_neg (by omega)]
theorem m_wmv {ν : Mm} {th : Nat} {V : VS} {s k : Nat} (a b : Int32) (h : HM ν th V) (hk : k < V 0 0 2) (hs : s ≤ k) : ∃ ν2, iter 1000000 (fun x : Int32 × Mm => M_arrives_l48 a (nI s) b (nI (472 + 4 * k)) x.1 x.2) (nI 0, ν) = some ν2 ∧ HM ν2 th (wmvV V s k) ∧ OutM (isO 1) ν ν2 := by
  have w60 := h.w60
  have hO : OutM (isO 1) ν (wmG ν s k 4) := fun o x z => if_neg (fun y => z y.1)
  refine ⟨wmG ν s k 4, ?_, ?_, hO⟩
  · have e0 : wmG ν s k 0 = ν := by
      refine Prod.ext ?_ rfl
      funext o x
      exact if_neg (by omega)
    have key := iter_traj (f := fun x : Int32 × Mm => M_arrives_l48 a (nI s) b (nI (472 + 4 * k)) x.1 x.2) (fun w => (nI w, wmG ν s k w)) (y := wmG ν s k 4) 4 1000000 ?_ ?_ (by decide)
    · rw [e0] at key
      exact key
    · intro w hw
      show M_arrives_l48 _ _ _ _ _ _ = _
      unfold M_arrives_l48
      have hr : (wmG ν s k w).1 1 (472 + 4 * k + w) = ν.1 1 (472 + 4 * k + w) := by
        by_cases e : s = k
        · exact if_neg (by omega)
        · exact if_neg (by omega)
      simp only [nI_add, nI_mulE]
      rw [if_neg (nI_ge hw (by decide)), chv_nI (by omega) (by decide), chv_nI (by omega) (by decide), ix_nI (by omega), ix_nI (by omega), hr, wmG_s, lt_eq]
    · show M_arrives_l48 _ _ _ _ _ _ = _
      unfold M_arrives_l48
      rw [if_pos (show nI 4 ≤ nI 4 by decide)]
  · refine h.of ?_ (wmvV_o (by omega)) (fun q => wmvV_o (by omega)) (wmvV_o (by omega)) (hO _ _ (by unfold isO; omega)) (hO _ _ (by unfold isO; omega)) (hO _ _ (by unfold isO; omega))
    intro c q j hl
    have hl2 : live V c q j := live_same hl.1 (wmvV_o (by omega)) (wmvV_o (by omega)) (wmvV_o (by omega)) (wmvV_o (by omega)) (wmvV_o (by omega)) (wmvV_o (by omega))
    obtain ⟨hpo, hv⟩ := h.1 c q j ⟨hl2, hl.2⟩
    refine ⟨hpo, fun ho => ?_⟩
    have hv := hv ho
    by_cases hc : (15 ≤ c ∧ c ≤ 18) ∧ q = 0 ∧ j = s
    · obtain ⟨hc, rfl, rfl⟩ := hc
      have hv3 := (h.1 c 0 k ⟨way_live hc hk, fun _ => ⟨by omega, by omega⟩⟩).2 (by unfold own3; omega)
      have : c = 15 ∨ c = 16 ∨ c = 17 ∨ c = 18 := by omega
      unfold wmvV
      rw [if_pos ⟨hc, rfl, rfl⟩]
      rcases this with rfl | rfl | rfl | rfl
      · show (if _ then _ else _) = _
        rw [if_pos ⟨rfl, by simp only [pM]; omega, by simp only [pM]; omega⟩, show pM 15 0 j - (472 + 4 * j) + (472 + 4 * k) = pM 15 0 k by simp only [pM]; omega]
        exact hv3
      · show (if _ then _ else _) = _
        rw [if_pos ⟨rfl, by simp only [pM]; omega, by simp only [pM]; omega⟩, show pM 16 0 j - (472 + 4 * j) + (472 + 4 * k) = pM 16 0 k by simp only [pM]; omega]
        exact hv3
      · show (if _ then _ else _) = _
        rw [if_pos ⟨rfl, by simp only [pM]; omega, by simp only [pM]; omega⟩, show pM 17 0 j - (472 + 4 * j) + (472 + 4 * k) = pM 17 0 k by simp only [pM]; omega]
        exact hv3
      · show (if _ then _ else _) = _
        rw [if_pos ⟨rfl, by simp only [pM]; omega, by simp only [pM]; omega⟩, show pM 18 0 j - (472 + 4 * j) + (472 + 4 * k) = pM 18 0 k by simp only [pM]; omega]
        exact hv3
    · have e1 : wmvV V s k c q j = V c q j := if_neg hc
      rw [e1, ← hv]
      by_cases h1 : mo c j = 1
      · have n1 : ¬ (472 + 4 * s ≤ pM c q j ∧ pM c q j < 472 + 4 * s + 4) := fun z => hc (pM_way hpo ho h1 z.1 z.2)
        exact if_neg (by omega)
      · exact hO _ _ h1
