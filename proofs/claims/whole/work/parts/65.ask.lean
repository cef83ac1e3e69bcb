/-! PLAIN QUESTIONS: a version, one on the way, the book, the post -/
theorem some_ite {α : Type} {c : Prop} [Decidable c] {a b : α} : some (if c then a else b) = if c then some a else some b := by split <;> rfl
theorem pair_ite {α β : Type} {c : Prop} [Decidable c] {a b : α} {m : β} : some ((if c then a else b), m) = if c then some (a, m) else some (b, m) := by split <;> rfl
theorem z_eq {v : Int32} : (v = (0 : Int32)) = (v = nI 0) := rfl
def kindR (V : VS) (v k : Int32) : Int32 :=
  if bnI (V 0 0 1) v = true then
    (if k = nI 0 then nI (V 11 0 (ix v)) else if k = nI 1 then nI (V 12 0 (ix v)) else if k = nI 2 then nI (V 13 0 (ix v)) - nI 1 else if k = nI 3 then nI (V 14 0 (ix v)) - nI 1
    else if k = nI 4 then nI (sumF (chG V (ix v)) (V 0 0 1)) else if k = nI 5 then nI (ltN V (ix v)) else if k = nI 6 then (if anyB (didV V (ix v)) (V 0 0 0) = true then nI 1 else nI 0) else -2)
  else -2
theorem c_kind {μ : Mm} {V : VS} {d : Nat} (h : HC μ 1 V) (hw : WF d V) (v k : Int32) : Nine_kind v k μ = some (kindR V v k) := by
  have v40 := h.v40
  have hh : Versions_has 3 v μ = _ := c_hasV h v
  unfold Nine_kind kindR
  rw [hh, bnd_eq]
  by_cases c1 : bnI (V 0 0 1) v = true
  · obtain ⟨j, hj, rfl⟩ := bnI_some (by omega) c1
    have e0 : μ.1 4 j = nI (V 11 0 j) := h.vc hj
    have e1 : μ.1 5 j = nI (V 12 0 j) := h.vm hj
    have e2 : μ.1 6 j = nI (V 13 0 j) - nI 1 := h.vp hj
    have e3 : μ.1 7 j = nI (V 14 0 j) - nI 1 := h.vw hj
    have e4 : Versions_countChildren 3 (nI j) μ = _ := c_child h hw.2.2.2.2.2.2.2.2.1 hj
    have e5 : World_countLettersOf 1 (nI j) μ = _ := c_letN h hw (by omega)
    have e6 : World_isKnown 1 (nI j) μ = _ := c_known h hw.2.2.2.2.2.1 (by omega)
    rw [if_pos c1, if_neg (by decide), if_pos c1, ix_nI (by omega), e0, e1, e2, e3, e4, e5, e6]
    simp only [chv_nI (show j < 40 by omega) (by decide), bnd_eq, some_ite]
    by_cases c : anyB (didV V j) (V 0 0 0) = true
    · simp only [if_pos c, bnd_eq, if_neg (show ¬ nI 1 = (0 : Int32) by decide)]
    · simp only [if_neg c, bnd_eq, if_pos (show nI 0 = (0 : Int32) from rfl)]
  · rw [if_neg c1, if_pos (by decide), if_neg c1]
theorem m_kind {ν : Mm} {V : VS} {d : Nat} (h : HM ν 0 V) (hw : WF d V) (v k : Int32) : M_kind v k ν = some (kindR V v k, sti ν 0 0 (nI 0)) := by
  have h' := h.told (nI 0)
  have v40 := h.v40
  unfold M_kind kindR
  rw [lt_eq, m_hasV h' v, bnd_eq]
  by_cases c1 : bnI (V 0 0 1) v = true
  · obtain ⟨j, hj, rfl⟩ := bnI_some (by omega) c1
    have e0 := h'.vc hj
    have e1 := h'.vm hj
    have e2 := h'.vp hj
    have e3 := h'.vw hj
    have e4 := m_child h' hw.2.2.2.2.2.2.2.2.1 hj
    have e5 := m_letN h' hw (v := j) (by omega)
    have e6 := m_known h' hw.2.2.2.2.2.1 (v := j) (by omega)
    rw [if_pos c1, if_neg (by decide), if_pos c1, ix_nI (by omega), e4, e5, e6]
    simp only [nI_add]
    rw [chv_nI (by omega) (by decide), chv_nI (by omega) (by decide), chv_nI (by omega) (by decide), chv_nI (by omega) (by decide), ix_nI (by omega), ix_nI (by omega), ix_nI (by omega), ix_nI (by omega), e0, e1, e2, e3]
    simp only [bnd_eq, pair_ite, z_eq]
    by_cases c : anyB (didV V j) (V 0 0 0) = true
    · simp only [if_pos c, if_neg (show ¬ nI 1 = nI 0 by decide)]
    · simp only [if_neg c, if_true]
  · rw [if_neg c1, if_pos (by decide), if_neg c1]
/-! on the way -/
theorem c_hasL {μ : Mm} {o n : Nat} (h : μ.1 o 5 = nI n) (hn : n < 2 ^ 31) (v : Int32) : Letters_has o v μ = some (if bnI n v = true then nI 1 else nI 0) := by
  unfold Letters_has
  rw [h]
  exact bnI_if hn v
def onwR (V : VS) (v k : Int32) : Int32 :=
  if bnI (V 0 0 2) v = true then
    (if k = nI 0 then nI (V 15 0 (ix v)) else if k = nI 1 then nI (V 16 0 (ix v)) else if k = nI 2 then nI (V 17 0 (ix v)) else if k = nI 3 then nI (V 18 0 (ix v)) else -1)
  else -1
theorem c_onway {μ : Mm} {V : VS} (h : HC μ 1 V) (v k : Int32) : Nine_onWay v k μ = some (onwR V v k) := by
  have w60 := h.w60
  have eN : μ.1 8 5 = nI (V 0 0 2) := h.wn
  unfold Nine_onWay onwR
  rw [c_hasL eN (by omega), bnd_eq]
  by_cases c1 : bnI (V 0 0 2) v = true
  · obtain ⟨j, hj, rfl⟩ := bnI_some (by omega) c1
    have e0 : μ.1 9 j = nI (V 15 0 j) := h.wv hj
    have e1 : μ.1 10 j = nI (V 16 0 j) := h.wf hj
    have e2 : μ.1 11 j = nI (V 17 0 j) := h.wt hj
    have e3 : μ.1 12 j = nI (V 18 0 j) := h.wd hj
    have hl := len_way h.2.1
    have l0 : sL SC 9 = 60 := hl.1
    have l1 : sL SC 10 = 60 := hl.2.1
    have l2 : sL SC 11 = 60 := hl.2.2.1
    have l3 : sL SC 12 = 60 := hl.2.2.2.1
    rw [if_pos c1, if_neg (by decide), if_pos c1, ix_nI (by omega), e0, e1, e2, e3, l0, l1, l2, l3]
    simp only [chv_nI (show j < 60 by omega) (by decide), some_ite]
  · rw [if_neg c1, if_pos (by decide), if_neg c1]
theorem in4 {k : Int32} : inI k (nI 0) (nI 3) = true ↔ k = nI 0 ∨ k = nI 1 ∨ k = nI 2 ∨ k = nI 3 := by
  constructor
  · intro z
    obtain ⟨j, hj, rfl⟩ := inI_some z (by decide)
    have : j = 0 ∨ j = 1 ∨ j = 2 ∨ j = 3 := by omega
    rcases this with rfl | rfl | rfl | rfl
    · exact Or.inl rfl
    · exact Or.inr (Or.inl rfl)
    · exact Or.inr (Or.inr (Or.inl rfl))
    · exact Or.inr (Or.inr (Or.inr rfl))
  · rintro (rfl | rfl | rfl | rfl) <;> decide
theorem m_onway {ν : Mm} {V : VS} (h : HM ν 0 V) (v k : Int32) : M_onWay v k ν = some (onwR V v k, sti ν 0 0 (nI 0)) := by
  have h' := h.told (nI 0)
  have w60 := h.w60
  have eN := h'.wn
  unfold M_onWay onwR
  rw [lt_eq, chv_nI (by decide) (by decide), ix_nI (by decide), eN, m_isIn, bnd_eq]
  by_cases c1 : bnI (V 0 0 2) v = true
  · obtain ⟨j, hj, rfl⟩ := bnI_some (by omega) c1
    have e0 := h'.wv hj
    have e1 := h'.wf hj
    have e2 := h'.wt hj
    have e3 := h'.wd hj
    rw [if_pos (show inI (nI j) (nI 0) (nI (V 0 0 2) - nI 1) = true from c1), if_neg (by decide), if_pos c1, ix_nI (by omega), m_isIn, bnd_eq]
    by_cases c2 : inI k (nI 0) (nI 3) = true
    · rw [if_pos c2, if_neg (by decide)]
      rcases in4.1 c2 with rfl | rfl | rfl | rfl
      · simp only [nI_add, nI_mulE, Nat.add_zero]
        rw [chv_nI (by omega) (by decide), ix_nI (by omega), e0, if_pos trivial]
      · simp only [nI_add, nI_mulE]
        rw [chv_nI (by omega) (by decide), ix_nI (by omega), e1, if_neg (by decide), if_pos trivial]
      · simp only [nI_add, nI_mulE]
        rw [chv_nI (by omega) (by decide), ix_nI (by omega), e2, if_neg (by decide), if_neg (by decide), if_pos trivial]
      · simp only [nI_add, nI_mulE]
        rw [chv_nI (by omega) (by decide), ix_nI (by omega), e3, if_neg (by decide), if_neg (by decide), if_neg (by decide), if_pos trivial]
    · have c3 := fun z => c2 (in4.2 z)
      rw [if_neg c2, if_pos (by decide), if_neg (fun z => c3 (Or.inl z)), if_neg (fun z => c3 (Or.inr (Or.inl z))), if_neg (fun z => c3 (Or.inr (Or.inr (Or.inl z)))), if_neg (fun z => c3 (Or.inr (Or.inr (Or.inr z))))]
  · rw [if_neg (show ¬ inI v (nI 0) (nI (V 0 0 2) - nI 1) = true from c1), if_pos (by decide), if_neg c1]
/-! the book -/
def bookR (V : VS) (v k : Int32) : Int32 :=
  if bnI (V 0 0 3) v = true then
    (if k = nI 0 then nI (V 23 0 (ix v)) else if k = nI 1 then nI (V 24 0 (ix v)) else if k = nI 2 then nI (V 25 0 (ix v)) else if k = nI 3 then nI (V 26 0 (ix v)) else if k = nI 4 then nI (V 27 0 (ix v)) else -2)
  else -2
theorem c_bookQ {μ : Mm} {V : VS} (h : HC μ 1 V) (v k : Int32) : Nine_book v k μ = some (bookR V v k) := by
  have b200 := h.b200
  have eN : μ.1 14 5 = nI (V 0 0 3) := h.bn
  unfold Nine_book bookR
  rw [eN]
  by_cases c1 : bnI (V 0 0 3) v = true
  · obtain ⟨j, hj, rfl⟩ := bnI_some (by omega) c1
    have e0 : μ.1 15 j = nI (V 23 0 j) := h.b0 hj
    have e1 : μ.1 16 j = nI (V 24 0 j) := h.b1 hj
    have e2 : μ.1 17 j = nI (V 25 0 j) := h.b2 hj
    have e3 : μ.1 18 j = nI (V 26 0 j) := h.b3 hj
    have e4 : μ.1 19 j = nI (V 27 0 j) := h.b4 hj
    rw [if_neg (show ¬ nI j < 0 from (show ¬ nI j < nI 0 from nI_nlt (Nat.zero_le _) (by omega))), if_pos (nI_lt hj (by omega)), if_pos c1, ix_nI (by omega), e0, e1, e2, e3, e4]
    simp only [chv_nI (show j < 200 by omega) (by decide), some_ite]
  · rw [if_neg c1]
    by_cases e1 : v < 0
    · rw [if_pos e1]
    · obtain ⟨j, hj, rfl⟩ := nI_ofN e1
      rw [if_neg e1, if_neg (fun z => c1 (bnI_is (by omega) ((nI_ltI hj (by omega)).1 z)))]
theorem in5 {k : Int32} : inI k (nI 0) (nI 4) = true ↔ k = nI 0 ∨ k = nI 1 ∨ k = nI 2 ∨ k = nI 3 ∨ k = nI 4 := by
  constructor
  · intro z
    obtain ⟨j, hj, rfl⟩ := inI_some z (by decide)
    have : j = 0 ∨ j = 1 ∨ j = 2 ∨ j = 3 ∨ j = 4 := by omega
    rcases this with rfl | rfl | rfl | rfl | rfl
    · exact Or.inl rfl
    · exact Or.inr (Or.inl rfl)
    · exact Or.inr (Or.inr (Or.inl rfl))
    · exact Or.inr (Or.inr (Or.inr (Or.inl rfl)))
    · exact Or.inr (Or.inr (Or.inr (Or.inr rfl)))
  · rintro (rfl | rfl | rfl | rfl | rfl) <;> decide
theorem HM.bk {ν : Mm} {V : VS} {c i : Nat} (h : HM ν 0 V) (hc : 23 ≤ c ∧ c ≤ 27) (hi : i < V 0 0 3) : ν.1 10 (5 * i + (c - 23)) = nI (V c 0 i) := by
  have e := (h.1 c 0 i ⟨live_b hc hi, fun z => absurd z (by decide)⟩).2 (by unfold own3; omega)
  have : c = 23 ∨ c = 24 ∨ c = 25 ∨ c = 26 ∨ c = 27 := by omega
  rcases this with rfl | rfl | rfl | rfl | rfl <;> exact e
theorem m_bookQ {ν : Mm} {V : VS} (h : HM ν 0 V) (hb : V 0 0 3 ≤ 200) (v k : Int32) : M_book v k ν = some (bookR V v k, sti ν 0 0 (nI 0)) := by
  have h' := h.told (nI 0)
  have eN := h'.bn
  unfold M_book bookR
  rw [lt_eq, chv_nI (by decide) (by decide), ix_nI (by decide), eN, m_isIn, bnd_eq]
  by_cases c1 : bnI (V 0 0 3) v = true
  · obtain ⟨j, hj, rfl⟩ := bnI_some (by omega) c1
    have e0 := h'.bk (c := 23) (by decide) hj
    have e1 := h'.bk (c := 24) (by decide) hj
    have e2 := h'.bk (c := 25) (by decide) hj
    have e3 := h'.bk (c := 26) (by decide) hj
    have e4 := h'.bk (c := 27) (by decide) hj
    rw [if_pos (show inI (nI j) (nI 0) (nI (V 0 0 3) - nI 1) = true from c1), if_neg (by decide), if_pos c1, ix_nI (by omega), m_isIn, bnd_eq]
    by_cases c2 : inI k (nI 0) (nI 4) = true
    · rw [if_pos c2, if_neg (by decide)]
      rcases in5.1 c2 with rfl | rfl | rfl | rfl | rfl
      · simp only [nI_add, nI_mulE]
        rw [chv_nI (by omega) (by decide), ix_nI (by omega), e0, if_pos trivial]
      · simp only [nI_add, nI_mulE]
        rw [chv_nI (by omega) (by decide), ix_nI (by omega), e1, if_neg (by decide), if_pos trivial]
      · simp only [nI_add, nI_mulE]
        rw [chv_nI (by omega) (by decide), ix_nI (by omega), e2, if_neg (by decide), if_neg (by decide), if_pos trivial]
      · simp only [nI_add, nI_mulE]
        rw [chv_nI (by omega) (by decide), ix_nI (by omega), e3, if_neg (by decide), if_neg (by decide), if_neg (by decide), if_pos trivial]
      · simp only [nI_add, nI_mulE]
        rw [chv_nI (by omega) (by decide), ix_nI (by omega), e4, if_neg (by decide), if_neg (by decide), if_neg (by decide), if_neg (by decide), if_pos trivial]
    · have c3 := fun z => c2 (in5.2 z)
      rw [if_neg c2, if_pos (by decide), if_neg (fun z => c3 (Or.inl z)), if_neg (fun z => c3 (Or.inr (Or.inl z))), if_neg (fun z => c3 (Or.inr (Or.inr (Or.inl z)))), if_neg (fun z => c3 (Or.inr (Or.inr (Or.inr (Or.inl z))))), if_neg (fun z => c3 (Or.inr (Or.inr (Or.inr (Or.inr z)))))]
  · rw [if_neg (show ¬ inI v (nI 0) (nI (V 0 0 3) - nI 1) = true from c1), if_pos (by decide), if_neg c1]
/-! the post -/
def postR (T : TT) (a b : Int32) : Int32 := if inI a (nI 0) (nI 5) = true ∧ inI b (nI 0) (nI 5) = true then nI (T.2.2 (ix a) (ix b)) else -1
theorem c_post {μ : Mm} {T : TT} (hT : TC μ 166 T) (a b : Int32) : Nine_post a b μ = some (postR T a b) := by
  have ha : ∀ x, Nine_canBeTold (nI 0) x μ = some (if inI x (nI 0) (nI 5) = true then nI 1 else nI 0) := fun x => c_can (k := 0) (by decide) x μ
  unfold Nine_post postR
  rw [ha, bnd_eq]
  by_cases c1 : inI a (nI 0) (nI 5) = true
  · rw [if_pos c1, if_neg (by decide), ha, bnd_eq]
    by_cases c2 : inI b (nI 0) (nI 5) = true
    · obtain ⟨i, hi, rfl⟩ := inI_some c1 (by decide)
      obtain ⟨j, hj, rfl⟩ := inI_some c2 (by decide)
      have hp : Post_daysBetween 179 (nI i) (nI j) μ = _ := (hT μ Out.rf).2.2 i j (by omega) (by omega)
      rw [if_pos c2, if_neg (by decide), hp, bnd_eq, if_pos ⟨c1, c2⟩, ix_nI (by omega), ix_nI (by omega)]
    · rw [if_neg c2, if_pos (by decide), if_neg (fun z => c2 z.2)]
  · rw [if_neg c1, if_pos (by decide), if_neg (fun z => c1 z.1)]
theorem m_postQ {ν : Mm} {T : TT} (hT : TM ν T) (a b : Int32) : M_post a b ν = some (postR T a b, sti ν 0 0 (nI 0)) := by
  have hT' := hT.told (nI 0)
  unfold M_post postR
  rw [lt_eq, m_town, bnd_eq]
  by_cases c1 : inI a (nI 0) (nI 5) = true
  · rw [if_pos c1, if_neg (by decide), m_town, bnd_eq]
    by_cases c2 : inI b (nI 0) (nI 5) = true
    · obtain ⟨i, hi, rfl⟩ := inI_some c1 (by decide)
      obtain ⟨j, hj, rfl⟩ := inI_some c2 (by decide)
      have hp := (hT' _ OutM.rf).2.2 i j (by omega) (by omega)
      rw [if_pos c2, if_neg (by decide), hp, bnd_eq, if_pos ⟨c1, c2⟩, ix_nI (by omega), ix_nI (by omega)]
    · rw [if_neg c2, if_pos (by decide), if_neg (fun z => c2 z.2)]
  · rw [if_neg c1, if_pos (by decide), if_neg (fun z => c1 z.1)]
