/-! the check's cells -/
def mo (c i : Nat) : Nat := if inNow c i = true then 1 else oM c i
def HN (ν : Mm) (V : VS) : Prop := HM (ν.1 1) ν.1 V
theorem HN.at {ν : Mm} {V : VS} (h : HN ν V) {c p i : Nat} (hl : live V c p i) (h1 : ¬ (c = 1 ∧ i = 5)) (h2 : ¬ (c = 20 ∧ i = 2)) : ν.1 (mo c i) (pM c p i) = eM c i (V c p i) := by
  have := h c p i hl h1 h2
  unfold mo
  split
  · rename_i e
    rw [if_pos e] at this
    exact this
  · rename_i e
    rw [if_neg e] at this
    exact this
def dM3 (o k : Nat) : Nat × Nat × Nat :=
  if o = 0 then (if k = 6 then (0, 0, 0) else (20, 0, k - 13))
  else if o = 1 then (if k = 0 then (0, 0, 4) else if k < 6 then (0, 0, k + 2) else if k = 6 then (0, 0, 1) else if k < 47 then (11, 0, k - 7) else if k < 87 then (12, 0, k - 47) else if k < 127 then (13, 0, k - 87) else if k < 167 then (14, 0, k - 127)
    else if k < 183 then (4, k - 167, 0) else if k < 199 then (1, k - 183, 3) else if k < 215 then (1, k - 199, 4) else if k < 263 then (5, k - 247, 0) else if k < 279 then (6, k - 263, 0) else if k < 471 then (7 + (k - 279) % 4, (k - 279) / 4 / 3, (k - 279) / 4 % 3)
    else if k = 471 then (0, 0, 2) else (15 + (k - 472) % 4, 0, (k - 472) / 4))
  else if o = 7 then (3, k, 0) else if o = 8 then (2, k / 9, k % 9) else (1, k, o - 4)
theorem dM3_of {V : VS} {c p i : Nat} (hw : WF V) (h : live V c p i) (h1 : ¬ (c = 1 ∧ i = 5)) : dM3 (mo c i) (pM c p i) = (c, p, i) := by
  obtain ⟨w1, w2, w3, w4, w5, w6, w7, w8, w9, w10⟩ := hw
  unfold live at h
  split at h
  · obtain ⟨rfl, h1, h2⟩ := h
    have : i = 0 ∨ i = 1 ∨ i = 2 ∨ i = 4 ∨ i = 5 ∨ i = 6 ∨ i = 7 := by omega
    rcases this with rfl | rfl | rfl | rfl | rfl | rfl | rfl <;> rfl
  · have : i = 0 ∨ i = 1 ∨ i = 2 ∨ i = 3 ∨ i = 4 := by omega
    rcases this with rfl | rfl | rfl | rfl | rfl
    · rfl
    · rfl
    · rfl
    · show dM3 1 (183 + p) = _
      unfold dM3
      repeat (first | rw [if_pos (by omega)] | rw [if_neg (by omega)])
      simp
    · show dM3 1 (199 + p) = _
      unfold dM3
      repeat (first | rw [if_pos (by omega)] | rw [if_neg (by omega)])
      simp
  · have := (w5 p h.1).2.2.2.2.2.2.1
    show dM3 8 (9 * p + i) = _
    unfold dM3
    have e1 : (9 * p + i) / 9 = p := by omega
    have e2 : (9 * p + i) % 9 = i := by omega
    rw [e1, e2]
    rfl
  · rw [h.2]
    rfl
  · rw [h.2]
    show dM3 1 (167 + p) = _
    unfold dM3
    repeat (first | rw [if_pos (by omega)] | rw [if_neg (by omega)])
    simp
  · rw [h.2]
    show dM3 1 (247 + p) = _
    unfold dM3
    repeat (first | rw [if_pos (by omega)] | rw [if_neg (by omega)])
    simp
  · rw [h.2]
    show dM3 1 (263 + p) = _
    unfold dM3
    repeat (first | rw [if_pos (by omega)] | rw [if_neg (by omega)])
    simp
  · have := (w5 p h.1).2.2.2.2.2.2.2.2.2.2
    show dM3 1 (279 + 4 * (3 * p + i)) = _
    unfold dM3
    repeat (first | rw [if_pos (by omega)] | rw [if_neg (by omega)])
    simp only [Prod.mk.injEq]
    omega
  · have := (w5 p h.1).2.2.2.2.2.2.2.2.2.2
    show dM3 1 (280 + 4 * (3 * p + i)) = _
    unfold dM3
    repeat (first | rw [if_pos (by omega)] | rw [if_neg (by omega)])
    simp only [Prod.mk.injEq]
    omega
  · have := (w5 p h.1).2.2.2.2.2.2.2.2.2.2
    show dM3 1 (281 + 4 * (3 * p + i)) = _
    unfold dM3
    repeat (first | rw [if_pos (by omega)] | rw [if_neg (by omega)])
    simp only [Prod.mk.injEq]
    omega
  · have := (w5 p h.1).2.2.2.2.2.2.2.2.2.2
    show dM3 1 (282 + 4 * (3 * p + i)) = _
    unfold dM3
    repeat (first | rw [if_pos (by omega)] | rw [if_neg (by omega)])
    simp only [Prod.mk.injEq]
    omega
  · obtain ⟨rfl, h2⟩ := h
    show dM3 1 (7 + i) = _
    unfold dM3
    repeat (first | rw [if_pos (by omega)] | rw [if_neg (by omega)])
    simp
  · obtain ⟨rfl, h2⟩ := h
    show dM3 1 (47 + i) = _
    unfold dM3
    repeat (first | rw [if_pos (by omega)] | rw [if_neg (by omega)])
    simp
  · obtain ⟨rfl, h2⟩ := h
    show dM3 1 (87 + i) = _
    unfold dM3
    repeat (first | rw [if_pos (by omega)] | rw [if_neg (by omega)])
    simp
  · obtain ⟨rfl, h2⟩ := h
    show dM3 1 (127 + i) = _
    unfold dM3
    repeat (first | rw [if_pos (by omega)] | rw [if_neg (by omega)])
    simp
  · obtain ⟨rfl, h2⟩ := h
    show dM3 1 (472 + 4 * i) = _
    unfold dM3
    repeat (first | rw [if_pos (by omega)] | rw [if_neg (by omega)])
    have e1 : (472 + 4 * i - 472) % 4 = 0 := by omega
    have e2 : (472 + 4 * i - 472) / 4 = i := by omega
    rw [e1, e2]
  · obtain ⟨rfl, h2⟩ := h
    show dM3 1 (473 + 4 * i) = _
    unfold dM3
    repeat (first | rw [if_pos (by omega)] | rw [if_neg (by omega)])
    have e1 : (473 + 4 * i - 472) % 4 = 1 := by omega
    have e2 : (473 + 4 * i - 472) / 4 = i := by omega
    rw [e1, e2]
  · obtain ⟨rfl, h2⟩ := h
    show dM3 1 (474 + 4 * i) = _
    unfold dM3
    repeat (first | rw [if_pos (by omega)] | rw [if_neg (by omega)])
    have e1 : (474 + 4 * i - 472) % 4 = 2 := by omega
    have e2 : (474 + 4 * i - 472) / 4 = i := by omega
    rw [e1, e2]
  · obtain ⟨rfl, h2⟩ := h
    show dM3 1 (475 + 4 * i) = _
    unfold dM3
    repeat (first | rw [if_pos (by omega)] | rw [if_neg (by omega)])
    have e1 : (475 + 4 * i - 472) % 4 = 3 := by omega
    have e2 : (475 + 4 * i - 472) / 4 = i := by omega
    rw [e1, e2]
  · obtain ⟨rfl, h2⟩ := h
    show dM3 0 (13 + i) = _
    unfold dM3
    repeat (first | rw [if_pos (by omega)] | rw [if_neg (by omega)])
    simp
  · exact h.elim
theorem mo_inj {V : VS} {c p i c2 p2 i2 : Nat} (hw : WF V) (h : live V c p i) (h1 : ¬ (c = 1 ∧ i = 5)) (h2 : live V c2 p2 i2) (h3 : ¬ (c2 = 1 ∧ i2 = 5)) (e : mo c i = mo c2 i2) (e2 : pM c p i = pM c2 p2 i2) : c = c2 ∧ p = p2 ∧ i = i2 := by
  have := dM3_of hw h h1
  rw [e, e2, dM3_of hw h2 h3] at this
  cases this
  exact ⟨rfl, rfl, rfl⟩
theorem HN.set {ν : Mm} {V : VS} {c p i x : Nat} (hw : WF V) (h : HN ν V) (hl : live V c p i) (h1 : ¬ (c = 1 ∧ i = 5)) (hlv : ∀ c2 p2 i2, live (vset V c p i x) c2 p2 i2 → live V c2 p2 i2) : HN (sti ν (mo c i) (pM c p i) (eM c i x)) (vset V c p i x) := by
  intro c2 p2 i2 hl2 h3 h4
  have hl3 := hlv _ _ _ hl2
  have key : (if inNow c2 i2 = true then (sti ν (mo c i) (pM c p i) (eM c i x)).1 1 (pM c2 p2 i2) else (sti ν (mo c i) (pM c p i) (eM c i x)).1 (oM c2 i2) (pM c2 p2 i2)) = (sti ν (mo c i) (pM c p i) (eM c i x)).1 (mo c2 i2) (pM c2 p2 i2) := by
    unfold mo
    split <;> rfl
  rw [key, sti_1, vset_at]
  by_cases e : c2 = c ∧ p2 = p ∧ i2 = i
  · obtain ⟨rfl, rfl, rfl⟩ := e
    simp
  · rw [if_neg e, if_neg (fun z => e (mo_inj hw hl3 h3 hl h1 z.1 z.2))]
    exact h.at hl3 h3 h4
/-- a cell of the check's that bears no component -/
def freeM (V : VS) (o k : Nat) : Prop := ∀ (c p i : Nat), live V c p i → ¬ (c = 1 ∧ i = 5) → ¬ (c = 20 ∧ i = 2) → ¬ (mo c i = o ∧ pM c p i = k)
theorem HN.free {ν : Mm} {V : VS} {o k : Nat} {v : Int32} (h : HN ν V) (hf : freeM V o k) : HN (sti ν o k v) V := by
  intro c p i hl h1 h2
  have key : (if inNow c i = true then (sti ν o k v).1 1 (pM c p i) else (sti ν o k v).1 (oM c i) (pM c p i)) = (sti ν o k v).1 (mo c i) (pM c p i) := by
    unfold mo
    split <;> rfl
  rw [key, sti_1, if_neg (fun z => hf c p i hl h1 h2 ⟨z.1, z.2⟩)]
  exact h.at hl h1 h2
