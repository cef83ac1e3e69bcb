/-! the check's cells -/
def mo (c i : Nat) : Nat := if inNow c i = true then 1 else oM c i
def dM3 (o k : Nat) : Nat × Nat × Nat :=
  if o = 0 then (if k = 6 then (0, 0, 0) else (20, 0, k - 13))
  else if o = 1 then (if k = 0 then (0, 0, 4) else if k < 6 then (0, 0, k + 2) else if k = 6 then (0, 0, 1) else if k < 47 then (11, 0, k - 7) else if k < 87 then (12, 0, k - 47) else if k < 127 then (13, 0, k - 87) else if k < 167 then (14, 0, k - 127)
    else if k < 183 then (4, k - 167, 0) else if k < 199 then (1, k - 183, 3) else if k < 215 then (1, k - 199, 4) else if k < 263 then (5, k - 247, 0) else if k < 279 then (6, k - 263, 0) else if k < 471 then (7 + (k - 279) % 4, (k - 279) / 4 / 3, (k - 279) / 4 % 3)
    else if k = 471 then (0, 0, 2) else (15 + (k - 472) % 4, 0, (k - 472) / 4))
  else if o = 7 then (3, k, 0) else if o = 8 then (2, k / 9, k % 9) else (1, k, o - 4)
theorem dM3_of {c p i : Nat} (h : pot c p i) (h1 : ¬ (c = 1 ∧ i = 5)) : dM3 (mo c i) (pM c p i) = (c, p, i) := by
  unfold pot at h
  split at h
  · obtain ⟨rfl, h1, h2⟩ := h
    have : i = 0 ∨ i = 1 ∨ i = 2 ∨ i = 4 ∨ i = 5 ∨ i = 6 ∨ i = 7 := by omega
    rcases this with rfl | rfl | rfl | rfl | rfl | rfl | rfl <;> rfl
  · have : i = 0 ∨ i = 1 ∨ i = 2 ∨ i = 3 ∨ i = 4 := by omega
    rcases this with rfl | rfl | rfl | rfl | rfl
    · rfl
    · rfl
    · rfl
    · show dM3 1 (183 + p) = _
      unfold dM3
      repeat (first | rw [if_pos (by omega)] | rw [if_neg (by omega)])
      simp
    · show dM3 1 (199 + p) = _
      unfold dM3
      repeat (first | rw [if_pos (by omega)] | rw [if_neg (by omega)])
      simp
  · show dM3 8 (9 * p + i) = _
    unfold dM3
    have e1 : (9 * p + i) / 9 = p := by omega
    have e2 : (9 * p + i) % 9 = i := by omega
    rw [e1, e2]
    rfl
  · rw [h.2]
    rfl
  · rw [h.2]
    show dM3 1 (167 + p) = _
    unfold dM3
    repeat (first | rw [if_pos (by omega)] | rw [if_neg (by omega)])
    simp
  · rw [h.2]
    show dM3 1 (247 + p) = _
    unfold dM3
    repeat (first | rw [if_pos (by omega)] | rw [if_neg (by omega)])
    simp
  · rw [h.2]
    show dM3 1 (263 + p) = _
    unfold dM3
    repeat (first | rw [if_pos (by omega)] | rw [if_neg (by omega)])
    simp
  · show dM3 1 (279 + 4 * (3 * p + i)) = _
    unfold dM3
    repeat (first | rw [if_pos (by omega)] | rw [if_neg (by omega)])
    simp only [Prod.mk.injEq]
    omega
  · show dM3 1 (280 + 4 * (3 * p + i)) = _
    unfold dM3
    repeat (first | rw [if_pos (by omega)] | rw [if_neg (by omega)])
    simp only [Prod.mk.injEq]
    omega
  · show dM3 1 (281 + 4 * (3 * p + i)) = _
    unfold dM3
    repeat (first | rw [if_pos (by omega)] | rw [if_neg (by omega)])
    simp only [Prod.mk.injEq]
    omega
  · show dM3 1 (282 + 4 * (3 * p + i)) = _
    unfold dM3
    repeat (first | rw [if_pos (by omega)] | rw [if_neg (by omega)])
    simp only [Prod.mk.injEq]
    omega
  · obtain ⟨rfl, h2⟩ := h
    show dM3 1 (7 + i) = _
    unfold dM3
    repeat (first | rw [if_pos (by omega)] | rw [if_neg (by omega)])
    simp
  · obtain ⟨rfl, h2⟩ := h
    show dM3 1 (47 + i) = _
    unfold dM3
    repeat (first | rw [if_pos (by omega)] | rw [if_neg (by omega)])
    simp
  · obtain ⟨rfl, h2⟩ := h
    show dM3 1 (87 + i) = _
    unfold dM3
    repeat (first | rw [if_pos (by omega)] | rw [if_neg (by omega)])
    simp
  · obtain ⟨rfl, h2⟩ := h
    show dM3 1 (127 + i) = _
    unfold dM3
    repeat (first | rw [if_pos (by omega)] | rw [if_neg (by omega)])
    simp
  · obtain ⟨rfl, h2⟩ := h
    show dM3 1 (472 + 4 * i) = _
    unfold dM3
    repeat (first | rw [if_pos (by omega)] | rw [if_neg (by omega)])
    have e1 : (472 + 4 * i - 472) % 4 = 0 := by omega
    have e2 : (472 + 4 * i - 472) / 4 = i := by omega
    rw [e1, e2]
  · obtain ⟨rfl, h2⟩ := h
    show dM3 1 (473 + 4 * i) = _
    unfold dM3
    repeat (first | rw [if_pos (by omega)] | rw [if_neg (by omega)])
    have e1 : (473 + 4 * i - 472) % 4 = 1 := by omega
    have e2 : (473 + 4 * i - 472) / 4 = i := by omega
    rw [e1, e2]
  · obtain ⟨rfl, h2⟩ := h
    show dM3 1 (474 + 4 * i) = _
    unfold dM3
    repeat (first | rw [if_pos (by omega)] | rw [if_neg (by omega)])
    have e1 : (474 + 4 * i - 472) % 4 = 2 := by omega
    have e2 : (474 + 4 * i - 472) / 4 = i := by omega
    rw [e1, e2]
  · obtain ⟨rfl, h2⟩ := h
    show dM3 1 (475 + 4 * i) = _
    unfold dM3
    repeat (first | rw [if_pos (by omega)] | rw [if_neg (by omega)])
    have e1 : (475 + 4 * i - 472) % 4 = 3 := by omega
    have e2 : (475 + 4 * i - 472) / 4 = i := by omega
    rw [e1, e2]
  · obtain ⟨rfl, h2⟩ := h
    show dM3 0 (13 + i) = _
    unfold dM3
    repeat (first | rw [if_pos (by omega)] | rw [if_neg (by omega)])
    simp
  · exact h.elim
theorem mo_inj {c p i c2 p2 i2 : Nat} (h : pot c p i) (h1 : ¬ (c = 1 ∧ i = 5)) (h2 : pot c2 p2 i2) (h3 : ¬ (c2 = 1 ∧ i2 = 5)) (e : mo c i = mo c2 i2) (e2 : pM c p i = pM c2 p2 i2) : c = c2 ∧ p = p2 ∧ i = i2 := by
  have := dM3_of h h1
  rw [e, e2, dM3_of h2 h3] at this
  cases this
  exact ⟨rfl, rfl, rfl⟩
/-- what the check has in a cell of its own kind: told[5] and blots apart -/
def own3 (c i : Nat) : Prop := ¬ (c = 1 ∧ i = 5) ∧ ¬ (c = 20 ∧ i = 2)
/-- the cells of the triples of L hold V: row a as 'now', rows e -/
def HM (a : Nat → Int32) (e : Nat → Nat → Int32) (V : VS) (L : LT) : Prop := ∀ c p i, L c p i → own3 c i → pot c p i ∧ (if inNow c i = true then a (pM c p i) else e (oM c i) (pM c p i)) = eM c i (V c p i)
/-- the same of the check's memory -/
def HN (ν : Mm) (V : VS) (L : LT) : Prop := ∀ c p i, L c p i → own3 c i → pot c p i ∧ ν.1 (mo c i) (pM c p i) = eM c i (V c p i)
theorem HN.iff {ν : Mm} {V : VS} {L : LT} : HN ν V L ↔ HM (ν.1 1) ν.1 V L := by
  have key : ∀ c p i, (if inNow c i = true then ν.1 1 (pM c p i) else ν.1 (oM c i) (pM c p i)) = ν.1 (mo c i) (pM c p i) := by
    intro c p i
    unfold mo
    split <;> rfl
  unfold HN HM
  constructor
  · intro h c p i hl ho
    rw [key]
    exact h c p i hl ho
  · intro h c p i hl ho
    have := h c p i hl ho
    rw [key] at this
    exact this
theorem HN.put {ν : Mm} {V : VS} {L : LT} (h : HN ν V L) {c p i : Nat} (x : Nat) (hp : pot c p i) (ho : own3 c i) : HN (sti ν (mo c i) (pM c p i) (eM c i x)) (vset V c p i x) (lput L c p i) := by
  intro c2 p2 i2 hl ho2
  by_cases e : c2 = c ∧ p2 = p ∧ i2 = i
  · obtain ⟨rfl, rfl, rfl⟩ := e
    exact ⟨hp, by rw [sti_1, vset_at]; simp⟩
  · rcases hl with hl | hl
    · exact absurd hl e
    · obtain ⟨h1, h2⟩ := h _ _ _ hl ho2
      refine ⟨h1, ?_⟩
      rw [sti_1, vset_at, if_neg e, if_neg (fun z => e (mo_inj h1 ho2.1 hp ho.1 z.1 z.2))]
      exact h2
theorem HN.mono {ν : Mm} {V V2 : VS} {L L2 : LT} (h : HN ν V L) (hL : ∀ c p i, L2 c p i → L c p i) (hV : ∀ c p i, L2 c p i → V2 c p i = V c p i) : HN ν V2 L2 := fun c p i hl ho => ⟨(h c p i (hL c p i hl) ho).1, by rw [hV c p i hl]; exact (h c p i (hL c p i hl) ho).2⟩
/-- a cell of the check's that bears no component -/
def freeM (o k : Nat) : Prop := ∀ (c p i : Nat), pot c p i → own3 c i → ¬ (mo c i = o ∧ pM c p i = k)
theorem HN.free {ν : Mm} {V : VS} {L : LT} {o k : Nat} (h : HN ν V L) (v : Int32) (hf : freeM o k) : HN (sti ν o k v) V L := by
  intro c p i hl ho
  obtain ⟨h1, h2⟩ := h c p i hl ho
  refine ⟨h1, ?_⟩
  rw [sti_1, if_neg (fun z => hf c p i h1 ho ⟨z.1, z.2⟩)]
  exact h2
