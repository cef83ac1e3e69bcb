/-! the check's cells -/
def mo (c i : Nat) : Nat := if inNow c i = true then 1 else oM c i
def dM3 (o k : Nat) : Nat × Nat × Nat :=
  if o = 0 then (if k = 6 then (0, 0, 0) else (20, 0, k - 13))
  else if o = 1 then (if k = 0 then (0, 0, 4) else if k = 1 then (0, 0, 8) else if k = 2 then (0, 0, 3) else if k < 6 then (0, 0, k + 2) else if k = 6 then (0, 0, 1) else if k < 47 then (11, 0, k - 7) else if k < 87 then (12, 0, k - 47) else if k < 127 then (13, 0, k - 87) else if k < 167 then (14, 0, k - 127)
    else if k < 183 then (4, k - 167, 0) else if k < 199 then (1, k - 183, 3) else if k < 215 then (1, k - 199, 4) else if k < 231 then (21, k - 215, 0) else if k < 247 then (22, k - 231, 0) else if k < 263 then (5, k - 247, 0) else if k < 279 then (6, k - 263, 0) else if k < 471 then (7 + (k - 279) % 4, (k - 279) / 4 / 3, (k - 279) / 4 % 3)
    else if k = 471 then (0, 0, 2) else (15 + (k - 472) % 4, 0, (k - 472) / 4))
  else if o = 7 then (3, k, 0) else if o = 8 then (2, k / 9, k % 9) else if o = 10 then (23 + k % 5, 0, k / 5) else (1, k, o - 4)
/-- what the check has in a cell of its own kind: told[5], blots and who wrote apart -/
def own3 (c i : Nat) : Prop := ¬ (c = 1 ∧ i = 5) ∧ ¬ (c = 20 ∧ i = 2) ∧ ¬ (c = 0 ∧ i = 9)
theorem dM3_now {k : Nat} : dM3 1 k = (if k = 0 then (0, 0, 4) else if k = 1 then (0, 0, 8) else if k = 2 then (0, 0, 3) else if k < 6 then (0, 0, k + 2) else if k = 6 then (0, 0, 1) else if k < 47 then (11, 0, k - 7) else if k < 87 then (12, 0, k - 47) else if k < 127 then (13, 0, k - 87) else if k < 167 then (14, 0, k - 127)
    else if k < 183 then (4, k - 167, 0) else if k < 199 then (1, k - 183, 3) else if k < 215 then (1, k - 199, 4) else if k < 231 then (21, k - 215, 0) else if k < 247 then (22, k - 231, 0) else if k < 263 then (5, k - 247, 0) else if k < 279 then (6, k - 263, 0) else if k < 471 then (7 + (k - 279) % 4, (k - 279) / 4 / 3, (k - 279) / 4 % 3)
    else if k = 471 then (0, 0, 2) else (15 + (k - 472) % 4, 0, (k - 472) / 4)) := rfl
theorem dM3_of {c p i : Nat} (h : pot c p i) (h1 : own3 c i) : dM3 (mo c i) (pM c p i) = (c, p, i) := by
  revert h1
  refine pot_cases (Z := fun c p i => own3 c i → dM3 (mo c i) (pM c p i) = (c, p, i)) h ?h0 ?h01 ?h02 ?h03 ?h04 ?h05 ?h06 ?h07 ?h08 ?h09 ?h10 ?h11 ?h12 ?h13 ?h14 ?h15 ?h2 ?h3 ?h4 ?h5 ?h6 ?h7 ?h8 ?h9 ?hX ?hv11 ?hv12 ?hv13 ?hv14 ?hw15 ?hw16 ?hw17 ?hw18 ?hr ?h21 ?h22 ?hb23 ?hb24 ?hb25 ?hb26 ?hb27
  case h15 => exact fun p _ h1 => absurd ⟨rfl, rfl⟩ h1.1
  case h09 => exact fun h1 => absurd ⟨rfl, rfl⟩ h1.2.2
  case h10 => exact fun p _ _ => rfl
  case h11 => exact fun p _ _ => rfl
  case h12 => exact fun p _ _ => rfl
  case h3 => exact fun p _ _ => rfl
  case h2 =>
    intro p i _ _ _
    show ((2 : Nat), (9 * p + i) / 9, (9 * p + i) % 9) = _
    rw [show (9 * p + i) / 9 = p by omega, show (9 * p + i) % 9 = i by omega]
  case hr =>
    intro i hi _
    show (if 13 + i = 6 then ((0 : Nat), (0 : Nat), (0 : Nat)) else (20, 0, 13 + i - 13)) = _
    rw [if_neg (by omega), show 13 + i - 13 = i by omega]
  case hb23 =>
    intro i hi _
    show (23 + (5 * i) % 5, (0 : Nat), (5 * i) / 5) = _
    rw [show (5 * i) / 5 = i by omega, show (5 * i) % 5 = 0 by omega]
  case hb24 =>
    intro i hi _
    show (23 + (5 * i + 1) % 5, (0 : Nat), (5 * i + 1) / 5) = _
    rw [show (5 * i + 1) / 5 = i by omega, show (5 * i + 1) % 5 = 1 by omega]
  case hb25 =>
    intro i hi _
    show (23 + (5 * i + 2) % 5, (0 : Nat), (5 * i + 2) / 5) = _
    rw [show (5 * i + 2) / 5 = i by omega, show (5 * i + 2) % 5 = 2 by omega]
  case hb26 =>
    intro i hi _
    show (23 + (5 * i + 3) % 5, (0 : Nat), (5 * i + 3) / 5) = _
    rw [show (5 * i + 3) / 5 = i by omega, show (5 * i + 3) % 5 = 3 by omega]
  case hb27 =>
    intro i hi _
    show (23 + (5 * i + 4) % 5, (0 : Nat), (5 * i + 4) / 5) = _
    rw [show (5 * i + 4) / 5 = i by omega, show (5 * i + 4) % 5 = 4 by omega]
  case h13 =>
    intro p hp _
    show dM3 1 (183 + p) = _
    rw [dM3_now]
    repeat (first | rw [if_pos (by omega)] | rw [if_neg (by omega)])
    rw [show 183 + p - 183 = p by omega]
  case h14 =>
    intro p hp _
    show dM3 1 (199 + p) = _
    rw [dM3_now]
    repeat (first | rw [if_pos (by omega)] | rw [if_neg (by omega)])
    rw [show 199 + p - 199 = p by omega]
  case h4 =>
    intro p hp _
    show dM3 1 (167 + p) = _
    rw [dM3_now]
    repeat (first | rw [if_pos (by omega)] | rw [if_neg (by omega)])
    rw [show 167 + p - 167 = p by omega]
  case h5 =>
    intro p hp _
    show dM3 1 (247 + p) = _
    rw [dM3_now]
    repeat (first | rw [if_pos (by omega)] | rw [if_neg (by omega)])
    rw [show 247 + p - 247 = p by omega]
  case h6 =>
    intro p hp _
    show dM3 1 (263 + p) = _
    rw [dM3_now]
    repeat (first | rw [if_pos (by omega)] | rw [if_neg (by omega)])
    rw [show 263 + p - 263 = p by omega]
  case h21 =>
    intro p hp _
    show dM3 1 (215 + p) = _
    rw [dM3_now]
    repeat (first | rw [if_pos (by omega)] | rw [if_neg (by omega)])
    rw [show 215 + p - 215 = p by omega]
  case h22 =>
    intro p hp _
    show dM3 1 (231 + p) = _
    rw [dM3_now]
    repeat (first | rw [if_pos (by omega)] | rw [if_neg (by omega)])
    rw [show 231 + p - 231 = p by omega]
  case h7 =>
    intro p i hp hi _
    show dM3 1 (279 + 4 * (3 * p + i)) = _
    rw [dM3_now]
    repeat (first | rw [if_pos (by omega)] | rw [if_neg (by omega)])
    rw [show (279 + 4 * (3 * p + i) - 279) % 4 = 0 by omega, show (279 + 4 * (3 * p + i) - 279) / 4 / 3 = p by omega, show (279 + 4 * (3 * p + i) - 279) / 4 % 3 = i by omega]
  case h8 =>
    intro p i hp hi _
    show dM3 1 (279 + 4 * (3 * p + i) + 1) = _
    rw [dM3_now]
    repeat (first | rw [if_pos (by omega)] | rw [if_neg (by omega)])
    rw [show (279 + 4 * (3 * p + i) + 1 - 279) % 4 = 1 by omega, show (279 + 4 * (3 * p + i) + 1 - 279) / 4 / 3 = p by omega, show (279 + 4 * (3 * p + i) + 1 - 279) / 4 % 3 = i by omega]
  case h9 =>
    intro p i hp hi _
    show dM3 1 (279 + 4 * (3 * p + i) + 2) = _
    rw [dM3_now]
    repeat (first | rw [if_pos (by omega)] | rw [if_neg (by omega)])
    rw [show (279 + 4 * (3 * p + i) + 2 - 279) % 4 = 2 by omega, show (279 + 4 * (3 * p + i) + 2 - 279) / 4 / 3 = p by omega, show (279 + 4 * (3 * p + i) + 2 - 279) / 4 % 3 = i by omega]
  case hX =>
    intro p i hp hi _
    show dM3 1 (279 + 4 * (3 * p + i) + 3) = _
    rw [dM3_now]
    repeat (first | rw [if_pos (by omega)] | rw [if_neg (by omega)])
    rw [show (279 + 4 * (3 * p + i) + 3 - 279) % 4 = 3 by omega, show (279 + 4 * (3 * p + i) + 3 - 279) / 4 / 3 = p by omega, show (279 + 4 * (3 * p + i) + 3 - 279) / 4 % 3 = i by omega]
  case hv11 =>
    intro i hi _
    show dM3 1 (7 + i) = _
    rw [dM3_now]
    repeat (first | rw [if_pos (by omega)] | rw [if_neg (by omega)])
    rw [show 7 + i - 7 = i by omega]
  case hv12 =>
    intro i hi _
    show dM3 1 (47 + i) = _
    rw [dM3_now]
    repeat (first | rw [if_pos (by omega)] | rw [if_neg (by omega)])
    rw [show 47 + i - 47 = i by omega]
  case hv13 =>
    intro i hi _
    show dM3 1 (87 + i) = _
    rw [dM3_now]
    repeat (first | rw [if_pos (by omega)] | rw [if_neg (by omega)])
    rw [show 87 + i - 87 = i by omega]
  case hv14 =>
    intro i hi _
    show dM3 1 (127 + i) = _
    rw [dM3_now]
    repeat (first | rw [if_pos (by omega)] | rw [if_neg (by omega)])
    rw [show 127 + i - 127 = i by omega]
  case hw15 =>
    intro i hi _
    show dM3 1 (472 + 4 * i) = _
    rw [dM3_now]
    repeat (first | rw [if_pos (by omega)] | rw [if_neg (by omega)])
    rw [show (472 + 4 * i - 472) % 4 = 0 by omega, show (472 + 4 * i - 472) / 4 = i by omega]
  case hw16 =>
    intro i hi _
    show dM3 1 (472 + 4 * i + 1) = _
    rw [dM3_now]
    repeat (first | rw [if_pos (by omega)] | rw [if_neg (by omega)])
    rw [show (472 + 4 * i + 1 - 472) % 4 = 1 by omega, show (472 + 4 * i + 1 - 472) / 4 = i by omega]
  case hw17 =>
    intro i hi _
    show dM3 1 (472 + 4 * i + 2) = _
    rw [dM3_now]
    repeat (first | rw [if_pos (by omega)] | rw [if_neg (by omega)])
    rw [show (472 + 4 * i + 2 - 472) % 4 = 2 by omega, show (472 + 4 * i + 2 - 472) / 4 = i by omega]
  case hw18 =>
    intro i hi _
    show dM3 1 (472 + 4 * i + 3) = _
    rw [dM3_now]
    repeat (first | rw [if_pos (by omega)] | rw [if_neg (by omega)])
    rw [show (472 + 4 * i + 3 - 472) % 4 = 3 by omega, show (472 + 4 * i + 3 - 472) / 4 = i by omega]
  all_goals exact fun _ => rfl
theorem mo_inj {c p i c2 p2 i2 : Nat} (h : pot c p i) (h1 : own3 c i) (h2 : pot c2 p2 i2) (h3 : own3 c2 i2) (e : mo c i = mo c2 i2) (e2 : pM c p i = pM c2 p2 i2) : c2 = c ∧ p2 = p ∧ i2 = i := by
  have := dM3_of h h1
  rw [e, e2, dM3_of h2 h3] at this
  cases this
  exact ⟨rfl, rfl, rfl⟩
/-- the cells of the triples of L hold V -/
def HN (ν : Mm) (V : VS) (L : LT) : Prop := ∀ c p i, L c p i → pot c p i ∧ (own3 c i → ν.1 (mo c i) (pM c p i) = eM c i (V c p i))
theorem HN.put {ν : Mm} {V : VS} {L : LT} (h : HN ν V L) (c p i x : Nat) {o k : Nat} {v : Int32} (hp : pot c p i) (ho : o = mo c i) (hk : k = pM c p i) (hv : v = eM c i x) (h1 : own3 c i) : HN (sti ν o k v) (vset V c p i x) (lput L c p i) := by
  subst ho hk hv
  intro c2 p2 i2 hl
  by_cases e : c2 = c ∧ p2 = p ∧ i2 = i
  · obtain ⟨rfl, rfl, rfl⟩ := e
    exact ⟨hp, fun _ => by rw [sti_1, vset_eq ⟨rfl, rfl, rfl⟩, if_pos ⟨rfl, rfl⟩]⟩
  · rcases hl with hl | hl
    · exact absurd hl e
    · obtain ⟨h2, h3⟩ := h _ _ _ hl
      refine ⟨h2, fun h4 => ?_⟩
      rw [sti_1, vset_ne e, if_neg (fun z => e (mo_inj hp h1 h2 h4 z.1.symm z.2.symm))]
      exact h3 h4
theorem HN.mono {ν : Mm} {V V2 : VS} {L L2 : LT} (h : HN ν V L) (hL : ∀ c p i, L2 c p i → L c p i) (hV : ∀ c p i, L2 c p i → own3 c i → V2 c p i = V c p i) : HN ν V2 L2 := fun c p i hl => ⟨(h c p i (hL c p i hl)).1, fun h1 => by rw [hV c p i hl h1]; exact (h c p i (hL c p i hl)).2 h1⟩
/-- a component that no cell of its own holds -/
theorem HN.putN {ν : Mm} {V : VS} {L : LT} (h : HN ν V L) (c p i x : Nat) (hp : pot c p i) (h1 : ¬ own3 c i) : HN ν (vset V c p i x) (lput L c p i) := by
  intro c2 p2 i2 hl
  by_cases e : c2 = c ∧ p2 = p ∧ i2 = i
  · obtain ⟨rfl, rfl, rfl⟩ := e
    exact ⟨hp, fun z => absurd z h1⟩
  · rcases hl with hl | hl
    · exact absurd hl e
    · obtain ⟨h2, h3⟩ := h _ _ _ hl
      exact ⟨h2, fun h4 => by rw [vset_ne e]; exact h3 h4⟩
/-- the cells that may bear a component -/
def cellM (o k : Nat) : Prop := (o = 0 ∧ (k = 6 ∨ k = 13 ∨ k = 14 ∨ k = 16)) ∨ o = 1 ∨ (4 ≤ o ∧ o ≤ 6) ∨ o = 7 ∨ o = 8 ∨ o = 10
theorem cellM_of {c p i : Nat} (h : pot c p i) (h1 : own3 c i) : cellM (mo c i) (pM c p i) := by
  revert h1
  refine pot_cases (Z := fun c p i => own3 c i → cellM (mo c i) (pM c p i)) h ?h0 ?h01 ?h02 ?h03 ?h04 ?h05 ?h06 ?h07 ?h08 ?h09 ?h10 ?h11 ?h12 ?h13 ?h14 ?h15 ?h2 ?h3 ?h4 ?h5 ?h6 ?h7 ?h8 ?h9 ?hX ?hv11 ?hv12 ?hv13 ?hv14 ?hw15 ?hw16 ?hw17 ?hw18 ?hr ?h21 ?h22 ?hb23 ?hb24 ?hb25 ?hb26 ?hb27
  case h15 => exact fun p _ h1 => absurd ⟨rfl, rfl⟩ h1.1
  case h09 => exact fun h1 => absurd ⟨rfl, rfl⟩ h1.2.2
  case hr =>
    intro i hi h1
    refine Or.inl ⟨rfl, ?_⟩
    show 13 + i = 6 ∨ 13 + i = 13 ∨ 13 + i = 14 ∨ 13 + i = 16
    have : i ≠ 2 := fun e => h1.2.1 ⟨rfl, e⟩
    omega
  all_goals first
    | exact fun _ => Or.inl ⟨rfl, Or.inl rfl⟩
    | exact fun _ => Or.inr (Or.inl rfl)
    | exact fun _ _ _ => Or.inr (Or.inl rfl)
    | exact fun _ _ _ _ _ => Or.inr (Or.inl rfl)
    | exact fun _ _ _ => Or.inr (Or.inr (Or.inl ⟨by decide, by decide⟩))
    | exact fun _ _ _ => Or.inr (Or.inr (Or.inr (Or.inl rfl)))
    | exact fun _ _ _ _ _ => Or.inr (Or.inr (Or.inr (Or.inr (Or.inl rfl))))
    | exact fun _ _ _ => Or.inr (Or.inr (Or.inr (Or.inr (Or.inr rfl))))
theorem HN.free {ν : Mm} {V : VS} {L : LT} {o k : Nat} (h : HN ν V L) (v : Int32) (hf : ¬ cellM o k) : HN (sti ν o k v) V L := by
  intro c p i hl
  obtain ⟨h1, h2⟩ := h c p i hl
  refine ⟨h1, fun h3 => ?_⟩
  rw [sti_1, if_neg (show ¬ (mo c i = o ∧ pM c p i = k) from fun z => hf (z.1 ▸ z.2 ▸ cellM_of h1 h3))]
  exact h2 h3
/-- what else is not touched -/
def OutM (E : Nat → Nat → Prop) (ν ν2 : Mm) : Prop := ∀ o k, ¬ E o k → ν2.1 o k = ν.1 o k
theorem OutM.rf {E : Nat → Nat → Prop} {ν : Mm} : OutM E ν ν := fun _ _ _ => rfl
theorem OutM.tr {E : Nat → Nat → Prop} {ν ν2 ν3 : Mm} (h : OutM E ν ν2) (h2 : OutM E ν2 ν3) : OutM E ν ν3 := fun o k z => (h2 o k z).trans (h o k z)
theorem OutM.mono {E E2 : Nat → Nat → Prop} {ν ν2 : Mm} (h : OutM E ν ν2) (hE : ∀ o k, E o k → E2 o k) : OutM E2 ν ν2 := fun o k z => h o k (fun y => z (hE o k y))
theorem OutM.sti {E : Nat → Nat → Prop} {ν ν2 : Mm} (h : OutM E ν ν2) {o k : Nat} {v : Int32} (ho : E o k) : OutM E ν (sti ν2 o k v) := fun o2 k2 z => by
  rw [sti_1, if_neg (show ¬ (o2 = o ∧ k2 = k) from fun y => z (y.1 ▸ y.2 ▸ ho))]
  exact h o2 k2 z
theorem HN.out {ν ν2 : Mm} {V : VS} {L : LT} {E : Nat → Nat → Prop} (h : HN ν V L) (ho : OutM E ν ν2) (hE : ∀ o k, cellM o k → ¬ E o k) : HN ν2 V L := by
  intro c p i hl
  obtain ⟨h1, h2⟩ := h c p i hl
  exact ⟨h1, fun h3 => (ho _ _ (hE _ _ (cellM_of h1 h3))).trans (h2 h3)⟩
/-- those of which the check keeps account: in thought no book, and no blots -/
def liveT (th : Nat) (V : VS) (c p i : Nat) : Prop := live V c p i ∧ (th = 1 → ¬ (23 ≤ c ∧ c ≤ 27) ∧ ¬ (c = 0 ∧ i = 3))
/-- the check holds V -/
def HM (ν : Mm) (th : Nat) (V : VS) : Prop := HN ν V (liveT th V) ∧ (∀ p, p < V 0 0 0 → (ν.1 0 10 >>> (nI p &&& 31)) &&& nI 1 = nI (V 1 p 5)) ∧ ν.1 0 5 = nI th ∧ (th = 0 ∧ ν.1 0 15 = nI (V 20 0 2) ∨ th = 1 ∧ V 20 0 2 = 0)
def cellN (o k : Nat) : Prop := cellM o k ∨ (o = 0 ∧ (k = 5 ∨ k = 10 ∨ k = 15))
theorem HM.out {ν ν2 : Mm} {th : Nat} {V : VS} {E : Nat → Nat → Prop} (h : HM ν th V) (ho : OutM E ν ν2) (hE : ∀ o k, cellN o k → ¬ E o k) : HM ν2 th V := by
  refine ⟨h.1.out ho (fun o k z => hE o k (Or.inl z)), ?_⟩
  rw [ho 0 10 (hE _ _ (Or.inr ⟨rfl, Or.inr (Or.inl rfl)⟩)), ho 0 5 (hE _ _ (Or.inr ⟨rfl, Or.inl rfl⟩)), ho 0 15 (hE _ _ (Or.inr ⟨rfl, Or.inr (Or.inr rfl)⟩))]
  exact h.2
