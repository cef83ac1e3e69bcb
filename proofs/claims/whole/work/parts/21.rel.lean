/-! THE STATE BETWEEN: V c p i, a natural number for each component c of person (or version, letter ..) p at place i.
0: V 0 0 k: people, versions, letters on the way, -, day, freed, cursed, lost. 1: told (town, kind, lazy, paper, coin, stopped). 2: addresses, 3 how many, 4 next, 5 sent, 6 letters held: 7 version, 8 from + 1, 9 due, 10 left. 11: curse of a version, 12 marks, 13 of which + 1, 14 by whom + 1. 15: version of one on the way, 16 from, 17 to, 18 day. 20: copies, term, blots, frost. -/
abbrev VS : Type := Nat → Nat → Nat → Nat
def vset (V : VS) (c p i x : Nat) : VS := fun c2 p2 i2 => if c2 = c ∧ p2 = p ∧ i2 = i then x else V c2 p2 i2
theorem vset_at (V : VS) (c p i x c2 p2 i2 : Nat) : vset V c p i x c2 p2 i2 = if c2 = c ∧ p2 = p ∧ i2 = i then x else V c2 p2 i2 := rfl
/-- which of them are there -/
def live (V : VS) (c p i : Nat) : Prop := match c with
  | 0 => p = 0 ∧ i < 8 ∧ i ≠ 3
  | 1 => p < V 0 0 0 ∧ i < 6
  | 2 => p < V 0 0 0 ∧ i < V 3 p 0
  | 3 => p < V 0 0 0 ∧ i = 0
  | 4 => p < V 0 0 0 ∧ i = 0
  | 5 => p < V 0 0 0 ∧ i = 0
  | 6 => p < V 0 0 0 ∧ i = 0
  | 7 => p < V 0 0 0 ∧ i < V 6 p 0
  | 8 => p < V 0 0 0 ∧ i < V 6 p 0
  | 9 => p < V 0 0 0 ∧ i < V 6 p 0
  | 10 => p < V 0 0 0 ∧ i < V 6 p 0
  | 11 => p = 0 ∧ i < V 0 0 1
  | 12 => p = 0 ∧ i < V 0 0 1
  | 13 => p = 0 ∧ i < V 0 0 1
  | 14 => p = 0 ∧ i < V 0 0 1
  | 15 => p = 0 ∧ i < V 0 0 2
  | 16 => p = 0 ∧ i < V 0 0 2
  | 17 => p = 0 ∧ i < V 0 0 2
  | 18 => p = 0 ∧ i < V 0 0 2
  | 20 => p = 0 ∧ i < 4
  | _ => False
/-- the class's object of a component, from the world on -/
def oC (c p i : Nat) : Nat := match c with
  | 0 => if i = 1 then 2 else if i = 2 then 7 else 0
  | 1 => 22 + 9 * p
  | 2 => 23 + 9 * p
  | 3 => 21 + 9 * p
  | 4 => 21 + 9 * p
  | 5 => 21 + 9 * p
  | 6 => 24 + 9 * p
  | 7 => 25 + 9 * p
  | 8 => 26 + 9 * p
  | 9 => 28 + 9 * p
  | 10 => 29 + 9 * p
  | 11 => 3
  | 12 => 4
  | 13 => 5
  | 14 => 6
  | 15 => 8
  | 16 => 9
  | 17 => 10
  | 18 => 11
  | _ => 19
/-- its place there -/
def pC (c i : Nat) : Nat := match c with
  | 0 => if i = 0 then 1 else if i = 1 then 4 else if i = 2 then 5 else i + 3
  | 3 => 3
  | 4 => 4
  | 5 => 5
  | 6 => 5
  | _ => i
/-- what stands for it -/
def eC (c x : Nat) : Int32 := if c = 8 ∨ c = 13 ∨ c = 14 then nI x - nI 1 else nI x
/-- the check's row 'now' -/
def inNow (c i : Nat) : Bool := match c with
  | 0 => i != 0
  | 1 => i == 3 || i == 4
  | 2 => false
  | 3 => false
  | 20 => false
  | _ => true
def pM (c p i : Nat) : Nat := match c with
  | 0 => if i = 0 then 6 else if i = 1 then 6 else if i = 2 then 471 else if i = 4 then 0 else i - 2
  | 1 => if i = 3 then 183 + p else if i = 4 then 199 + p else p
  | 2 => 9 * p + i
  | 3 => p
  | 4 => 167 + p
  | 5 => 247 + p
  | 6 => 263 + p
  | 7 => 279 + 4 * (3 * p + i)
  | 8 => 280 + 4 * (3 * p + i)
  | 9 => 281 + 4 * (3 * p + i)
  | 10 => 282 + 4 * (3 * p + i)
  | 11 => 7 + i
  | 12 => 47 + i
  | 13 => 87 + i
  | 14 => 127 + i
  | 15 => 472 + 4 * i
  | 16 => 473 + 4 * i
  | 17 => 474 + 4 * i
  | 18 => 475 + 4 * i
  | _ => 13 + i
def oM (c i : Nat) : Nat := match c with
  | 0 => 0
  | 1 => 4 + i
  | 2 => 8
  | 3 => 7
  | _ => 0
def eM (c i x : Nat) : Int32 := if c = 20 ∧ i < 2 then nI x - nI 9 else nI x
/-- what holds of every state -/
def WF (V : VS) : Prop := V 0 0 0 ≤ 16 ∧ V 0 0 1 ≤ 40 ∧ V 0 0 2 ≤ 60 ∧ V 0 0 4 ≤ 10300 ∧
  (∀ p, p < V 0 0 0 → V 1 p 0 < 6 ∧ V 1 p 1 < 3 ∧ V 1 p 2 < 100 ∧ V 1 p 3 < 100 ∧ V 1 p 4 < 10000 ∧ V 1 p 5 < 2 ∧ V 3 p 0 ≤ 9 ∧ V 4 p 0 ≤ V 3 p 0 ∧ (0 < V 3 p 0 → V 4 p 0 < V 3 p 0) ∧ V 5 p 0 < 65536 ∧ V 6 p 0 ≤ 3) ∧
  (∀ p i, p < V 0 0 0 → i < V 3 p 0 → V 2 p i < V 0 0 0 ∧ V 2 p i ≠ p) ∧
  (∀ p i, p < V 0 0 0 → i < V 6 p 0 → V 7 p i < V 0 0 1 ∧ V 8 p i ≤ V 0 0 0 ∧ V 9 p i ≤ 10400 ∧ 1 ≤ V 10 p i ∧ V 10 p i ≤ 9) ∧
  (∀ v, v < V 0 0 1 → V 11 0 v < 10 ∧ V 12 0 v < 1024 ∧ V 13 0 v ≤ v ∧ V 14 0 v ≤ V 0 0 0) ∧
  (∀ i, i < V 0 0 2 → V 15 0 i < V 0 0 1 ∧ V 16 0 i < V 0 0 0 ∧ V 17 0 i < V 0 0 0 ∧ V 18 0 i ≤ 10400) ∧
  1 ≤ V 20 0 0 ∧ V 20 0 0 ≤ 9 ∧ 1 ≤ V 20 0 1 ∧ V 20 0 1 ≤ 20 ∧ V 20 0 2 ≤ 1000 ∧ V 20 0 3 < 2
/-- where a component may ever lie -/
def pot (c p i : Nat) : Prop := match c with
  | 0 => p = 0 ∧ i < 8 ∧ i ≠ 3
  | 1 => p < 16 ∧ i < 6
  | 2 => p < 16 ∧ i < 9
  | 3 => p < 16 ∧ i = 0
  | 4 => p < 16 ∧ i = 0
  | 5 => p < 16 ∧ i = 0
  | 6 => p < 16 ∧ i = 0
  | 7 => p < 16 ∧ i < 3
  | 8 => p < 16 ∧ i < 3
  | 9 => p < 16 ∧ i < 3
  | 10 => p < 16 ∧ i < 3
  | 11 => p = 0 ∧ i < 40
  | 12 => p = 0 ∧ i < 40
  | 13 => p = 0 ∧ i < 40
  | 14 => p = 0 ∧ i < 40
  | 15 => p = 0 ∧ i < 60
  | 16 => p = 0 ∧ i < 60
  | 17 => p = 0 ∧ i < 60
  | 18 => p = 0 ∧ i < 60
  | 20 => p = 0 ∧ i < 4
  | _ => False
theorem live_pot {V : VS} {c p i : Nat} (hw : WF V) (h : live V c p i) : pot c p i := by
  obtain ⟨w1, w2, w3, w4, w5, w6, w7, w8, w9, w10⟩ := hw
  unfold live at h
  unfold pot
  split at h
  case h_1 => exact h
  case h_2 => exact ⟨by omega, h.2⟩
  case h_3 => have := (w5 p h.1).2.2.2.2.2.2.1; exact ⟨by omega, by omega⟩
  case h_4 => exact ⟨by omega, h.2⟩
  case h_5 => exact ⟨by omega, h.2⟩
  case h_6 => exact ⟨by omega, h.2⟩
  case h_7 => exact ⟨by omega, h.2⟩
  case h_8 => have := (w5 p h.1).2.2.2.2.2.2.2.2.2.2; exact ⟨by omega, by omega⟩
  case h_9 => have := (w5 p h.1).2.2.2.2.2.2.2.2.2.2; exact ⟨by omega, by omega⟩
  case h_10 => have := (w5 p h.1).2.2.2.2.2.2.2.2.2.2; exact ⟨by omega, by omega⟩
  case h_11 => have := (w5 p h.1).2.2.2.2.2.2.2.2.2.2; exact ⟨by omega, by omega⟩
  case h_20 => exact h
  case h_21 => exact h.elim
  all_goals exact ⟨h.1, by omega⟩
/-- from the class's cell back -/
def dC3 (o k : Nat) : Nat × Nat × Nat :=
  if o = 0 then (0, 0, if k = 1 then 0 else k - 3) else if o = 2 then (0, 0, 1) else if o = 7 then (0, 0, 2) else if o = 3 then (11, 0, k) else if o = 4 then (12, 0, k) else if o = 5 then (13, 0, k) else if o = 6 then (14, 0, k)
  else if o = 8 then (15, 0, k) else if o = 9 then (16, 0, k) else if o = 10 then (17, 0, k) else if o = 11 then (18, 0, k) else if o = 19 then (20, 0, k)
  else if (o - 21) % 9 = 0 then (k, (o - 21) / 9, 0) else if (o - 21) % 9 = 1 then (1, (o - 21) / 9, k) else if (o - 21) % 9 = 2 then (2, (o - 21) / 9, k) else if (o - 21) % 9 = 3 then (6, (o - 21) / 9, 0) else if (o - 21) % 9 = 4 then (7, (o - 21) / 9, k) else if (o - 21) % 9 = 5 then (8, (o - 21) / 9, k) else if (o - 21) % 9 = 7 then (9, (o - 21) / 9, k) else (10, (o - 21) / 9, k)
theorem dC3_per {p r k : Nat} (hr : r < 9) : dC3 (21 + 9 * p + r) k = if r = 0 then (k, p, 0) else if r = 1 then (1, p, k) else if r = 2 then (2, p, k) else if r = 3 then (6, p, 0) else if r = 4 then (7, p, k) else if r = 5 then (8, p, k) else if r = 7 then (9, p, k) else (10, p, k) := by
  have e1 : (21 + 9 * p + r - 21) % 9 = r := by omega
  have e2 : (21 + 9 * p + r - 21) / 9 = p := by omega
  unfold dC3
  rw [e1, e2]
  iterate 12 rw [if_neg (by omega)]
theorem dC3_of {c p i : Nat} (h : pot c p i) : dC3 (oC c p i) (pC c i) = (c, p, i) := by
  unfold pot at h
  split at h
  · obtain ⟨rfl, h1, h2⟩ := h
    have : i = 0 ∨ i = 1 ∨ i = 2 ∨ i = 4 ∨ i = 5 ∨ i = 6 ∨ i = 7 := by omega
    rcases this with rfl | rfl | rfl | rfl | rfl | rfl | rfl <;> rfl
  · rw [show oC 1 p i = 21 + 9 * p + 1 by simp only [oC]; omega, dC3_per (by decide)]; rfl
  · rw [show oC 2 p i = 21 + 9 * p + 2 by simp only [oC]; omega, dC3_per (by decide)]; rfl
  · rw [show oC 3 p i = 21 + 9 * p + 0 by simp only [oC]; omega, dC3_per (by decide), h.2]; rfl
  · rw [show oC 4 p i = 21 + 9 * p + 0 by simp only [oC]; omega, dC3_per (by decide), h.2]; rfl
  · rw [show oC 5 p i = 21 + 9 * p + 0 by simp only [oC]; omega, dC3_per (by decide), h.2]; rfl
  · rw [show oC 6 p i = 21 + 9 * p + 3 by simp only [oC]; omega, dC3_per (by decide), h.2]; rfl
  · rw [show oC 7 p i = 21 + 9 * p + 4 by simp only [oC]; omega, dC3_per (by decide)]; rfl
  · rw [show oC 8 p i = 21 + 9 * p + 5 by simp only [oC]; omega, dC3_per (by decide)]; rfl
  · rw [show oC 9 p i = 21 + 9 * p + 7 by simp only [oC]; omega, dC3_per (by decide)]; rfl
  · rw [show oC 10 p i = 21 + 9 * p + 8 by simp only [oC]; omega, dC3_per (by decide)]; rfl
  all_goals first
    | (obtain ⟨rfl, h1⟩ := h; rfl)
    | exact h.elim
/-- two in one cell are one -/
theorem oC_inj {c p i c2 p2 i2 : Nat} (h : pot c p i) (h2 : pot c2 p2 i2) (e : oC c p i = oC c2 p2 i2) (e2 : pC c i = pC c2 i2) : c = c2 ∧ p = p2 ∧ i = i2 := by
  have := dC3_of h
  rw [e, e2, dC3_of h2] at this
  cases this
  exact ⟨rfl, rfl, rfl⟩
abbrev LT : Type := Nat → Nat → Nat → Prop
/-- the cells of the triples of L hold V -/
def HP (μ : Mm) (w : Nat) (V : VS) (L : LT) : Prop := ∀ c p i, L c p i → pot c p i ∧ μ.1 (w + oC c p i) (pC c i) = eC c (V c p i)
def lput (L : LT) (c p i : Nat) : LT := fun c2 p2 i2 => (c2 = c ∧ p2 = p ∧ i2 = i) ∨ L c2 p2 i2
theorem HP.put {μ : Mm} {w : Nat} {V : VS} {L : LT} (h : HP μ w V L) {c p i : Nat} (x : Nat) (hp : pot c p i) : HP (sti μ (w + oC c p i) (pC c i) (eC c x)) w (vset V c p i x) (lput L c p i) := by
  intro c2 p2 i2 hl
  by_cases e : c2 = c ∧ p2 = p ∧ i2 = i
  · obtain ⟨rfl, rfl, rfl⟩ := e
    exact ⟨hp, by rw [sti_1, vset_at]; simp⟩
  · rcases hl with hl | hl
    · exact absurd hl e
    · obtain ⟨h1, h2⟩ := h _ _ _ hl
      refine ⟨h1, ?_⟩
      rw [sti_1, vset_at, if_neg e, if_neg (fun z => e (oC_inj h1 hp (by omega) z.2))]
      exact h2
theorem HP.mono {μ : Mm} {w : Nat} {V V2 : VS} {L L2 : LT} (h : HP μ w V L) (hL : ∀ c p i, L2 c p i → L c p i) (hV : ∀ c p i, L2 c p i → V2 c p i = V c p i) : HP μ w V2 L2 := fun c p i hl => ⟨(h c p i (hL c p i hl)).1, by rw [hV c p i hl]; exact (h c p i (hL c p i hl)).2⟩
/-- the world at w holds what is there of V -/
def HC (μ : Mm) (w : Nat) (V : VS) : Prop := HP μ w V (live V)
/-- a cell that bears no component -/
def freeC (o k : Nat) : Prop := ∀ (c p i : Nat), pot c p i → ¬ (oC c p i = o ∧ pC c i = k)
theorem HP.free {μ : Mm} {w : Nat} {V : VS} {L : LT} {o k : Nat} (h : HP μ w V L) (v : Int32) (hf : freeC o k) : HP (sti μ (w + o) k v) w V L := by
  intro c p i hl
  obtain ⟨h1, h2⟩ := h _ _ _ hl
  refine ⟨h1, ?_⟩
  rw [sti_1, if_neg (fun z => hf c p i h1 ⟨by omega, z.2⟩)]
  exact h2
theorem oC_lt {c p i : Nat} (h : pot c p i) : oC c p i < 165 := by
  unfold pot at h
  split at h <;> simp only [oC] <;> (try split) <;> (try split) <;> (try omega)
theorem HP.out {μ : Mm} {w : Nat} {V : VS} {L : LT} {o k : Nat} {v : Int32} (h : HP μ w V L) (hf : o < w ∨ w + 165 ≤ o) : HP (sti μ o k v) w V L := by
  intro c p i hl
  obtain ⟨h1, h2⟩ := h _ _ _ hl
  have hb := oC_lt h1
  refine ⟨h1, ?_⟩
  rw [sti_1, if_neg (fun z => by omega)]
  exact h2
