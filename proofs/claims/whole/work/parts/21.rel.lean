/-! THE STATE BETWEEN: V c p i, a natural number for each component c of person (or version, letter ..) p at place i.
0: V 0 0 k: people, versions, letters on the way, lines of the book, day, freed, cursed, lost, STATE, who wrote. 1: told (town, kind, lazy, paper, coin, stopped). 2: addresses, 3 how many, 4 next, 5 sent, 6 letters held: 7 version, 8 from + 1, 9 due, 10 left. 11: curse of a version, 12 marks, 13 of which + 1, 14 by whom + 1. 15: version of one on the way, 16 from, 17 to, 18 day. 20: copies, term, blots, frost. 21, 22: which versions one had, below 20 and behind. 23: lines of the book: day, version, from, to, what. -/
abbrev VS : Type := Nat → Nat → Nat → Nat
def vset (V : VS) (c p i x : Nat) : VS := fun c2 p2 i2 => if c2 = c ∧ p2 = p ∧ i2 = i then x else V c2 p2 i2
theorem vset_at (V : VS) (c p i x c2 p2 i2 : Nat) : vset V c p i x c2 p2 i2 = if c2 = c ∧ p2 = p ∧ i2 = i then x else V c2 p2 i2 := rfl
theorem vset_eq {V : VS} {c p i x c2 p2 i2 : Nat} (h : c2 = c ∧ p2 = p ∧ i2 = i) : vset V c p i x c2 p2 i2 = x := if_pos h
theorem vset_ne {V : VS} {c p i x c2 p2 i2 : Nat} (h : ¬ (c2 = c ∧ p2 = p ∧ i2 = i)) : vset V c p i x c2 p2 i2 = V c2 p2 i2 := if_neg h
/-- which of them are there -/
def live (V : VS) (c p i : Nat) : Prop := (c = 0 ∧ p = 0 ∧ i < 10) ∨ (c = 1 ∧ p < V 0 0 0 ∧ i < 6) ∨ (c = 2 ∧ p < V 0 0 0 ∧ i < V 3 p 0) ∨ (((3 ≤ c ∧ c ≤ 6) ∨ c = 21 ∨ c = 22) ∧ p < V 0 0 0 ∧ i = 0) ∨ (7 ≤ c ∧ c ≤ 10 ∧ p < V 0 0 0 ∧ i < V 6 p 0) ∨ (11 ≤ c ∧ c ≤ 14 ∧ p = 0 ∧ i < V 0 0 1) ∨ (15 ≤ c ∧ c ≤ 18 ∧ p = 0 ∧ i < V 0 0 2) ∨ (c = 20 ∧ p = 0 ∧ i < 4) ∨ (23 ≤ c ∧ c ≤ 27 ∧ p = 0 ∧ i < V 0 0 3)
/-- where a component may ever lie -/
def pot (c p i : Nat) : Prop := (c = 0 ∧ p = 0 ∧ i < 10) ∨ (c = 1 ∧ p < 16 ∧ i < 6) ∨ (c = 2 ∧ p < 16 ∧ i < 9) ∨ (((3 ≤ c ∧ c ≤ 6) ∨ c = 21 ∨ c = 22) ∧ p < 16 ∧ i = 0) ∨ (7 ≤ c ∧ c ≤ 10 ∧ p < 16 ∧ i < 3) ∨ (11 ≤ c ∧ c ≤ 14 ∧ p = 0 ∧ i < 40) ∨ (15 ≤ c ∧ c ≤ 18 ∧ p = 0 ∧ i < 60) ∨ (c = 20 ∧ p = 0 ∧ i < 4) ∨ (23 ≤ c ∧ c ≤ 27 ∧ p = 0 ∧ i < 200)
/-- what a row of cases over the components asks for -/
theorem pot_cases {c p i : Nat} (h : pot c p i) {Z : Nat → Nat → Nat → Prop}
    (h0 : Z 0 0 0) (h01 : Z 0 0 1) (h02 : Z 0 0 2) (h03 : Z 0 0 3) (h04 : Z 0 0 4) (h05 : Z 0 0 5) (h06 : Z 0 0 6) (h07 : Z 0 0 7) (h08 : Z 0 0 8) (h09 : Z 0 0 9)
    (h10 : ∀ p, p < 16 → Z 1 p 0) (h11 : ∀ p, p < 16 → Z 1 p 1) (h12 : ∀ p, p < 16 → Z 1 p 2) (h13 : ∀ p, p < 16 → Z 1 p 3) (h14 : ∀ p, p < 16 → Z 1 p 4) (h15 : ∀ p, p < 16 → Z 1 p 5)
    (h2 : ∀ p i, p < 16 → i < 9 → Z 2 p i) (h3 : ∀ p, p < 16 → Z 3 p 0) (h4 : ∀ p, p < 16 → Z 4 p 0) (h5 : ∀ p, p < 16 → Z 5 p 0) (h6 : ∀ p, p < 16 → Z 6 p 0)
    (h7 : ∀ p i, p < 16 → i < 3 → Z 7 p i) (h8 : ∀ p i, p < 16 → i < 3 → Z 8 p i) (h9 : ∀ p i, p < 16 → i < 3 → Z 9 p i) (hX : ∀ p i, p < 16 → i < 3 → Z 10 p i)
    (hv11 : ∀ i, i < 40 → Z 11 0 i) (hv12 : ∀ i, i < 40 → Z 12 0 i) (hv13 : ∀ i, i < 40 → Z 13 0 i) (hv14 : ∀ i, i < 40 → Z 14 0 i)
    (hw15 : ∀ i, i < 60 → Z 15 0 i) (hw16 : ∀ i, i < 60 → Z 16 0 i) (hw17 : ∀ i, i < 60 → Z 17 0 i) (hw18 : ∀ i, i < 60 → Z 18 0 i)
    (hr : ∀ i, i < 4 → Z 20 0 i) (h21 : ∀ p, p < 16 → Z 21 p 0) (h22 : ∀ p, p < 16 → Z 22 p 0)
    (hb23 : ∀ i, i < 200 → Z 23 0 i) (hb24 : ∀ i, i < 200 → Z 24 0 i) (hb25 : ∀ i, i < 200 → Z 25 0 i) (hb26 : ∀ i, i < 200 → Z 26 0 i) (hb27 : ∀ i, i < 200 → Z 27 0 i) : Z c p i := by
  rcases h with ⟨rfl, rfl, h⟩ | ⟨rfl, h1, h⟩ | ⟨rfl, h1, h⟩ | ⟨hc, h1, rfl⟩ | ⟨c1, c2, h1, h⟩ | ⟨c1, c2, rfl, h⟩ | ⟨c1, c2, rfl, h⟩ | ⟨rfl, rfl, h⟩ | ⟨c1, c2, rfl, h⟩
  · have : i = 0 ∨ i = 1 ∨ i = 2 ∨ i = 3 ∨ i = 4 ∨ i = 5 ∨ i = 6 ∨ i = 7 ∨ i = 8 ∨ i = 9 := by omega
    rcases this with rfl | rfl | rfl | rfl | rfl | rfl | rfl | rfl | rfl | rfl <;> assumption
  · have : i = 0 ∨ i = 1 ∨ i = 2 ∨ i = 3 ∨ i = 4 ∨ i = 5 := by omega
    rcases this with rfl | rfl | rfl | rfl | rfl | rfl
    · exact h10 p h1
    · exact h11 p h1
    · exact h12 p h1
    · exact h13 p h1
    · exact h14 p h1
    · exact h15 p h1
  · exact h2 p i h1 h
  · have : c = 3 ∨ c = 4 ∨ c = 5 ∨ c = 6 ∨ c = 21 ∨ c = 22 := by omega
    rcases this with rfl | rfl | rfl | rfl | rfl | rfl
    · exact h3 p h1
    · exact h4 p h1
    · exact h5 p h1
    · exact h6 p h1
    · exact h21 p h1
    · exact h22 p h1
  · have : c = 7 ∨ c = 8 ∨ c = 9 ∨ c = 10 := by omega
    rcases this with rfl | rfl | rfl | rfl
    · exact h7 p i h1 h
    · exact h8 p i h1 h
    · exact h9 p i h1 h
    · exact hX p i h1 h
  · have : c = 11 ∨ c = 12 ∨ c = 13 ∨ c = 14 := by omega
    rcases this with rfl | rfl | rfl | rfl
    · exact hv11 i h
    · exact hv12 i h
    · exact hv13 i h
    · exact hv14 i h
  · have : c = 15 ∨ c = 16 ∨ c = 17 ∨ c = 18 := by omega
    rcases this with rfl | rfl | rfl | rfl
    · exact hw15 i h
    · exact hw16 i h
    · exact hw17 i h
    · exact hw18 i h
  · exact hr i h
  · have : c = 23 ∨ c = 24 ∨ c = 25 ∨ c = 26 ∨ c = 27 := by omega
    rcases this with rfl | rfl | rfl | rfl | rfl
    · exact hb23 i h
    · exact hb24 i h
    · exact hb25 i h
    · exact hb26 i h
    · exact hb27 i h
/-- the class's object of a component, from the world on -/
def oC (c p i : Nat) : Nat := match c with
  | 0 => if i = 1 then 2 else if i = 2 then 7 else if i = 3 then 13 else 0
  | 1 => 22 + 9 * p
  | 2 => 23 + 9 * p
  | 3 => 21 + 9 * p
  | 4 => 21 + 9 * p
  | 5 => 21 + 9 * p
  | 6 => 24 + 9 * p
  | 7 => 25 + 9 * p
  | 8 => 26 + 9 * p
  | 9 => 28 + 9 * p
  | 10 => 29 + 9 * p
  | 11 => 3
  | 12 => 4
  | 13 => 5
  | 14 => 6
  | 15 => 8
  | 16 => 9
  | 17 => 10
  | 18 => 11
  | 20 => 19
  | 23 => 14
  | 24 => 15
  | 25 => 16
  | 26 => 17
  | 27 => 18
  | _ => 0
/-- its place there -/
def pC (c i : Nat) : Nat := match c with
  | 0 => if i = 0 then 1 else if i = 1 then 4 else if i = 2 then 5 else if i = 3 then 5 else if i = 8 then 6 else if i = 9 then 11 else i + 3
  | 3 => 3
  | 4 => 4
  | 5 => 5
  | 6 => 5
  | _ => i
/-- what stands for it -/
def eC (c x : Nat) : Int32 := if c = 8 ∨ c = 13 ∨ c = 14 then nI x - nI 1 else nI x
/-- does it lie in the check's row 'now' -/
def inNow (c i : Nat) : Bool := match c with
  | 0 => i != 0
  | 1 => i == 3 || i == 4
  | 2 => false
  | 3 => false
  | 20 => false
  | 23 => false
  | 24 => false
  | 25 => false
  | 26 => false
  | 27 => false
  | _ => true
def pM (c p i : Nat) : Nat := match c with
  | 0 => if i = 0 then 6 else if i = 1 then 6 else if i = 2 then 471 else if i = 3 then 2 else if i = 4 then 0 else if i = 8 then 1 else i - 2
  | 1 => if i = 3 then 183 + p else if i = 4 then 199 + p else p
  | 2 => 9 * p + i
  | 3 => p
  | 4 => 167 + p
  | 5 => 247 + p
  | 6 => 263 + p
  | 7 => 279 + 4 * (3 * p + i)
  | 8 => 279 + 4 * (3 * p + i) + 1
  | 9 => 279 + 4 * (3 * p + i) + 2
  | 10 => 279 + 4 * (3 * p + i) + 3
  | 11 => 7 + i
  | 12 => 47 + i
  | 13 => 87 + i
  | 14 => 127 + i
  | 15 => 472 + 4 * i
  | 16 => 472 + 4 * i + 1
  | 17 => 472 + 4 * i + 2
  | 18 => 472 + 4 * i + 3
  | 21 => 215 + p
  | 22 => 231 + p
  | 23 => 5 * i
  | 24 => 5 * i + 1
  | 25 => 5 * i + 2
  | 26 => 5 * i + 3
  | 27 => 5 * i + 4
  | _ => 13 + i
def oM (c i : Nat) : Nat := match c with
  | 0 => 0
  | 1 => 4 + i
  | 2 => 8
  | 3 => 7
  | 23 => 10
  | 24 => 10
  | 25 => 10
  | 26 => 10
  | 27 => 10
  | _ => 0
def eM (c i x : Nat) : Int32 := if c = 20 ∧ i < 2 then nI x - nI 9 else nI x
/-- any int as a number -/
def uN (x : Int32) : Nat := x.toBitVec.toNat
theorem nI_uN (x : Int32) : nI (uN x) = x := by
  unfold nI uN
  simp
/-- from the class's cell back -/
def dC3 (o k : Nat) : Nat × Nat × Nat :=
  if o = 0 then (0, 0, if k = 1 then 0 else if k = 6 then 8 else if k = 11 then 9 else k - 3) else if o = 2 then (0, 0, 1) else if o = 7 then (0, 0, 2) else if o = 13 then (0, 0, 3) else if o < 7 then (o + 8, 0, k)
  else if o < 12 then (o + 7, 0, k) else if o < 19 then (o + 9, 0, k) else if o = 19 then (20, 0, k)
  else if (o - 21) % 9 = 0 then (k, (o - 21) / 9, 0) else if (o - 21) % 9 = 1 then (1, (o - 21) / 9, k) else if (o - 21) % 9 = 2 then (2, (o - 21) / 9, k) else if (o - 21) % 9 = 3 then (6, (o - 21) / 9, 0) else if (o - 21) % 9 = 4 then (7, (o - 21) / 9, k) else if (o - 21) % 9 = 5 then (8, (o - 21) / 9, k) else if (o - 21) % 9 = 7 then (9, (o - 21) / 9, k) else (10, (o - 21) / 9, k)
theorem dC3_per {o p r k : Nat} (ho : o = 21 + 9 * p + r) (hr : r < 9) : dC3 o k = if r = 0 then (k, p, 0) else if r = 1 then (1, p, k) else if r = 2 then (2, p, k) else if r = 3 then (6, p, 0) else if r = 4 then (7, p, k) else if r = 5 then (8, p, k) else if r = 7 then (9, p, k) else (10, p, k) := by
  subst ho
  have e1 : (21 + 9 * p + r - 21) % 9 = r := by omega
  have e2 : (21 + 9 * p + r - 21) / 9 = p := by omega
  unfold dC3
  rw [e1, e2]
  iterate 8 rw [if_neg (by omega)]
/-- those that lie in a cell of the class's ints -/
def ownC (c : Nat) : Prop := c ≠ 21 ∧ c ≠ 22
theorem dC3_of {c p i : Nat} (h : pot c p i) (h1 : ownC c) : dC3 (oC c p i) (pC c i) = (c, p, i) := by
  revert h1
  refine pot_cases (Z := fun c p i => ownC c → dC3 (oC c p i) (pC c i) = (c, p, i)) h ?h0 ?h01 ?h02 ?h03 ?h04 ?h05 ?h06 ?h07 ?h08 ?h09 ?h10 ?h11 ?h12 ?h13 ?h14 ?h15 ?h2 ?h3 ?h4 ?h5 ?h6 ?h7 ?h8 ?h9 ?hX ?hv11 ?hv12 ?hv13 ?hv14 ?hw15 ?hw16 ?hw17 ?hw18 ?hr ?h21 ?h22 ?hb23 ?hb24 ?hb25 ?hb26 ?hb27
  case h21 => exact fun p _ h1 => absurd rfl h1.1
  case h22 => exact fun p _ h1 => absurd rfl h1.2
  case h2 => exact fun p i _ _ _ => dC3_per (r := 2) (by show 23 + 9 * p = _; omega) (by decide)
  case h3 => exact fun p _ _ => dC3_per (r := 0) (by show 21 + 9 * p = _; omega) (by decide)
  case h4 => exact fun p _ _ => dC3_per (r := 0) (by show 21 + 9 * p = _; omega) (by decide)
  case h5 => exact fun p _ _ => dC3_per (r := 0) (by show 21 + 9 * p = _; omega) (by decide)
  case h6 => exact fun p _ _ => dC3_per (r := 3) (by show 24 + 9 * p = _; omega) (by decide)
  case h7 => exact fun p i _ _ _ => dC3_per (r := 4) (by show 25 + 9 * p = _; omega) (by decide)
  case h8 => exact fun p i _ _ _ => dC3_per (r := 5) (by show 26 + 9 * p = _; omega) (by decide)
  case h9 => exact fun p i _ _ _ => dC3_per (r := 7) (by show 28 + 9 * p = _; omega) (by decide)
  case hX => exact fun p i _ _ _ => dC3_per (r := 8) (by show 29 + 9 * p = _; omega) (by decide)
  all_goals first
    | exact fun _ => rfl
    | exact fun i _ _ => rfl
    | exact fun p _ _ => dC3_per (r := 1) (by show 22 + 9 * p = _; omega) (by decide)
/-- two in one cell are one -/
theorem oC_inj {c p i c2 p2 i2 : Nat} (h : pot c p i) (h1 : ownC c) (h2 : pot c2 p2 i2) (h3 : ownC c2) (e : oC c p i = oC c2 p2 i2) (e2 : pC c i = pC c2 i2) : c2 = c ∧ p2 = p ∧ i2 = i := by
  have := dC3_of h h1
  rw [e, e2, dC3_of h2 h3] at this
  cases this
  exact ⟨rfl, rfl, rfl⟩
abbrev LT : Type := Nat → Nat → Nat → Prop
/-- the cells of the triples of L hold V -/
def HP (μ : Mm) (w : Nat) (V : VS) (L : LT) : Prop := ∀ c p i, L c p i → pot c p i ∧ (ownC c → μ.1 (w + oC c p i) (pC c i) = eC c (V c p i))
def lput (L : LT) (c p i : Nat) : LT := fun c2 p2 i2 => (c2 = c ∧ p2 = p ∧ i2 = i) ∨ L c2 p2 i2
theorem HP.put {μ : Mm} {w : Nat} {V : VS} {L : LT} (h : HP μ w V L) (c p i x : Nat) {o k : Nat} {v : Int32} (hp : pot c p i) (ho : o = w + oC c p i) (hk : k = pC c i) (hv : v = eC c x) (h1 : ownC c) : HP (sti μ o k v) w (vset V c p i x) (lput L c p i) := by
  subst ho hk hv
  intro c2 p2 i2 hl
  by_cases e : c2 = c ∧ p2 = p ∧ i2 = i
  · obtain ⟨rfl, rfl, rfl⟩ := e
    exact ⟨hp, fun _ => by rw [sti_1, vset_eq ⟨rfl, rfl, rfl⟩, if_pos ⟨rfl, rfl⟩]⟩
  · rcases hl with hl | hl
    · exact absurd hl e
    · obtain ⟨h2, h3⟩ := h _ _ _ hl
      refine ⟨h2, fun h4 => ?_⟩
      rw [sti_1, vset_ne e, if_neg (fun z => e (by have := oC_inj hp h1 h2 h4 (by omega) z.2.symm; exact this))]
      exact h3 h4
theorem HP.mono {μ : Mm} {w : Nat} {V V2 : VS} {L L2 : LT} (h : HP μ w V L) (hL : ∀ c p i, L2 c p i → L c p i) (hV : ∀ c p i, L2 c p i → ownC c → V2 c p i = V c p i) : HP μ w V2 L2 := fun c p i hl => ⟨(h c p i (hL c p i hl)).1, fun h1 => by rw [hV c p i hl h1]; exact (h c p i (hL c p i hl)).2 h1⟩
/-- a component that no int of the class's holds -/
theorem HP.putN {μ : Mm} {w : Nat} {V : VS} {L : LT} (h : HP μ w V L) (c p i x : Nat) (hp : pot c p i) (h1 : ¬ ownC c) : HP μ w (vset V c p i x) (lput L c p i) := by
  intro c2 p2 i2 hl
  by_cases e : c2 = c ∧ p2 = p ∧ i2 = i
  · obtain ⟨rfl, rfl, rfl⟩ := e
    exact ⟨hp, fun z => absurd z h1⟩
  · rcases hl with hl | hl
    · exact absurd hl e
    · obtain ⟨h2, h3⟩ := h _ _ _ hl
      exact ⟨h2, fun h4 => by rw [vset_ne e]; exact h3 h4⟩
theorem oC_lt {c p i : Nat} (h : pot c p i) : oC c p i < 165 := by
  refine pot_cases (Z := fun c p i => oC c p i < 165) h ?h0 ?h01 ?h02 ?h03 ?h04 ?h05 ?h06 ?h07 ?h08 ?h09 ?h10 ?h11 ?h12 ?h13 ?h14 ?h15 ?h2 ?h3 ?h4 ?h5 ?h6 ?h7 ?h8 ?h9 ?hX ?hv11 ?hv12 ?hv13 ?hv14 ?hw15 ?hw16 ?hw17 ?hw18 ?hr ?h21 ?h22 ?hb23 ?hb24 ?hb25 ?hb26 ?hb27
  all_goals first
    | exact (show (_ : Nat) < 165 from by decide)
    | (intro i _; exact (show (_ : Nat) < 165 from by decide))
    | (intro p hp; simp only [oC]; omega)
    | (intro p i hp hi; simp only [oC]; omega)
/-- cells that bear no component -/
def freeC (o : Nat) : Prop := o = 1 ∨ o = 12 ∨ o = 20 ∨ (21 ≤ o ∧ (o - 21) % 9 = 6)
theorem freeC_of {c p i o k : Nat} (hf : freeC o) (h : pot c p i) (h1 : ownC c) : ¬ (oC c p i = o ∧ pC c i = k) := by
  revert h1
  refine pot_cases (Z := fun c p i => ownC c → ¬ (oC c p i = o ∧ pC c i = k)) h ?h0 ?h01 ?h02 ?h03 ?h04 ?h05 ?h06 ?h07 ?h08 ?h09 ?h10 ?h11 ?h12 ?h13 ?h14 ?h15 ?h2 ?h3 ?h4 ?h5 ?h6 ?h7 ?h8 ?h9 ?hX ?hv11 ?hv12 ?hv13 ?hv14 ?hw15 ?hw16 ?hw17 ?hw18 ?hr ?h21 ?h22 ?hb23 ?hb24 ?hb25 ?hb26 ?hb27
  all_goals unfold freeC at hf
  case h21 => exact fun p _ h1 => absurd rfl h1.1
  case h22 => exact fun p _ h1 => absurd rfl h1.2
  all_goals (intros; simp only [oC, pC, Nat.reduceEqDiff, if_true, if_false]; omega)
theorem HP.free {μ : Mm} {w : Nat} {V : VS} {L : LT} {o k : Nat} (h : HP μ w V L) (v : Int32) (hw : w ≤ o) (hf : freeC (o - w)) : HP (sti μ o k v) w V L := by
  intro c p i hl
  obtain ⟨h1, h2⟩ := h _ _ _ hl
  refine ⟨h1, fun h3 => ?_⟩
  rw [sti_1, if_neg (fun z => freeC_of hf h1 h3 ⟨by omega, z.2⟩)]
  exact h2 h3
/-- what else is not touched -/
def Out (E : Nat → Prop) (μ μ2 : Mm) : Prop := ∀ o, ¬ E o → (∀ k, μ2.1 o k = μ.1 o k) ∧ ∀ k, μ2.2 o k = μ.2 o k
theorem Out.rf {E : Nat → Prop} {μ : Mm} : Out E μ μ := fun _ _ => ⟨fun _ => rfl, fun _ => rfl⟩
theorem Out.tr {E : Nat → Prop} {μ μ2 μ3 : Mm} (h : Out E μ μ2) (h2 : Out E μ2 μ3) : Out E μ μ3 := fun o ho => ⟨fun k => ((h2 o ho).1 k).trans ((h o ho).1 k), fun k => ((h2 o ho).2 k).trans ((h o ho).2 k)⟩
theorem Out.mono {E E2 : Nat → Prop} {μ μ2 : Mm} (h : Out E μ μ2) (hE : ∀ o, E o → E2 o) : Out E2 μ μ2 := fun o ho => h o (fun z => ho (hE o z))
theorem Out.sti {E : Nat → Prop} {μ μ2 : Mm} (h : Out E μ μ2) {o k : Nat} {v : Int32} (ho : E o) : Out E μ (sti μ2 o k v) := fun o2 h2 => ⟨fun k2 => by rw [sti_1, if_neg (show ¬ (o2 = o ∧ k2 = k) from fun z => h2 (z.1 ▸ ho))]; exact (h o2 h2).1 k2, fun k2 => (h o2 h2).2 k2⟩
theorem Out.stl {E : Nat → Prop} {μ μ2 : Mm} (h : Out E μ μ2) {o k : Nat} {v : Int64} (ho : E o) : Out E μ (stl μ2 o k v) := fun o2 h2 => ⟨fun k2 => (h o2 h2).1 k2, fun k2 => by rw [stl_2, if_neg (show ¬ (o2 = o ∧ k2 = k) from fun z => h2 (z.1 ▸ ho))]; exact (h o2 h2).2 k2⟩
theorem Out.cpy {E : Nat → Prop} {μ μ2 : Mm} (h : Out E μ μ2) {a sp b dp n : Nat} (ho : E b) : Out E μ (cpy μ2 a sp b dp n) := fun o2 h2 => ⟨fun k2 => by
  show (if o2 = b then _ else _) = _
  rw [if_neg (show ¬ o2 = b from fun z => h2 (z ▸ ho))]; exact (h o2 h2).1 k2, fun k2 => (h o2 h2).2 k2⟩
def inW (w o : Nat) : Prop := w ≤ o ∧ o < w + 165
theorem HP.out {μ μ2 : Mm} {w : Nat} {V : VS} {L : LT} {E : Nat → Prop} (h : HP μ w V L) (ho : Out E μ μ2) (hE : ∀ o, inW w o → ¬ E o) : HP μ2 w V L := by
  intro c p i hl
  obtain ⟨h1, h2⟩ := h _ _ _ hl
  have hb := oC_lt h1
  exact ⟨h1, fun h3 => ((ho _ (hE _ ⟨by omega, by omega⟩)).1 _).trans (h2 h3)⟩
/-- had, as the class has it -/
def h64 (a b : Nat) : Int64 := Int64.ofNat (a + 2 ^ 20 * b)
/-- the world at w holds V -/
def HC (μ : Mm) (w : Nat) (V : VS) : Prop := HP μ w V (live V) ∧ sK SC w = 9 ∧ ∀ p, p < V 0 0 0 → μ.2 (w + (21 + 9 * p)) 6 = h64 (V 21 p 0) (V 22 p 0)
theorem HC.out {μ μ2 : Mm} {w : Nat} {V : VS} {E : Nat → Prop} (h : HC μ w V) (ho : Out E μ μ2) (hE : ∀ o, inW w o → ¬ E o) : HC μ2 w V := by
  refine ⟨h.1.out ho hE, h.2.1, fun p hp => ?_⟩
  have h1 := (h.1 21 p 0 (by unfold live; omega)).1
  have h2 : p < 16 := by unfold pot at h1; omega
  exact ((ho _ (hE _ ⟨by omega, by omega⟩)).2 _).trans (h.2.2 p hp)
