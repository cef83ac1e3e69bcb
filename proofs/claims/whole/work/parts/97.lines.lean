/-! LINES in plain words: of a law, of the post -/
def bX {α β : Type} (r : (Nat × Nat) ⊕ α) (f : α → (Nat × Nat) ⊕ β) : (Nat × Nat) ⊕ β := match r with
  | .inl e => .inl e
  | .inr x => f x
abbrev LnT : Type := List (Nat × Nat × Nat)
def lnG (D : LnT) (l : Nat) : Nat × Nat × Nat := D.getD l (0, 0, 0)
theorem lnG_l {D q : LnT} {k : Nat} (h : k < D.length) : lnG (D ++ q) k = lnG D k := by
  unfold lnG
  rw [List.getD_eq_getElem?_getD, List.getD_eq_getElem?_getD, List.getElem?_append_left h]
theorem lnG_e {D : LnT} {s : Nat × Nat × Nat} : lnG (D ++ [s]) D.length = s := by
  unfold lnG
  rw [List.getD_eq_getElem?_getD, List.getElem?_append_right (Nat.le_refl _), Nat.sub_self]
  rfl
theorem lnl_1 (D : LnT) (s : Nat × Nat × Nat) : (D ++ [s]).length = D.length + 1 := by
  rw [List.length_append]
  rfl
section
variable (K V : Nat → Nat) (m N kw : Nat)
/-- what stands behind 'when', or nothing -/
def pWh (i : Nat) (L : List Nat) : PR := if K i = 302 then pKo K N (pT K V m N 8) (i + 1) L else .inr (i, L)
def pLw : Nat → Nat → List Nat → LnT → (Nat × Nat) ⊕ (List Nat × LnT)
  | 0, _, L, D => .inr (L, D)
  | f + 1, i, L, D => if K i = 256 then .inr (L, D) else if K i = kw ∧ D.length = 16 then .inl (3, i) else
    bX (tkR K kw i L) fun x1 => bX (pS K V m N x1.1 x1.2) fun x2 => bX (pWh K V m N x2.1 x2.2) fun x3 => bX (tkR K 59 x3.1 x3.2) fun x4 => pLw f x4.1 x4.2 (D ++ [(L.length, x2.2.length, x4.2.length)])
def tkP (c i : Nat) : (Nat × Nat) ⊕ Nat := if K i = c then .inr (i + 1) else .inl (1, i)
def tnP (a b i : Nat) : (Nat × Nat) ⊕ Nat := if K i = 257 then (if a ≤ V i ∧ V i ≤ b then .inr (i + 1) else .inl (2, i)) else .inl (1, i)
def mpF (M : Nat → Nat → Nat) (a b u : Nat) : Nat → Nat → Nat := fun x y => if (x = a ∧ y = b) ∨ (x = b ∧ y = a) then u else M x y
def pPs : Nat → Nat → Nat → (Nat → Nat → Nat) → (Nat × Nat) ⊕ (Nat × (Nat → Nat → Nat))
  | 0, _, q, M => .inr (q, M)
  | f + 1, i, q, M => if K i = 256 then .inr (q, M) else
    bX (tkP K 306 i) fun i1 => bX (tnP K V 0 5 i1) fun i2 => bX (tkP K 307 i2) fun i3 => bX (tnP K V 0 5 i3) fun i4 => bX (tkP K 308 i4) fun i5 => bX (tnP K V 1 20 i5) fun i6 => bX (tkP K 59 i6) fun i7 => pPs f i7 (q + 1) (mpF M (V i1) (V i3) (V i5))
end
/-- a law out of its steps and lines -/
def ldD (L : List Nat) (D : LnT) : LD := ((D.length, L.length), gF L, (fun l => (lnG D l).1), (fun l => (lnG D l).2.1), (fun l => (lnG D l).2.2))
/-- lines that are read -/
def LX (m : Nat) (L : List Nat) (D : LnT) : Prop := D.length ≤ 16 ∧ (∀ s, s ∈ L → s < 20306) ∧ ∀ l, l < D.length → Num m (gF L) (lnG D l).1 (lnG D l).2.1 22 ∧ ((lnG D l).2.1 = (lnG D l).2.2 ∨ Boo m (gF L) (lnG D l).2.1 (lnG D l).2.2 22) ∧ (lnG D l).2.1 ≤ (lnG D l).2.2 ∧ (lnG D l).2.2 ≤ L.length
theorem gF_mem {L : List Nat} (h : ∀ s, s ∈ L → s < 20306) {i : Nat} (hi : i < L.length) : gF L i < 20306 := by
  unfold gF
  rw [List.getD_eq_getElem?_getD, List.getElem?_eq_getElem hi]
  exact h _ (List.getElem_mem hi)
theorem LX.w {m : Nat} {L : List Nat} {D : LnT} (h : LX m L D) (hl : L.length ≤ 400) : LW m (ldD L D) := ⟨h.1, hl, fun i hi => gF_mem h.2.1 hi, fun l hl => h.2.2 l hl⟩
theorem LX.rf {m : Nat} : LX m [] [] := ⟨by decide, fun s hs => absurd hs List.not_mem_nil, fun l hl => absurd hl (Nat.not_lt_zero l)⟩
theorem LX.app {m : Nat} {L q : List Nat} {D : LnT} (h : LX m L D) (hq : ∀ s, s ∈ q → s < 20306) : LX m (L ++ q) D := by
  obtain ⟨a, b, d⟩ := h
  refine ⟨a, fun s hs => ?_, fun l hl => ?_⟩
  · rcases List.mem_append.1 hs with z | z
    · exact b s z
    · exact hq s z
  · obtain ⟨d1, d2, d3, d4⟩ := d l hl
    refine ⟨d1.S2 (fun i hi => gF_l (by omega)), ?_, d3, by rw [List.length_append]; omega⟩
    rcases d2 with z | z
    · exact Or.inl z
    · exact Or.inr (z.S2 (fun i hi => gF_l (by omega)))
section
variable {K V : Nat → Nat} {m N kw : Nat}
theorem pWh_ok (hE : ∀ i, i < N → K i ≠ 256 → i + 1 < N) (hV : ∀ i, V i ≤ 9999) (hm : m ≤ 11) {i : Nat} (hi : i < N) (L : List Nat) {j : Nat} {l : List Nat} (h : pWh K V m N i L = .inr (j, l)) : i ≤ j ∧ j < N ∧ l.length + i ≤ L.length + j ∧ (∃ q, l = L ++ q ∧ ∀ s, s ∈ q → s < 20306) ∧ (L.length = l.length ∨ Boo m (gF l) L.length l.length 22) := by
  unfold pWh at h
  by_cases c : K i = 302
  · rw [if_pos c] at h
    have gr := Gr.get (pKo8_ok (m := m) (V := V) hE hV hm (hE i hi (by omega)) L) h
    obtain ⟨g1, g2, g3, g4, g5⟩ := gr
    exact ⟨by omega, g2, by omega, g4, Or.inr g5⟩
  · rw [if_neg c] at h
    cases h
    exact ⟨Nat.le_refl _, hi, Nat.le_refl _, ex_rf, Or.inl rfl⟩
theorem pLw_ok (hE : ∀ i, i < N → K i ≠ 256 → i + 1 < N) (hV : ∀ i, V i ≤ 9999) (hm : m ≤ 11) (f : Nat) : ∀ i L D, i < N → L.length ≤ i → LX m L D → ∀ L2 D2, pLw K V m N kw f i L D = .inr (L2, D2) → LX m L2 D2 ∧ L2.length < N := by
  induction f with
  | zero =>
    intro i L D hi hl hx L2 D2 h
    cases h
    exact ⟨hx, by omega⟩
  | succ f ih =>
    intro i L D hi hl hx L2 D2 h
    have h : (if K i = 256 then .inr (L, D) else if K i = kw ∧ D.length = 16 then .inl (3, i) else bX (tkR K kw i L) fun x1 => bX (pS K V m N x1.1 x1.2) fun x2 => bX (pWh K V m N x2.1 x2.2) fun x3 => bX (tkR K 59 x3.1 x3.2) fun x4 => pLw K V m N kw f x4.1 x4.2 (D ++ [(L.length, x2.2.length, x4.2.length)])) = (.inr (L2, D2) : (Nat × Nat) ⊕ (List Nat × LnT)) := h
    by_cases c : K i = 256
    · rw [if_pos c] at h
      cases h
      exact ⟨hx, by omega⟩
    · rw [if_neg c] at h
      by_cases c2 : K i = kw ∧ D.length = 16
      · rw [if_pos c2] at h
        cases h
      · rw [if_neg c2] at h
        unfold tkR at h
        by_cases c3 : K i = kw
        · rw [if_pos c3] at h
          have i1 := hE i hi c
          have h : (bX (pS K V m N (i + 1) L) fun x2 => bX (pWh K V m N x2.1 x2.2) fun x3 => bX (if K x3.1 = 59 then (.inr (x3.1 + 1, x3.2) : PR) else .inl (1, x3.1)) fun x4 => pLw K V m N kw f x4.1 x4.2 (D ++ [(L.length, x2.2.length, x4.2.length)])) = (.inr (L2, D2) : (Nat × Nat) ⊕ (List Nat × LnT)) := h
          have gr := pS_ok (m := m) hE hV hm i1 L
          cases hS : pS K V m N (i + 1) L with
          | inl e =>
            rw [hS] at h
            cases h
          | inr x2 =>
            rw [hS] at h gr
            obtain ⟨j, l⟩ := x2
            obtain ⟨g1, g2, g3, ⟨q, rfl, g4⟩, g5⟩ := gr
            have g1 : i + 1 < j := g1
            have g2 : j < N := g2
            have g3 : (L ++ q).length + (i + 1) ≤ L.length + j := g3
            have g5 : Num m (gF (L ++ q)) L.length (L ++ q).length 3 := g5
            have h : (bX (pWh K V m N j (L ++ q)) fun x3 => bX (if K x3.1 = 59 then (.inr (x3.1 + 1, x3.2) : PR) else .inl (1, x3.1)) fun x4 => pLw K V m N kw f x4.1 x4.2 (D ++ [(L.length, (L ++ q).length, x4.2.length)])) = (.inr (L2, D2) : (Nat × Nat) ⊕ (List Nat × LnT)) := h
            cases hW : pWh K V m N j (L ++ q) with
            | inl e =>
              rw [hW] at h
              cases h
            | inr x3 =>
              rw [hW] at h
              obtain ⟨j2, l2⟩ := x3
              obtain ⟨w1, w2, w3, ⟨q2, rfl, w4⟩, w5⟩ := pWh_ok hE hV hm g2 _ hW
              have h : (bX (if K j2 = 59 then (.inr (j2 + 1, L ++ q ++ q2) : PR) else .inl (1, j2)) fun x4 => pLw K V m N kw f x4.1 x4.2 (D ++ [(L.length, (L ++ q).length, x4.2.length)])) = (.inr (L2, D2) : (Nat × Nat) ⊕ (List Nat × LnT)) := h
              by_cases c4 : K j2 = 59
              · rw [if_pos c4] at h
                have j3 := hE j2 w2 (by omega)
                have hx2 := (hx.app g4).app w4
                refine ih (j2 + 1) (L ++ q ++ q2) (D ++ [(L.length, (L ++ q).length, (L ++ q ++ q2).length)]) j3 (by omega) ⟨?_, hx2.2.1, fun k hk => ?_⟩ L2 D2 h
                · rw [lnl_1]
                  have := hx.1
                  have : ¬ D.length = 16 := fun z => c2 ⟨c3, z⟩
                  omega
                · rw [lnl_1] at hk
                  by_cases y : k = D.length
                  · rw [y, lnG_e]
                    refine ⟨?_, w5, by simp only [List.length_append]; omega, Nat.le_refl _⟩
                    exact Num.mono (g5.app (ex_app ex_rf rfl w4)) (by decide)
                  · rw [lnG_l (by omega)]
                    exact hx2.2.2 k (by omega)
              · rw [if_neg c4] at h
                cases h
        · rw [if_neg c3] at h
          cases h
end
