/-! THE GRAMMAR in plain words: a fault (which, at which token), or the next token and the steps so far -/
abbrev PR : Type := (Nat × Nat) ⊕ (Nat × List Nat)
def bR (r : PR) (f : Nat → List Nat → PR) : PR := match r with
  | .inl e => .inl e
  | .inr x => f x.1 x.2
theorem bR_bR (r : PR) (f g : Nat → List Nat → PR) : bR (bR r f) g = bR r (fun i L => bR (f i L) g) := by
  cases r <;> rfl
theorem bR_id (r : PR) : bR r (fun i L => .inr (i, L)) = r := by
  cases r <;> rfl
section
variable (K V : Nat → Nat) (m N : Nat)
def tkR (c i : Nat) (L : List Nat) : PR := if K i = c then .inr (i + 1, L) else .inl (1, i)
def pU (i : Nat) (L : List Nat) : PR := if K i = 257 then .inr (i + 1, L ++ [V i]) else if 309 ≤ K i ∧ K i < 309 + m then .inr (i + 1, L ++ [10000 + (K i - 309)]) else .inl (1, i)
def pPl : Nat → Nat → List Nat → PR
  | 0, i, L => .inr (i, L)
  | f + 1, i, L => if K i = 42 then bR (pU K V m (i + 1) L) fun j l => pPl f j (l ++ [20042]) else if K i = 47 then (if K (i + 1) = 257 then (if V (i + 1) = 0 then .inl (2, i + 1) else pPl f (i + 2) (L ++ [V (i + 1)] ++ [20047])) else .inl (1, i + 1)) else .inr (i, L)
def pP (i : Nat) (L : List Nat) : PR := bR (pU K V m i L) (pPl K V m N)
def pSl : Nat → Nat → List Nat → PR
  | 0, i, L => .inr (i, L)
  | f + 1, i, L => if K i = 43 ∨ K i = 45 then bR (pP K V m N (i + 1) L) fun j l => pSl f j (l ++ [20000 + K i]) else .inr (i, L)
def pS (i : Nat) (L : List Nat) : PR := bR (pP K V m N i L) (pSl K V m N N)
def pQ (i : Nat) (L : List Nat) : PR := bR (pS K V m N i L) fun j l => if K j = 60 ∨ K j = 61 ∨ K j = 62 then bR (pS K V m N (j + 1) l) fun j2 l2 => .inr (j2, l2 ++ [20000 + K j]) else .inl (1, j)
def orL (e : Bool) (L : List Nat) : List Nat := if e = true then L ++ [20303] else L
def pCl (t : Nat → List Nat → PR) : Nat → Bool → Nat → List Nat → PR
  | 0, e, i, L => .inr (i, orL e L)
  | f + 1, e, i, L => if K i = 304 then bR (t (i + 1) L) fun j l => pCl t f e j (l ++ [20304]) else if K i = 303 then bR (t (i + 1) (orL e L)) fun j l => pCl t f true j l else .inr (i, orL e L)
def pKo (t : Nat → List Nat → PR) (i : Nat) (L : List Nat) : PR := bR (t i L) (pCl K t N false)
def pT : Nat → Nat → List Nat → PR
  | 0, i, L => if K i = 305 ∨ K i = 40 then .inl (3, i) else pQ K V m N i L
  | d + 1, i, L => if K i = 305 then bR (pT d (i + 1) L) fun j l => .inr (j, l ++ [20305]) else if K i = 40 then bR (pKo K N (pT d) (i + 1) L) (tkR K 41) else pQ K V m N i L
end
def gF (L : List Nat) (k : Nat) : Nat := L.getD k 0
theorem gF_l {L q : List Nat} {k : Nat} (h : k < L.length) : gF (L ++ q) k = gF L k := by
  unfold gF
  rw [List.getD_eq_getElem?_getD, List.getD_eq_getElem?_getD, List.getElem?_append_left h]
theorem gF_e {L : List Nat} {s : Nat} : gF (L ++ [s]) L.length = s := by
  unfold gF
  rw [List.getD_eq_getElem?_getD, List.getElem?_append_right (Nat.le_refl _), Nat.sub_self]
  rfl
theorem len_1 (L : List Nat) (s : Nat) : (L ++ [s]).length = L.length + 1 := by
  rw [List.length_append]
  rfl
/-- what is reached from a token and steps on -/
def Ok (N i0 : Nat) (L0 : List Nat) (P : List Nat → Prop) (i : Nat) (L : List Nat) : Prop := i0 < i ∧ i < N ∧ L.length + i0 ≤ L0.length + i ∧ (∃ q, L = L0 ++ q ∧ ∀ s, s ∈ q → s < 20306) ∧ P L
def Gr (N i0 : Nat) (L0 : List Nat) (P : List Nat → Prop) (r : PR) : Prop := match r with
  | .inl e => (e.1 = 1 ∨ e.1 = 2 ∨ e.1 = 3) ∧ e.2 < N
  | .inr x => Ok N i0 L0 P x.1 x.2
theorem Gr.bind {N i0 i1 : Nat} {L0 L1 : List Nat} {P P2 : List Nat → Prop} {r : PR} {f : Nat → List Nat → PR} (h : Gr N i0 L0 P r) (h2 : ∀ j l, Ok N i0 L0 P j l → Gr N i1 L1 P2 (f j l)) : Gr N i1 L1 P2 (bR r f) := by
  cases r with
  | inl e => exact h
  | inr x => exact h2 x.1 x.2 h
theorem Gr.get {N i0 : Nat} {L0 : List Nat} {P : List Nat → Prop} {r : PR} {j : Nat} {l : List Nat} (h : Gr N i0 L0 P r) (e : r = .inr (j, l)) : Ok N i0 L0 P j l := by
  subst e
  exact h
theorem Gr.mono {N i0 : Nat} {L0 : List Nat} {P P2 : List Nat → Prop} {r : PR} (h : Gr N i0 L0 P r) (h2 : ∀ l, (∃ q, l = L0 ++ q) → P l → P2 l) : Gr N i0 L0 P2 r := by
  cases r with
  | inl e => exact h
  | inr x =>
    obtain ⟨a, b, c, ⟨q, d, d2⟩, e⟩ := h
    exact ⟨a, b, c, ⟨q, d, d2⟩, h2 _ ⟨q, d⟩ e⟩
/-- steps behind steps -/
theorem ex_app {L0 L l q : List Nat} (h : ∃ q, L = L0 ++ q ∧ ∀ s, s ∈ q → s < 20306) (e : l = L ++ q) (h2 : ∀ s, s ∈ q → s < 20306) : ∃ q, l = L0 ++ q ∧ ∀ s, s ∈ q → s < 20306 := by
  obtain ⟨q0, rfl, h0⟩ := h
  refine ⟨q0 ++ q, by rw [e, List.append_assoc], fun s hs => ?_⟩
  rcases List.mem_append.1 hs with z | z
  · exact h0 s z
  · exact h2 s z
theorem ex_1 {L0 L : List Nat} {s : Nat} (h : ∃ q, L = L0 ++ q ∧ ∀ s, s ∈ q → s < 20306) (hs : s < 20306) : ∃ q, L ++ [s] = L0 ++ q ∧ ∀ s, s ∈ q → s < 20306 := ex_app h rfl (fun x hx => by rw [List.mem_singleton.1 hx]; exact hs)
theorem ex_tr {L0 L l : List Nat} (h : ∃ q, L = L0 ++ q ∧ ∀ s, s ∈ q → s < 20306) (h2 : ∃ q, l = L ++ q ∧ ∀ s, s ∈ q → s < 20306) : ∃ q, l = L0 ++ q ∧ ∀ s, s ∈ q → s < 20306 := by
  obtain ⟨q, e, h3⟩ := h2
  exact ex_app h e h3
theorem ex_rf {L : List Nat} : ∃ q, L = L ++ q ∧ ∀ s, s ∈ q → s < 20306 := ⟨[], (List.append_nil L).symm, fun s hs => by cases hs⟩
theorem Num.app {m a d : Nat} {L l : List Nat} (h : Num m (gF L) a L.length d) (e : ∃ q, l = L ++ q ∧ ∀ s, s ∈ q → s < 20306) : Num m (gF l) a L.length d := by
  obtain ⟨q, rfl, _⟩ := e
  exact h.S2 (fun i hi => gF_l hi)
theorem Boo.app {m a d : Nat} {L l : List Nat} (h : Boo m (gF L) a L.length d) (e : ∃ q, l = L ++ q ∧ ∀ s, s ∈ q → s < 20306) : Boo m (gF l) a L.length d := by
  obtain ⟨q, rfl, _⟩ := e
  exact h.S2 (fun i hi => gF_l hi)
section
variable {K V : Nat → Nat} {m N : Nat}
abbrev NumP (m : Nat) (L0 : List Nat) (d : Nat) : List Nat → Prop := fun l => Num m (gF l) L0.length l.length d
abbrev BooP (m : Nat) (L0 : List Nat) (d : Nat) : List Nat → Prop := fun l => Boo m (gF l) L0.length l.length d
theorem pU_ok (hE : ∀ i, i < N → K i ≠ 256 → i + 1 < N) (hV : ∀ i, V i ≤ 9999) (hm : m ≤ 11) {i : Nat} (hi : i < N) (L : List Nat) : Gr N i L (NumP m L 1) (pU K V m i L) := by
  have hv := hV i
  unfold pU
  by_cases c : K i = 257
  · rw [if_pos c]
    refine ⟨Nat.lt_succ_self i, hE i hi (by omega), ?_, ex_1 ex_rf (by omega), ?_⟩
    · rw [len_1]
      omega
    · show Num _ _ _ _ _
      rw [len_1]
      exact Num.num (by rw [gF_e]; omega)
  · rw [if_neg c]
    by_cases c2 : 309 ≤ K i ∧ K i < 309 + m
    · rw [if_pos c2]
      refine ⟨Nat.lt_succ_self i, hE i hi (by omega), ?_, ex_1 ex_rf (by omega), ?_⟩
      · rw [len_1]
        omega
      · show Num _ _ _ _ _
        rw [len_1]
        exact Num.nam (by rw [gF_e]; omega) (by rw [gF_e]; omega) hm
    · rw [if_neg c2]
      exact ⟨Or.inl rfl, hi⟩
theorem pPl_ok (hE : ∀ i, i < N → K i ≠ 256 → i + 1 < N) (hV : ∀ i, V i ≤ 9999) (hm : m ≤ 11) {i0 : Nat} {L0 : List Nat} (f : Nat) : ∀ i L, Ok N i0 L0 (NumP m L0 2) i L → Gr N i0 L0 (NumP m L0 2) (pPl K V m f i L) := by
  induction f with
  | zero => exact fun i L h => h
  | succ f ih =>
    intro i L h
    obtain ⟨h1, h2, h3, h4, h5⟩ := h
    show Gr N i0 L0 _ (if K i = 42 then _ else if K i = 47 then _ else _)
    by_cases c : K i = 42
    · rw [if_pos c]
      refine (pU_ok hE hV hm (hE i h2 (by omega)) L).bind (fun j l hl => ih j _ ?_)
      obtain ⟨g1, g2, g3, g4, g5⟩ := hl
      refine ⟨by omega, g2, by rw [len_1]; omega, ex_1 (ex_tr h4 g4) (by decide), ?_⟩
      show Num _ _ _ _ _
      rw [len_1]
      exact Num.op (h5.app (ex_1 g4 (by decide))) (Num.app g5 (ex_1 ex_rf (by decide))) (by decide) (by decide) (Or.inl gF_e)
    · rw [if_neg c]
      by_cases c2 : K i = 47
      · rw [if_pos c2]
        have i1 := hE i h2 (by omega)
        by_cases c3 : K (i + 1) = 257
        · rw [if_pos c3]
          have i2 := hE (i + 1) i1 (by omega)
          have hv := hV (i + 1)
          by_cases c4 : V (i + 1) = 0
          · rw [if_pos c4]
            exact ⟨Or.inr (Or.inl rfl), i1⟩
          · rw [if_neg c4]
            refine ih (i + 2) _ ⟨by omega, i2, by rw [len_1, len_1]; omega, ex_1 (ex_1 h4 (by omega)) (by decide), ?_⟩
            show Num _ _ _ _ _
            rw [len_1, len_1]
            have e1 : gF (L ++ [V (i + 1)] ++ [20047]) L.length = V (i + 1) := by
              rw [gF_l (by rw [len_1]; omega), gF_e]
            have e2 : gF (L ++ [V (i + 1)] ++ [20047]) (L.length + 1) = 20047 := by
              have := gF_e (L := L ++ [V (i + 1)]) (s := 20047)
              rw [len_1] at this
              exact this
            exact Num.dv (Num.app h5 (ex_1 (ex_1 ex_rf (by omega)) (by decide))) (by decide) (by decide) (by rw [e1]; omega) (by rw [e1]; omega) e2
        · rw [if_neg c3]
          exact ⟨Or.inl rfl, i1⟩
      · rw [if_neg c2]
        exact ⟨h1, h2, h3, h4, h5⟩
theorem pP_ok (hE : ∀ i, i < N → K i ≠ 256 → i + 1 < N) (hV : ∀ i, V i ≤ 9999) (hm : m ≤ 11) {i : Nat} (hi : i < N) (L : List Nat) : Gr N i L (NumP m L 2) (pP K V m N i L) := (pU_ok hE hV hm hi L).bind (fun j l hl => pPl_ok hE hV hm N j l ⟨hl.1, hl.2.1, hl.2.2.1, hl.2.2.2.1, Num.mono hl.2.2.2.2 (by decide)⟩)
theorem pSl_ok (hE : ∀ i, i < N → K i ≠ 256 → i + 1 < N) (hV : ∀ i, V i ≤ 9999) (hm : m ≤ 11) {i0 : Nat} {L0 : List Nat} (f : Nat) : ∀ i L, Ok N i0 L0 (NumP m L0 3) i L → Gr N i0 L0 (NumP m L0 3) (pSl K V m N f i L) := by
  induction f with
  | zero => exact fun i L h => h
  | succ f ih =>
    intro i L h
    obtain ⟨h1, h2, h3, h4, h5⟩ := h
    show Gr N i0 L0 _ (if K i = 43 ∨ K i = 45 then _ else _)
    by_cases c : K i = 43 ∨ K i = 45
    · rw [if_pos c]
      refine (pP_ok hE hV hm (hE i h2 (by omega)) L).bind (fun j l hl => ih j _ ?_)
      obtain ⟨g1, g2, g3, g4, g5⟩ := hl
      refine ⟨by omega, g2, by rw [len_1]; omega, ex_1 (ex_tr h4 g4) (by omega), ?_⟩
      show Num _ _ _ _ _
      rw [len_1]
      refine Num.op (h5.app (ex_1 g4 (by omega))) (Num.app g5 (ex_1 ex_rf (by omega))) (by decide) (by decide) ?_
      rw [gF_e]
      omega
    · rw [if_neg c]
      exact ⟨h1, h2, h3, h4, h5⟩
theorem pS_ok (hE : ∀ i, i < N → K i ≠ 256 → i + 1 < N) (hV : ∀ i, V i ≤ 9999) (hm : m ≤ 11) {i : Nat} (hi : i < N) (L : List Nat) : Gr N i L (NumP m L 3) (pS K V m N i L) := (pP_ok hE hV hm hi L).bind (fun j l hl => pSl_ok hE hV hm N j l ⟨hl.1, hl.2.1, hl.2.2.1, hl.2.2.2.1, Num.mono hl.2.2.2.2 (by decide)⟩)
theorem pQ_ok (hE : ∀ i, i < N → K i ≠ 256 → i + 1 < N) (hV : ∀ i, V i ≤ 9999) (hm : m ≤ 11) {i : Nat} (hi : i < N) (L : List Nat) : Gr N i L (BooP m L 4) (pQ K V m N i L) := by
  refine (pS_ok hE hV hm hi L).bind (fun j l hl => ?_)
  obtain ⟨h1, h2, h3, h4, h5⟩ := hl
  by_cases c : K j = 60 ∨ K j = 61 ∨ K j = 62
  · rw [if_pos c]
    refine (pS_ok hE hV hm (hE j h2 (by omega)) l).bind (fun j2 l2 hl => ?_)
    obtain ⟨g1, g2, g3, g4, g5⟩ := hl
    refine ⟨by show i < j2; omega, g2, by show (l2 ++ [20000 + K j]).length + i ≤ _ + j2; rw [len_1]; omega, ex_1 (ex_tr h4 g4) (by omega), ?_⟩
    show Boo _ _ _ (l2 ++ [20000 + K j]).length _
    rw [len_1]
    refine Boo.cmp (Num.app h5 (ex_1 g4 (by omega))) (Num.app g5 (ex_1 ex_rf (by omega))) (by decide) (by decide) ?_
    show gF (l2 ++ [20000 + K j]) _ = _ ∨ gF (l2 ++ [20000 + K j]) _ = _ ∨ gF (l2 ++ [20000 + K j]) _ = _
    rw [gF_e]
    omega
  · rw [if_neg c]
    exact ⟨Or.inl rfl, h2⟩
/-- a condition read so far: what waits to be joined by 'or', what stands behind it -/
def Cst (m : Nat) (L0 : List Nat) (e : Bool) (d : Nat) (L : List Nat) : Prop := if e = true then ∃ b, Boo m (gF L) L0.length b (d + 2) ∧ Boo m (gF L) b L.length (d + 1) else Boo m (gF L) L0.length L.length (d + 1)
theorem orL_ok {L0 L : List Nat} {e : Bool} {d : Nat} (h : Cst m L0 e d L) : Boo m (gF (orL e L)) L0.length (orL e L).length (d + 2) := by
  unfold Cst at h
  unfold orL
  cases e with
  | false =>
    rw [if_neg Bool.false_ne_true] at h ⊢
    exact Boo.mono h (by omega)
  | true =>
    rw [if_pos rfl] at h ⊢
    obtain ⟨b, h1, h2⟩ := h
    rw [len_1]
    have hb := h2.1
    exact Boo.op (h1.S2 (fun i hi => gF_l (by omega))) (h2.S2 (fun i hi => gF_l hi)) (by omega) (by omega) (Or.inr gF_e)
theorem pCl_ok (hE : ∀ i, i < N → K i ≠ 256 → i + 1 < N) {t : Nat → List Nat → PR} {d : Nat} (ht : ∀ i L, i < N → Gr N i L (BooP m L d) (t i L)) {i0 : Nat} {L0 : List Nat} (f : Nat) : ∀ e i L, Ok N i0 L0 (Cst m L0 e d) i L → (e = true → L.length + 1 + i0 ≤ L0.length + i) → Gr N i0 L0 (BooP m L0 (d + 2)) (pCl K t f e i L) := by
  have fin : ∀ e i L, Ok N i0 L0 (Cst m L0 e d) i L → (e = true → L.length + 1 + i0 ≤ L0.length + i) → Gr N i0 L0 (BooP m L0 (d + 2)) (.inr (i, orL e L)) := by
    intro e i L h hl
    obtain ⟨h1, h2, h3, h4, h5⟩ := h
    refine ⟨h1, h2, ?_, ?_, orL_ok h5⟩
    · show (orL e L).length + _ ≤ _
      unfold orL
      cases e with
      | false => exact h3
      | true =>
        rw [if_pos rfl, len_1]
        exact hl rfl
    · show ∃ q, orL e L = _ ∧ _
      unfold orL
      cases e with
      | false => exact h4
      | true => exact ex_1 h4 (by decide)
  induction f with
  | zero => exact fin
  | succ f ih =>
    intro e i L h hl
    have h0 := h
    obtain ⟨h1, h2, h3, h4, h5⟩ := h
    show Gr N i0 L0 _ (if K i = 304 then _ else if K i = 303 then _ else _)
    by_cases c : K i = 304
    · rw [if_pos c]
      refine (ht (i + 1) L (hE i h2 (by omega))).bind (fun j l hl2 => ih e j _ ?_ ?_)
      · obtain ⟨g1, g2, g3, g4, g5⟩ := hl2
        refine ⟨by omega, g2, by rw [len_1]; omega, ex_1 (ex_tr h4 g4) (by decide), ?_⟩
        have g5 : Boo m (gF l) L.length l.length d := g5
        have g5' := g5.app (ex_1 (ex_rf (L := l)) (show 20304 < 20306 by decide))
        unfold Cst at h5 ⊢
        cases e with
        | false =>
          rw [if_neg Bool.false_ne_true] at h5 ⊢
          rw [len_1]
          exact Boo.op (h5.app (ex_1 g4 (by decide))) g5' (by omega) (by omega) (Or.inl gF_e)
        | true =>
          rw [if_pos rfl] at h5 ⊢
          obtain ⟨b, b1, b2⟩ := h5
          have b3 := b2.1
          refine ⟨b, ?_, ?_⟩
          · obtain ⟨q, hq, _⟩ := ex_1 (s := 20304) g4 (by decide)
            rw [hq]
            exact b1.S2 (fun i hi => gF_l (by omega))
          · rw [len_1]
            exact Boo.op (b2.app (ex_1 g4 (by decide))) g5' (by omega) (by omega) (Or.inl gF_e)
      · intro he
        have := hl he
        obtain ⟨g1, g2, g3, g4, g5⟩ := hl2
        rw [len_1]
        omega
    · rw [if_neg c]
      by_cases c2 : K i = 303
      · rw [if_pos c2]
        obtain ⟨f1, f2, f3, f4, f5⟩ := fin e i L h0 hl
        have f3 : (orL e L).length + i0 ≤ L0.length + i := f3
        have f4 : ∃ q, orL e L = L0 ++ q ∧ ∀ s, s ∈ q → s < 20306 := f4
        refine (ht (i + 1) (orL e L) (hE i h2 (by omega))).bind (fun j l hl2 => ih true j _ ?_ ?_)
        · obtain ⟨g1, g2, g3, g4, g5⟩ := hl2
          have g5 : Boo m (gF l) (orL e L).length l.length d := g5
          refine ⟨by omega, g2, by omega, ex_tr f4 g4, ?_⟩
          unfold Cst
          rw [if_pos rfl]
          refine ⟨(orL e L).length, ?_, Boo.mono g5 (by omega)⟩
          exact Boo.app (orL_ok h5) g4
        · intro _
          obtain ⟨g1, g2, g3, g4, g5⟩ := hl2
          omega
      · rw [if_neg c2]
        exact fin e i L h0 hl
theorem pKo_ok (hE : ∀ i, i < N → K i ≠ 256 → i + 1 < N) {t : Nat → List Nat → PR} {d : Nat} (ht : ∀ i L, i < N → Gr N i L (BooP m L d) (t i L)) {i : Nat} (hi : i < N) (L : List Nat) : Gr N i L (BooP m L (d + 2)) (pKo K N t i L) := (ht i L hi).bind (fun j l hl => pCl_ok hE ht N false j l ⟨hl.1, hl.2.1, hl.2.2.1, hl.2.2.2.1, Boo.mono hl.2.2.2.2 (by omega)⟩ (fun z => Bool.noConfusion z))
theorem pT_ok (hE : ∀ i, i < N → K i ≠ 256 → i + 1 < N) (hV : ∀ i, V i ≤ 9999) (hm : m ≤ 11) (d : Nat) : ∀ i L, i < N → Gr N i L (BooP m L (4 + 2 * d)) (pT K V m N d i L) := by
  induction d with
  | zero =>
    intro i L hi
    show Gr N i L _ (if K i = 305 ∨ K i = 40 then _ else _)
    by_cases c : K i = 305 ∨ K i = 40
    · rw [if_pos c]
      exact ⟨Or.inr (Or.inr rfl), hi⟩
    · rw [if_neg c]
      exact pQ_ok hE hV hm hi L
  | succ d ih =>
    intro i L hi
    show Gr N i L _ (if K i = 305 then _ else if K i = 40 then _ else _)
    by_cases c : K i = 305
    · rw [if_pos c]
      refine (ih (i + 1) L (hE i hi (by omega))).bind (fun j l hl => ?_)
      obtain ⟨g1, g2, g3, g4, g5⟩ := hl
      refine ⟨by show i < j; omega, g2, by show (l ++ [20305]).length + i ≤ _ + j; rw [len_1]; omega, ex_1 g4 (by decide), ?_⟩
      show Boo _ _ _ (l ++ [20305]).length _
      rw [len_1]
      exact Boo.mono (Boo.bnot (Boo.app g5 (ex_1 ex_rf (by decide))) gF_e) (by omega)
    · rw [if_neg c]
      by_cases c2 : K i = 40
      · rw [if_pos c2]
        refine (pKo_ok hE ih (hE i hi (by omega)) L).bind (fun j l hl => ?_)
        obtain ⟨g1, g2, g3, g4, g5⟩ := hl
        unfold tkR
        by_cases c3 : K j = 41
        · rw [if_pos c3]
          exact ⟨by show i < j + 1; omega, hE j g2 (by omega), by show l.length + i ≤ _ + (j + 1); omega, g4, Boo.mono g5 (by omega)⟩
        · rw [if_neg c3]
          exact ⟨Or.inl rfl, g2⟩
      · rw [if_neg c2]
        exact (pQ_ok hE hV hm hi L).mono (fun l _ hl => Boo.mono hl (by omega))
/-- a condition from its first token on -/
theorem pKo8_ok (hE : ∀ i, i < N → K i ≠ 256 → i + 1 < N) (hV : ∀ i, V i ≤ 9999) (hm : m ≤ 11) {i : Nat} (hi : i < N) (L : List Nat) : Gr N i L (BooP m L 22) (pKo K N (pT K V m N 8) i L) := pKo_ok hE (pT_ok hE hV hm 8) hi L
end
