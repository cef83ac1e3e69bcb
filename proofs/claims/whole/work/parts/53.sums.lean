/-! LOOPS THAT COUNT, and what a state's letters come to -/
def sumF (g : Nat → Nat) : Nat → Nat
  | 0 => 0
  | n + 1 => sumF g n + g n
def anyB (b : Nat → Bool) : Nat → Bool
  | 0 => false
  | n + 1 => anyB b n || b n
theorem anyB_of {b : Nat → Bool} {k N : Nat} (hk : k < N) (h : b k = true) : anyB b N = true := by
  induction N with
  | zero => omega
  | succ N ih =>
    unfold anyB
    by_cases e : k = N
    · subst e
      rw [h, Bool.or_true]
    · rw [ih (by omega), Bool.true_or]
theorem loop_sum {f : Int32 × Int32 → Option ((Int32 × Int32) ⊕ Int32)} {g : Nat → Nat} {N : Nat} (hN : N < 1000000) (h1 : ∀ n s, n < N → f (nI s, nI n) = some (.inl (nI (s + g n), nI (n + 1)))) (h2 : ∀ s, f (nI s, nI N) = some (.inr (nI s))) (s0 : Nat) : iter 1000000 f (nI s0, nI 0) = some (nI (s0 + sumF g N)) := by
  refine iter_traj (fun k => (nI (s0 + sumF g k), nI k)) N 1000000 (fun k hk => ?_) (h2 _) hN
  rw [h1 k _ hk, Nat.add_assoc]
  rfl
theorem loop_find {f : Int32 → Option (Int32 ⊕ (Unit ⊕ Unit))} {b : Nat → Bool} {N : Nat} (hN : N < 1000000) (h1 : ∀ n, n < N → b n = true → f (nI n) = some (.inr (.inl ()))) (h0 : ∀ n, n < N → b n = false → f (nI n) = some (.inl (nI (n + 1)))) (h2 : f (nI N) = some (.inr (.inr ()))) : iter 1000000 f (nI 0) = some (if anyB b N = true then Sum.inl () else Sum.inr ()) := by
  have key := iter_inv (f := f) (fun k s => s = nI k ∧ anyB b k = false) (fun x => x = if anyB b N = true then Sum.inl () else Sum.inr ()) N ?_ ?_ 1000000 (nI 0) ⟨rfl, rfl⟩ hN
  · obtain ⟨x, h3, h4⟩ := key
    rw [h3, h4]
  · rintro k s hk ⟨rfl, ha⟩
    by_cases e : b k = true
    · exact Or.inr ⟨_, h1 k hk e, by rw [if_pos (anyB_of hk e)]⟩
    · have e : b k = false := by simpa using e
      refine Or.inl ⟨_, h0 k hk e, rfl, ?_⟩
      unfold anyB
      rw [ha, e]
      rfl
  · rintro s ⟨rfl, ha⟩
    exact ⟨_, h2, by rw [if_neg (by rw [ha]; decide)]⟩
def heldG (V : VS) (v : Int32) (p : Nat) : Nat := if v = -1 ∨ nI (V 1 p 0) = v then V 6 p 0 else 0
theorem c_held {μ : Mm} {w : Nat} {V : VS} (h : HC μ w V) (v : Int32) : World_countHeld w v μ = some (nI (sumF (heldG V v) (V 0 0 0))) := by
  have P16 := h.P16
  have eP := h.P
  have key := loop_sum (f := fun s => World_countHeld_l4 w v s.1 s.2 μ) (g := heldG V v) (N := V 0 0 0) (by omega) (fun n s hn => ?_) (fun s => ?_) 0
  · unfold World_countHeld
    rw [key, bni_eq, Nat.zero_add]
  · have et := h.told hn (j := 0) (by decide)
    have ec := h.hc hn
    show World_countHeld_l4 _ _ _ _ _ = _
    unfold World_countHeld_l4 World_countHeld_j32 World_countHeld_j47 heldG
    rw [eP, if_neg (nI_ge hn (by omega))]
    by_cases c1 : v = -1
    · rw [if_pos c1, if_pos (Or.inl c1), chv_nI (by omega) (by decide), ix_nI (by omega), ec, nI_add, nI_add]
    · rw [if_neg c1, chv_nI (by omega) (by decide), chv_nI (by decide) (by decide), ix_nI (by omega), ix_nI (by decide), et]
      by_cases c2 : nI (V 1 n 0) = v
      · rw [if_pos c2, if_pos (Or.inr c2), chv_nI (by omega) (by decide), ec, nI_add, nI_add]
      · rw [if_neg c2, if_neg (fun z => z.elim c1 c2), nI_add]
        rfl
  · show World_countHeld_l4 _ _ _ _ _ = _
    unfold World_countHeld_l4
    rw [eP, if_pos (nI_le (Nat.le_refl _) (by omega))]
theorem m_held {ν : Mm} {th : Nat} {V : VS} (h : HM ν th V) (v : Int32) : M_heldIn v ν = some (nI (sumF (heldG V v) (V 0 0 0))) := by
  have P16 := h.P16
  have eP := h.P
  have key := loop_sum (f := fun s => M_heldIn_l4 v s.1 s.2 ν) (g := heldG V v) (N := V 0 0 0) (by omega) (fun n s hn => ?_) (fun s => ?_) 0
  · unfold M_heldIn
    rw [key, bni_eq, Nat.zero_add]
  · have et := h.town hn
    have ec := h.hc hn
    show M_heldIn_l4 _ _ _ _ = _
    unfold M_heldIn_l4 M_heldIn_j27 M_heldIn_j40 heldG
    simp only [nI_add]
    rw [eP, if_neg (nI_ge hn (by omega))]
    by_cases c1 : v = -1
    · rw [if_pos c1, if_pos (Or.inl c1), chv_nI (by omega) (by decide), ix_nI (by omega), ec, nI_add]
    · rw [if_neg c1, chv_nI (by omega) (by decide), ix_nI (by omega), et]
      by_cases c2 : nI (V 1 n 0) = v
      · rw [if_pos c2, if_pos (Or.inr c2), chv_nI (by omega) (by decide), ix_nI (by omega), ec, nI_add]
      · rw [if_neg c2, if_neg (fun z => z.elim c1 c2)]
        rfl
  · show M_heldIn_l4 _ _ _ _ = _
    unfold M_heldIn_l4
    rw [eP, if_pos (nI_le (Nat.le_refl _) (by omega))]
def busy (V : VS) (p : Nat) : Bool := decide (V 1 p 1 ≠ 2 ∧ 0 < V 6 p 0)
/-- all is over -/
def overV (V : VS) : Bool := decide (V 0 0 2 = 0) && !anyB (busy V) (V 0 0 0)
theorem c_over {μ : Mm} {w : Nat} {V : VS} (h : HC μ w V) (hw : W5 V) : World_isOver w μ = some (if overV V = true then nI 1 else nI 0) := by
  have P16 := h.P16
  have w60 := h.w60
  have eP := h.P
  have eN := h.wn
  have key := loop_find (f := fun s => World_isOver_l2 w s μ) (b := busy V) (N := V 0 0 0) (by omega) (fun n hn hb => ?_) (fun n hn hb => ?_) ?_
  · unfold World_isOver overV
    rw [key, bni_eq]
    by_cases e : anyB (busy V) (V 0 0 0) = true
    · rw [if_pos e, e]
      show some (nI 0) = _
      simp
    · rw [if_neg e, show anyB (busy V) (V 0 0 0) = false by simpa using e]
      show (if _ then _ else _) = _
      rw [eN]
      by_cases e2 : V 0 0 2 = 0
      · rw [if_pos (by rw [e2]; rfl)]
        simp [e2]
      · rw [if_neg (nI_ne0 (by omega) (by omega))]
        simp [e2]
  · have t1 := h.told hn (j := 1) (by decide)
    have ec := h.hc hn
    have w5 := hw n hn
    have hb := of_decide_eq_true hb
    show World_isOver_l2 _ _ _ = _
    unfold World_isOver_l2
    rw [eP, if_neg (nI_ge hn (by omega)), chv_nI (by omega) (by decide), chv_nI (by decide) (by decide), ix_nI (by omega), ix_nI (by decide), t1, if_neg (fun z => hb.1 ((nI_eq (by omega) (by decide)).1 z)), chv_nI (by omega) (by decide), ec, if_neg (nI_nle hb.2 (by omega))]
  · have t1 := h.told hn (j := 1) (by decide)
    have ec := h.hc hn
    have w5 := hw n hn
    have hb := of_decide_eq_false hb
    show World_isOver_l2 _ _ _ = _
    unfold World_isOver_l2 World_isOver_j42
    rw [eP, if_neg (nI_ge hn (by omega)), chv_nI (by omega) (by decide), chv_nI (by decide) (by decide), ix_nI (by omega), ix_nI (by decide), t1]
    by_cases c1 : V 1 n 1 = 2
    · rw [if_pos (by rw [c1]), nI_add]
    · rw [if_neg (fun z => c1 ((nI_eq (by omega) (by decide)).1 z)), chv_nI (by omega) (by decide), ec, if_pos (by rw [show V 6 n 0 = 0 by omega]; decide), nI_add]
  · show World_isOver_l2 _ _ _ = _
    unfold World_isOver_l2
    rw [eP, if_pos (nI_le (Nat.le_refl _) (by omega))]
theorem m_over {ν : Mm} {th : Nat} {V : VS} (h : HM ν th V) (hw : W5 V) : M_isOver ν = some (if overV V = true then nI 1 else nI 0) := by
  have P16 := h.P16
  have w60 := h.w60
  have eP := h.P
  have eN := h.wn
  have key := loop_find (f := fun s => M_isOver_l15 s ν) (b := busy V) (N := V 0 0 0) (by omega) (fun n hn hb => ?_) (fun n hn hb => ?_) ?_
  · unfold M_isOver overV
    rw [chv_nI (by decide) (by decide), ix_nI (by decide), eN]
    by_cases e2 : V 0 0 2 = 0
    · rw [if_pos (by rw [e2]; decide), key, bni_eq]
      by_cases e : anyB (busy V) (V 0 0 0) = true
      · rw [if_pos e, e]
        show some (nI 0) = _
        simp
      · rw [if_neg e, show anyB (busy V) (V 0 0 0) = false by simpa using e]
        show some (nI 1) = _
        simp [e2]
    · rw [if_neg (nI_nle (by omega) (by omega))]
      simp [e2]
  · have t1 := h.kind hn
    have ec := h.hc hn
    have w5 := hw n hn
    have hb := of_decide_eq_true hb
    show M_isOver_l15 _ _ = _
    unfold M_isOver_l15
    simp only [nI_add]
    rw [eP, if_neg (nI_ge hn (by omega)), chv_nI (by omega) (by decide), ix_nI (by omega), t1, if_neg (fun z => hb.1 ((nI_eq (by omega) (by decide)).1 z)), chv_nI (by omega) (by decide), ix_nI (by omega), ec, if_neg (nI_nle hb.2 (by omega))]
  · have t1 := h.kind hn
    have ec := h.hc hn
    have w5 := hw n hn
    have hb := of_decide_eq_false hb
    show M_isOver_l15 _ _ = _
    unfold M_isOver_l15 M_isOver_j48
    simp only [nI_add]
    rw [eP, if_neg (nI_ge hn (by omega)), chv_nI (by omega) (by decide), ix_nI (by omega), t1]
    by_cases c1 : V 1 n 1 = 2
    · rw [if_pos (by rw [c1])]
    · rw [if_neg (fun z => c1 ((nI_eq (by omega) (by decide)).1 z)), chv_nI (by omega) (by decide), ix_nI (by omega), ec, if_pos (by rw [show V 6 n 0 = 0 by omega]; decide)]
  · show M_isOver_l15 _ _ = _
    unfold M_isOver_l15
    rw [eP, if_pos (nI_le (Nat.le_refl _) (by omega))]
