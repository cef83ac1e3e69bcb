/-! FOREBEAR, CHILDREN -/
/-- the model's way up: does y lie on it -/
def cmB2 (V : VS) : Nat → Nat → Nat → Bool
  | 0, _, _ => false
  | k + 1, x, y => if x = y then true else if x = 0 then false else cmB2 V k (upV V x) y
theorem cmB2_is {V : VS} (h8 : W8 V) : ∀ k x y, x ≤ V 0 0 1 → x < k → (cmB2 V k x y = true ↔ onUp V x y) := by
  intro k
  induction k with
  | zero => exact fun x y _ h => absurd h (by omega)
  | succ k ih =>
    intro x y hx hk
    unfold cmB2
    by_cases e : x = y
    · rw [if_pos e]
      exact ⟨fun _ => ⟨0, e⟩, fun _ => rfl⟩
    · rw [if_neg e]
      by_cases e0 : x = 0
      · rw [if_pos e0]
        refine ⟨fun z => absurd z (by decide), fun ⟨j, hj⟩ => ?_⟩
        rw [e0, itn_up0] at hj
        omega
      · have hu := upV_lt h8 (by omega) hx
        rw [if_neg e0, ih _ y (by omega) (by omega)]
        exact ⟨onUp_of, fun z => onUp_up z (fun w => e w.symm)⟩
def onB (V : VS) (x y : Nat) : Bool := cmB2 V (V 0 0 1 + 1) x y
theorem onB_is {V : VS} (h8 : W8 V) {x y : Nat} (hx : x ≤ V 0 0 1) : onB V x y = true ↔ onUp V x y := cmB2_is h8 _ x y hx (by omega)
theorem m_came {ν : Mm} {th : Nat} {V : VS} {x y : Nat} (h : HM ν th V) (h8 : W8 V) (hx : x ≤ V 0 0 1) (hy : y ≤ V 0 0 1) (y0 : 0 < y) : M_cameOf (nI x - nI 1) (nI y - nI 1) ν = some (if onB V x y = true then nI 1 else nI 0) := by
  have v40 := h.v40
  have sb0 : ∀ a, a < 41 → ∀ b, b < 41 → (nI a - nI 1 = nI b - nI 1 ↔ a = b) := by decide +kernel
  have sb : ∀ a b, a ≤ 40 → b ≤ 40 → (nI a - nI 1 = nI b - nI 1 ↔ a = b) := fun a b h1 h2 => sb0 a (by omega) b (by omega)
  have key : ∀ k x, x ≤ V 0 0 1 → x < k → ∃ z, iter k (fun s => M_cameOf_l2 (nI y - nI 1) s ν) (nI x - nI 1) = some (nI z - nI 1) ∧ z ≤ V 0 0 1 ∧ (z = y ↔ onUp V x y) := by
    intro k
    induction k with
    | zero => exact fun x _ h => absurd h (by omega)
    | succ k ih =>
      intro x hx hk
      by_cases e0 : x = 0
      · refine ⟨0, iter_inr ?_, Nat.zero_le _, ?_⟩
        · unfold M_cameOf_l2
          rw [e0, if_pos (by decide)]
        · rw [e0]
          refine ⟨fun z => absurd z (by omega), fun ⟨j, hj⟩ => ?_⟩
          rw [itn_up0] at hj
          exact hj
      · have n1 : ¬ nI x - nI 1 = -1 := fun z => e0 ((sb x 0 (by omega) (by decide)).1 (z.trans (by decide)))
        by_cases e : x = y
        · refine ⟨x, iter_inr ?_, hx, fun _ => ⟨0, e⟩, fun _ => e⟩
          unfold M_cameOf_l2
          rw [if_neg n1, if_pos (by rw [e])]
        · have hu := upV_lt h8 (by omega) hx
          obtain ⟨z, z1, z2, z3⟩ := ih (upV V x) (by omega) (by omega)
          refine ⟨z, (iter_inl ?_).trans z1, z2, z3.trans ⟨onUp_of, fun w => onUp_up w (fun q => e q.symm)⟩⟩
          have ep := h.vp (v := x - 1) (by omega)
          unfold M_cameOf_l2 upV
          rw [if_neg n1, if_neg (fun q => e ((sb x y (by omega) (by omega)).1 q)), if_neg e0, nI_subE (by omega), nI_add, chv_nI (by omega) (by decide), ix_nI (by omega), ep]
  obtain ⟨z, z1, z2, z3⟩ := key 1000000 x hx (by omega)
  unfold M_cameOf M_cameOf_j27
  rw [z1, bni_eq]
  by_cases e : onB V x y = true
  · rw [if_pos e, if_pos (by rw [z3.2 ((onB_is h8 hx).1 e)])]
  · rw [if_neg e, if_neg (fun q => e ((onB_is h8 hx).2 (z3.1 ((sb z y (by omega) (by omega)).1 q))))]
/-- the youngest of which both came: as v + 1 -/
def foV (V : VS) (a b : Nat) : Nat → Nat
  | 0 => 0
  | n + 1 => if onB V a (n + 1) = true ∧ onB V b (n + 1) = true then n + 1 else foV V a b n
theorem foV_max {V : VS} {a b : Nat} : ∀ n y, 0 < y → y ≤ n → onB V a y = true → onB V b y = true → y ≤ foV V a b n := by
  intro n
  induction n with
  | zero => exact fun y h1 h2 => absurd h1 (by omega)
  | succ n ih =>
    intro y h1 h2 h3 h4
    unfold foV
    split
    · exact h2
    · rename_i hh
      by_cases e : y = n + 1
      · subst e
        exact absurd ⟨h3, h4⟩ hh
      · exact ih y h1 (by omega) h3 h4
theorem foV_is {V : VS} {a b : Nat} : ∀ n, foV V a b n = 0 ∨ (onB V a (foV V a b n) = true ∧ onB V b (foV V a b n) = true ∧ foV V a b n ≤ n) := by
  intro n
  induction n with
  | zero => exact Or.inl rfl
  | succ n ih =>
    unfold foV
    split
    · rename_i hh
      exact Or.inr ⟨hh.1, hh.2, Nat.le_refl _⟩
    · exact ih.imp id (fun z => ⟨z.1, z.2.1, by omega⟩)
theorem itn_upAdd {V : VS} {x y z : Nat} (h1 : onUp V x y) (h2 : onUp V y z) : onUp V x z := by
  obtain ⟨j, rfl⟩ := h1
  obtain ⟨k, rfl⟩ := h2
  exact ⟨k + j, itn_add _ _ _ _⟩
theorem c_fore {μ : Mm} {w : Nat} {V : VS} {a b : Nat} (h : HC μ w V) (h8 : W8 V) (ha : a ≤ V 0 0 1) (hb : b ≤ V 0 0 1) : Versions_commonForebear (w + 2) (nI a - nI 1) (nI b - nI 1) μ = some (nI (foV V a b (V 0 0 1)) - nI 1) := by
  have v40 := h.v40
  have sb0 : ∀ a, a < 41 → ∀ b, b < 41 → (nI a - nI 1 = nI b - nI 1 ↔ a = b) ∧ (nI a - nI 1 ≤ nI b - nI 1 ↔ a ≤ b) := by decide +kernel
  have sb : ∀ a b, a ≤ 40 → b ≤ 40 → (nI a - nI 1 = nI b - nI 1 ↔ a = b) ∧ (nI a - nI 1 ≤ nI b - nI 1 ↔ a ≤ b) := fun a b h1 h2 => sb0 a (by omega) b (by omega)
  have key := iter_inv (f := fun s : Int32 × Int32 × Int32 => Versions_commonForebear_l8 (w + 2) s.1 s.2.1 s.2.2 μ)
    (fun k s => ∃ x y, s = (nI x - nI 1, nI y - nI 1, nI k) ∧ x ≤ V 0 0 1 ∧ y ≤ V 0 0 1 ∧ onUp V a x ∧ onUp V b y ∧ (∀ z, onUp V a z → onUp V b z → onUp V x z ∧ onUp V y z) ∧ x + y + k ≤ a + b)
    (fun r => r = nI (foV V a b (V 0 0 1)) - nI 1) (a + b) ?_ ?_ 1000000 (nI a - nI 1, nI b - nI 1, nI 0) ⟨a, b, rfl, ha, hb, ⟨0, rfl⟩, ⟨0, rfl⟩, fun z z1 z2 => ⟨z1, z2⟩, Nat.le_refl _⟩ (by omega)
  · obtain ⟨r, h1, rfl⟩ := key
    unfold Versions_commonForebear
    rw [h1, bni_eq]
  all_goals
    have fin : ∀ x k, k ≤ a + b → x ≤ V 0 0 1 → onUp V a x → onUp V b x → (∀ z, onUp V a z → onUp V b z → onUp V x z ∧ onUp V x z) → x = foV V a b (V 0 0 1) := by
      intro x k hk hx u1 u2 u3
      rcases foV_is (V := V) (a := a) (b := b) (V 0 0 1) with e | ⟨e1, e2, e3⟩
      · rw [e]
        by_cases x0 : x = 0
        · exact x0
        · have := foV_max (V 0 0 1) x (by omega) hx ((onB_is h8 ha).2 u1) ((onB_is h8 hb).2 u2)
          omega
      · have g1 := (u3 _ ((onB_is h8 ha).1 e1) ((onB_is h8 hb).1 e2)).1
        have g2 := onUp_le h8 hx g1
        by_cases x0 : x = 0
        · omega
        · have := foV_max (V 0 0 1) x (by omega) hx ((onB_is h8 ha).2 u1) ((onB_is h8 hb).2 u2)
          omega
  · rintro k s hk ⟨x, y, rfl, hx, hy, u1, u2, u3, hs⟩
    show (∃ s2, Versions_commonForebear_l8 _ _ _ _ _ = _ ∧ _) ∨ ∃ r, Versions_commonForebear_l8 _ _ _ _ _ = _ ∧ _
    unfold Versions_commonForebear_l8 Versions_commonForebear_j46
    by_cases e80 : 80 ≤ k
    · omega
    · rw [if_neg (nI_ge (by omega) (by decide))]
      by_cases e : x = y
      · subst e
        exact Or.inr ⟨_, by rw [if_pos rfl], by rw [fin x k (by omega) hx u1 u2 (fun z z1 z2 => u3 z z1 z2)]⟩
      · rw [if_neg (fun q => e ((sb x y (by omega) (by omega)).1.1 q))]
        refine Or.inl ?_
        by_cases e2 : x ≤ y
        · have hu := upV_lt h8 (x := y) (by omega) hy
          have ep : μ.1 (w + 2 + 3) (y - 1) = nI (V 13 0 (y - 1)) - nI 1 := h.vp (v := y - 1) (by omega)
          refine ⟨(nI x - nI 1, nI (upV V y) - nI 1, nI (k + 1)), ?_, x, upV V y, rfl, hx, by omega, u1, itn_upAdd u2 ⟨1, rfl⟩, fun z z1 z2 => ?_, by omega⟩
          · rw [if_pos ((sb x y (by omega) (by omega)).2.2 e2), nI_subE (a := y) (by omega), chv_nI (by omega) (by decide), ix_nI (by omega), ep, nI_add]
            unfold upV
            rw [if_neg (by omega)]
          · obtain ⟨q1, q2⟩ := u3 z z1 z2
            have := onUp_le h8 hx q1
            exact ⟨q1, onUp_up q2 (by omega)⟩
        · have hu := upV_lt h8 (x := x) (by omega) hx
          have ep : μ.1 (w + 2 + 3) (x - 1) = nI (V 13 0 (x - 1)) - nI 1 := h.vp (v := x - 1) (by omega)
          refine ⟨(nI (upV V x) - nI 1, nI y - nI 1, nI (k + 1)), ?_, upV V x, y, rfl, by omega, hy, itn_upAdd u1 ⟨1, rfl⟩, u2, fun z z1 z2 => ?_, by omega⟩
          · rw [if_neg (fun q => e2 ((sb x y (by omega) (by omega)).2.1 q)), nI_subE (a := x) (by omega), chv_nI (by omega) (by decide), ix_nI (by omega), ep, nI_add]
            unfold upV
            rw [if_neg (by omega)]
          · obtain ⟨q1, q2⟩ := u3 z z1 z2
            have := onUp_le h8 hy q2
            exact ⟨onUp_up q1 (by omega), q2⟩
  · rintro s ⟨x, y, rfl, hx, hy, u1, u2, u3, hs⟩
    have ex : x = 0 := by omega
    have ey : y = 0 := by omega
    subst ex ey
    have f0 := fin 0 0 (by omega) hx u1 u2 (fun z z1 z2 => u3 z z1 z2)
    refine ⟨nI 0 - nI 1, ?_, by rw [← f0]⟩
    show Versions_commonForebear_l8 _ _ _ _ _ = _
    unfold Versions_commonForebear_l8
    split
    · rfl
    · rw [if_pos rfl]
