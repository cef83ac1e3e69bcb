/-! THE PURE PART: numbers, checks, loops -/
theorem ix_nI {n : Nat} (h : n < 2 ^ 31) : ix (nI n) = n := nI_clamp h
theorem vin_nI {j n : Nat} (h : j < n) (hn : n < 2 ^ 31) : vin (nI j) n := vp_in_nI h hn
theorem chv_nI {α : Type} {j n : Nat} {k : Option α} (h : j < n) (hn : n < 2 ^ 31) : chv (nI j) n k = k := chv_ok (vin_nI h hn)
theorem chk_ok {α : Type} {c : Prop} {_ : Decidable c} {k : Option α} (h : c) : chk c k = k := if_pos h
theorem lt_eq {α β : Type} (v : α) (k : α → Option β) : lt v k = k v := rfl
theorem bnd_eq {α β : Type} (y : α) (k : α → Option β) : bnd (some y) k = k y := rfl
theorem bni_eq {α β : Type} (y : α) (k : α → Option β) : bni (some y) k = k y := rfl
theorem bnd2_eq {α γ β : Type} (y : α) (z : γ) (k : α → γ → Option β) : bnd2 (some (y, z)) k = k y z := rfl
theorem nI_lit (n : Nat) : (OfNat.ofNat n : Int32) = nI n := rfl
theorem eq_0 {a : Nat} (ha : a < 2 ^ 31) : (nI a = (0 : Int32)) = (a = 0) := propext (nI_eq ha (by decide))
theorem lt_0E {a : Nat} (ha : a < 2 ^ 31) : (nI a < (0 : Int32)) = False := eq_false (nI_pos ha)
theorem le_0 {a : Nat} (ha : a < 2 ^ 31) : (nI a ≤ (0 : Int32)) = (a = 0) := by
  rw [show (0 : Int32) = nI 0 from rfl, propext (nI_leI ha (by decide))]
  exact propext (by omega)
theorem z_lt {a : Nat} (ha : a < 2 ^ 31) : ((0 : Int32) < nI a) = (0 < a) := propext (nI_ltI (by decide) ha)
theorem z_le {a : Nat} (ha : a < 2 ^ 31) : ((0 : Int32) ≤ nI a) = True := eq_true (nI_pos' ha)
theorem m1_eq {n : Nat} (h : n < 2 ^ 31) : ((-1 : Int32) = nI n) = False := by
  refine eq_false (fun e => ?_)
  have h1 := congrArg Int32.toInt e
  rw [nI_toInt h] at h1
  have h2 : (-1 : Int32).toInt = -1 := rfl
  omega
theorem eq_m1 {n : Nat} (h : n < 2 ^ 31) : (nI n = (-1 : Int32)) = False := by
  refine eq_false (fun e => ?_)
  have h1 := congrArg Int32.toInt e
  rw [nI_toInt h] at h1
  have h2 : (-1 : Int32).toInt = -1 := rfl
  omega
theorem nI_lt0 {n : Nat} (h : n < 2 ^ 31) : (nI n < 0) = False := eq_false (nI_pos h)
theorem nI_ltE {a b : Nat} (ha : a < 2 ^ 31) (hb : b < 2 ^ 31) : (nI a < nI b) = (a < b) := propext (nI_ltI ha hb)
theorem nI_leE {a b : Nat} (ha : a < 2 ^ 31) (hb : b < 2 ^ 31) : (nI a ≤ nI b) = (a ≤ b) := propext (nI_leI ha hb)
theorem nI_eqE {a b : Nat} (ha : a < 2 ^ 31) (hb : b < 2 ^ 31) : (nI a = nI b) = (a = b) := propext (nI_eq ha hb)
theorem nI_subE {a b : Nat} (h : b ≤ a) : nI a - nI b = nI (a - b) := pk_sub h
theorem nI_mulE (a b : Nat) : nI a * nI b = nI (a * b) := pk_mul a b
/-- an int below 2^31 in a word: any int that isn't negative -/
theorem nI_ofN {x : Int32} (h : ¬ x < 0) : ∃ j : Nat, j < 2 ^ 31 ∧ x = nI j := nI_of h
theorem sti_1 (μ : Mm) (i k i2 k2 : Nat) (v : Int32) : (sti μ i k v).1 i2 k2 = if i2 = i ∧ k2 = k then v else μ.1 i2 k2 := rfl
theorem sti_2 (μ : Mm) (i k : Nat) (v : Int32) : (sti μ i k v).2 = μ.2 := rfl
theorem stl_1 (μ : Mm) (i k : Nat) (v : Int64) : (stl μ i k v).1 = μ.1 := rfl
theorem stl_2 (μ : Mm) (i k i2 k2 : Nat) (v : Int64) : (stl μ i k v).2 i2 k2 = if i2 = i ∧ k2 = k then v else μ.2 i2 k2 := rfl
-- loops
theorem iter_inl {σ ρ : Type} {n : Nat} {f : σ → Option (σ ⊕ ρ)} {s s2 : σ} (h : f s = some (.inl s2)) : iter (n + 1) f s = iter n f s2 := by
  rw [iter, h]
theorem iter_inr {σ ρ : Type} {n : Nat} {f : σ → Option (σ ⊕ ρ)} {s : σ} {x : ρ} (h : f s = some (.inr x)) : iter (n + 1) f s = some x := by
  rw [iter, h]
/-- a loop along its states -/
theorem iter_traj {σ ρ : Type} {f : σ → Option (σ ⊕ ρ)} (T : Nat → σ) {y : ρ} : ∀ (K n : Nat), (∀ k, k < K → f (T k) = some (.inl (T (k + 1)))) → f (T K) = some (.inr y) → K < n → iter n f (T 0) = some y := by
  have go : ∀ (j K n : Nat), (∀ k, k < K → f (T k) = some (.inl (T (k + 1)))) → f (T K) = some (.inr y) → j ≤ K → K - j < n → iter n f (T j) = some y := by
    intro j K n hs he hj
    induction hm : K - j generalizing j n with
    | zero =>
      intro hn
      have e : j = K := by omega
      subst e
      obtain ⟨n, rfl⟩ : ∃ m, n = m + 1 := ⟨n - 1, by omega⟩
      exact iter_inr he
    | succ m ih =>
      intro hn
      obtain ⟨n, rfl⟩ : ∃ m, n = m + 1 := ⟨n - 1, by omega⟩
      rw [iter_inl (hs j (by omega))]
      exact ih (j + 1) n (by omega) (by omega) (by omega)
  intro K n hs he hn
  exact go 0 K n hs he (Nat.zero_le K) (by omega)
/-- a loop with an invariant, a number of turns and early ends -/
theorem iter_inv {σ ρ : Type} {f : σ → Option (σ ⊕ ρ)} (I : Nat → σ → Prop) (P : ρ → Prop) (K : Nat) (hs : ∀ k s, k < K → I k s → (∃ s2, f s = some (.inl s2) ∧ I (k + 1) s2) ∨ ∃ x, f s = some (.inr x) ∧ P x) (he : ∀ s, I K s → ∃ x, f s = some (.inr x) ∧ P x) : ∀ (n : Nat) (s : σ), I 0 s → K < n → ∃ x, iter n f s = some x ∧ P x := by
  have go : ∀ (m j n : Nat) (s : σ), K - j = m → j ≤ K → I j s → m < n → ∃ x, iter n f s = some x ∧ P x := by
    intro m
    induction m with
    | zero =>
      intro j n s hm hj hI hn
      have e : j = K := by omega
      subst e
      obtain ⟨n, rfl⟩ : ∃ m, n = m + 1 := ⟨n - 1, by omega⟩
      obtain ⟨x, h1, h2⟩ := he s hI
      exact ⟨x, iter_inr h1, h2⟩
    | succ m ih =>
      intro j n s hm hj hI hn
      obtain ⟨n, rfl⟩ : ∃ m, n = m + 1 := ⟨n - 1, by omega⟩
      rcases hs j s (by omega) hI with ⟨s2, h1, h2⟩ | ⟨x, h1, h2⟩
      · obtain ⟨x, h3, h4⟩ := ih (j + 1) n s2 (by omega) (by omega) h2 (by omega)
        exact ⟨x, (iter_inl h1).trans h3, h4⟩
      · exact ⟨x, iter_inr h1, h2⟩
  intro n s hI hn
  exact go K 0 n s rfl (Nat.zero_le K) hI hn
/-- two loops in lock step -/
theorem iter_two {σ ρ τ ω : Type} {f : σ → Option (σ ⊕ ρ)} {g : τ → Option (τ ⊕ ω)} (I : Nat → σ → τ → Prop) (P : ρ → ω → Prop) (K : Nat) (hs : ∀ k s t, k < K → I k s t → (∃ s2 t2, f s = some (.inl s2) ∧ g t = some (.inl t2) ∧ I (k + 1) s2 t2) ∨ ∃ x y, f s = some (.inr x) ∧ g t = some (.inr y) ∧ P x y) (he : ∀ s t, I K s t → ∃ x y, f s = some (.inr x) ∧ g t = some (.inr y) ∧ P x y) : ∀ (n n2 : Nat) (s : σ) (t : τ), I 0 s t → K < n → K < n2 → ∃ x y, iter n f s = some x ∧ iter n2 g t = some y ∧ P x y := by
  have go : ∀ (m j n n2 : Nat) (s : σ) (t : τ), K - j = m → j ≤ K → I j s t → m < n → m < n2 → ∃ x y, iter n f s = some x ∧ iter n2 g t = some y ∧ P x y := by
    intro m
    induction m with
    | zero =>
      intro j n n2 s t hm hj hI hn hn2
      have e : j = K := by omega
      subst e
      obtain ⟨n, rfl⟩ : ∃ m, n = m + 1 := ⟨n - 1, by omega⟩
      obtain ⟨n2, rfl⟩ : ∃ m, n2 = m + 1 := ⟨n2 - 1, by omega⟩
      obtain ⟨x, y, h1, h2, h3⟩ := he s t hI
      exact ⟨x, y, iter_inr h1, iter_inr h2, h3⟩
    | succ m ih =>
      intro j n n2 s t hm hj hI hn hn2
      obtain ⟨n, rfl⟩ : ∃ m, n = m + 1 := ⟨n - 1, by omega⟩
      obtain ⟨n2, rfl⟩ : ∃ m, n2 = m + 1 := ⟨n2 - 1, by omega⟩
      rcases hs j s t (by omega) hI with ⟨s2, t2, h1, h2, h3⟩ | ⟨x, y, h1, h2, h3⟩
      · obtain ⟨x, y, h4, h5, h6⟩ := ih (j + 1) n n2 s2 t2 (by omega) (by omega) h3 (by omega) (by omega)
        exact ⟨x, y, (iter_inl h1).trans h4, (iter_inl h2).trans h5, h6⟩
      · exact ⟨x, y, iter_inr h1, iter_inr h2, h3⟩
  intro n n2 s t hI hn hn2
  exact go K 0 n n2 s t rfl (Nat.zero_le K) hI hn hn2
