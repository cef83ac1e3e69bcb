/-! TOKENS of a tape: runs, places, words; in plain words -/
def rtoF (b : Nat → Bool) : Nat → Nat → Nat
  | 0, a => a
  | m + 1, a => if b a = true then rtoF b m (a + 1) else a
/-- how far b holds from a on, to n at most -/
def rto (b : Nat → Bool) (n a : Nat) : Nat := rtoF b (n - a) a
theorem rto_n {b : Nat → Bool} {n : Nat} : rto b n n = n := by
  unfold rto
  rw [Nat.sub_self]
  rfl
theorem rto_t {b : Nat → Bool} {n a : Nat} (h : a < n) (h2 : b a = true) : rto b n a = rto b n (a + 1) := by
  unfold rto
  obtain ⟨m, hm⟩ : ∃ m, n - a = m + 1 := ⟨n - a - 1, by omega⟩
  rw [hm, show n - (a + 1) = m by omega]
  show (if b a = true then rtoF b m (a + 1) else a) = _
  rw [if_pos h2]
theorem rto_f {b : Nat → Bool} {n a : Nat} (h : a < n) (h2 : b a = false) : rto b n a = a := by
  unfold rto
  obtain ⟨m, hm⟩ : ∃ m, n - a = m + 1 := ⟨n - a - 1, by omega⟩
  rw [hm]
  show (if b a = true then rtoF b m (a + 1) else a) = _
  rw [h2]
  rfl
theorem rto_all {b : Nat → Bool} {n : Nat} : ∀ (m a : Nat), n - a = m → a ≤ n → a ≤ rto b n a ∧ rto b n a ≤ n ∧ (∀ k, a ≤ k → k < rto b n a → b k = true) ∧ (rto b n a < n → b (rto b n a) = false) := by
  intro m
  induction m with
  | zero =>
    intro a hm ha
    have : a = n := by omega
    subst this
    rw [rto_n]
    exact ⟨Nat.le_refl _, Nat.le_refl _, fun k h1 h2 => by omega, fun h => absurd h (Nat.lt_irrefl _)⟩
  | succ m ih =>
    intro a hm ha
    have hlt : a < n := by omega
    cases e : b a with
    | true =>
      obtain ⟨i1, i2, i3, i4⟩ := ih (a + 1) (by omega) (by omega)
      rw [rto_t hlt e]
      refine ⟨by omega, i2, fun k h1 h2 => ?_, i4⟩
      by_cases c : k = a
      · subst c
        exact e
      · exact i3 k (by omega) h2
    | false =>
      rw [rto_f hlt e]
      exact ⟨Nat.le_refl _, ha, fun k h1 h2 => by omega, fun _ => e⟩
theorem rto_ge {b : Nat → Bool} {n a : Nat} (h : a ≤ n) : a ≤ rto b n a := (rto_all _ a rfl h).1
theorem rto_le {b : Nat → Bool} {n a : Nat} (h : a ≤ n) : rto b n a ≤ n := (rto_all _ a rfl h).2.1
theorem rto_in {b : Nat → Bool} {n a : Nat} (h : a ≤ n) {k : Nat} (h1 : a ≤ k) (h2 : k < rto b n a) : b k = true := (rto_all _ a rfl h).2.2.1 k h1 h2
theorem rto_end {b : Nat → Bool} {n a : Nat} (h : a ≤ n) (h1 : rto b n a < n) : b (rto b n a) = false := (rto_all _ a rfl h).2.2.2 h1
/-- a loop that goes on as long as b holds -/
theorem loop_run {σ ρ : Type} {f : σ → Option (σ ⊕ ρ)} (T : Nat → σ) (y : Nat → ρ) {b : Nat → Bool} {n : Nat} {a : Nat} (ha : a ≤ n) (h1 : ∀ k, a ≤ k → k < n → b k = true → f (T k) = some (.inl (T (k + 1)))) (h2 : ∀ k, a ≤ k → k < n → b k = false → f (T k) = some (.inr (y k))) (h3 : f (T n) = some (.inr (y n))) {N : Nat} (hN : n - a < N) : iter N f (T a) = some (y (rto b n a)) := by
  have go : ∀ (m a2 N : Nat), n - a2 = m → a ≤ a2 → a2 ≤ n → m < N → iter N f (T a2) = some (y (rto b n a2)) := by
    intro m
    induction m with
    | zero =>
      intro a2 N hm h4 h5 hN
      have : a2 = n := by omega
      subst this
      obtain ⟨N, rfl⟩ : ∃ q, N = q + 1 := ⟨N - 1, by omega⟩
      rw [rto_n]
      exact iter_inr h3
    | succ m ih =>
      intro a2 N hm h4 h5 hN
      obtain ⟨N, rfl⟩ : ∃ q, N = q + 1 := ⟨N - 1, by omega⟩
      have hlt : a2 < n := by omega
      cases e : b a2 with
      | true =>
        rw [iter_inl (h1 a2 h4 hlt e), rto_t hlt e]
        exact ih (a2 + 1) N (by omega) (by omega) (by omega) (by omega)
      | false =>
        rw [rto_f hlt e]
        exact iter_inr (h2 a2 h4 hlt e)
  exact go _ a N rfl (Nat.le_refl _) ha hN
def isL (c : Nat) : Bool := decide ((97 ≤ c ∧ c ≤ 122) ∨ (65 ≤ c ∧ c ≤ 90))
def isDg (c : Nat) : Bool := decide (48 ≤ c ∧ c ≤ 57)
def isBl (c : Nat) : Bool := decide (c = 32 ∨ c = 10)
def isMk (c : Nat) : Bool := decide (c = 59 ∨ c = 43 ∨ c = 45 ∨ c = 42 ∨ c = 47 ∨ c = 40 ∨ c = 41 ∨ c = 60 ∨ c = 61 ∨ c = 62)
section
variable (tp : Nat → Nat) (n : Nat)
def skp (a : Nat) : Nat := rto (fun i => isBl (tp i)) n a
def eot (a : Nat) : Nat := if isL (tp a) = true then rto (fun i => isL (tp i)) n (a + 1) else if isDg (tp a) = true then rto (fun i => isDg (tp i)) n (a + 1) else a + 1
/-- the place of the i-th token -/
def plc : Nat → Nat
  | 0 => skp tp n 0
  | i + 1 => if plc i < n then skp tp n (eot tp n (plc i)) else n
/-- the j-th word, in the class's order: where it begins in its text, how long it is -/
def wB (j : Nat) : Nat := [0, 6, 10, 15, 18, 22, 26, 31, 34, 37, 43, 48, 53, 58, 63, 70, 74, 79, 85, 90].getD j 96
def wL (j : Nat) : Nat := [5, 3, 4, 2, 3, 3, 4, 2, 2, 5, 4, 4, 4, 4, 6, 3, 4, 5, 4, 5].getD j 0
def wC (k : Nat) : Nat := uN (wordsBytes.getD k 0)
/-- the letters from a to e are the j-th word -/
def isWd (a e j : Nat) : Bool := decide (e - a = wL j ∧ ∀ k, k < wL j → tp (a + k) = wC (wB j + k))
def wrdF (a e : Nat) : Nat → Nat
  | 0 => 258
  | j + 1 => if wrdF a e j = 258 then (if isWd tp a e j = true then 300 + j else 258) else wrdF a e j
def wrd (a e : Nat) : Nat := wrdF tp a e 20
def valN (a : Nat) : Nat → Nat
  | 0 => 0
  | m + 1 => valN a m * 10 + tp (a + m) - 48
def kndA (a : Nat) : Nat := if isL (tp a) = true then wrd tp a (eot tp n a) else if isDg (tp a) = true then (if eot tp n a - a ≤ 4 then 257 else 258) else tp a
/-- what kind the i-th token is, its value -/
def Kd (i : Nat) : Nat := if plc tp n i < n then kndA tp n (plc tp n i) else 256
def Vd (i : Nat) : Nat := if Kd tp n i = 257 then valN tp (plc tp n i) (eot tp n (plc tp n i) - plc tp n i) else 0
end
theorem skp_t {tp : Nat → Nat} {n a : Nat} (h : a < n) (h2 : isBl (tp a) = true) : skp tp n a = skp tp n (a + 1) := rto_t (b := fun i => isBl (tp i)) h h2
theorem skp_f {tp : Nat → Nat} {n a : Nat} (h : a < n) (h2 : isBl (tp a) = false) : skp tp n a = a := rto_f (b := fun i => isBl (tp i)) h h2
theorem skp_n {tp : Nat → Nat} {n : Nat} : skp tp n n = n := rto_n
theorem skp_le {tp : Nat → Nat} {n a : Nat} (h : a ≤ n) : skp tp n a ≤ n := rto_le h
theorem skp_ge {tp : Nat → Nat} {n a : Nat} (h : a ≤ n) : a ≤ skp tp n a := rto_ge h
theorem skp_end {tp : Nat → Nat} {n a : Nat} (h : a ≤ n) (h2 : skp tp n a < n) : isBl (tp (skp tp n a)) = false := rto_end (b := fun i => isBl (tp i)) h h2
theorem eot_in {tp : Nat → Nat} {n a : Nat} (h : a < n) : a < eot tp n a ∧ eot tp n a ≤ n := by
  unfold eot
  split
  · exact ⟨Nat.lt_of_lt_of_le (Nat.lt_succ_self a) (rto_ge h), rto_le h⟩
  · split
    · exact ⟨Nat.lt_of_lt_of_le (Nat.lt_succ_self a) (rto_ge h), rto_le h⟩
    · omega
theorem plc_s {tp : Nat → Nat} {n i : Nat} (h : plc tp n i < n) : plc tp n (i + 1) = skp tp n (eot tp n (plc tp n i)) := if_pos h
theorem plc_le {tp : Nat → Nat} {n : Nat} (i : Nat) : plc tp n i ≤ n := by
  cases i with
  | zero => exact skp_le (Nat.zero_le n)
  | succ i =>
    by_cases h : plc tp n i < n
    · rw [plc_s h]
      exact skp_le (eot_in h).2
    · exact Nat.le_of_eq (if_neg h)
theorem plc_nb {tp : Nat → Nat} {n : Nat} (i : Nat) (h : plc tp n i < n) : isBl (tp (plc tp n i)) = false := by
  cases i with
  | zero => exact skp_end (Nat.zero_le n) h
  | succ i =>
    by_cases h2 : plc tp n i < n
    · rw [plc_s h2] at h ⊢
      exact skp_end (eot_in h2).2 h
    · exact absurd h (by show ¬ (if plc tp n i < n then _ else n) < n; rw [if_neg h2]; exact Nat.lt_irrefl n)
/-- words -/
theorem wd_tab : ∀ j, j < 20 → ∀ j2, j2 < 20 → wL j = wL j2 → (∀ k, k < wL j → wC (wB j + k) = wC (wB j2 + k)) → j = j2 := by decide +kernel
theorem isWd_one {tp : Nat → Nat} {a e j j2 : Nat} (hj : j < 20) (hj2 : j2 < 20) (h : isWd tp a e j = true) (h2 : isWd tp a e j2 = true) : j = j2 := by
  obtain ⟨a1, a2⟩ := of_decide_eq_true h
  obtain ⟨b1, b2⟩ := of_decide_eq_true h2
  have e1 : wL j = wL j2 := a1.symm.trans b1
  exact wd_tab j hj j2 hj2 e1 (fun k hk => (a2 k hk).symm.trans (b2 k (e1 ▸ hk)))
theorem wrdF_n {tp : Nat → Nat} {a e : Nat} {m : Nat} (h : ∀ j, j < m → isWd tp a e j = false) : wrdF tp a e m = 258 := by
  induction m with
  | zero => rfl
  | succ m ih =>
    show (if wrdF tp a e m = 258 then (if isWd tp a e m = true then 300 + m else 258) else wrdF tp a e m) = 258
    rw [ih (fun j hj => h j (by omega)), if_pos rfl, h m (Nat.lt_succ_self m)]
    rfl
theorem wrdF_y {tp : Nat → Nat} {a e j : Nat} (hj : j < 20) (h : isWd tp a e j = true) {m : Nat} (hm : j < m) (hm2 : m ≤ 20) : wrdF tp a e m = 300 + j := by
  induction m with
  | zero => omega
  | succ m ih =>
    show (if wrdF tp a e m = 258 then (if isWd tp a e m = true then 300 + m else 258) else wrdF tp a e m) = 300 + j
    by_cases c : j = m
    · subst c
      have hn : ∀ i, i < j → isWd tp a e i = false := fun i hi => by
        cases z : isWd tp a e i with
        | false => rfl
        | true => exact absurd (isWd_one (by omega) hj z h) (by omega)
      rw [wrdF_n hn, if_pos rfl, if_pos h]
    · rw [ih (by omega) (by omega), if_neg (by omega)]
theorem wrd_n {tp : Nat → Nat} {a e : Nat} (h : ∀ j, j < 20 → isWd tp a e j = false) : wrd tp a e = 258 := wrdF_n h
theorem wrd_y {tp : Nat → Nat} {a e j : Nat} (hj : j < 20) (h : isWd tp a e j = true) : wrd tp a e = 300 + j := wrdF_y hj h hj (Nat.le_refl _)
/-- one of them or none -/
theorem wd_or (tp : Nat → Nat) (a e : Nat) : (∃ j, j < 20 ∧ isWd tp a e j = true) ∨ ∀ j, j < 20 → isWd tp a e j = false := by
  by_cases h : ∃ j, j < 20 ∧ isWd tp a e j = true
  · exact Or.inl h
  · refine Or.inr (fun j hj => ?_)
    cases z : isWd tp a e j with
    | false => rfl
    | true => exact absurd ⟨j, hj, z⟩ h
theorem wrd_k (tp : Nat → Nat) (a e : Nat) : wrd tp a e = 258 ∨ ∃ j, j < 20 ∧ wrd tp a e = 300 + j := by
  rcases wd_or tp a e with ⟨j, hj, h⟩ | h
  · exact Or.inr ⟨j, hj, wrd_y hj h⟩
  · exact Or.inl (wrd_n h)
/-- the value of four digits at most -/
theorem valN_b {tp : Nat → Nat} {a : Nat} (m : Nat) (hm : m ≤ 4) (h : ∀ k, k < m → isDg (tp (a + k)) = true) : valN tp a m + 1 ≤ 10 ^ m ∧ valN tp a m ≤ 9999 := by
  have d : ∀ k, k < m → 48 ≤ tp (a + k) ∧ tp (a + k) ≤ 57 := fun k hk => of_decide_eq_true (h k hk)
  have z : m = 0 ∨ m = 1 ∨ m = 2 ∨ m = 3 ∨ m = 4 := by omega
  rcases z with rfl | rfl | rfl | rfl | rfl
  · simp only [valN]
    omega
  · have d0 := d 0 (by decide)
    simp only [valN]
    omega
  · have d0 := d 0 (by decide)
    have d1 := d 1 (by decide)
    simp only [valN]
    omega
  · have d0 := d 0 (by decide)
    have d1 := d 1 (by decide)
    have d2 := d 2 (by decide)
    simp only [valN]
    omega
  · have d0 := d 0 (by decide)
    have d1 := d 1 (by decide)
    have d2 := d 2 (by decide)
    have d3 := d 3 (by decide)
    simp only [valN]
    omega
theorem Vd_b {tp : Nat → Nat} {n i : Nat} (hB : tapB n tp) : Vd tp n i ≤ 9999 := by
  unfold Vd
  split
  · rename_i h
    unfold Kd at h
    by_cases c : plc tp n i < n
    · rw [if_pos c] at h
      unfold kndA at h
      generalize plc tp n i = a at c h ⊢
      by_cases c1 : isL (tp a) = true
      · rw [if_pos c1] at h
        rcases wrd_k tp a (eot tp n a) with z | ⟨j, _, z⟩ <;> omega
      · rw [if_neg c1] at h
        by_cases c2 : isDg (tp a) = true
        · rw [if_pos c2] at h
          by_cases c3 : eot tp n a - a ≤ 4
          · refine (valN_b _ c3 (fun k hk => ?_)).2
            have e : eot tp n a = rto (fun i => isDg (tp i)) n (a + 1) := by
              unfold eot
              rw [if_neg c1, if_pos c2]
            by_cases k0 : k = 0
            · subst k0
              exact c2
            · rw [e] at hk
              exact rto_in (b := fun i => isDg (tp i)) (n := n) (a := a + 1) (by omega) (by omega) (by omega)
          · rw [if_neg c3] at h
            omega
        · rw [if_neg c2] at h
          have := hB.2 a c
          omega
    · rw [if_neg c] at h
      omega
  · omega
