/-! TOKENS: the check reads them one by one -/
theorem Mm_ext {μ ν : Mm} (h : ∀ o k, μ.1 o k = ν.1 o k) (h2 : μ.2 = ν.2) : μ = ν := Prod.ext (funext fun o => funext fun k => h o k) h2
theorem sti_id {μ : Mm} {o k : Nat} {v : Int32} (h : μ.1 o k = v) : sti μ o k v = μ := Mm_ext (fun a b => by
  by_cases e : a = o ∧ b = k
  · rw [sti_e e, e.1, e.2, h]
  · rw [sti_n e]) rfl
theorem sti_sti {μ : Mm} {o k : Nat} {v w : Int32} : sti (sti μ o k v) o k w = sti μ o k w := Mm_ext (fun a b => by
  by_cases e : a = o ∧ b = k
  · rw [sti_e e, sti_e e]
  · rw [sti_n e, sti_n e, sti_n e]) rfl
theorem sti_com {μ : Mm} {o k o2 k2 : Nat} {v w : Int32} (h : ¬ (o = o2 ∧ k = k2)) : sti (sti μ o k v) o2 k2 w = sti (sti μ o2 k2 w) o k v := Mm_ext (fun a b => by
  by_cases e : a = o ∧ b = k
  · rw [sti_e e, sti_n (by omega), sti_e e]
  · rw [sti_n e]
    by_cases e2 : a = o2 ∧ b = k2
    · rw [sti_e e2, sti_e e2]
    · rw [sti_n e2, sti_n e2, sti_n e]) rfl
/-- a loop that goes on as long as b holds; what is reached -/
theorem loop_runR {σ ρ : Type} {f : σ → Option (σ ⊕ ρ)} (T : Nat → σ) (y : Nat → ρ) {b : Nat → Bool} {n : Nat} {a : Nat} (ha : a ≤ n) (h1 : ∀ k, a ≤ k → k < n → (∀ i, a ≤ i → i < k → b i = true) → b k = true → f (T k) = some (.inl (T (k + 1)))) (h2 : ∀ k, a ≤ k → k < n → (∀ i, a ≤ i → i < k → b i = true) → b k = false → f (T k) = some (.inr (y k))) (h3 : (∀ i, a ≤ i → i < n → b i = true) → f (T n) = some (.inr (y n))) {N : Nat} (hN : n - a < N) : iter N f (T a) = some (y (rto b n a)) := by
  have go : ∀ (m a2 N : Nat), n - a2 = m → a ≤ a2 → a2 ≤ n → m < N → (∀ i, a ≤ i → i < a2 → b i = true) → iter N f (T a2) = some (y (rto b n a2)) := by
    intro m
    induction m with
    | zero =>
      intro a2 N hm h4 h5 hN hr
      have : a2 = n := by omega
      subst this
      obtain ⟨N, rfl⟩ : ∃ q, N = q + 1 := ⟨N - 1, by omega⟩
      rw [rto_n]
      exact iter_inr (h3 hr)
    | succ m ih =>
      intro a2 N hm h4 h5 hN hr
      obtain ⟨N, rfl⟩ : ∃ q, N = q + 1 := ⟨N - 1, by omega⟩
      have hlt : a2 < n := by omega
      cases e : b a2 with
      | true =>
        rw [iter_inl (h1 a2 h4 hlt hr e), rto_t hlt e]
        refine ih (a2 + 1) N (by omega) (by omega) (by omega) (by omega) (fun i i1 i2 => ?_)
        by_cases c : i = a2
        · rw [c]
          exact e
        · exact hr i i1 (by omega)
      | false =>
        rw [rto_f hlt e]
        exact iter_inr (h2 a2 h4 hlt hr e)
  exact go _ a N rfl (Nat.le_refl _) ha hN (fun i i1 i2 => by omega)
theorem m_raw {ν : Mm} {n k : Nat} {tp : Nat → Nat} (h : tapM ν n tp) (hn : n ≤ 400) (hk : k < 2 ^ 31) : M_raw (nI k) ν = some (if k < n then nI (tp k) else -1) := by
  unfold M_raw
  rw [h.1]
  by_cases c : k < n
  · rw [if_neg (nI_ge c (by omega)), chv_nI (by omega) (by decide), ix_nI hk, h.2 k c, if_pos c]
  · rw [if_pos (nI_le (by omega) hk), if_neg c]
theorem inI_b {c a b : Nat} (hc : c < 2 ^ 31) (ha : a < 2 ^ 31) (hb : b < 2 ^ 31) : inI (nI c) (nI a) (nI b) = decide (a ≤ c ∧ c ≤ b) := by
  by_cases e : a ≤ c ∧ c ≤ b
  · rw [decide_eq_true e]
    exact (inI_lo hc ha hb).2 e
  · rw [decide_eq_false e]
    exact Bool.eq_false_iff.2 (fun z => e ((inI_lo hc ha hb).1 z))
theorem m_isL {c : Nat} (h : c < 2 ^ 31) : M_isLetter (nI c) = some (if isL c = true then nI 1 else nI 0) := by
  unfold M_isLetter M_isLetter_j24 isL
  rw [m_isIn, bnd_eq, inI_b h (by decide) (by decide), m_isIn, inI_b h (by decide) (by decide)]
  by_cases c1 : 97 ≤ c ∧ c ≤ 122
  · rw [decide_eq_true c1, if_pos rfl, if_10, decide_eq_true (Or.inl c1), if_pos rfl]
  · rw [decide_eq_false c1, if_neg Bool.false_ne_true, if_00, bnd_eq]
    by_cases c2 : 65 ≤ c ∧ c ≤ 90
    · rw [decide_eq_true c2, if_pos rfl, if_10, decide_eq_true (Or.inr c2), if_pos rfl]
    · rw [decide_eq_false c2, if_neg Bool.false_ne_true, if_00, decide_eq_false (fun z => z.elim c1 c2), if_neg Bool.false_ne_true]
theorem m_isD {c : Nat} (h : c < 2 ^ 31) : M_isDigit (nI c) = some (if isDg c = true then nI 1 else nI 0) := by
  unfold M_isDigit isDg
  rw [m_isIn, bnd_eq, inI_b h (by decide) (by decide)]
  by_cases c1 : 48 ≤ c ∧ c ≤ 57
  · rw [decide_eq_true c1, if_pos rfl, chk_ok (show nI 1 = 0 ∨ nI 1 = 1 from Or.inr rfl)]
  · rw [decide_eq_false c1, if_neg Bool.false_ne_true, chk_ok (show nI 0 = 0 ∨ nI 0 = 1 from Or.inl rfl)]
theorem m_isLm : M_isLetter (-1) = some (nI 0) := by decide +kernel
theorem m_isDm : M_isDigit (-1) = some (nI 0) := by decide +kernel
theorem m_isMk {c : Nat} (h : c < 2 ^ 31) : M_isMarkSign (nI c) = some (if isMk c = true then nI 1 else nI 0) := by
  unfold M_isMarkSign M_isMarkSign_j60 isMk
  have e : ∀ k, k < 2 ^ 31 → ¬ c = k → ¬ nI c = nI k := fun k hk y z => y ((nI_eq h hk).1 z)
  by_cases c1 : c = 59 ∨ c = 43 ∨ c = 45 ∨ c = 42 ∨ c = 47 ∨ c = 40 ∨ c = 41 ∨ c = 60 ∨ c = 61 ∨ c = 62
  · rw [decide_eq_true c1, if_pos rfl]
    rcases c1 with rfl | rfl | rfl | rfl | rfl | rfl | rfl | rfl | rfl | rfl <;> decide +kernel
  · rw [decide_eq_false c1, if_neg Bool.false_ne_true]
    simp only [not_or] at c1
    obtain ⟨a1, a2, a3, a4, a5, a6, a7, a8, a9, a10⟩ := c1
    rw [if_neg (e _ (by decide) a1), if_neg (e _ (by decide) a2), if_neg (e _ (by decide) a3), if_neg (e _ (by decide) a4), if_neg (e _ (by decide) a5), if_neg (e _ (by decide) a6), if_neg (e _ (by decide) a7), if_neg (e _ (by decide) a8), if_neg (e _ (by decide) a9), if_neg (e _ (by decide) a10)]
/-- the check's words -/
def wRl : List Nat := [32, 119, 114, 105, 116, 101, 32, 105, 108, 108, 32, 119, 104, 101, 110, 32, 111, 114, 32, 97, 110, 100, 32, 110, 111, 116, 32, 99, 117, 114, 115, 101, 32, 108, 101, 102, 116, 32, 107, 105, 110, 100, 32, 108, 97, 122, 121, 32, 99, 111, 105, 110, 32, 112, 101, 114, 115, 111, 110, 32, 100, 97, 121, 32, 100, 97, 121, 115, 32, 112, 97, 112, 101, 114, 32, 104, 101, 108, 100, 32, 109, 97, 114, 107, 115, 32, 112, 111, 115, 116, 32, 116, 111, 32, 105, 110, 32]
def wR (k : Nat) : Nat := wRl.getD k 0
def wrdM (ν : Mm) : Prop := ∀ k, k < 97 → ν.1 12 k = nI (wR k)
def rB (j : Nat) : Nat := [1, 7, 11, 16, 19, 23, 27, 33, 38, 43, 48, 53, 60, 64, 69, 75, 80, 86, 91, 94].getD j 97
/-- the check's number of the class's j-th word, and back -/
def wM (j : Nat) : Nat := if j < 6 then j else if j < 9 then j + 11 else j - 3
def wI (j : Nat) : Nat := if j < 6 then j else if j < 17 then j + 3 else j - 11
theorem rB_tab : ∀ j, j < 20 → wI j < 20 ∧ wM (wI j) = j ∧ 1 ≤ rB j ∧ rB j ≤ 96 ∧ rB j + wL (wI j) + 1 = rB (j + 1) ∧ rB (j + 1) ≤ 97 ∧ (∀ i, i < wL (wI j) → wR (rB j + i) = wC (wB (wI j) + i) ∧ wR (rB j + i) ≠ 32) ∧ wR (rB j + wL (wI j)) = 32 ∧ rto (fun k => decide (wR k ≠ 32)) 97 (rB j) = rB j + wL (wI j) := by decide +kernel
theorem wI_all : ∀ j, j < 20 → ∃ j2, j2 < 20 ∧ wI j2 = j := fun j hj => ⟨wM j, by unfold wM; split <;> (try split) <;> omega, by unfold wM wI; split <;> (try split) <;> (try split) <;> (try split) <;> omega⟩
theorem wR_b : ∀ k, k < 97 → wR k < 128 := by decide +kernel
theorem m_word {ν : Mm} {n a e : Nat} {tp : Nat → Nat} (hW : wrdM ν) (h : tapM ν n tp) (hB : tapB n tp) (hae : a ≤ e) (he : e ≤ n) (hL : ∀ k, a ≤ k → k < e → isL (tp k) = true) : M_wordAt (nI a) (nI e) ν = some (if wrd tp a e = 258 then -1 else nI (wM (wrd tp a e - 300))) := by
  have b1 := hB.1
  have key := iter_inv (f := fun s : Int32 × Int32 => M_wordAt_l5 (nI a) (nI e) s.1 s.2 ν)
    (fun k s => s = (nI k + (-1), nI (rB k - 1)) ∧ ∀ j, j < k → isWd tp a e (wI j) = false)
    (fun x => (∃ j, j < 20 ∧ isWd tp a e (wI j) = true ∧ x = Sum.inl (nI j)) ∨ (x = Sum.inr () ∧ ∀ j, j < 20 → isWd tp a e (wI j) = false)) 20 ?_ ?_ 1000000 (-1, nI 0) ⟨rfl, fun j hj => absurd hj (Nat.not_lt_zero _)⟩ (by decide)
  · obtain ⟨x, k1, k2⟩ := key
    unfold M_wordAt
    rw [k1, bni_eq]
    rcases k2 with ⟨j, hj, hw, rfl⟩ | ⟨rfl, hw⟩
    · obtain ⟨t1, t2, _⟩ := rB_tab j hj
      rw [wrd_y t1 hw, if_neg (by omega), Nat.add_sub_cancel_left, t2]
      rfl
    · rw [wrd_n (fun j hj => by obtain ⟨j2, h1, rfl⟩ := wI_all j hj; exact hw j2 h1), if_pos rfl]
      rfl
  · rintro j s hj ⟨rfl, hn⟩
    obtain ⟨t1, t2, t3, t4, t5, t6, t7, t8, t9⟩ := rB_tab j hj
    have e0 : nI j + (-1) + nI 1 = nI j := by
      rw [Int32.add_assoc, show (-1 : Int32) + nI 1 = 0 from rfl, Int32.add_zero]
    have e1 : ∀ i, nI (rB j - 1) + nI 1 + nI i = nI (rB j + i) := fun i => by
      rw [nI_add, nI_add]
      congr 1
      omega
    have bnd32 : ∀ i, i ≤ e - a → (∀ q, 0 ≤ q → q < i → decide (wR (rB j + q) = tp (a + q)) = true) → i ≤ wL (wI j) := by
      intro i hi hq
      by_cases c : i ≤ wL (wI j)
      · exact c
      · have z := of_decide_eq_true (hq (wL (wI j)) (Nat.zero_le _) (by omega))
        rw [t8] at z
        have y := of_decide_eq_true (hL (a + wL (wI j)) (by omega) (by omega))
        omega
    have inner := loop_runR (f := fun s => M_wordAt_l19 (nI a) (nI e) (nI j + (-1) + nI 1) (nI (rB j - 1)) s ν) (fun k => nI k) (fun k => nI k) (b := fun i => decide (wR (rB j + i) = tp (a + i))) (n := e - a) (a := 0) (Nat.zero_le _) (fun i _ hi hq hx => ?_) (fun i _ hi hq hx => ?_) (fun _ => ?_) (N := 1000000) (by omega)
    · have next : M_wordAt_j87 (nI a) (nI e) (nI j + (-1) + nI 1) (nI (rB j - 1)) ν = some (.inl (nI (j + 1) + (-1), nI (rB (j + 1) - 1))) := by
        have l2 := loop_runR (f := fun s => M_wordAt_l93 (nI a) (nI e) (nI j + (-1) + nI 1) s ν) (fun k => nI k) (fun k => nI k) (b := fun k => decide (wR k ≠ 32)) (n := 97) (a := rB j) (by omega) (fun k _ hk _ hx => ?_) (fun k _ hk _ hx => ?_) (fun hq => ?_) (N := 1000000) (by omega)
        · unfold M_wordAt_j87
          rw [nI_add, show rB j - 1 + 1 = rB j by omega, l2, bni_eq, t9, e0, nI_m1, show rB (j + 1) - 1 = rB j + wL (wI j) by omega]
        · have hx := of_decide_eq_true hx
          have wb := wR_b k hk
          show M_wordAt_l93 _ _ _ _ _ = _
          unfold M_wordAt_l93
          rw [chv_nI hk (by decide), ix_nI (by omega), hW k hk, if_neg (fun z => hx ((nI_eq (by omega) (by decide)).1 z)), nI_add]
        · have hx := Decidable.not_not.1 (of_decide_eq_false hx)
          show M_wordAt_l93 _ _ _ _ _ = _
          unfold M_wordAt_l93
          rw [chv_nI hk (by decide), ix_nI (by omega), hW k hk, hx, if_pos rfl]
        · exact absurd t8 (of_decide_eq_true (hq (rB j + wL (wI j)) (by omega) (by omega)))
      have step : M_wordAt_l5 (nI a) (nI e) (nI j + (-1)) (nI (rB j - 1)) ν = M_wordAt_j60 (nI a) (nI e) (nI j + (-1) + nI 1) (nI (rB j - 1)) (nI (rto (fun i => decide (wR (rB j + i) = tp (a + i))) (e - a) 0)) ν := by
        unfold M_wordAt_l5
        rw [if_neg (nI_ge (by omega) (by decide)), show (nI 0 : Int32) = nI 0 from rfl, inner, bni_eq]
      have r0 := rto_le (b := fun i => decide (wR (rB j + i) = tp (a + i))) (Nat.zero_le (e - a))
      have r1 : ∀ q, 0 ≤ q → q < rto (fun i => decide (wR (rB j + i) = tp (a + i))) (e - a) 0 → decide (wR (rB j + q) = tp (a + q)) = true := fun q q1 q2 => rto_in (b := fun i => decide (wR (rB j + i) = tp (a + i))) (Nat.zero_le (e - a)) q1 q2
      have r2 := rto_end (b := fun i => decide (wR (rB j + i) = tp (a + i))) (Nat.zero_le (e - a))
      generalize rto (fun i => decide (wR (rB j + i) = tp (a + i))) (e - a) 0 = r at step r0 r1 r2
      by_cases c : isWd tp a e (wI j) = true
      · obtain ⟨w1, w2⟩ := of_decide_eq_true c
        have hr : r = e - a := by
          by_cases y : r < e - a
          · have := of_decide_eq_false (r2 y)
            exact absurd ((t7 r (by omega)).1.trans (w2 r (by omega)).symm) this
          · omega
        refine Or.inr ⟨_, ?_, Or.inl ⟨j, hj, c, rfl⟩⟩
        show M_wordAt_l5 _ _ _ _ _ = _
        rw [step]
        unfold M_wordAt_j60
        rw [nI_add, if_pos (by rw [hr]; congr 1; omega), e1, chv_nI (by omega) (by decide), ix_nI (by omega), hW _ (by omega), hr, w1, t8, if_pos rfl, e0]
      · have c : isWd tp a e (wI j) = false := by simpa using c
        refine Or.inl ⟨_, ?_, rfl, fun i hi => ?_⟩
        · show M_wordAt_l5 _ _ _ _ _ = _
          rw [step]
          unfold M_wordAt_j60
          by_cases y : r = e - a
          · have hb : r ≤ wL (wI j) := by
              by_cases c2 : r ≤ wL (wI j)
              · exact c2
              · have := bnd32 (wL (wI j) + 1) (by omega) (fun q q1 q2 => r1 q q1 (by omega))
                omega
            have wb := wR_b (rB j + r) (by omega)
            rw [nI_add, if_pos (by rw [y]; congr 1; omega), e1, chv_nI (by omega) (by decide), ix_nI (by omega), hW _ (by omega), if_neg, next]
            intro z
            have z := (nI_eq (by omega) (by decide)).1 z
            have h1 : r = wL (wI j) := by
              by_cases c3 : r < wL (wI j)
              · exact absurd z (t7 r c3).2
              · omega
            have w : isWd tp a e (wI j) = true := decide_eq_true ⟨by omega, fun k hk => (of_decide_eq_true (r1 k (Nat.zero_le _) (by omega))).symm.trans (t7 k hk).1⟩
            rw [w] at c
            exact Bool.noConfusion c
          · rw [nI_add, if_neg (fun z => by have := (nI_eq (by omega) (by omega)).1 z; omega), next]
        · by_cases y : i = j
          · rw [y]
            exact c
          · exact hn i (by omega)
    · have hx := of_decide_eq_true hx
      have hb := bnd32 i (Nat.le_of_lt hi) hq
      have tb := hB.2 (a + i) (by omega)
      show M_wordAt_l19 _ _ _ _ _ _ = _
      unfold M_wordAt_l19
      rw [nI_add, if_neg (nI_ge (by omega) (by omega)), e1, chv_nI (by omega) (by decide), chv_nI (by omega) (by decide), ix_nI (by omega), ix_nI (by omega), hW _ (by omega), h.2 _ (by omega), hx, if_pos rfl, nI_add]
    · have hx := of_decide_eq_false hx
      have hb := bnd32 i (Nat.le_of_lt hi) hq
      have tb := hB.2 (a + i) (by omega)
      have wb := wR_b (rB j + i) (by omega)
      show M_wordAt_l19 _ _ _ _ _ _ = _
      unfold M_wordAt_l19
      rw [nI_add, if_neg (nI_ge (by omega) (by omega)), e1, chv_nI (by omega) (by decide), chv_nI (by omega) (by decide), ix_nI (by omega), ix_nI (by omega), hW _ (by omega), h.2 _ (by omega), if_neg (fun z => hx ((nI_eq (by omega) (by omega)).1 z))]
    · show M_wordAt_l19 _ _ _ _ _ _ = _
      unfold M_wordAt_l19
      rw [nI_add, if_pos (nI_le (by omega) (by omega))]
  · rintro s ⟨rfl, hn⟩
    refine ⟨_, ?_, Or.inr ⟨rfl, hn⟩⟩
    show M_wordAt_l5 _ _ _ _ _ = _
    unfold M_wordAt_l5
    rw [if_pos (show nI 96 ≤ nI (rB 20 - 1) by decide)]
/-- the value as the check counts it on -/
def vSt (tp : Nat → Nat) (a : Nat) : Nat → Nat
  | 0 => 0
  | m + 1 => if vSt tp a m < 10000 then 10 * vSt tp a m + tp (a + m) - 48 else vSt tp a m
theorem vSt_b {tp : Nat → Nat} {a : Nat} (m : Nat) (h : ∀ k, k < m → isDg (tp (a + k)) = true) : vSt tp a m ≤ 99999 ∧ (m ≤ 4 → vSt tp a m = valN tp a m) := by
  induction m with
  | zero => exact ⟨Nat.zero_le _, fun _ => rfl⟩
  | succ m ih =>
    obtain ⟨i1, i2⟩ := ih (fun k hk => h k (by omega))
    have d := of_decide_eq_true (h m (Nat.lt_succ_self m))
    refine ⟨?_, fun hm => ?_⟩
    · show (if vSt tp a m < 10000 then _ else _) ≤ _
      split <;> omega
    · have e := i2 (by omega)
      have v := valN_b (tp := tp) (a := a) m (by omega) (fun k hk => h k (by omega))
      show (if vSt tp a m < 10000 then _ else _) = _
      rw [if_pos (by omega), e]
      show _ = valN tp a m * 10 + tp (a + m) - 48
      omega
/-- how a token stands there -/
def TKr (K V : Nat) (t v : Int32) : Prop := (K = 256 ∧ t = nI 0) ∨ (K = 257 ∧ t = nI 3 ∧ v = nI V) ∨ (K = 258 ∧ t = nI 1) ∨ (∃ j, j < 20 ∧ K = 300 + j ∧ t = nI 2 ∧ v = nI (wM j)) ∨ (K < 256 ∧ isMk K = true ∧ t = nI 4 ∧ v = nI K) ∨ (K < 256 ∧ isMk K = false ∧ t = nI 1)
def spt (tp : Nat → Nat) (n i : Nat) : Nat := if plc tp n i < n then eot tp n (plc tp n i) else n
def tkM (ν : Mm) (tp : Nat → Nat) (n i : Nat) : Prop := ν.1 0 23 = nI (plc tp n i) ∧ ν.1 0 22 = nI (spt tp n i) ∧ TKr (Kd tp n i) (Vd tp n i) (ν.1 0 24) (ν.1 0 25)
def ER (o k : Nat) : Prop := o = 0 ∧ 22 ≤ k ∧ k ≤ 25
theorem tapM.er {ν ν2 : Mm} {n : Nat} {tp : Nat → Nat} (h : tapM ν n tp) (ho : OutM ER ν ν2) : tapM ν2 n tp := h.out ho (fun z => by unfold ER at z; omega) (fun k z => by unfold ER at z; omega)
theorem wrdM.out {ν ν2 : Mm} {E : Nat → Nat → Prop} (h : wrdM ν) (ho : OutM E ν ν2) (hE : ∀ k, ¬ E 12 k) : wrdM ν2 := fun k hk => (ho _ _ (hE k)).trans (h k hk)
/-- a loop over places -/
theorem m_spots {ν : Mm} {n a : Nat} {tp : Nat → Nat} {b : Nat → Bool} {f : Mm → Option (Mm ⊕ Mm)} (ha : a ≤ n) (hn : n ≤ 400) (hs : ν.1 0 22 = nI a) (hf : ∀ k, k ≤ n → f (sti ν 0 22 (nI k)) = if k < n ∧ b (tp k) = true then some (.inl (sti ν 0 22 (nI (k + 1)))) else some (.inr (sti ν 0 22 (nI k)))) : iter 1000000 f ν = some (sti ν 0 22 (nI (rto (fun i => b (tp i)) n a))) := by
  have key := loop_run (f := f) (fun k => sti ν 0 22 (nI k)) (fun k => sti ν 0 22 (nI k)) (b := fun i => b (tp i)) (n := n) (a := a) ha (fun k k1 k2 k3 => ?_) (fun k k1 k2 k3 => ?_) ?_ (N := 1000000) (by omega)
  · rw [sti_id hs] at key
    exact key
  · rw [hf k (by omega), if_pos ⟨k2, k3⟩]
  · have k3 : b (tp k) = false := k3
    rw [hf k (by omega), if_neg (fun z => by rw [k3] at z; exact Bool.false_ne_true z.2)]
  · rw [hf n (Nat.le_refl n), if_neg (fun z => Nat.lt_irrefl n z.1)]
theorem m_skip {ν : Mm} {n a : Nat} {tp : Nat → Nat} (h : tapM ν n tp) (hB : tapB n tp) (ha : a ≤ n) (hs : ν.1 0 22 = nI a) : iter 1000000 (fun s => M_reads_l0 s) ν = some (sti ν 0 22 (nI (skp tp n a))) := by
  have hn := hB.1
  refine m_spots (b := isBl) ha hn hs (fun k hk => ?_)
  have hT : tapM (sti ν 0 22 (nI k)) n tp := h.out (OutM.rf.sti (E := fun o k => o = 0 ∧ k = 22) ⟨rfl, rfl⟩) (by omega) (fun k z => by omega)
  unfold M_reads_l0
  rw [sti_e ⟨rfl, rfl⟩, m_raw hT hn (by omega), bnd_eq]
  by_cases c : k < n
  · have tk := hB.2 k c
    rw [if_pos c]
    by_cases c1 : tp k = 32
    · rw [c1, if_pos rfl, if_pos ⟨c, rfl⟩]
      unfold M_reads_j26
      rw [sti_e ⟨rfl, rfl⟩, nI_add, lt_eq, sti_sti]
    · rw [if_neg (fun z => c1 ((nI_eq (by omega) (by decide)).1 z)), bnd_eq]
      by_cases c2 : tp k = 10
      · rw [c2, if_pos rfl, if_pos ⟨c, rfl⟩]
        unfold M_reads_j26
        rw [sti_e ⟨rfl, rfl⟩, nI_add, lt_eq, sti_sti]
      · rw [if_neg (fun z => c2 ((nI_eq (by omega) (by decide)).1 z)), if_neg (fun z => (of_decide_eq_true z.2).elim c1 c2)]
  · rw [if_neg c, if_neg (by decide), bnd_eq, if_neg (by decide), if_neg (fun z => c z.1)]
theorem m_lets {ν : Mm} {n a : Nat} {tp : Nat → Nat} (h : tapM ν n tp) (hB : tapB n tp) (ha : a ≤ n) (hs : ν.1 0 22 = nI a) : iter 1000000 (fun s => M_reads_l95 s) ν = some (sti ν 0 22 (nI (rto (fun i => isL (tp i)) n a))) := by
  have hn := hB.1
  refine m_spots (b := isL) ha hn hs (fun k hk => ?_)
  have hT : tapM (sti ν 0 22 (nI k)) n tp := h.out (OutM.rf.sti (E := fun o k => o = 0 ∧ k = 22) ⟨rfl, rfl⟩) (by omega) (fun k z => by omega)
  unfold M_reads_l95
  rw [sti_e ⟨rfl, rfl⟩, m_raw hT hn (by omega), bnd_eq]
  by_cases c : k < n
  · have tk := hB.2 k c
    rw [if_pos c, m_isL (by omega), bnd_eq]
    by_cases c1 : isL (tp k) = true
    · rw [if_pos c1, if_10, if_pos ⟨c, c1⟩, nI_add, lt_eq, sti_sti]
    · rw [if_neg c1, if_00, if_neg (fun z => c1 z.2)]
  · rw [if_neg c, m_isLm, bnd_eq, if_00, if_neg (fun z => c z.1)]
theorem m_digs {ν : Mm} {n a : Nat} {tp : Nat → Nat} (h : tapM ν n tp) (hB : tapB n tp) (ha : a < n) (hd : isDg (tp a) = true) (hs : ν.1 0 22 = nI (a + 1)) (hv : ν.1 0 25 = nI (tp a - 48)) : ∃ ν2, iter 1000000 (fun s => M_reads_l171 s) ν = some ν2 ∧ ν2.1 0 22 = nI (rto (fun i => isDg (tp i)) n (a + 1)) ∧ ν2.1 0 25 = nI (vSt tp a (rto (fun i => isDg (tp i)) n (a + 1) - a)) ∧ OutM (fun o k => o = 0 ∧ (k = 22 ∨ k = 25)) ν ν2 := by
  have hn := hB.1
  have key := loop_runR (f := fun s => M_reads_l171 s) (fun k => sti (sti ν 0 25 (nI (vSt tp a (k - a)))) 0 22 (nI k)) (fun k => sti (sti ν 0 25 (nI (vSt tp a (k - a)))) 0 22 (nI k)) (b := fun i => isDg (tp i)) (n := n) (a := a + 1) (by omega) (fun k k1 k2 k4 k3 => ?_) (fun k k1 k2 k4 k3 => ?_) (fun k4 => ?_) (N := 1000000) (by omega)
  · have e : sti (sti ν 0 25 (nI (vSt tp a (a + 1 - a)))) 0 22 (nI (a + 1)) = ν := by
      have : vSt tp a (a + 1 - a) = tp a - 48 := by
        rw [Nat.add_sub_cancel_left]
        show (if (0 : Nat) < 10000 then 10 * 0 + tp (a + 0) - 48 else 0) = _
        rw [if_pos (by decide), Nat.add_zero]
        omega
      rw [this, sti_id hv, sti_id hs]
    rw [e] at key
    exact ⟨_, key, sti_e ⟨rfl, rfl⟩, by rw [sti_n (by omega), sti_e ⟨rfl, rfl⟩], (OutM.rf.sti (by omega)).sti (by omega)⟩
  all_goals have hT : ∀ k, tapM (sti (sti ν 0 25 (nI (vSt tp a (k - a)))) 0 22 (nI k)) n tp := fun k => h.out ((OutM.rf.sti (E := fun o k => o = 0 ∧ (k = 22 ∨ k = 25)) (by omega)).sti (by omega)) (by omega) (fun k z => by omega)
  · have k3 : isDg (tp k) = true := k3
    have tk := hB.2 k k2
    have dk := of_decide_eq_true k3
    have vb := (vSt_b (tp := tp) (a := a) (k - a) (fun q hq => by
      by_cases y : q = 0
      · rw [y]
        exact hd
      · exact k4 (a + q) (by omega) (by omega))).1
    have es : vSt tp a (k + 1 - a) = if vSt tp a (k - a) < 10000 then 10 * vSt tp a (k - a) + tp k - 48 else vSt tp a (k - a) := by
      rw [show k + 1 - a = (k - a) + 1 by omega]
      show (if vSt tp a (k - a) < 10000 then 10 * vSt tp a (k - a) + tp (a + (k - a)) - 48 else vSt tp a (k - a)) = _
      rw [show a + (k - a) = k by omega]
    show M_reads_l171 _ = _
    unfold M_reads_l171
    rw [sti_e ⟨rfl, rfl⟩, m_raw (hT k) hn (by omega), bnd_eq, if_pos k2, m_isD (by omega), bnd_eq, if_pos k3, if_10, sti_n (by omega), sti_e ⟨rfl, rfl⟩]
    unfold M_reads_j223
    by_cases c : vSt tp a (k - a) < 10000
    · rw [if_neg (nI_ge c (by decide)), bnd_eq, nI_mulE, nI_add, nI_subE (by omega), lt_eq, sti_n (by omega), sti_e ⟨rfl, rfl⟩, nI_add, lt_eq, es, if_pos c]
      congr 2
      rw [sti_com (o := 0) (k := 22) (o2 := 0) (k2 := 25) (by omega), sti_sti, sti_sti]
    · rw [if_pos (nI_le (by omega) (by omega)), lt_eq, sti_n (by omega), sti_e ⟨rfl, rfl⟩, nI_add, lt_eq, es, if_neg c]
      congr 2
      rw [sti_com (o := 0) (k := 22) (o2 := 0) (k2 := 25) (by omega), sti_sti, sti_sti]
  · have k3 : isDg (tp k) = false := k3
    have tk := hB.2 k k2
    show M_reads_l171 _ = _
    unfold M_reads_l171
    rw [sti_e ⟨rfl, rfl⟩, m_raw (hT k) hn (by omega), bnd_eq, if_pos k2, m_isD (by omega), bnd_eq, k3, if_neg Bool.false_ne_true, if_00]
  · show M_reads_l171 _ = _
    unfold M_reads_l171
    rw [sti_e ⟨rfl, rfl⟩, m_raw (hT n) hn (by omega), bnd_eq, if_neg (Nat.lt_irrefl n), m_isDm, bnd_eq, if_00]
/-- the next token is read -/
theorem m_readsA {ν : Mm} {n a i : Nat} {tp : Nat → Nat} (hW : wrdM ν) (h : tapM ν n tp) (hB : tapB n tp) (ha : a ≤ n) (hs : ν.1 0 22 = nI a) (hi : skp tp n a = plc tp n i) : ∃ ν2, M_reads ν = some ν2 ∧ tkM ν2 tp n i ∧ OutM ER ν ν2 := by
  have hn := hB.1
  have hq := skp_le (tp := tp) ha
  have hnb := plc_nb (tp := tp) (n := n) i
  rw [← hi] at hnb
  unfold M_reads
  rw [m_skip h hB ha hs, bni_eq, sti_e ⟨rfl, rfl⟩, lt_eq, lt_eq]
  generalize hz : sti (sti (sti ν 0 22 (nI (skp tp n a))) 0 23 (nI (skp tp n a))) 0 24 (nI 1) = m5
  have o5 : OutM ER ν m5 := by
    rw [← hz]
    exact ((OutM.rf.sti (by unfold ER; omega)).sti (by unfold ER; omega)).sti (by unfold ER; omega)
  have e22 : m5.1 0 22 = nI (skp tp n a) := by rw [← hz, sti_n (by omega), sti_n (by omega), sti_e ⟨rfl, rfl⟩]
  have e23 : m5.1 0 23 = nI (skp tp n a) := by rw [← hz, sti_n (by omega), sti_e ⟨rfl, rfl⟩]
  have e24 : m5.1 0 24 = nI 1 := by rw [← hz, sti_e ⟨rfl, rfl⟩]
  clear hz
  have hT := h.er o5
  rw [e22, m_raw hT hn (by omega), bnd_eq]
  generalize skp tp n a = q at hq hnb e22 e23 hi ⊢
  by_cases c : q < n
  · have tq := hB.2 q c
    have he := eot_in (tp := tp) c
    have kq : Kd tp n i = kndA tp n q := Kd_at hi.symm c
    have sp : spt tp n i = eot tp n q := by
      unfold spt
      rw [← hi, if_pos c]
    have vq : Vd tp n i = if kndA tp n q = 257 then valN tp q (eot tp n q - q) else 0 := by
      unfold Vd
      rw [kq, ← hi]
    rw [if_pos c, if_neg (fun z => by rw [eq_m1 (by omega)] at z; exact z), nI_add, lt_eq, lt_eq]
    generalize hz : sti (sti m5 0 22 (nI (q + 1))) 0 25 (nI (tp q)) = m8
    have o8 : OutM ER ν m8 := by
      rw [← hz]
      exact (o5.sti (by unfold ER; omega)).sti (by unfold ER; omega)
    have f22 : m8.1 0 22 = nI (q + 1) := by rw [← hz, sti_n (by omega), sti_e ⟨rfl, rfl⟩]
    have f23 : m8.1 0 23 = nI q := by rw [← hz, sti_n (by omega), sti_n (by omega), e23]
    have f24 : m8.1 0 24 = nI 1 := by rw [← hz, sti_n (by omega), sti_n (by omega), e24]
    have f25 : m8.1 0 25 = nI (tp q) := by rw [← hz, sti_e ⟨rfl, rfl⟩]
    clear hz
    have hT8 := h.er o8
    rw [m_isL (by omega), bnd_eq]
    by_cases c1 : isL (tp q) = true
    · have ee : eot tp n q = rto (fun i => isL (tp i)) n (q + 1) := by
        unfold eot
        rw [if_pos c1]
      have kk : kndA tp n q = wrd tp q (eot tp n q) := by
        unfold kndA
        rw [if_pos c1]
      rw [if_pos c1, if_10, m_lets hT8 hB (by omega) f22, bni_eq, ← ee]
      have oX : OutM ER ν (sti m8 0 22 (nI (eot tp n q))) := o8.sti (by unfold ER; omega)
      rw [sti_n (by omega), f23, sti_e ⟨rfl, rfl⟩, m_word (hW.out oX (fun k z => by unfold ER at z; omega)) (h.er oX) hB (by omega) he.2 (fun k k1 k2 => by
        by_cases y : k = q
        · rw [y]
          exact c1
        · rw [ee] at k2
          exact rto_in (b := fun i => isL (tp i)) (n := n) (a := q + 1) (by omega) (by omega) k2), bnd_eq, lt_eq, sti_e ⟨rfl, rfl⟩]
      rcases wrd_k tp q (eot tp n q) with z | ⟨j, hj, z⟩
      · rw [z, if_pos rfl, if_pos rfl]
        refine ⟨_, rfl, ⟨?_, ?_, Or.inr (Or.inr (Or.inl ⟨kq.trans (kk.trans z), ?_⟩))⟩, oX.sti (by unfold ER; omega)⟩
        · rw [sti_n (by omega), sti_n (by omega), f23, hi]
        · rw [sti_n (by omega), sti_e ⟨rfl, rfl⟩, sp]
        · rw [sti_n (by omega), sti_n (by omega), f24]
      · rw [z, if_neg (show ¬ 300 + j = 258 by omega), Nat.add_sub_cancel_left, if_neg (fun y => by rw [eq_m1 (by unfold wM; split <;> (try split) <;> omega)] at y; exact y), lt_eq]
        refine ⟨_, rfl, ⟨?_, ?_, Or.inr (Or.inr (Or.inr (Or.inl ⟨j, hj, kq.trans (kk.trans z), sti_e ⟨rfl, rfl⟩, ?_⟩)))⟩, (oX.sti (by unfold ER; omega)).sti (by unfold ER; omega)⟩
        · rw [sti_n (by omega), sti_n (by omega), sti_n (by omega), f23, hi]
        · rw [sti_n (by omega), sti_n (by omega), sti_e ⟨rfl, rfl⟩, sp]
        · rw [sti_n (by omega), sti_e ⟨rfl, rfl⟩]
    · rw [if_neg c1, if_00, m_isD (by omega), bnd_eq]
      by_cases c2 : isDg (tp q) = true
      · have dq := of_decide_eq_true c2
        have ee : eot tp n q = rto (fun i => isDg (tp i)) n (q + 1) := by
          unfold eot
          rw [if_neg c1, if_pos c2]
        have kk : kndA tp n q = if eot tp n q - q ≤ 4 then 257 else 258 := by
          unfold kndA
          rw [if_neg c1, if_pos c2]
        have hdg : ∀ k, k < eot tp n q - q → isDg (tp (q + k)) = true := fun k hk => by
          by_cases y : k = 0
          · rw [y]
            exact c2
          · rw [ee] at hk
            exact rto_in (b := fun i => isDg (tp i)) (n := n) (a := q + 1) (by omega) (by omega) (by omega)
        have o13 : OutM ER ν (sti m8 0 25 (nI (tp q - 48))) := o8.sti (by unfold ER; omega)
        obtain ⟨m, g1, g2, g3, g4⟩ := m_digs (ν := sti m8 0 25 (nI (tp q - 48))) (h.er o13) hB c c2 (by rw [sti_n (by omega), f22]) (sti_e ⟨rfl, rfl⟩)
        rw [← ee] at g2 g3
        have oM : OutM ER ν m := o13.tr (g4.mono (fun o k z => by unfold ER; omega))
        have m23 : m.1 0 23 = nI q := by rw [g4 _ _ (by omega), sti_n (by omega), f23]
        have m24 : m.1 0 24 = nI 1 := by rw [g4 _ _ (by omega), sti_n (by omega), f24]
        obtain ⟨vb, ve⟩ := vSt_b (tp := tp) (a := q) (eot tp n q - q) hdg
        rw [if_pos c2, if_10, nI_subE (by omega), lt_eq, g1, bni_eq, g2, m23, nI_subE (by omega)]
        by_cases c3 : eot tp n q - q ≤ 4
        · rw [if_neg (nI_ge (by omega) (by decide)), lt_eq]
          rw [if_pos c3] at kk
          refine ⟨_, rfl, ⟨?_, ?_, Or.inr (Or.inl ⟨kq.trans kk, sti_e ⟨rfl, rfl⟩, ?_⟩)⟩, oM.sti (by unfold ER; omega)⟩
          · rw [sti_n (by omega), m23, hi]
          · rw [sti_n (by omega), g2, sp]
          · rw [sti_n (by omega), g3, ve c3, vq, if_pos kk]
        · rw [if_pos (nI_le (by omega) (by omega))]
          rw [if_neg c3] at kk
          exact ⟨_, rfl, ⟨by rw [m23, hi], by rw [g2, sp], Or.inr (Or.inr (Or.inl ⟨kq.trans kk, m24⟩))⟩, oM⟩
      · have ee : eot tp n q = q + 1 := by
          unfold eot
          rw [if_neg c1, if_neg c2]
        have kk : kndA tp n q = tp q := by
          unfold kndA
          rw [if_neg c1, if_neg c2]
        rw [if_neg c2, if_00, m_isMk (by omega), bnd_eq]
        by_cases c3 : isMk (tp q) = true
        · rw [if_pos c3, if_10, lt_eq]
          refine ⟨_, rfl, ⟨?_, ?_, Or.inr (Or.inr (Or.inr (Or.inr (Or.inl ⟨by rw [kq, kk]; exact tq, by rw [kq, kk]; exact c3, sti_e ⟨rfl, rfl⟩, ?_⟩))))⟩, o8.sti (by unfold ER; omega)⟩
          · rw [sti_n (by omega), f23, hi]
          · rw [sti_n (by omega), f22, sp, ee]
          · rw [sti_n (by omega), f25, kq, kk]
        · rw [if_neg c3, if_00]
          refine ⟨_, rfl, ⟨?_, ?_, Or.inr (Or.inr (Or.inr (Or.inr (Or.inr ⟨by rw [kq, kk]; exact tq, by rw [kq, kk]; simpa using c3, f24⟩))))⟩, o8⟩
          · rw [f23, hi]
          · rw [f22, sp, ee]
  · have : q = n := by omega
    subst this
    rw [if_neg c, if_pos rfl, lt_eq]
    refine ⟨_, rfl, ⟨?_, ?_, Or.inl ⟨if_neg (by omega), sti_e ⟨rfl, rfl⟩⟩⟩, o5.sti (by unfold ER; omega)⟩
    · rw [sti_n (by omega), e23]
      exact congrArg nI hi
    · rw [sti_n (by omega), e22]
      unfold spt
      rw [if_neg (by omega)]
theorem m_reads0 {ν : Mm} {n : Nat} {tp : Nat → Nat} (hW : wrdM ν) (h : tapM ν n tp) (hB : tapB n tp) (hs : ν.1 0 22 = nI 0) : ∃ ν2, M_reads ν = some ν2 ∧ tkM ν2 tp n 0 ∧ OutM ER ν ν2 := m_readsA hW h hB (Nat.zero_le n) hs rfl
theorem m_reads {ν : Mm} {n i : Nat} {tp : Nat → Nat} (hW : wrdM ν) (h : tapM ν n tp) (hB : tapB n tp) (ht : tkM ν tp n i) (hi : plc tp n i < n) : ∃ ν2, M_reads ν = some ν2 ∧ tkM ν2 tp n (i + 1) ∧ OutM ER ν ν2 := by
  have hs := ht.2.1
  unfold spt at hs
  rw [if_pos hi] at hs
  exact m_readsA hW h hB (eot_in hi).2 hs (plc_s hi).symm
/-- words, signs, numbers, the end -/
theorem m_isSg {ν : Mm} {n i c : Nat} {tp : Nat → Nat} (ht : tkM ν tp n i) (hc : c < 256) (hm : isMk c = true) : M_isSign (nI c) ν = some (if Kd tp n i = c then nI 1 else nI 0) := by
  unfold M_isSign
  rcases ht.2.2 with ⟨z, t⟩ | ⟨z, t, v⟩ | ⟨z, t⟩ | ⟨j, hj, z, t, v⟩ | ⟨z, z2, t, v⟩ | ⟨z, z2, t⟩ <;> rw [t]
  · rw [if_neg (by decide), if_neg (by omega)]
  · rw [if_neg (by decide), if_neg (by omega)]
  · rw [if_neg (by decide), if_neg (by omega)]
  · rw [if_neg (by decide), if_neg (by omega)]
  · rw [if_pos rfl, v]
    by_cases e : Kd tp n i = c
    · rw [if_pos e, if_pos (by rw [e])]
    · rw [if_neg e, if_neg (fun y => e ((nI_eq (by omega) (by omega)).1 y))]
  · rw [if_neg (by decide), if_neg (fun y => by rw [y, hm] at z2; exact Bool.noConfusion z2)]
theorem wM_one {j j2 : Nat} (hj : j < 20) (hj2 : j2 < 20) (h : wM j = wM j2) : j = j2 := by
  unfold wM at h
  split at h <;> split at h <;> (try split at h) <;> (try split at h) <;> omega
theorem wM_b {j : Nat} (hj : j < 20) : wM j < 20 := by
  unfold wM
  split <;> (try split) <;> omega
theorem m_isWo {ν : Mm} {n i j w : Nat} {tp : Nat → Nat} (ht : tkM ν tp n i) (hj : j < 20) (hw : w = wM j) : M_isWord (nI w) ν = some (if Kd tp n i = 300 + j then nI 1 else nI 0) := by
  subst hw
  have wb := wM_b hj
  unfold M_isWord
  rcases ht.2.2 with ⟨z, t⟩ | ⟨z, t, v⟩ | ⟨z, t⟩ | ⟨j2, hj2, z, t, v⟩ | ⟨z, z2, t, v⟩ | ⟨z, z2, t⟩ <;> rw [t]
  · rw [if_neg (by decide), if_neg (by omega)]
  · rw [if_neg (by decide), if_neg (by omega)]
  · rw [if_neg (by decide), if_neg (by omega)]
  · have wb2 := wM_b hj2
    rw [if_pos rfl, v]
    by_cases e : Kd tp n i = 300 + j
    · have : j2 = j := by omega
      rw [if_pos e, if_pos (by rw [this])]
    · rw [if_neg e, if_neg (fun y => by have := wM_one hj2 hj ((nI_eq (by omega) (by omega)).1 y); omega)]
  · rw [if_neg (by decide), if_neg (by omega)]
  · rw [if_neg (by decide), if_neg (by omega)]
theorem tk_num {ν : Mm} {n i : Nat} {tp : Nat → Nat} (ht : tkM ν tp n i) : (ν.1 0 24 = nI 3 ↔ Kd tp n i = 257) ∧ (Kd tp n i = 257 → ν.1 0 25 = nI (Vd tp n i)) := by
  rcases ht.2.2 with ⟨z, t⟩ | ⟨z, t, v⟩ | ⟨z, t⟩ | ⟨j2, hj2, z, t, v⟩ | ⟨z, z2, t, v⟩ | ⟨z, z2, t⟩ <;> rw [t]
  · exact ⟨⟨fun y => absurd y (by decide), fun y => by omega⟩, fun y => by omega⟩
  · exact ⟨⟨fun _ => z, fun _ => rfl⟩, fun _ => v⟩
  all_goals exact ⟨⟨fun y => absurd y (by decide), fun y => by omega⟩, fun y => by omega⟩
theorem tk_end {ν : Mm} {n i : Nat} {tp : Nat → Nat} (ht : tkM ν tp n i) : ν.1 0 24 = nI 0 ↔ Kd tp n i = 256 := by
  rcases ht.2.2 with ⟨z, t⟩ | ⟨z, t, v⟩ | ⟨z, t⟩ | ⟨j2, hj2, z, t, v⟩ | ⟨z, z2, t, v⟩ | ⟨z, z2, t⟩ <;> rw [t]
  · exact ⟨fun _ => z, fun _ => rfl⟩
  all_goals exact ⟨fun y => absurd y (by decide), fun y => by omega⟩
