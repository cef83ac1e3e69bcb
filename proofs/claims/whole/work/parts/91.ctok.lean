/-! TOKENS: the class finds them -/
theorem c_isL {c : Nat} (h : c < 2 ^ 31) : Reader_isLetter (nI c) = some (if isL c = true then nI 1 else nI 0) := by
  unfold Reader_isLetter Reader_isLetter_j12 Reader_isLetter_j24
  by_cases e : (97 ≤ c ∧ c ≤ 122) ∨ (65 ≤ c ∧ c ≤ 90)
  · rw [if_pos (show isL c = true from decide_eq_true e)]
    rcases e with e | e
    · rw [if_neg (nI_nlt e.1 h), if_pos (nI_le e.2 (by decide))]
    · rw [if_pos (nI_lt (by omega) (by decide)), if_neg (nI_nlt e.1 h), if_neg (nI_nlt e.2 (by decide))]
  · rw [if_neg (show ¬ isL c = true from fun z => e (of_decide_eq_true z))]
    by_cases c1 : c < 97
    · rw [if_pos (nI_lt c1 (by decide))]
      by_cases c2 : c < 65
      · rw [if_pos (nI_lt c2 (by decide))]
      · rw [if_neg (nI_nlt (by omega) h), if_pos (nI_lt (by omega) h)]
    · rw [if_neg (nI_nlt (by omega) h), if_neg (nI_ge (by omega) h), if_neg (nI_nlt (by omega) h), if_pos (nI_lt (by omega) h)]
theorem c_isDg {c : Nat} (h : c < 2 ^ 31) : Reader_isDigit (nI c) = some (if isDg c = true then nI 1 else nI 0) := by
  unfold Reader_isDigit
  by_cases e : 48 ≤ c ∧ c ≤ 57
  · rw [if_pos (show isDg c = true from decide_eq_true e), if_neg (nI_nlt e.1 h), if_neg (nI_nlt e.2 (by decide))]
  · rw [if_neg (show ¬ isDg c = true from fun z => e (of_decide_eq_true z))]
    by_cases c1 : c < 48
    · rw [if_pos (nI_lt c1 (by decide))]
    · rw [if_neg (nI_nlt (by omega) h), if_pos (nI_lt (by omega) h)]
theorem anyB_no {b : Nat → Bool} {N : Nat} (h : ∀ k, k < N → b k = false) : anyB b N = false := by
  induction N with
  | zero => rfl
  | succ N ih =>
    show (anyB b N || b N) = false
    rw [ih (fun k hk => h k (by omega)), h N (Nat.lt_succ_self N)]
    rfl
theorem anyB_all {b : Nat → Bool} {N : Nat} (h : anyB b N = false) (k : Nat) (hk : k < N) : b k = false := by
  cases e : b k with
  | false => rfl
  | true => exact absurd (anyB_of hk e) (by rw [h]; exact Bool.false_ne_true)
theorem if_10 {α : Type} {a b : α} : (if nI 1 = 0 then a else b) = b := if_neg (by decide)
theorem c_eot {μ : Mm} {n a : Nat} {tp : Nat → Nat} (h : tapC μ n tp) (hB : tapB n tp) (ha : a < n) : Reader_endOfToken 532 (nI a) μ = some (nI (eot tp n a)) := by
  obtain ⟨h1, h2⟩ := h
  obtain ⟨b1, b2⟩ := hB
  have ta := b2 a ha
  unfold Reader_endOfToken eot
  rw [chv_nI (by omega) (by decide), ix_nI (by omega), h2 a ha, c_isL (by omega), bnd_eq]
  by_cases c1 : isL (tp a) = true
  · have key := loop_run (f := fun s => Reader_endOfToken_l16 532 s μ) (fun k => nI k) (fun k => nI k) (b := fun i => isL (tp i)) (n := n) (a := a + 1) (by omega) (fun k k1 k2 k3 => ?_) (fun k k1 k2 k3 => ?_) ?_ (N := 1000000) (by omega)
    · rw [if_pos c1, if_10, if_pos c1, nI_add, key, bni_eq]
    · have k3 : isL (tp k) = true := k3
      have tk := b2 k k2
      show Reader_endOfToken_l16 _ _ _ = _
      unfold Reader_endOfToken_l16
      rw [h1, if_neg (nI_ge k2 (by omega)), chv_nI (by omega) (by decide), ix_nI (by omega), h2 k k2, c_isL (by omega), bnd_eq, if_pos k3, if_10, nI_add]
    · have k3 : isL (tp k) = false := k3
      have tk := b2 k k2
      show Reader_endOfToken_l16 _ _ _ = _
      unfold Reader_endOfToken_l16
      rw [h1, if_neg (nI_ge k2 (by omega)), chv_nI (by omega) (by decide), ix_nI (by omega), h2 k k2, c_isL (by omega), bnd_eq, k3, if_neg Bool.false_ne_true, if_00]
    · show Reader_endOfToken_l16 _ _ _ = _
      unfold Reader_endOfToken_l16
      rw [h1, if_pos (nI_le (Nat.le_refl _) (by omega))]
  · rw [if_neg c1, if_00, if_neg c1, chv_nI (by omega) (by decide), c_isDg (by omega), bnd_eq]
    by_cases c2 : isDg (tp a) = true
    · have key := loop_run (f := fun s => Reader_endOfToken_l54 532 s μ) (fun k => nI k) (fun k => nI k) (b := fun i => isDg (tp i)) (n := n) (a := a + 1) (by omega) (fun k k1 k2 k3 => ?_) (fun k k1 k2 k3 => ?_) ?_ (N := 1000000) (by omega)
      · rw [if_pos c2, if_10, if_pos c2, nI_add, key, bni_eq]
      · have k3 : isDg (tp k) = true := k3
        have tk := b2 k k2
        show Reader_endOfToken_l54 _ _ _ = _
        unfold Reader_endOfToken_l54
        rw [h1, if_neg (nI_ge k2 (by omega)), chv_nI (by omega) (by decide), ix_nI (by omega), h2 k k2, c_isDg (by omega), bnd_eq, if_pos k3, if_10, nI_add]
      · have k3 : isDg (tp k) = false := k3
        have tk := b2 k k2
        show Reader_endOfToken_l54 _ _ _ = _
        unfold Reader_endOfToken_l54
        rw [h1, if_neg (nI_ge k2 (by omega)), chv_nI (by omega) (by decide), ix_nI (by omega), h2 k k2, c_isDg (by omega), bnd_eq, k3, if_neg Bool.false_ne_true, if_00]
      · show Reader_endOfToken_l54 _ _ _ = _
        unfold Reader_endOfToken_l54
        rw [h1, if_pos (nI_le (Nat.le_refl _) (by omega))]
    · rw [if_neg c2, if_00, if_neg c2, nI_add]
/-- how many words end ahead of a place of the class's text -/
def wN (i : Nat) : Nat := (if 5 < i then 1 else 0) + (if 9 < i then 1 else 0) + (if 14 < i then 1 else 0) + (if 17 < i then 1 else 0) + (if 21 < i then 1 else 0) + (if 25 < i then 1 else 0) + (if 30 < i then 1 else 0) + (if 33 < i then 1 else 0) + (if 36 < i then 1 else 0) + (if 42 < i then 1 else 0) + (if 47 < i then 1 else 0) + (if 52 < i then 1 else 0) + (if 57 < i then 1 else 0) + (if 62 < i then 1 else 0) + (if 69 < i then 1 else 0) + (if 73 < i then 1 else 0) + (if 78 < i then 1 else 0) + (if 84 < i then 1 else 0) + (if 89 < i then 1 else 0) + (if 95 < i then 1 else 0)
theorem wN_tab : ∀ i, i < 96 → wN i < 20 ∧ wB (wN i) ≤ i ∧ i ≤ wB (wN i) + wL (wN i) ∧ (if i = wB (wN i) + wL (wN i) then wordsBytes.getD i 0 = nI 32 ∧ wN (i + 1) = wN i + 1 ∧ wB (wN (i + 1)) = i + 1 else ¬ wordsBytes.getD i 0 = nI 32 ∧ wN (i + 1) = wN i) := by decide +kernel
theorem wB_in : ∀ j, j < 20 → wB j + wL j < 96 := by decide +kernel
theorem wC_nI (k : Nat) : wordsBytes.getD k 0 = nI (wC k) := (nI_uN _).symm
theorem wC_b : ∀ k, k < 96 → wC k < 128 := by decide +kernel
theorem c_spell {μ : Mm} {n a e j : Nat} {tp : Nat → Nat} (h : tapC μ n tp) (hB : tapB n tp) (hae : a ≤ e) (he : e ≤ n) (hj : j < 20) (hl : e - a = wL j) : Reader_isSpelled 532 (nI (wB j)) (nI a) (nI e) μ = some (if isWd tp a e j = true then nI 1 else nI 0) := by
  obtain ⟨h1, h2⟩ := h
  obtain ⟨b1, b2⟩ := hB
  have wj := wB_in j hj
  have key := loop_find (f := fun s => Reader_isSpelled_l3 532 (nI (wB j)) (nI a) (nI e) s μ) (b := fun k => decide (tp (a + k) ≠ wC (wB j + k))) (N := wL j) (by omega) (fun k hk hx => ?_) (fun k hk hx => ?_) ?_
  · unfold Reader_isSpelled
    rw [key, bni_eq]
    by_cases c : isWd tp a e j = true
    · have z := (of_decide_eq_true c).2
      have : anyB (fun k => decide (tp (a + k) ≠ wC (wB j + k))) (wL j) = false := anyB_no (fun k hk => decide_eq_false (fun y => y (z k hk)))
      rw [this, if_pos c]
      rfl
    · have : anyB (fun k => decide (tp (a + k) ≠ wC (wB j + k))) (wL j) = true := by
        cases z : anyB (fun k => decide (tp (a + k) ≠ wC (wB j + k))) (wL j) with
        | true => rfl
        | false => exact absurd (decide_eq_true ⟨hl, fun k hk => Decidable.not_not.1 (of_decide_eq_false (anyB_all z k hk))⟩) c
      rw [this, if_neg c]
      rfl
  · have hx := of_decide_eq_true hx
    have tk := b2 (a + k) (by omega)
    have wk := wC_b (wB j + k) (by omega)
    show Reader_isSpelled_l3 _ _ _ _ _ _ = _
    unfold Reader_isSpelled_l3
    rw [nI_add, if_neg (nI_ge (by omega) (by omega)), chv_nI (by omega) (by decide), nI_add, chv_nI (by omega) (by decide), ix_nI (by omega), ix_nI (by omega), h2 _ (by omega), wC_nI, if_neg (fun z => hx ((nI_eq (by omega) (by omega)).1 z))]
  · have hx := Decidable.not_not.1 (of_decide_eq_false hx)
    have tk := b2 (a + k) (by omega)
    show Reader_isSpelled_l3 _ _ _ _ _ _ = _
    unfold Reader_isSpelled_l3
    rw [nI_add, if_neg (nI_ge (by omega) (by omega)), chv_nI (by omega) (by decide), nI_add, chv_nI (by omega) (by decide), ix_nI (by omega), ix_nI (by omega), h2 _ (by omega), wC_nI, if_pos (by rw [hx]), nI_add]
  · show Reader_isSpelled_l3 _ _ _ _ _ _ = _
    unfold Reader_isSpelled_l3
    rw [nI_add, if_pos (nI_le (by omega) (by omega))]
theorem c_word {μ : Mm} {n a e : Nat} {tp : Nat → Nat} (h : tapC μ n tp) (hB : tapB n tp) (hae : a ≤ e) (he : e ≤ n) : Reader_wordBetween 532 (nI a) (nI e) μ = some (nI (wrd tp a e)) := by
  have b1 := hB.1
  have key := iter_inv (f := fun s : Int32 × Int32 × Int32 => Reader_wordBetween_l10 532 (nI a) (nI e) s.1 s.2.1 s.2.2 μ)
    (fun k s => s = (nI (300 + wN k), nI (wB (wN k)), nI k) ∧ ∀ j, j < wN k → isWd tp a e j = false)
    (fun x => (∃ j, j < 20 ∧ isWd tp a e j = true ∧ x = Sum.inl (nI (300 + j))) ∨ (x = Sum.inr () ∧ ∀ j, j < 20 → isWd tp a e j = false)) 96 ?_ ?_ 1000000 (nI 300, nI 0, nI 0) ⟨rfl, fun j hj => absurd hj (by show ¬ j < 0; omega)⟩ (by decide)
  · obtain ⟨x, k1, k2⟩ := key
    unfold Reader_wordBetween
    rw [k1, bni_eq]
    rcases k2 with ⟨j, hj, hw, rfl⟩ | ⟨rfl, hw⟩
    · rw [wrd_y hj hw]
      rfl
    · rw [wrd_n hw]
      rfl
  · rintro k s hk ⟨rfl, hn⟩
    obtain ⟨t1, t2, t3, t4⟩ := wN_tab k hk
    have tb := wB_in (wN k) t1
    have e1 : Reader_wordBetween_l10 532 (nI a) (nI e) (nI (300 + wN k)) (nI (wB (wN k))) (nI k) μ = if wordsBytes.getD k 0 = nI 32 then if nI k - nI (wB (wN k)) = nI e - nI a then bnd (Reader_isSpelled 532 (nI (wB (wN k))) (nI a) (nI e) μ) fun r1 => if r1 = 0 then some (.inl (nI (300 + wN k) + nI 1, nI k + nI 1, nI k + nI 1)) else some (.inr (Sum.inl (nI (300 + wN k)))) else some (.inl (nI (300 + wN k) + nI 1, nI k + nI 1, nI k + nI 1)) else some (.inl (nI (300 + wN k), nI (wB (wN k)), nI k + nI 1)) := by
      unfold Reader_wordBetween_l10
      rw [if_neg (show ¬ (96 : Int32) ≤ nI k from nI_ge hk (by decide)), chv_nI hk (by decide), ix_nI (by omega)]
      rfl
    by_cases c : k = wB (wN k) + wL (wN k)
    · rw [if_pos c] at t4
      obtain ⟨u1, u2, u3⟩ := t4
      have next : (nI (300 + wN k) + nI 1, nI k + nI 1, nI k + nI 1) = (nI (300 + wN (k + 1)), nI (wB (wN (k + 1))), nI (k + 1)) := by
        rw [u3, u2, nI_add, nI_add, Nat.add_assoc]
      by_cases c2 : e - a = wL (wN k)
      · have c3 : nI k - nI (wB (wN k)) = nI e - nI a := by
          rw [nI_subE t2, nI_subE hae, c2]
          congr 1
          omega
        by_cases c4 : isWd tp a e (wN k) = true
        · refine Or.inr ⟨_, ?_, Or.inl ⟨wN k, t1, c4, rfl⟩⟩
          show Reader_wordBetween_l10 _ _ _ _ _ _ _ = _
          rw [e1, if_pos u1, if_pos c3, c_spell h hB hae he t1 c2, bnd_eq, if_pos c4, if_10]
        · have c4 : isWd tp a e (wN k) = false := by simpa using c4
          refine Or.inl ⟨_, ?_, rfl, fun j hj => ?_⟩
          · show Reader_wordBetween_l10 _ _ _ _ _ _ _ = _
            rw [e1, if_pos u1, if_pos c3, c_spell h hB hae he t1 c2, bnd_eq, c4, if_neg Bool.false_ne_true, if_00, next]
          · rw [u2] at hj
            by_cases y : j = wN k
            · rw [y]
              exact c4
            · exact hn j (by omega)
      · have c3 : ¬ nI k - nI (wB (wN k)) = nI e - nI a := by
          rw [nI_subE t2, nI_subE hae]
          intro z
          have := (nI_eq (by omega) (by omega)).1 z
          omega
        refine Or.inl ⟨_, ?_, rfl, fun j hj => ?_⟩
        · show Reader_wordBetween_l10 _ _ _ _ _ _ _ = _
          rw [e1, if_pos u1, if_neg c3, next]
        · rw [u2] at hj
          by_cases y : j = wN k
          · rw [y]
            exact decide_eq_false (fun z => c2 z.1)
          · exact hn j (by omega)
    · rw [if_neg c] at t4
      refine Or.inl ⟨_, ?_, rfl, fun j hj => hn j (by rw [t4.2] at hj; exact hj)⟩
      show Reader_wordBetween_l10 _ _ _ _ _ _ _ = _
      rw [e1, if_neg t4.1, t4.2, nI_add]
  · rintro s ⟨rfl, hn⟩
    refine ⟨_, ?_, Or.inr ⟨rfl, hn⟩⟩
    show Reader_wordBetween_l10 _ _ _ _ _ _ _ = _
    unfold Reader_wordBetween_l10
    rw [if_pos (show (96 : Int32) ≤ nI 96 by decide)]
theorem c_knd {μ : Mm} {n a : Nat} {tp : Nat → Nat} (h : tapC μ n tp) (hB : tapB n tp) (ha : a < n) : Reader_kindOfToken 532 (nI a) (nI (eot tp n a)) μ = some (nI (kndA tp n a)) := by
  have b1 := hB.1
  have ta := hB.2 a ha
  have he := eot_in (tp := tp) ha
  unfold Reader_kindOfToken kndA
  rw [chv_nI (by omega) (by decide), ix_nI (by omega), h.2 a ha, c_isL (by omega), bnd_eq]
  by_cases c1 : isL (tp a) = true
  · rw [if_pos c1, if_10, c_word h hB (by omega) he.2, bnd_eq, if_pos c1]
  · rw [if_neg c1, if_00, chv_nI (by omega) (by decide), c_isDg (by omega), bnd_eq, if_neg c1]
    by_cases c2 : isDg (tp a) = true
    · rw [if_pos c2, if_10, nI_subE (by omega), if_pos c2]
      by_cases c3 : eot tp n a - a ≤ 4
      · rw [if_neg (nI_nlt c3 (by decide)), if_pos c3]
      · rw [if_pos (nI_lt (by omega) (by omega)), if_neg c3]
    · rw [if_neg c2, if_00, chv_nI (by omega) (by decide), if_neg c2]
theorem c_val {μ : Mm} {n a e : Nat} {tp : Nat → Nat} (h : tapC μ n tp) (hB : tapB n tp) (hae : a ≤ e) (he : e ≤ n) (hd : ∀ k, a ≤ k → k < e → isDg (tp k) = true) : Reader_valueOfDigits 532 (nI a) (nI e) μ = some (nI (valN tp a (e - a))) := by
  have b1 := hB.1
  have key := iter_traj (f := fun s : Int32 × Int32 => Reader_valueOfDigits_l5 532 (nI e) s.1 s.2 μ) (fun k => (nI (valN tp a k), nI (a + k))) (y := nI (valN tp a (e - a))) (e - a) 1000000 (fun k hk => ?_) ?_ (by omega)
  · unfold Reader_valueOfDigits
    rw [show ((nI 0, nI a) : Int32 × Int32) = (nI (valN tp a 0), nI (a + 0)) from rfl, key, bni_eq]
  · have d := of_decide_eq_true (hd (a + k) (by omega) (by omega))
    show Reader_valueOfDigits_l5 _ _ _ _ _ = _
    unfold Reader_valueOfDigits_l5
    rw [if_neg (nI_ge (by omega) (by omega)), chv_nI (by omega) (by decide), ix_nI (by omega), h.2 _ (by omega), nI_mulE, nI_add, nI_subE (by omega), lt_eq, nI_add]
    rfl
  · show Reader_valueOfDigits_l5 _ _ _ _ _ = _
    unfold Reader_valueOfDigits_l5
    rw [if_pos (nI_le (by omega) (by omega))]
/-- the class's tokens, c of them and the end -/
def tokC (μ : Mm) (tp : Nat → Nat) (n c : Nat) : Prop := ∀ i, i ≤ c → μ.1 534 i = nI (Kd tp n i) ∧ μ.1 535 i = nI (Vd tp n i) ∧ μ.1 536 i = nI (plc tp n i)
def ETk (o : Nat) : Prop := o = 532 ∨ o = 534 ∨ o = 535 ∨ o = 536
theorem Kd_at {tp : Nat → Nat} {n c a : Nat} (h : plc tp n c = a) (ha : a < n) : Kd tp n c = kndA tp n a := by
  unfold Kd
  rw [h, if_pos ha]
theorem c_toks {μ : Mm} {n : Nat} {tp : Nat → Nat} (h : tapC μ n tp) (hB : tapB n tp) : ∃ μ2 c, Reader_findTokens 532 μ = some μ2 ∧ c ≤ n ∧ plc tp n c = n ∧ (∀ i, i < c → plc tp n i < n) ∧ tokC μ2 tp n c ∧ μ2.1 532 7 = nI (c + 1) ∧ (∀ k, k ≠ 7 → μ2.1 532 k = μ.1 532 k) ∧ Out ETk μ μ2 := by
  have b1 := hB.1
  have key := iter_inv (f := fun s : Int32 × Int32 × Mm => Reader_findTokens_l9 532 s.1 s.2.1 s.2.2)
    (fun k s => ∃ p c, s.1 = nI p ∧ s.2.1 = nI k ∧ p ≤ n ∧ k ≤ p ∧ c ≤ p ∧ skp tp n p = plc tp n c ∧ (∀ i, i < c → plc tp n i < n ∧ s.2.2.1 534 i = nI (Kd tp n i) ∧ s.2.2.1 535 i = nI (Vd tp n i) ∧ s.2.2.1 536 i = nI (plc tp n i)) ∧ s.2.2.1 532 7 = nI c ∧ (∀ k, k ≠ 7 → s.2.2.1 532 k = μ.1 532 k) ∧ Out ETk μ s.2.2)
    (fun m => ∃ c, c ≤ n ∧ plc tp n c = n ∧ (∀ i, i < c → plc tp n i < n ∧ m.1 534 i = nI (Kd tp n i) ∧ m.1 535 i = nI (Vd tp n i) ∧ m.1 536 i = nI (plc tp n i)) ∧ m.1 532 7 = nI c ∧ (∀ k, k ≠ 7 → m.1 532 k = μ.1 532 k) ∧ Out ETk μ m)
    n ?_ ?_ 1000000 (nI 0, nI 0, sti μ 532 7 (nI 0)) ⟨0, 0, rfl, rfl, Nat.zero_le _, Nat.le_refl _, Nat.le_refl _, rfl, fun i hi => absurd hi (Nat.not_lt_zero _), sti_e ⟨rfl, rfl⟩, fun k hk => sti_n (fun z => hk z.2), Out.rf.sti (Or.inl rfl)⟩ (by omega)
  · obtain ⟨m, k1, c, c1, c2, c3, c4, c5, c6⟩ := key
    unfold Reader_findTokens Reader_findTokens_j130
    rw [lt_eq, k1, bni_eq, c4, chv_nI (by omega) (by decide), ix_nI (by omega), lt_eq, sti_n (by omega), c4, chv_nI (by omega) (by decide), ix_nI (by omega), lt_eq, sti_n (by omega), sti_n (by omega), c4, chv_nI (by omega) (by decide), ix_nI (by omega), lt_eq, sti_n (by omega), sti_n (by omega), sti_n (by omega), sti_n (by omega), sti_n (by omega), c4, c5 1 (by decide), h.1, nI_add, lt_eq]
    have eK : Kd tp n c = 256 := if_neg (by omega)
    refine ⟨_, c, rfl, c1, c2, fun i hi => (c3 i hi).1, fun i hi => ?_, sti_e ⟨rfl, rfl⟩, fun k hk => ?_, ?_⟩
    · by_cases y : i = c
      · subst y
        refine ⟨?_, ?_, ?_⟩
        · rw [sti_n (by omega), sti_n (by omega), sti_n (by omega), sti_e ⟨rfl, rfl⟩, eK]
        · rw [sti_n (by omega), sti_n (by omega), sti_e ⟨rfl, rfl⟩]
          unfold Vd
          rw [eK]
          rfl
        · rw [sti_n (by omega), sti_e ⟨rfl, rfl⟩, c2]
      · obtain ⟨_, z1, z2, z3⟩ := c3 i (by omega)
        refine ⟨?_, ?_, ?_⟩
        · rw [sti_n (by omega), sti_n (by omega), sti_n (by omega), sti_n (by omega)]
          exact z1
        · rw [sti_n (by omega), sti_n (by omega), sti_n (by omega), sti_n (by omega)]
          exact z2
        · rw [sti_n (by omega), sti_n (by omega), sti_n (by omega), sti_n (by omega)]
          exact z3
    · rw [sti_n (by omega), sti_n (by omega), sti_n (by omega), sti_n (by omega)]
      exact c5 k hk
    · exact (((c6.sti (by unfold ETk; omega)).sti (by unfold ETk; omega)).sti (by unfold ETk; omega)).sti (by unfold ETk; omega)
  · rintro k ⟨s1, s2, m⟩ hk ⟨p, c, rfl, rfl, p1, p2, p3, p4, p5, p6, p7, p8⟩
    have p5 : ∀ i, i < c → plc tp n i < n ∧ m.1 534 i = nI (Kd tp n i) ∧ m.1 535 i = nI (Vd tp n i) ∧ m.1 536 i = nI (plc tp n i) := p5
    have p6 : m.1 532 7 = nI c := p6
    have p7 : ∀ k, k ≠ 7 → m.1 532 k = μ.1 532 k := p7
    have p8 : Out ETk μ m := p8
    have hm : tapC m n tp := ⟨(p7 1 (by decide)).trans h.1, fun i hi => ((p8 533 (by unfold ETk; omega)).1 i).trans (h.2 i hi)⟩
    by_cases d : p < n
    · have he := eot_in (tp := tp) d
      have tpp := hB.2 p d
      left
      by_cases e : isBl (tp p) = true
      · have e2 := of_decide_eq_true e
        have e3 : eot tp n p = p + 1 := by
          unfold eot
          rw [if_neg (fun z => by have := of_decide_eq_true z; omega), if_neg (fun z => by have := of_decide_eq_true z; omega)]
        refine ⟨(nI (p + 1), nI (k + 1), m), ?_, p + 1, c, rfl, rfl, by omega, by omega, by omega, (skp_t d e).symm.trans p4, p5, p6, p7, p8⟩
        show Reader_findTokens_l9 _ _ _ _ = _
        unfold Reader_findTokens_l9
        rw [hm.1, if_neg (nI_ge hk (by omega)), if_neg (nI_ge d (by omega)), c_eot hm hB d, bnd_eq, chv_nI (by omega) (by decide), ix_nI (by omega), hm.2 p d, e3]
        rcases e2 with e2 | e2
        · rw [e2, if_pos rfl]
          unfold Reader_findTokens_j122
          rw [nI_add]
        · rw [e2, if_neg (by decide), chv_nI (by omega) (by decide), if_pos rfl]
          unfold Reader_findTokens_j122
          rw [nI_add]
      · have e : isBl (tp p) = false := by simpa using e
        have e2 := of_decide_eq_false e
        have pc : plc tp n c = p := by rw [← p4]; exact skp_f d e
        have kc := Kd_at pc d
        have kb : kndA tp n p < 2 ^ 31 := by
          unfold kndA
          split
          · rcases wrd_k tp p (eot tp n p) with z | ⟨j, _, z⟩ <;> omega
          · split
            · split <;> omega
            · omega
        have vb := Vd_b (i := c) hB
        have next : skp tp n (eot tp n p) = plc tp n (c + 1) := by
          rw [plc_s (by omega), pc]
        have fin : ∀ v : Int32, v = nI (Vd tp n c) → Reader_findTokens_j101 532 (nI p) (nI k) (nI (eot tp n p)) (532 + 3) (nI c) v (sti m 534 c (nI (kndA tp n p))) = some (.inl (nI (eot tp n p), nI (k + 1), sti (sti (sti (sti m 534 c (nI (kndA tp n p))) 535 c (nI (Vd tp n c))) 536 c (nI p)) 532 7 (nI (c + 1)))) := by
          intro v hv
          have l535 : sL SC 535 = 401 := by decide +kernel
          unfold Reader_findTokens_j101 Reader_findTokens_j122
          rw [l535, chv_nI (by omega) (by decide), ix_nI (by omega), lt_eq, sti_n (by omega), sti_n (by omega), p6, chv_nI (by omega) (by decide), ix_nI (by omega), lt_eq, sti_n (by omega), sti_n (by omega), sti_n (by omega), p6, nI_add, lt_eq, nI_add, hv]
        refine ⟨(nI (eot tp n p), nI (k + 1), sti (sti (sti (sti m 534 c (nI (kndA tp n p))) 535 c (nI (Vd tp n c))) 536 c (nI p)) 532 7 (nI (c + 1))), ?_, eot tp n p, c + 1, rfl, rfl, he.2, by omega, by omega, next, fun i hi => ?_, sti_e ⟨rfl, rfl⟩, fun k hk => ?_, ((((p8.sti (o := 534) (by unfold ETk; omega)).sti (o := 535) (by unfold ETk; omega)).sti (o := 536) (by unfold ETk; omega)).sti (o := 532) (by unfold ETk; omega))⟩
        · show Reader_findTokens_l9 _ _ _ _ = _
          unfold Reader_findTokens_l9
          rw [hm.1, if_neg (nI_ge hk (by omega)), if_neg (nI_ge d (by omega)), c_eot hm hB d, bnd_eq, chv_nI (by omega) (by decide), ix_nI (by omega), hm.2 p d, if_neg (fun z => e2 (Or.inl ((nI_eq (by omega) (by decide)).1 z))), chv_nI (by omega) (by decide), if_neg (fun z => e2 (Or.inr ((nI_eq (by omega) (by decide)).1 z))), c_knd hm hB d, bnd_eq, p6, chv_nI (by omega) (by decide), ix_nI (by omega), lt_eq, sti_n (by omega), p6, chv_nI (by omega) (by decide), ix_nI (by omega), sti_e ⟨rfl, rfl⟩]
          by_cases y : kndA tp n p = 257
          · have hdig : isL (tp p) = false ∧ isDg (tp p) = true := by
              unfold kndA at y
              by_cases c1 : isL (tp p) = true
              · rw [if_pos c1] at y
                rcases wrd_k tp p (eot tp n p) with z | ⟨j, _, z⟩ <;> omega
              · rw [if_neg c1] at y
                by_cases c2 : isDg (tp p) = true
                · exact ⟨by simpa using c1, c2⟩
                · rw [if_neg c2] at y
                  omega
            have ee : eot tp n p = rto (fun i => isDg (tp i)) n (p + 1) := by
              unfold eot
              rw [hdig.1, if_neg Bool.false_ne_true, if_pos hdig.2]
            have hm2 : tapC (sti m 534 c (nI (kndA tp n p))) n tp := hm.out (Out.rf.sti (E := fun o => o = 534) rfl) (by decide) (by decide)
            rw [if_pos (by rw [y]), c_val hm2 hB (by omega) he.2 (fun q q1 q2 => by
              by_cases q3 : q = p
              · rw [q3]
                exact hdig.2
              · rw [ee] at q2
                exact rto_in (b := fun i => isDg (tp i)) (n := n) (a := p + 1) (by omega) (by omega) q2), bnd_eq]
            refine fin _ ?_
            unfold Vd
            rw [kc, if_pos y, pc]
          · rw [if_neg (fun z => y ((nI_eq kb (by decide)).1 z))]
            refine fin _ ?_
            unfold Vd
            rw [kc, if_neg y]
        · by_cases y : i = c
          · subst y
            refine ⟨by omega, ?_, ?_, ?_⟩
            · show (sti _ _ _ _).1 534 i = _
              rw [sti_n (by omega), sti_n (by omega), sti_n (by omega), sti_e ⟨rfl, rfl⟩, kc]
            · show (sti _ _ _ _).1 535 i = _
              rw [sti_n (by omega), sti_n (by omega), sti_e ⟨rfl, rfl⟩]
            · show (sti _ _ _ _).1 536 i = _
              rw [sti_n (by omega), sti_e ⟨rfl, rfl⟩, pc]
          · obtain ⟨z0, z1, z2, z3⟩ := p5 i (by omega)
            refine ⟨z0, ?_, ?_, ?_⟩
            · show (sti _ _ _ _).1 534 i = _
              rw [sti_n (by omega), sti_n (by omega), sti_n (by omega), sti_n (by omega)]
              exact z1
            · show (sti _ _ _ _).1 535 i = _
              rw [sti_n (by omega), sti_n (by omega), sti_n (by omega), sti_n (by omega)]
              exact z2
            · show (sti _ _ _ _).1 536 i = _
              rw [sti_n (by omega), sti_n (by omega), sti_n (by omega), sti_n (by omega)]
              exact z3
        · show (sti _ _ _ _).1 532 k = _
          rw [sti_n (by omega), sti_n (by omega), sti_n (by omega), sti_n (by omega)]
          exact p7 k hk
    · have : p = n := by omega
      subst this
      right
      refine ⟨m, ?_, c, by omega, by rw [← p4]; exact skp_n, p5, p6, p7, p8⟩
      show Reader_findTokens_l9 _ _ _ _ = _
      unfold Reader_findTokens_l9
      rw [hm.1, if_neg (nI_ge hk (by omega)), if_pos (nI_le (Nat.le_refl _) (by omega))]
  · rintro ⟨s1, s2, m⟩ ⟨p, c, rfl, rfl, p1, p2, p3, p4, p5, p6, p7, p8⟩
    have : p = n := by omega
    subst this
    refine ⟨m, ?_, c, by omega, by rw [← p4]; exact skp_n, p5, p6, p7, p8⟩
    have p7 : ∀ k, k ≠ 7 → m.1 532 k = μ.1 532 k := p7
    show Reader_findTokens_l9 _ _ _ _ = _
    unfold Reader_findTokens_l9
    rw [p7 1 (by decide), h.1, if_pos (nI_le (Nat.le_refl _) (by omega))]
