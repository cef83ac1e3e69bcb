/-! TEXT in the class -/
section
variable {tp : Nat → Nat} {n c m : Nat}
/-- what becomes of the tape as text k: answer, fault, place; the texts then -/
def txO (tp : Nat → Nat) (n c : Nat) (k : Int32) (D : TD) : (Int32 × Nat × Int32) × TD :=
  if k = nI 0 then (match pLw (Kd tp n) (Vd tp n) 11 (c + 1) 300 (c + 1) 0 [] [] with
    | .inl e => ((-1, e.1, nI (plc tp n e.2)), D)
    | .inr x => ((nI x.2.length, 0, -1), (ldD x.1 x.2, D.2.1, D.2.2)))
  else if k = nI 1 then (match pLw (Kd tp n) (Vd tp n) 7 (c + 1) 301 (c + 1) 0 [] [] with
    | .inl e => ((-1, e.1, nI (plc tp n e.2)), D)
    | .inr x => ((nI x.2.length, 0, -1), (D.1, ldD x.1 x.2, D.2.2)))
  else if k = nI 2 then (match pPs (Kd tp n) (Vd tp n) (c + 1) 0 0 (fun _ _ => 1) with
    | .inl e => ((-1, e.1, nI (plc tp n e.2)), D)
    | .inr x => ((nI x.1, 0, -1), (D.1, D.2.1, x.1, x.2)))
  else ((-1, 0, -1), D)
theorem pPs_ok {K V : Nat → Nat} (f : Nat) : ∀ i q M, (∀ a b, 1 ≤ M a b ∧ M a b ≤ 20) → ∀ q2 M2, pPs K V f i q M = .inr (q2, M2) → ∀ a b, 1 ≤ M2 a b ∧ M2 a b ≤ 20 := by
  induction f with
  | zero =>
    intro i q M hM q2 M2 h
    cases h
    exact hM
  | succ f ih =>
    intro i q M hM q2 M2 h
    have h : (if K i = 256 then .inr (q, M) else bX (tkP K 306 i) fun i1 => bX (tnP K V 0 5 i1) fun i2 => bX (tkP K 307 i2) fun i3 => bX (tnP K V 0 5 i3) fun i4 => bX (tkP K 308 i4) fun i5 => bX (tnP K V 1 20 i5) fun i6 => bX (tkP K 59 i6) fun i7 => pPs K V f i7 (q + 1) (mpF M (V i1) (V i3) (V i5))) = (.inr (q2, M2) : (Nat × Nat) ⊕ (Nat × (Nat → Nat → Nat))) := h
    by_cases c : K i = 256
    · rw [if_pos c] at h
      cases h
      exact hM
    · rw [if_neg c] at h
      have get : ∀ {α β : Type} {r : (Nat × Nat) ⊕ α} {g : α → (Nat × Nat) ⊕ β} {y : β}, bX r g = .inr y → ∃ x, r = .inr x ∧ g x = .inr y := by
        intro α β r g y hr
        cases r with
        | inl e => cases hr
        | inr x => exact ⟨x, rfl, hr⟩
      obtain ⟨i1, _, h⟩ := get h
      obtain ⟨i2, _, h⟩ := get h
      obtain ⟨i3, _, h⟩ := get h
      obtain ⟨i4, _, h⟩ := get h
      obtain ⟨i5, _, h⟩ := get h
      obtain ⟨i6, h6, h⟩ := get h
      obtain ⟨i7, _, h⟩ := get h
      have hv : 1 ≤ V i5 ∧ V i5 ≤ 20 := by
        unfold tnP at h6
        by_cases c1 : K i5 = 257
        · rw [if_pos c1] at h6
          by_cases c2 : 1 ≤ V i5 ∧ V i5 ≤ 20
          · exact c2
          · rw [if_neg c2] at h6
            cases h6
        · rw [if_neg c1] at h6
          cases h6
      refine ih i7 (q + 1) _ (fun a b => ?_) q2 M2 h
      unfold mpF
      split
      · exact hv
      · exact hM a b
theorem Hyp.at {m2 : Nat} (H : Hyp tp n c m) (h : m2 ≤ 11) : Hyp tp n c m2 := ⟨H.1, H.2.1, H.2.2.1, H.2.2.2.1, H.2.2.2.2.1, h⟩
theorem txO_W (H : Hyp tp n c m) {k : Int32} {D : TD} (hD : TW D) : TW (txO tp n c k D).2 := by
  have law : ∀ m2 kw, m2 ≤ 11 → ∀ L D2, pLw (Kd tp n) (Vd tp n) m2 (c + 1) kw (c + 1) 0 [] [] = .inr (L, D2) → LW m2 (ldD L D2) := by
    intro m2 kw hm L D2 h
    obtain ⟨g1, g2⟩ := pLw_ok (H.at hm).E (H.at hm).V hm (c + 1) 0 [] [] (Nat.succ_pos c) (Nat.zero_le _) LX.rf L D2 h
    have := H.1
    have := H.2.1
    exact g1.w (by omega)
  unfold txO
  split
  · split
    · exact hD
    · rename_i x hx
      exact ⟨law 11 300 (by decide) x.1 x.2 hx, hD.2.1, hD.2.2⟩
  · split
    · split
      · exact hD
      · rename_i x hx
        exact ⟨hD.1, law 7 301 (by decide) x.1 x.2 hx, hD.2.2⟩
    · split
      · split
        · exact hD
        · rename_i x hx
          exact ⟨hD.1, hD.2.1, fun a b _ _ => pPs_ok (c + 1) 0 0 _ (fun _ _ => ⟨by decide, by decide⟩) x.1 x.2 hx a b⟩
      · exact hD
def ETx (o : Nat) : Prop := (532 ≤ o ∧ o ≤ 544) ∨ (166 ≤ o ∧ o < 181)
theorem c_rbegin {μ : Mm} (h : tapC μ n tp) (hB : tapB n tp) : ∃ μ2 c, Reader_begin 532 μ = some μ2 ∧ Hyp tp n c 11 ∧ tokC μ2 tp n c ∧ μ2.1 532 7 = nI (c + 1) ∧ μ2.1 532 2 = nI 0 ∧ μ2.1 532 3 = -1 ∧ μ2.1 532 8 = nI 0 ∧ Out ETk μ μ2 := by
  generalize hz : sti (sti (sti μ 532 2 (nI 0)) 532 3 (-1)) 532 8 (nI 0) = m1
  have o1 : Out ETk μ m1 := by
    rw [← hz]
    exact ((Out.rf.sti (Or.inl rfl)).sti (Or.inl rfl)).sti (Or.inl rfl)
  have h1 : tapC m1 n tp := ⟨by rw [← hz, sti_n (by omega), sti_n (by omega), sti_n (by omega)]; exact h.1, fun i hi => ((o1 533 (by unfold ETk; omega)).1 i).trans (h.2 i hi)⟩
  obtain ⟨m2, c, g1, g2, g3, g4, g5, g6, g7, g8⟩ := c_toks h1 hB
  refine ⟨m2, c, ?_, ⟨hB.1, g2, g3, g4, hB, Nat.le_refl _⟩, g5, g6, ?_, ?_, ?_, o1.tr g8⟩
  · unfold Reader_begin
    rw [lt_eq, lt_eq, lt_eq, hz, g1, bnd_eq]
  · rw [g7 2 (by decide), ← hz, sti_n (by omega), sti_n (by omega), sti_e ⟨rfl, rfl⟩]
  · rw [g7 3 (by decide), ← hz, sti_n (by omega), sti_e ⟨rfl, rfl⟩]
  · rw [g7 8 (by decide), ← hz, sti_e ⟨rfl, rfl⟩]
/-- a law, told or refused -/
theorem c_rlaw (H : Hyp tp n c m) {μ : Mm} {v1 kw : Nat} (ht : tokC μ tp n c) (h7 : μ.1 532 7 = nI (c + 1)) (h2 : μ.1 532 2 = nI 0) (h3 : μ.1 532 3 = -1) (h8 : μ.1 532 8 = nI 0) (hkw : kw < 2 ^ 31) (hkw2 : kw ≠ 256) (hv : v1 + 5 ≤ 532) : ∃ μ2, match pLw (Kd tp n) (Vd tp n) m (c + 1) kw (c + 1) 0 [] [] with
    | .inl e => Reader_readLaw 532 v1 (nI kw) (nI m) μ = some (-1, μ2) ∧ μ2.1 532 2 = nI e.1 ∧ μ2.1 532 3 = nI (plc tp n e.2) ∧ Out EL μ μ2
    | .inr x => Reader_readLaw 532 v1 (nI kw) (nI m) μ = some (nI x.2.length, μ2) ∧ μ2.1 532 2 = nI 0 ∧ μ2.1 532 3 = -1 ∧ LawC μ2 v1 (ldD x.1 x.2) ∧ Out (fun o => EL o ∨ (v1 ≤ o ∧ o < v1 + 5)) μ μ2 := by
  have hc : c ≤ 400 := Nat.le_trans H.2.1 H.1
  generalize hz : sti (sti (sti μ 537 5 (nI 0)) 537 6 (nI 0)) 532 11 (nI m) = m1
  have o1 : Out EL μ m1 := by
    rw [← hz]
    exact ((Out.rf.sti (by unfold EL; omega)).sti (by unfold EL; omega)).sti (by unfold EL; omega)
  have q : ∀ k, k ≠ 11 → m1.1 532 k = μ.1 532 k := fun k hk => by
    rw [← hz, sti_n (by omega), sti_n (by omega), sti_n (by omega)]
  have hL : LC tp n c m m1 (.inr (0, [], [])) := by
    refine ⟨⟨⟨ht.f (fun o a b k => (o1 o (by unfold EL; omega)).1 k), (q 7 (by decide)).trans h7, by rw [← hz, sti_e ⟨rfl, rfl⟩]⟩, Nat.zero_le _, Nat.le_refl _, (q 2 (by decide)).trans h2, (q 3 (by decide)).trans h3, (q 8 (by decide)).trans h8, ?_, fun k hk => absurd hk (Nat.not_lt_zero k)⟩, by decide, ?_, fun l hl => absurd hl (Nat.not_lt_zero l)⟩
    · rw [← hz, sti_n (by omega), sti_n (by omega), sti_e ⟨rfl, rfl⟩]
      rfl
    · rw [← hz, sti_n (by omega), sti_e ⟨rfl, rfl⟩]
      rfl
  obtain ⟨m2, st, g1, g2, g3, g4⟩ := c_lines H (v1 := v1) hL hkw hkw2
  have run : Reader_readLaw 532 v1 (nI kw) (nI m) μ = Reader_readLaw_j141 532 v1 m2 := by
    unfold Reader_readLaw Law_clear
    rw [lt_eq, lt_eq, bnd_eq, lt_eq]
    show bni (iter 1000000 _ (nI 0, sti (sti (sti μ 537 5 (nI 0)) 537 6 (nI 0)) 532 11 (nI m))) _ = _
    rw [hz, g1, bni_eq]
  have ok := pLw_ok H.E H.V H.2.2.2.2.2 (kw := kw) (c + 1) 0 [] [] (Nat.succ_pos c) (Nat.zero_le _) LX.rf
  rw [run]
  generalize pLw (Kd tp n) (Vd tp n) m (c + 1) kw (c + 1) 0 [] [] = R at g4 ok ⊢
  cases st with
  | inl e =>
    have g4 : R = .inl e := g4
    subst g4
    refine ⟨m2, ?_, g2.1.2.2.2.1, g2.1.2.2.2.2.1, o1.tr g3.1⟩
    unfold Reader_readLaw_j141
    rw [if_neg (RC.bad g2.1)]
  | inr x =>
    obtain ⟨i, L, D⟩ := x
    have g4 : R = .inr (L, D) := g4
    subst g4
    obtain ⟨ok1, ok2⟩ := ok L D rfl
    obtain ⟨r1, r2, r3, r4⟩ := g2
    have r1 : RC tp n c m m2 (.inr (i, L)) := r1
    have hl : LawC m2 537 (ldD L D) := ⟨r1.2.2.2.2.2.2.1, r3, r1.2.2.2.2.2.2.2, r4⟩
    obtain ⟨m3, k1, k2, k3⟩ := c_cpLw (y := v1) hl (ok1.w (by omega)) (Or.inr (by omega))
    refine ⟨m3, ?_, ?_, ?_, k2, (o1.mono (fun o z => Or.inl z)).tr ((g3.1.mono (fun o z => Or.inl z)).tr (k3.mono (fun o z => Or.inr z)))⟩
    · unfold Reader_readLaw_j141
      rw [RC.ok r1, if_00, k1, bnd_eq, k2.2.1]
      rfl
    · rw [(k3 532 (by omega)).1]
      exact RC.ok r1
    · rw [(k3 532 (by omega)).1]
      exact r1.2.2.2.2.1
theorem fill36 {μ : Mm} : ∃ μ2, JA_fill SC (532 + 11 + 1) (nI 1) μ = some μ2 ∧ (∀ k, k < 36 → μ2.1 544 k = nI 1) ∧ Out (fun o => o = 544) μ μ2 := by
  have l : sL SC (532 + 11 + 1) = 36 := by decide +kernel
  have key := iter_inv (f := fun s : Int32 × Mm => JA_fill_l5 SC (532 + 11 + 1) (nI 1) s.1 (nI 36) s.2) (fun k s => s.1 = nI k ∧ (∀ j, j < k → s.2.1 544 j = nI 1) ∧ Out (fun o => o = 544) μ s.2) (fun x => (∀ j, j < 36 → x.1 544 j = nI 1) ∧ Out (fun o => o = 544) μ x) 36 ?_ ?_ 1000000 (nI 0, μ) ⟨rfl, fun j hj => absurd hj (Nat.not_lt_zero j), Out.rf⟩ (by decide)
  · obtain ⟨x, k1, k2, k3⟩ := key
    refine ⟨x, ?_, k2, k3⟩
    unfold JA_fill
    rw [l, k1, bni_eq]
  · rintro k ⟨s1, m1⟩ hk ⟨rfl, h1, h2⟩
    have h1 : ∀ j, j < k → m1.1 544 j = nI 1 := h1
    have h2 : Out (fun o => o = 544) μ m1 := h2
    left
    refine ⟨(nI (k + 1), sti m1 (532 + 11 + 1) k (nI 1)), ?_, rfl, fun j hj => ?_, h2.sti rfl⟩
    · show JA_fill_l5 _ _ _ _ _ _ = _
      unfold JA_fill_l5
      rw [if_neg (nI_ge hk (by decide)), l, chv_nI hk (by decide), ix_nI (by omega), lt_eq, nI_add]
    · show (sti _ _ _ _).1 544 j = _
      by_cases y : j = k
      · rw [y, sti_e ⟨rfl, rfl⟩]
      · rw [sti_n (by omega)]
        exact h1 j (by omega)
  · rintro ⟨s1, m1⟩ ⟨rfl, h1, h2⟩
    refine ⟨m1, ?_, h1, h2⟩
    show JA_fill_l5 _ _ _ _ _ _ = _
    unfold JA_fill_l5
    rw [if_pos (show nI 36 ≤ nI 36 by decide)]
theorem c_rpost (H : Hyp tp n c m) {μ : Mm} (ht : tokC μ tp n c) (h7 : μ.1 532 7 = nI (c + 1)) (h2 : μ.1 532 2 = nI 0) (h3 : μ.1 532 3 = -1) (h8 : μ.1 532 8 = nI 0) : ∃ μ2, match pPs (Kd tp n) (Vd tp n) (c + 1) 0 0 (fun _ _ => 1) with
    | .inl e => Reader_readPost 532 179 μ = some (-1, μ2) ∧ μ2.1 532 2 = nI e.1 ∧ μ2.1 532 3 = nI (plc tp n e.2) ∧ Out (fun o => o = 532 ∨ o = 543 ∨ o = 544) μ μ2
    | .inr x => Reader_readPost 532 179 μ = some (nI x.1, μ2) ∧ μ2.1 532 2 = nI 0 ∧ μ2.1 532 3 = -1 ∧ (μ2.1 179 1 = nI x.1 ∧ ∀ a b, a < 6 → b < 6 → μ2.1 180 (6 * a + b) = nI (x.2 a b)) ∧ Out (fun o => o = 532 ∨ o = 543 ∨ o = 544 ∨ o = 179 ∨ o = 180) μ μ2 := by
  obtain ⟨m0, z1, z2, z3⟩ := fill36 (μ := μ)
  have o1 : Out (fun o => o = 532 ∨ o = 543 ∨ o = 544) μ (sti m0 (532 + 11) 1 (nI 0)) := (z3.mono (fun o z => by omega)).sti (Or.inr (Or.inl rfl))
  have q : ∀ o k, o ≠ 543 → o ≠ 544 → (sti m0 (532 + 11) 1 (nI 0)).1 o k = μ.1 o k := fun o k a b => by
    rw [sti_n (by omega)]
    exact (z3 o b).1 k
  have hr : RP tp n c (sti m0 (532 + 11) 1 (nI 0)) (.inr 0) := ⟨ht.f (fun o a b k => q o k (by omega) (by omega)), (q _ _ (by decide) (by decide)).trans h7, Nat.zero_le _, (q _ _ (by decide) (by decide)).trans h2, (q _ _ (by decide) (by decide)).trans h3, (q _ _ (by decide) (by decide)).trans h8⟩
  have hp : pstM (sti m0 (532 + 11) 1 (nI 0)) 0 (fun _ _ => 1) := ⟨sti_e ⟨rfl, rfl⟩, fun a b ha hb => by
    rw [sti_n (by omega)]
    exact z2 _ (by omega)⟩
  obtain ⟨m2, st, g1, g2, g3, g4⟩ := p_lines H (v1 := 179) hr hp
  have run : Reader_readPost 532 179 μ = Reader_readPost_j108 532 179 m2 := by
    unfold Reader_readPost Post_clear
    rw [z1, bnd_eq, lt_eq, bnd_eq, g1, bni_eq]
  rw [run]
  generalize pPs (Kd tp n) (Vd tp n) (c + 1) 0 0 (fun _ _ => 1) = R at g4 ⊢
  cases st with
  | inl e =>
    have g4 : R = .inl e := g4
    subst g4
    have g2 : RP tp n c m2 (.inl e) := g2
    refine ⟨m2, ?_, g2.2.2.2.2.1, g2.2.2.2.2.2.1, o1.tr g3.1⟩
    unfold Reader_readPost_j108
    rw [g2.2.2.2.2.1, if_neg (e_ne g2.2.2.1)]
  | inr x =>
    obtain ⟨i, qq, M⟩ := x
    have g4 : R = .inr (qq, M) := g4
    subst g4
    obtain ⟨r1, r2⟩ := g2
    have r1 : RP tp n c m2 (.inr i) := r1
    have r2 : pstM m2 qq M := r2
    obtain ⟨hT, hN, h1, h3', h4, h5⟩ := r1
    refine ⟨sti (cpy m2 (532 + 11 + 1) 0 (179 + 1) 0 36) 179 1 (nI qq), ?_, ?_, ?_, ⟨sti_e ⟨rfl, rfl⟩, fun a b ha hb => ?_⟩, (o1.mono (fun o z => by omega)).tr ((g3.1.mono (fun o z => by omega)).tr ((Out.rf.cpy (E := fun o => o = 532 ∨ o = 543 ∨ o = 544 ∨ o = 179 ∨ o = 180) (by omega)).sti (by omega)))⟩
    · unfold Reader_readPost_j108 Post_copyFrom
      rw [h3', if_00, chc_ok (cpok0 (by decide) (by decide) (by decide)), ix_nI (by decide), ix_nI (by decide), lt_eq, cpy_ne _ (by omega), show m2.1 (532 + 11) 1 = nI qq from r2.1, lt_eq, bnd_eq, sti_e ⟨rfl, rfl⟩]
    · rw [sti_n (by omega), cpy_ne _ (by omega)]
      exact h3'
    · rw [sti_n (by omega), cpy_ne _ (by omega)]
      exact h4
    · rw [sti_n (by omega), show (180 : Nat) = 179 + 1 from rfl, cpy_at _ (by omega)]
      exact r2.2 a b ha hb
theorem TxC.o {μ μ2 : Mm} {D : TD} (h : TxC μ 166 D) (ho : Out (fun o => 532 ≤ o ∧ o ≤ 544) μ μ2) : TxC μ2 166 D := h.out ho (fun o z => by unfold lawOut; omega)
theorem c_text {μ : Mm} {D : TD} (h : tapC μ n tp) (hB : tapB n tp) (hx : TxC μ 166 D) (k : Int32) : ∃ μ2 c, Hyp tp n c 11 ∧ Nine_text k μ = some ((txO tp n c k D).1.1, μ2) ∧ μ2.1 532 2 = nI (txO tp n c k D).1.2.1 ∧ μ2.1 532 3 = (txO tp n c k D).1.2.2 ∧ TxC μ2 166 (txO tp n c k D).2 ∧ μ2.1 532 1 = nI 0 ∧ Out ETx μ μ2 := by
  obtain ⟨m1, c, g1, H, g2, g3, g4, g5, g6, g7⟩ := c_rbegin h hB
  have x1 : TxC m1 166 D := hx.o (g7.mono (fun o z => by unfold ETk at z; omega))
  have o1 : Out ETx μ m1 := g7.mono (fun o z => by unfold ETk at z; unfold ETx; omega)
  -- the tape is empty then
  have fin : ∀ m2 : Mm, Out ETx μ (sti m2 532 1 (nI 0)) ↔ Out ETx μ (sti m2 532 1 (nI 0)) := fun _ => Iff.rfl
  unfold Nine_text
  rw [g1, bnd_eq]
  by_cases k0 : k = nI 0
  · rw [if_pos (show k = 0 from k0)]
    obtain ⟨m2, g⟩ := c_rlaw H (v1 := 167) (kw := 300) g2 g3 g4 g5 g6 (by decide) (by decide) (by decide)
    refine ⟨sti m2 532 1 (nI 0), c, H, ?_⟩
    unfold txO
    rw [if_pos k0]
    generalize pLw (Kd tp n) (Vd tp n) 11 (c + 1) 300 (c + 1) 0 [] [] = R at g ⊢
    cases R with
    | inl e =>
      obtain ⟨a1, a2, a3, a4⟩ := g
      rw [a1, bnd2_eq]
      refine ⟨rfl, by rw [sti_n (by omega)]; exact a2, by rw [sti_n (by omega)]; exact a3, (x1.o (a4.mono (fun o z => by unfold EL at z; omega))).o (Out.rf.sti ⟨by decide, by decide⟩), sti_e ⟨rfl, rfl⟩, (o1.tr (a4.mono (fun o z => by unfold EL at z; unfold ETx; omega))).sti (by unfold ETx; omega)⟩
    | inr x =>
      obtain ⟨a1, a2, a3, a4, a5⟩ := g
      rw [a1, bnd2_eq]
      have x2 : TxC m2 166 (ldD x.1 x.2, D.2.1, D.2.2) := ⟨a4, x1.2.1.out a5 (fun j hj => by unfold EL; omega), ((a5 179 (by unfold EL; omega)).1 1).trans x1.2.2.1, fun a b ha hb => ((a5 180 (by unfold EL; omega)).1 _).trans (x1.2.2.2 a b ha hb)⟩
      refine ⟨rfl, by rw [sti_n (by omega)]; exact a2, by rw [sti_n (by omega)]; exact a3, x2.o (Out.rf.sti ⟨by decide, by decide⟩), sti_e ⟨rfl, rfl⟩, (o1.tr (a5.mono (fun o z => by unfold EL at z; unfold ETx; omega))).sti (by unfold ETx; omega)⟩
  · rw [if_neg (show ¬ k = 0 from k0)]
    by_cases k1 : k = nI 1
    · rw [if_pos k1]
      obtain ⟨m2, g⟩ := c_rlaw (H.at (show 7 ≤ 11 by decide)) (v1 := 173) (kw := 301) g2 g3 g4 g5 g6 (by decide) (by decide) (by decide)
      refine ⟨sti m2 532 1 (nI 0), c, H, ?_⟩
      unfold txO
      rw [if_neg k0, if_pos k1]
      generalize pLw (Kd tp n) (Vd tp n) 7 (c + 1) 301 (c + 1) 0 [] [] = R at g ⊢
      cases R with
      | inl e =>
        obtain ⟨a1, a2, a3, a4⟩ := g
        rw [a1, bnd2_eq]
        refine ⟨rfl, by rw [sti_n (by omega)]; exact a2, by rw [sti_n (by omega)]; exact a3, (x1.o (a4.mono (fun o z => by unfold EL at z; omega))).o (Out.rf.sti ⟨by decide, by decide⟩), sti_e ⟨rfl, rfl⟩, (o1.tr (a4.mono (fun o z => by unfold EL at z; unfold ETx; omega))).sti (by unfold ETx; omega)⟩
      | inr x =>
        obtain ⟨a1, a2, a3, a4, a5⟩ := g
        rw [a1, bnd2_eq]
        have x2 : TxC m2 166 (D.1, ldD x.1 x.2, D.2.2) := ⟨x1.1.out a5 (fun j hj => by unfold EL; omega), a4, ((a5 179 (by unfold EL; omega)).1 1).trans x1.2.2.1, fun a b ha hb => ((a5 180 (by unfold EL; omega)).1 _).trans (x1.2.2.2 a b ha hb)⟩
        refine ⟨rfl, by rw [sti_n (by omega)]; exact a2, by rw [sti_n (by omega)]; exact a3, x2.o (Out.rf.sti ⟨by decide, by decide⟩), sti_e ⟨rfl, rfl⟩, (o1.tr (a5.mono (fun o z => by unfold EL at z; unfold ETx; omega))).sti (by unfold ETx; omega)⟩
    · rw [if_neg k1]
      by_cases k2 : k = nI 2
      · rw [if_pos k2]
        obtain ⟨m2, g⟩ := c_rpost H g2 g3 g4 g5 g6
        refine ⟨sti m2 532 1 (nI 0), c, H, ?_⟩
        unfold txO
        rw [if_neg k0, if_neg k1, if_pos k2]
        generalize pPs (Kd tp n) (Vd tp n) (c + 1) 0 0 (fun _ _ => 1) = R at g ⊢
        cases R with
        | inl e =>
          obtain ⟨a1, a2, a3, a4⟩ := g
          rw [a1, bnd2_eq]
          refine ⟨rfl, by rw [sti_n (by omega)]; exact a2, by rw [sti_n (by omega)]; exact a3, (x1.o (a4.mono (fun o z => by omega))).o (Out.rf.sti ⟨by decide, by decide⟩), sti_e ⟨rfl, rfl⟩, (o1.tr (a4.mono (fun o z => by unfold ETx; omega))).sti (by unfold ETx; omega)⟩
        | inr x =>
          obtain ⟨a1, a2, a3, ⟨a4, a6⟩, a5⟩ := g
          rw [a1, bnd2_eq]
          have x2 : TxC m2 166 (D.1, D.2.1, x.1, x.2) := ⟨x1.1.out a5 (fun j hj => by omega), x1.2.1.out a5 (fun j hj => by omega), a4, a6⟩
          refine ⟨rfl, by rw [sti_n (by omega)]; exact a2, by rw [sti_n (by omega)]; exact a3, x2.o (Out.rf.sti ⟨by decide, by decide⟩), sti_e ⟨rfl, rfl⟩, (o1.tr (a5.mono (fun o z => by unfold ETx; omega))).sti (by unfold ETx; omega)⟩
      · rw [if_neg k2]
        refine ⟨sti m1 532 1 (nI 0), c, H, ?_⟩
        unfold txO
        rw [if_neg k0, if_neg k1, if_neg k2]
        refine ⟨rfl, by rw [sti_n (by omega)]; exact g4, by rw [sti_n (by omega)]; exact g5, x1.o (Out.rf.sti ⟨by decide, by decide⟩), sti_e ⟨rfl, rfl⟩, o1.sti (by unfold ETx; omega)⟩
end
