/-! THE CLASS READS: conditions of conditions -/
section
variable {tp : Nat → Nat} {n c m : Nat}
def bI (e : Bool) : Nat := if e = true then 1 else 0
theorem c_rchoice (H : Hyp tp n c m) {t : Nat → List Nat → PR} {P : Nat → List Nat → List Nat → Prop} {rT rC : Nat → Int32 → Mm → Option Mm} {o : Int32} (ht : ∀ μ r, RC tp n c m μ r → ∃ μ2, rT 532 o μ = some μ2 ∧ RC tp n c m μ2 (bR r t) ∧ RF μ μ2) (hg : ∀ i L, i < c + 1 → Gr (c + 1) i L (P i L) (t i L)) {μ : Mm} {r : PR} (h : RC tp n c m μ r) : ∃ μ2, Reader_readChoice_ rT rC 532 o μ = some μ2 ∧ RC tp n c m μ2 (bR r (pKo (Kd tp n) (c + 1) t)) ∧ RF μ μ2 := by
  have hc : c ≤ 400 := Nat.le_trans H.2.1 H.1
  obtain ⟨m0, z1, z2, z3⟩ := ht μ r h
  have key := iter_inv (f := fun s : Int32 × Int32 × Mm => Reader_readChoice_l9 rT rC 532 o s.1 s.2.1 s.2.2)
    (fun k s => ∃ e r', s.1 = nI (bI e) ∧ s.2.1 = nI k ∧ RC tp n c m s.2.2 r' ∧ RF m0 s.2.2 ∧ bR r' (pCl (Kd tp n) t (c + 1 - k) e) = bR (bR r t) (pCl (Kd tp n) t (c + 1) false) ∧ (e = true → ∀ i L, r' = .inr (i, L) → L.length + 1 ≤ i))
    (fun x => ∃ e r', x.1 = nI (bI e) ∧ RC tp n c m x.2 r' ∧ RF m0 x.2 ∧ bR r' (fun i L => .inr (i, orL e L)) = bR (bR r t) (pCl (Kd tp n) t (c + 1) false) ∧ (e = true → ∀ i L, r' = .inr (i, L) → L.length + 1 ≤ i))
    (c + 1) ?_ ?_ 1000000 (nI 0, nI 0, m0) ⟨false, bR r t, rfl, rfl, z2, RF.rf, rfl, fun y => Bool.noConfusion y⟩ (by omega)
  · obtain ⟨⟨x1, x2⟩, k1, e, r', rfl, k2, k3, k4, k5⟩ := key
    have k2 : RC tp n c m x2 r' := k2
    have k3 : RF m0 x2 := k3
    unfold Reader_readChoice_
    rw [z1, bnd_eq, k1, bni_eq]
    unfold Reader_readChoice_j113
    rw [show bR r (pKo (Kd tp n) (c + 1) t) = bR r' (fun i L => .inr (i, orL e L)) by rw [k4, bR_bR]; rfl]
    cases e with
    | false =>
      refine ⟨x2, ?_, ?_, z3.tr k3⟩
      · show (if nI 0 = 0 then _ else _) = _
        rw [if_00]
      · have : bR r' (fun i L => (.inr (i, orL false L) : PR)) = r' := bR_id r'
        rw [this]
        exact k2
    | true =>
      obtain ⟨m2, a1, a2, a3⟩ := c_rop H k2 (fun j l hj => k5 rfl j l hj) 303
      refine ⟨m2, ?_, a2, z3.tr (k3.tr a3)⟩
      show (if nI 1 = 0 then _ else _) = _
      rw [if_10, a1, bnd_eq]
  · rintro k ⟨s1, s2, m1⟩ hk ⟨e, r', rfl, rfl, k1, k2, k3, k4⟩
    have k1 : RC tp n c m m1 r' := k1
    have k2 : RF m0 m1 := k2
    cases r' with
    | inl x =>
      right
      refine ⟨(nI (bI e), m1), ?_, e, .inl x, rfl, k1, k2, k3, fun _ i L y => by cases y⟩
      show Reader_readChoice_l9 _ _ _ _ _ _ _ = _
      unfold Reader_readChoice_l9
      rw [RC.cnt k1, if_neg (nI_ge hk (by omega)), if_neg (RC.bad k1)]
    | inr x =>
      obtain ⟨i, L⟩ := x
      have hi := RC.ni k1
      have hl := RC.ln k1
      have kb := Kd_b (i := i) H.2.2.2.2.1
      have e0 : Reader_readChoice_l9 rT rC 532 o (nI (bI e)) (nI k) m1 = if nI (Kd tp n i) = nI 303 then Reader_readChoice_j54 rT rC 532 o (nI (bI e)) (nI k) m1 else if nI (Kd tp n i) = nI 304 then Reader_readChoice_j54 rT rC 532 o (nI (bI e)) (nI k) m1 else some (.inr (nI (bI e), m1)) := by
        unfold Reader_readChoice_l9
        rw [RC.cnt k1, if_neg (nI_ge hk (by omega)), RC.ok k1, if_00, RC.kk H k1 _ rfl, RC.kk H k1 _ rfl]
        rw [show m1.1 (532 + 2) (ix (m1.1 532 8)) = nI (Kd tp n i) from RC.kd H k1]
      rw [show c + 1 - k = c - k + 1 by omega] at k3
      have k3 : (if Kd tp n i = 304 then bR (t (i + 1) L) fun j l => pCl (Kd tp n) t (c - k) e j (l ++ [20304]) else if Kd tp n i = 303 then bR (t (i + 1) (orL e L)) fun j l => pCl (Kd tp n) t (c - k) true j l else .inr (i, orL e L)) = bR (bR r t) (pCl (Kd tp n) t (c + 1) false) := k3
      by_cases c1 : Kd tp n i = 304
      · left
        rw [if_pos c1] at k3
        obtain ⟨m2, a1, a2, a3⟩ := takes_y H k1 c1 (by decide)
        obtain ⟨m3, b1, b2, b3⟩ := ht m2 _ a2
        have gr := hg (i + 1) L (RC.ni a2)
        obtain ⟨m4, d1, d2, d3⟩ := c_rop H b2 (fun j l y => by
          have := Gr.get gr y
          have := this.2.2.1
          omega) 304
        have d2 : RC tp n c m m4 (bR (t (i + 1) L) fun j l => .inr (j, l ++ [20304])) := d2
        refine ⟨(nI (bI e), nI (k + 1), m4), ?_, e, _, rfl, rfl, d2, k2.tr (a3.tr (b3.tr d3)), ?_, fun he j l y => ?_⟩
        · show Reader_readChoice_l9 _ _ _ _ _ _ _ = _
          rw [e0, if_neg (by rw [c1]; decide), if_pos (by rw [c1])]
          unfold Reader_readChoice_j54 Reader_readChoice_j107
          rw [a1, bnd2_eq, if_10, b1, bnd_eq, d1, bnd_eq, nI_add]
        · rw [← k3, bR_bR, show c + 1 - (k + 1) = c - k by omega]
          rfl
        · have hl2 := k4 he i L rfl
          cases hz : t (i + 1) L with
          | inl x =>
            rw [hz] at y
            cases y
          | inr x =>
            obtain ⟨j2, l2⟩ := x
            rw [hz] at y
            have y : (Sum.inr (j2, l2 ++ [20304]) : PR) = .inr (j, l) := y
            have := Gr.get gr hz
            have := this.2.2.1
            cases y
            rw [len_1]
            omega
      · by_cases c2 : Kd tp n i = 303
        · left
          rw [if_neg c1, if_pos c2] at k3
          obtain ⟨m2, a1, a2, a3⟩ := takes_y H k1 c2 (by decide)
          have hor : ∃ m3, (if nI (bI e) = 0 then Reader_readChoice_j100 rT rC 532 o (nI k) m2 else bnd (Reader_addOperation 532 (nI 303) m2) fun μ7 => Reader_readChoice_j100 rT rC 532 o (nI k) μ7) = Reader_readChoice_j100 rT rC 532 o (nI k) m3 ∧ RC tp n c m m3 (.inr (i + 1, orL e L)) ∧ RF m2 m3 := by
            cases e with
            | false =>
              refine ⟨m2, ?_, a2, RF.rf⟩
              show (if nI 0 = 0 then _ else _) = _
              rw [if_00]
            | true =>
              obtain ⟨m3, b1, b2, b3⟩ := c_rop H a2 (fun j l y => by
                cases y
                omega) 303
              refine ⟨m3, ?_, b2, b3⟩
              show (if nI 1 = 0 then _ else _) = _
              rw [if_10, b1, bnd_eq]
          obtain ⟨m3, b1, b2, b3⟩ := hor
          obtain ⟨m4, d1, d2, d3⟩ := ht m3 _ b2
          have d2 : RC tp n c m m4 (t (i + 1) (orL e L)) := d2
          have gr := hg (i + 1) (orL e L) (RC.ni b2)
          have ol : (orL e L).length ≤ i := by
            unfold orL
            cases e with
            | false => exact hl
            | true =>
              rw [if_pos rfl, len_1]
              exact k4 rfl i L rfl
          refine ⟨(nI 1, nI (k + 1), m4), ?_, true, _, rfl, rfl, d2, k2.tr (a3.tr (b3.tr d3)), ?_, fun _ j l y => ?_⟩
          · show Reader_readChoice_l9 _ _ _ _ _ _ _ = _
            rw [e0, if_pos (by rw [c2])]
            unfold Reader_readChoice_j54
            rw [takes_n H k1 (by decide) c1, bnd2_eq, if_00, a1, bnd2_eq, if_10, b1]
            unfold Reader_readChoice_j100 Reader_readChoice_j107
            rw [d1, bnd_eq, nI_add]
          · rw [← k3, show c + 1 - (k + 1) = c - k by omega]
          · have := Gr.get gr y
            have := this.2.2.1
            omega
        · right
          rw [if_neg c1, if_neg c2] at k3
          refine ⟨(nI (bI e), m1), ?_, e, .inr (i, L), rfl, k1, k2, k3, k4⟩
          show Reader_readChoice_l9 _ _ _ _ _ _ _ = _
          rw [e0, if_neg (fun z => c2 ((nI_eq (by omega) (by decide)).1 z)), if_neg (fun z => c1 ((nI_eq (by omega) (by decide)).1 z))]
  · rintro ⟨s1, s2, m1⟩ ⟨e, r', rfl, rfl, k1, k2, k3, k4⟩
    have k1 : RC tp n c m m1 r' := k1
    refine ⟨(nI (bI e), m1), ?_, e, r', rfl, k1, k2, ?_, k4⟩
    · show Reader_readChoice_l9 _ _ _ _ _ _ _ = _
      unfold Reader_readChoice_l9
      rw [RC.cnt k1, if_pos (nI_le (Nat.le_refl _) (by omega))]
    · rw [← k3, Nat.sub_self]
      rfl
theorem c_rtest (H : Hyp tp n c m) (d : Nat) : d ≤ 8 → ∀ q, 2 * d + 1 ≤ q → ∀ μ r, RC tp n c m μ r → ∃ μ2, (Reader_TC q).1 532 (nI (8 - d)) μ = some μ2 ∧ RC tp n c m μ2 (bR r (pT (Kd tp n) (Vd tp n) m (c + 1) d)) ∧ RF μ μ2 := by
  have hc : c ≤ 400 := Nat.le_trans H.2.1 H.1
  induction d with
  | zero =>
    intro _ q hq μ r h
    obtain ⟨q, rfl⟩ : ∃ p, q = p + 1 := ⟨q - 1, by omega⟩
    show ∃ μ2, Reader_readTest_ (Reader_TC q).1 (Reader_TC q).2 532 (nI 8) μ = some μ2 ∧ _
    cases r with
    | inl e => exact c_rtestF H h _ _ _
    | inr x =>
      obtain ⟨i, L⟩ := x
      have kb := Kd_b (i := i) H.2.2.2.2.1
      show ∃ μ2, _ ∧ RC tp n c m μ2 (if Kd tp n i = 305 ∨ Kd tp n i = 40 then .inl (3, i) else _) ∧ _
      unfold Reader_readTest_ Reader_readTest_j36 Reader_readTest_j40 Reader_readTest_j41
      rw [RC.ok h, if_00, RC.kk H h _ rfl, RC.kk H h _ rfl, show μ.1 (532 + 2) (ix (μ.1 532 8)) = nI (Kd tp n i) from RC.kd H h, if_10, if_00, if_neg (show ¬ nI 8 < nI 8 by decide)]
      obtain ⟨m1, a1, a2, a3⟩ := c_rfail H h (e := 3) (Or.inr (Or.inr rfl))
      by_cases c1 : Kd tp n i = 305
      · rw [if_pos (by rw [c1]), if_pos (Or.inl c1), a1, bnd_eq]
        exact ⟨m1, rfl, a2, a3⟩
      · rw [if_neg (fun z => c1 ((nI_eq (by omega) (by decide)).1 z))]
        by_cases c2 : Kd tp n i = 40
        · rw [if_pos (by rw [c2]), if_pos (Or.inr c2), a1, bnd_eq]
          exact ⟨m1, rfl, a2, a3⟩
        · rw [if_neg (fun z => c2 ((nI_eq (by omega) (by decide)).1 z)), if_neg (fun z => z.elim c1 c2)]
          exact c_rcmp H h _ _ _ c1 c2
  | succ d ih =>
    intro hd q hq μ r h
    obtain ⟨q, rfl⟩ : ∃ p, q = p + 2 := ⟨q - 2, by omega⟩
    show ∃ μ2, Reader_readTest_ (Reader_TC (q + 1)).1 (Reader_TC (q + 1)).2 532 (nI (8 - (d + 1))) μ = some μ2 ∧ _
    cases r with
    | inl e => exact c_rtestF H h _ _ _
    | inr x =>
      obtain ⟨i, L⟩ := x
      have kb := Kd_b (i := i) H.2.2.2.2.1
      have hl := RC.ln h
      have eo : nI (8 - (d + 1)) + nI 1 = nI (8 - d) := by
        rw [nI_add]
        congr 1
        omega
      show ∃ μ2, _ ∧ RC tp n c m μ2 (if Kd tp n i = 305 then _ else if Kd tp n i = 40 then _ else _) ∧ _
      unfold Reader_readTest_ Reader_readTest_j36 Reader_readTest_j40 Reader_readTest_j41
      rw [RC.ok h, if_00, RC.kk H h _ rfl, RC.kk H h _ rfl, show μ.1 (532 + 2) (ix (μ.1 532 8)) = nI (Kd tp n i) from RC.kd H h, if_10, if_00, if_pos (nI_lt (show 8 - (d + 1) < 8 by omega) (by decide))]
      have gT := pT_ok (K := Kd tp n) (V := Vd tp n) H.E H.V H.2.2.2.2.2 d
      by_cases c1 : Kd tp n i = 305
      · rw [if_pos (by rw [c1]), if_pos c1]
        obtain ⟨m1, a1, a2, a3⟩ := takes_y H h c1 (by decide)
        obtain ⟨m2, b1, b2, b3⟩ := ih (by omega) (q + 1) (by omega) m1 _ a2
        have gr := gT (i + 1) L (RC.ni a2)
        obtain ⟨m3, d1, d2, d3⟩ := c_rop H b2 (fun j l y => by
          have := Gr.get gr y
          have := this.2.2.1
          omega) 305
        unfold Reader_readTest_j60
        rw [a1, bnd2_eq, if_10, eo, b1, bnd_eq, d1, bnd_eq]
        exact ⟨m3, rfl, d2, a3.tr (b3.tr d3)⟩
      · rw [if_neg (fun z => c1 ((nI_eq (by omega) (by decide)).1 z)), if_neg c1]
        by_cases c2 : Kd tp n i = 40
        · rw [if_pos (by rw [c2]), if_pos c2]
          obtain ⟨m1, a1, a2, a3⟩ := takes_y H h c2 (by decide)
          obtain ⟨m2, b1, b2, b3⟩ := c_rchoice H (rT := (Reader_TC q).1) (rC := (Reader_TC q).2) (o := nI (8 - d)) (fun μ r hr => ih (by omega) q (by omega) μ r hr) gT a2
          obtain ⟨m3, d1, d2, d3⟩ := c_rtake H b2 (k := 41) (by decide) (by decide)
          have b1 : (Reader_TC (q + 1)).2 532 (nI (8 - d)) m1 = some m2 := b1
          unfold Reader_readTest_j60
          rw [takes_n H h (by decide) c1, bnd2_eq, if_00, a1, bnd2_eq, if_10, eo, b1, bnd_eq, d1, bnd_eq]
          exact ⟨m3, rfl, d2, a3.tr (b3.tr d3)⟩
        · rw [if_neg (fun z => c2 ((nI_eq (by omega) (by decide)).1 z)), if_neg c2]
          exact c_rcmp H h _ _ _ c1 c2
/-- a condition from its first token on -/
theorem c_rcond (H : Hyp tp n c m) {μ : Mm} {r : PR} (h : RC tp n c m μ r) : ∃ μ2, (Reader_readChoiceF 40) 532 (nI 0) μ = some μ2 ∧ RC tp n c m μ2 (bR r (pKo (Kd tp n) (c + 1) (pT (Kd tp n) (Vd tp n) m (c + 1) 8))) ∧ RF μ μ2 :=
  c_rchoice H (rT := (Reader_TC 39).1) (rC := (Reader_TC 39).2) (o := nI 0) (fun μ r hr => c_rtest H 8 (Nat.le_refl _) 39 (by decide) μ r hr) (pT_ok (K := Kd tp n) (V := Vd tp n) H.E H.V H.2.2.2.2.2 8) h
end
