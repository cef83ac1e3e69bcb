/-! THE CLASS: a whole world copied -/
theorem live_b {V : VS} {c k : Nat} (hc : 23 ≤ c ∧ c ≤ 27) (hk : k < V 0 0 3) : live V c 0 k := Or.inr (Or.inr (Or.inr (Or.inr (Or.inr (Or.inr (Or.inr (Or.inr ⟨hc.1, hc.2, rfl, hk⟩)))))))
theorem c_cpW {μ : Mm} {w w2 : Nat} {V : VS} (h : HC μ w V) (hk2 : sK SC w2 = 9) (hf : far w w2) : ∃ μ2, World_copyFrom w2 w μ = some μ2 ∧ HC μ2 w2 (vset V 0 0 9 0) ∧ Out (inW w2) μ μ2 := by
  have P16 := h.P16
  have v40 := h.v40
  have w60 := h.w60
  have b200 := h.b200
  have step : ∀ (m : Mm), Out (inW w2) μ m → HC m w V := fun m ho => h.out ho (fun o z => by unfold inW at z ⊢; unfold far at hf; omega)
  have key := iter_inv (f := fun s : Int32 × Mm => World_copyFrom_l2 w2 w s.1 s.2)
    (fun n s => s.1 = nI n ∧ HP s.2 w2 V (Lp V n) ∧ (∀ q, q < n → s.2.2 (w2 + (21 + 9 * q)) 6 = h64 (V 21 q 0) (V 22 q 0)) ∧ Out (inW w2) μ s.2)
    (fun m => HP m w2 V (Lp V (V 0 0 0)) ∧ (∀ q, q < V 0 0 0 → m.2 (w2 + (21 + 9 * q)) 6 = h64 (V 21 q 0) (V 22 q 0)) ∧ Out (inW w2) μ m) (V 0 0 0) ?_ ?_ 1000000 (nI 0, μ) ⟨rfl, fun c p i z => absurd z.2.2 (by omega), fun q hq => absurd hq (by omega), Out.rf⟩ (by omega)
  rotate_left
  · rintro n ⟨nI', m⟩ hn ⟨rfl, hP, hL, hO⟩
    have hO : Out (inW w2) μ m := hO
    have S := step m hO
    have eP := S.P
    obtain ⟨m2, g1, g2, g3, g4⟩ := c_cpP S hP hk2 hf hn
    refine Or.inl ⟨(nI (n + 1), m2), ?_, rfl, g2, fun q hq => ?_, hO.tr (g4.mono (fun o z => by unfold inP at z; unfold inW; omega))⟩
    · show World_copyFrom_l2 _ _ _ _ = _
      unfold World_copyFrom_l2
      rw [eP, if_neg (nI_ge hn (by omega)), chv_nI (by omega) (by decide), chv_nI (by omega) (by decide), ix_nI (by omega), g1, bnd_eq, nI_add]
    · by_cases e : q = n
      · rw [e]
        exact g3
      · exact ((g4 _ (fun z => by unfold inP at z; omega)).2 _).trans (hL q (by omega))
  · rintro ⟨nI', m⟩ ⟨rfl, hP, hL, hO⟩
    have hO : Out (inW w2) μ m := hO
    have S := step m hO
    have eP := S.P
    refine ⟨m, ?_, hP, hL, hO⟩
    show World_copyFrom_l2 _ _ _ _ = _
    unfold World_copyFrom_l2
    rw [eP, if_pos (nI_le (Nat.le_refl _) (by omega))]
  obtain ⟨m0, g0, P0, L0, O0⟩ := key
  have S0 := step _ O0
  have P1 := P0.put2 0 0 0 (o := w2) (k := 1) (v := nI (V 0 0 0)) (Or.inl ⟨rfl, rfl, by decide⟩) rfl rfl rfl ⟨by decide, by decide⟩
  have O1 : Out (inW w2) μ (sti m0 (w2) 1 (nI (V 0 0 0))) := O0.sti ⟨by omega, by omega⟩
  have S1 := step _ O1
  have L1 : ∀ q, q < V 0 0 0 → (sti m0 (w2) 1 (nI (V 0 0 0))).2 (w2 + (21 + 9 * q)) 6 = h64 (V 21 q 0) (V 22 q 0) := L0
  have e0 := S0.P
  generalize hm1 : sti m0 (w2) 1 (nI (V 0 0 0)) = m1 at P1 O1 S1 L1
  have P2 := P1.cpy 11 0 (V 0 0 1) (V 0 0 1) (a := w + 2 + 1) (b := w2 + 2 + 1) (Nat.le_refl _) (fun i hi z => z.elim (fun y => by omega) (fun z0 => absurd z0.2.1 (by omega))) (fun i hi => ⟨by show _ = w2 + 3; omega, rfl, Or.inr (Or.inr (Or.inr (Or.inr (Or.inr (Or.inl ⟨by decide, by decide, rfl, by omega⟩)))))⟩) ⟨by decide, by decide⟩ (fun i hi => S1.vc hi)
  have O2 : Out (inW w2) μ (cpy m1 (w + 2 + 1) 0 (w2 + 2 + 1) 0 (V 0 0 1)) := O1.cpy ⟨by omega, by omega⟩
  have S2 := step _ O2
  have L2 : ∀ q, q < V 0 0 0 → (cpy m1 (w + 2 + 1) 0 (w2 + 2 + 1) 0 (V 0 0 1)).2 (w2 + (21 + 9 * q)) 6 = h64 (V 21 q 0) (V 22 q 0) := L1
  generalize hm2 : cpy m1 (w + 2 + 1) 0 (w2 + 2 + 1) 0 (V 0 0 1) = m2 at P2 O2 S2 L2
  have P3 := P2.cpy 12 0 (V 0 0 1) (V 0 0 1) (a := w + 2 + 2) (b := w2 + 2 + 2) (Nat.le_refl _) (fun i hi z => z.elim (fun y => by omega) (fun z1 => z1.elim (fun y => by omega) (fun z0 => absurd z0.2.1 (by omega)))) (fun i hi => ⟨by show _ = w2 + 4; omega, rfl, Or.inr (Or.inr (Or.inr (Or.inr (Or.inr (Or.inl ⟨by decide, by decide, rfl, by omega⟩)))))⟩) ⟨by decide, by decide⟩ (fun i hi => S2.vm hi)
  have O3 : Out (inW w2) μ (cpy m2 (w + 2 + 2) 0 (w2 + 2 + 2) 0 (V 0 0 1)) := O2.cpy ⟨by omega, by omega⟩
  have S3 := step _ O3
  have L3 : ∀ q, q < V 0 0 0 → (cpy m2 (w + 2 + 2) 0 (w2 + 2 + 2) 0 (V 0 0 1)).2 (w2 + (21 + 9 * q)) 6 = h64 (V 21 q 0) (V 22 q 0) := L2
  generalize hm3 : cpy m2 (w + 2 + 2) 0 (w2 + 2 + 2) 0 (V 0 0 1) = m3 at P3 O3 S3 L3
  have P4 := P3.cpy 13 0 (V 0 0 1) (V 0 0 1) (a := w + 2 + 3) (b := w2 + 2 + 3) (Nat.le_refl _) (fun i hi z => z.elim (fun y => by omega) (fun z2 => z2.elim (fun y => by omega) (fun z1 => z1.elim (fun y => by omega) (fun z0 => absurd z0.2.1 (by omega))))) (fun i hi => ⟨by show _ = w2 + 5; omega, rfl, Or.inr (Or.inr (Or.inr (Or.inr (Or.inr (Or.inl ⟨by decide, by decide, rfl, by omega⟩)))))⟩) ⟨by decide, by decide⟩ (fun i hi => S3.vp hi)
  have O4 : Out (inW w2) μ (cpy m3 (w + 2 + 3) 0 (w2 + 2 + 3) 0 (V 0 0 1)) := O3.cpy ⟨by omega, by omega⟩
  have S4 := step _ O4
  have L4 : ∀ q, q < V 0 0 0 → (cpy m3 (w + 2 + 3) 0 (w2 + 2 + 3) 0 (V 0 0 1)).2 (w2 + (21 + 9 * q)) 6 = h64 (V 21 q 0) (V 22 q 0) := L3
  generalize hm4 : cpy m3 (w + 2 + 3) 0 (w2 + 2 + 3) 0 (V 0 0 1) = m4 at P4 O4 S4 L4
  have P5 := P4.cpy 14 0 (V 0 0 1) (V 0 0 1) (a := w + 2 + 4) (b := w2 + 2 + 4) (Nat.le_refl _) (fun i hi z => z.elim (fun y => by omega) (fun z3 => z3.elim (fun y => by omega) (fun z2 => z2.elim (fun y => by omega) (fun z1 => z1.elim (fun y => by omega) (fun z0 => absurd z0.2.1 (by omega)))))) (fun i hi => ⟨by show _ = w2 + 6; omega, rfl, Or.inr (Or.inr (Or.inr (Or.inr (Or.inr (Or.inl ⟨by decide, by decide, rfl, by omega⟩)))))⟩) ⟨by decide, by decide⟩ (fun i hi => S4.vw hi)
  have O5 : Out (inW w2) μ (cpy m4 (w + 2 + 4) 0 (w2 + 2 + 4) 0 (V 0 0 1)) := O4.cpy ⟨by omega, by omega⟩
  have S5 := step _ O5
  have L5 : ∀ q, q < V 0 0 0 → (cpy m4 (w + 2 + 4) 0 (w2 + 2 + 4) 0 (V 0 0 1)).2 (w2 + (21 + 9 * q)) 6 = h64 (V 21 q 0) (V 22 q 0) := L4
  generalize hm5 : cpy m4 (w + 2 + 4) 0 (w2 + 2 + 4) 0 (V 0 0 1) = m5 at P5 O5 S5 L5
  have P6 := P5.put2 0 0 1 (o := w2 + 2) (k := 4) (v := nI (V 0 0 1)) (Or.inl ⟨rfl, rfl, by decide⟩) rfl rfl rfl ⟨by decide, by decide⟩
  have O6 : Out (inW w2) μ (sti m5 (w2 + 2) 4 (nI (V 0 0 1))) := O5.sti ⟨by omega, by omega⟩
  have S6 := step _ O6
  have L6 : ∀ q, q < V 0 0 0 → (sti m5 (w2 + 2) 4 (nI (V 0 0 1))).2 (w2 + (21 + 9 * q)) 6 = h64 (V 21 q 0) (V 22 q 0) := L5
  have e5 := S5.vn
  generalize hm6 : sti m5 (w2 + 2) 4 (nI (V 0 0 1)) = m6 at P6 O6 S6 L6
  have P7 := P6.cpy 15 0 (V 0 0 2) (V 0 0 2) (a := w + 7 + 1) (b := w2 + 7 + 1) (Nat.le_refl _) (fun i hi z => z.elim (fun y => by omega) (fun z5 => z5.elim (fun y => by omega) (fun z4 => z4.elim (fun y => by omega) (fun z3 => z3.elim (fun y => by omega) (fun z2 => z2.elim (fun y => by omega) (fun z1 => z1.elim (fun y => by omega) (fun z0 => absurd z0.2.1 (by omega)))))))) (fun i hi => ⟨by show _ = w2 + 8; omega, rfl, Or.inr (Or.inr (Or.inr (Or.inr (Or.inr (Or.inr (Or.inl ⟨by decide, by decide, rfl, by omega⟩))))))⟩) ⟨by decide, by decide⟩ (fun i hi => S6.wv hi)
  have O7 : Out (inW w2) μ (cpy m6 (w + 7 + 1) 0 (w2 + 7 + 1) 0 (V 0 0 2)) := O6.cpy ⟨by omega, by omega⟩
  have S7 := step _ O7
  have L7 : ∀ q, q < V 0 0 0 → (cpy m6 (w + 7 + 1) 0 (w2 + 7 + 1) 0 (V 0 0 2)).2 (w2 + (21 + 9 * q)) 6 = h64 (V 21 q 0) (V 22 q 0) := L6
  generalize hm7 : cpy m6 (w + 7 + 1) 0 (w2 + 7 + 1) 0 (V 0 0 2) = m7 at P7 O7 S7 L7
  have P8 := P7.cpy 16 0 (V 0 0 2) (V 0 0 2) (a := w + 7 + 2) (b := w2 + 7 + 2) (Nat.le_refl _) (fun i hi z => z.elim (fun y => by omega) (fun z6 => z6.elim (fun y => by omega) (fun z5 => z5.elim (fun y => by omega) (fun z4 => z4.elim (fun y => by omega) (fun z3 => z3.elim (fun y => by omega) (fun z2 => z2.elim (fun y => by omega) (fun z1 => z1.elim (fun y => by omega) (fun z0 => absurd z0.2.1 (by omega))))))))) (fun i hi => ⟨by show _ = w2 + 9; omega, rfl, Or.inr (Or.inr (Or.inr (Or.inr (Or.inr (Or.inr (Or.inl ⟨by decide, by decide, rfl, by omega⟩))))))⟩) ⟨by decide, by decide⟩ (fun i hi => S7.wf hi)
  have O8 : Out (inW w2) μ (cpy m7 (w + 7 + 2) 0 (w2 + 7 + 2) 0 (V 0 0 2)) := O7.cpy ⟨by omega, by omega⟩
  have S8 := step _ O8
  have L8 : ∀ q, q < V 0 0 0 → (cpy m7 (w + 7 + 2) 0 (w2 + 7 + 2) 0 (V 0 0 2)).2 (w2 + (21 + 9 * q)) 6 = h64 (V 21 q 0) (V 22 q 0) := L7
  generalize hm8 : cpy m7 (w + 7 + 2) 0 (w2 + 7 + 2) 0 (V 0 0 2) = m8 at P8 O8 S8 L8
  have P9 := P8.cpy 17 0 (V 0 0 2) (V 0 0 2) (a := w + 7 + 3) (b := w2 + 7 + 3) (Nat.le_refl _) (fun i hi z => z.elim (fun y => by omega) (fun z7 => z7.elim (fun y => by omega) (fun z6 => z6.elim (fun y => by omega) (fun z5 => z5.elim (fun y => by omega) (fun z4 => z4.elim (fun y => by omega) (fun z3 => z3.elim (fun y => by omega) (fun z2 => z2.elim (fun y => by omega) (fun z1 => z1.elim (fun y => by omega) (fun z0 => absurd z0.2.1 (by omega)))))))))) (fun i hi => ⟨by show _ = w2 + 10; omega, rfl, Or.inr (Or.inr (Or.inr (Or.inr (Or.inr (Or.inr (Or.inl ⟨by decide, by decide, rfl, by omega⟩))))))⟩) ⟨by decide, by decide⟩ (fun i hi => S8.wt hi)
  have O9 : Out (inW w2) μ (cpy m8 (w + 7 + 3) 0 (w2 + 7 + 3) 0 (V 0 0 2)) := O8.cpy ⟨by omega, by omega⟩
  have S9 := step _ O9
  have L9 : ∀ q, q < V 0 0 0 → (cpy m8 (w + 7 + 3) 0 (w2 + 7 + 3) 0 (V 0 0 2)).2 (w2 + (21 + 9 * q)) 6 = h64 (V 21 q 0) (V 22 q 0) := L8
  generalize hm9 : cpy m8 (w + 7 + 3) 0 (w2 + 7 + 3) 0 (V 0 0 2) = m9 at P9 O9 S9 L9
  have P10 := P9.cpy 18 0 (V 0 0 2) (V 0 0 2) (a := w + 7 + 4) (b := w2 + 7 + 4) (Nat.le_refl _) (fun i hi z => z.elim (fun y => by omega) (fun z8 => z8.elim (fun y => by omega) (fun z7 => z7.elim (fun y => by omega) (fun z6 => z6.elim (fun y => by omega) (fun z5 => z5.elim (fun y => by omega) (fun z4 => z4.elim (fun y => by omega) (fun z3 => z3.elim (fun y => by omega) (fun z2 => z2.elim (fun y => by omega) (fun z1 => z1.elim (fun y => by omega) (fun z0 => absurd z0.2.1 (by omega))))))))))) (fun i hi => ⟨by show _ = w2 + 11; omega, rfl, Or.inr (Or.inr (Or.inr (Or.inr (Or.inr (Or.inr (Or.inl ⟨by decide, by decide, rfl, by omega⟩))))))⟩) ⟨by decide, by decide⟩ (fun i hi => S9.wd hi)
  have O10 : Out (inW w2) μ (cpy m9 (w + 7 + 4) 0 (w2 + 7 + 4) 0 (V 0 0 2)) := O9.cpy ⟨by omega, by omega⟩
  have S10 := step _ O10
  have L10 : ∀ q, q < V 0 0 0 → (cpy m9 (w + 7 + 4) 0 (w2 + 7 + 4) 0 (V 0 0 2)).2 (w2 + (21 + 9 * q)) 6 = h64 (V 21 q 0) (V 22 q 0) := L9
  generalize hm10 : cpy m9 (w + 7 + 4) 0 (w2 + 7 + 4) 0 (V 0 0 2) = m10 at P10 O10 S10 L10
  have P11 := P10.cpyF (a := w + 7 + 5) (b := w2 + 7 + 5) (m := V 0 0 2) (by omega) (by unfold freeC; omega)
  have O11 : Out (inW w2) μ (cpy m10 (w + 7 + 5) 0 (w2 + 7 + 5) 0 (V 0 0 2)) := O10.cpy ⟨by omega, by omega⟩
  have S11 := step _ O11
  have L11 : ∀ q, q < V 0 0 0 → (cpy m10 (w + 7 + 5) 0 (w2 + 7 + 5) 0 (V 0 0 2)).2 (w2 + (21 + 9 * q)) 6 = h64 (V 21 q 0) (V 22 q 0) := L10
  generalize hm11 : cpy m10 (w + 7 + 5) 0 (w2 + 7 + 5) 0 (V 0 0 2) = m11 at P11 O11 S11 L11
  have P12 := P11.put2 0 0 2 (o := w2 + 7) (k := 5) (v := nI (V 0 0 2)) (Or.inl ⟨rfl, rfl, by decide⟩) rfl rfl rfl ⟨by decide, by decide⟩
  have O12 : Out (inW w2) μ (sti m11 (w2 + 7) 5 (nI (V 0 0 2))) := O11.sti ⟨by omega, by omega⟩
  have S12 := step _ O12
  have L12 : ∀ q, q < V 0 0 0 → (sti m11 (w2 + 7) 5 (nI (V 0 0 2))).2 (w2 + (21 + 9 * q)) 6 = h64 (V 21 q 0) (V 22 q 0) := L11
  have e11 := S11.wn
  generalize hm12 : sti m11 (w2 + 7) 5 (nI (V 0 0 2)) = m12 at P12 O12 S12 L12
  have P13 := P12.cpy 23 0 (V 0 0 3) (V 0 0 3) (a := w + 13 + 1) (b := w2 + 13 + 1) (Nat.le_refl _) (fun i hi z => z.elim (fun y => by omega) (fun z10 => z10.elim (fun y => by omega) (fun z9 => z9.elim (fun y => by omega) (fun z8 => z8.elim (fun y => by omega) (fun z7 => z7.elim (fun y => by omega) (fun z6 => z6.elim (fun y => by omega) (fun z5 => z5.elim (fun y => by omega) (fun z4 => z4.elim (fun y => by omega) (fun z3 => z3.elim (fun y => by omega) (fun z2 => z2.elim (fun y => by omega) (fun z1 => z1.elim (fun y => by omega) (fun z0 => absurd z0.2.1 (by omega))))))))))))) (fun i hi => ⟨by show _ = w2 + 14; omega, rfl, Or.inr (Or.inr (Or.inr (Or.inr (Or.inr (Or.inr (Or.inr (Or.inr ⟨by decide, by decide, rfl, by omega⟩)))))))⟩) ⟨by decide, by decide⟩ (fun i hi => S12.b0 hi)
  have O13 : Out (inW w2) μ (cpy m12 (w + 13 + 1) 0 (w2 + 13 + 1) 0 (V 0 0 3)) := O12.cpy ⟨by omega, by omega⟩
  have S13 := step _ O13
  have L13 : ∀ q, q < V 0 0 0 → (cpy m12 (w + 13 + 1) 0 (w2 + 13 + 1) 0 (V 0 0 3)).2 (w2 + (21 + 9 * q)) 6 = h64 (V 21 q 0) (V 22 q 0) := L12
  generalize hm13 : cpy m12 (w + 13 + 1) 0 (w2 + 13 + 1) 0 (V 0 0 3) = m13 at P13 O13 S13 L13
  have P14 := P13.cpy 24 0 (V 0 0 3) (V 0 0 3) (a := w + 13 + 2) (b := w2 + 13 + 2) (Nat.le_refl _) (fun i hi z => z.elim (fun y => by omega) (fun z11 => z11.elim (fun y => by omega) (fun z10 => z10.elim (fun y => by omega) (fun z9 => z9.elim (fun y => by omega) (fun z8 => z8.elim (fun y => by omega) (fun z7 => z7.elim (fun y => by omega) (fun z6 => z6.elim (fun y => by omega) (fun z5 => z5.elim (fun y => by omega) (fun z4 => z4.elim (fun y => by omega) (fun z3 => z3.elim (fun y => by omega) (fun z2 => z2.elim (fun y => by omega) (fun z1 => z1.elim (fun y => by omega) (fun z0 => absurd z0.2.1 (by omega)))))))))))))) (fun i hi => ⟨by show _ = w2 + 15; omega, rfl, Or.inr (Or.inr (Or.inr (Or.inr (Or.inr (Or.inr (Or.inr (Or.inr ⟨by decide, by decide, rfl, by omega⟩)))))))⟩) ⟨by decide, by decide⟩ (fun i hi => S13.b1 hi)
  have O14 : Out (inW w2) μ (cpy m13 (w + 13 + 2) 0 (w2 + 13 + 2) 0 (V 0 0 3)) := O13.cpy ⟨by omega, by omega⟩
  have S14 := step _ O14
  have L14 : ∀ q, q < V 0 0 0 → (cpy m13 (w + 13 + 2) 0 (w2 + 13 + 2) 0 (V 0 0 3)).2 (w2 + (21 + 9 * q)) 6 = h64 (V 21 q 0) (V 22 q 0) := L13
  generalize hm14 : cpy m13 (w + 13 + 2) 0 (w2 + 13 + 2) 0 (V 0 0 3) = m14 at P14 O14 S14 L14
  have P15 := P14.cpy 25 0 (V 0 0 3) (V 0 0 3) (a := w + 13 + 3) (b := w2 + 13 + 3) (Nat.le_refl _) (fun i hi z => z.elim (fun y => by omega) (fun z12 => z12.elim (fun y => by omega) (fun z11 => z11.elim (fun y => by omega) (fun z10 => z10.elim (fun y => by omega) (fun z9 => z9.elim (fun y => by omega) (fun z8 => z8.elim (fun y => by omega) (fun z7 => z7.elim (fun y => by omega) (fun z6 => z6.elim (fun y => by omega) (fun z5 => z5.elim (fun y => by omega) (fun z4 => z4.elim (fun y => by omega) (fun z3 => z3.elim (fun y => by omega) (fun z2 => z2.elim (fun y => by omega) (fun z1 => z1.elim (fun y => by omega) (fun z0 => absurd z0.2.1 (by omega))))))))))))))) (fun i hi => ⟨by show _ = w2 + 16; omega, rfl, Or.inr (Or.inr (Or.inr (Or.inr (Or.inr (Or.inr (Or.inr (Or.inr ⟨by decide, by decide, rfl, by omega⟩)))))))⟩) ⟨by decide, by decide⟩ (fun i hi => S14.b2 hi)
  have O15 : Out (inW w2) μ (cpy m14 (w + 13 + 3) 0 (w2 + 13 + 3) 0 (V 0 0 3)) := O14.cpy ⟨by omega, by omega⟩
  have S15 := step _ O15
  have L15 : ∀ q, q < V 0 0 0 → (cpy m14 (w + 13 + 3) 0 (w2 + 13 + 3) 0 (V 0 0 3)).2 (w2 + (21 + 9 * q)) 6 = h64 (V 21 q 0) (V 22 q 0) := L14
  generalize hm15 : cpy m14 (w + 13 + 3) 0 (w2 + 13 + 3) 0 (V 0 0 3) = m15 at P15 O15 S15 L15
  have P16 := P15.cpy 26 0 (V 0 0 3) (V 0 0 3) (a := w + 13 + 4) (b := w2 + 13 + 4) (Nat.le_refl _) (fun i hi z => z.elim (fun y => by omega) (fun z13 => z13.elim (fun y => by omega) (fun z12 => z12.elim (fun y => by omega) (fun z11 => z11.elim (fun y => by omega) (fun z10 => z10.elim (fun y => by omega) (fun z9 => z9.elim (fun y => by omega) (fun z8 => z8.elim (fun y => by omega) (fun z7 => z7.elim (fun y => by omega) (fun z6 => z6.elim (fun y => by omega) (fun z5 => z5.elim (fun y => by omega) (fun z4 => z4.elim (fun y => by omega) (fun z3 => z3.elim (fun y => by omega) (fun z2 => z2.elim (fun y => by omega) (fun z1 => z1.elim (fun y => by omega) (fun z0 => absurd z0.2.1 (by omega)))))))))))))))) (fun i hi => ⟨by show _ = w2 + 17; omega, rfl, Or.inr (Or.inr (Or.inr (Or.inr (Or.inr (Or.inr (Or.inr (Or.inr ⟨by decide, by decide, rfl, by omega⟩)))))))⟩) ⟨by decide, by decide⟩ (fun i hi => S15.b3 hi)
  have O16 : Out (inW w2) μ (cpy m15 (w + 13 + 4) 0 (w2 + 13 + 4) 0 (V 0 0 3)) := O15.cpy ⟨by omega, by omega⟩
  have S16 := step _ O16
  have L16 : ∀ q, q < V 0 0 0 → (cpy m15 (w + 13 + 4) 0 (w2 + 13 + 4) 0 (V 0 0 3)).2 (w2 + (21 + 9 * q)) 6 = h64 (V 21 q 0) (V 22 q 0) := L15
  generalize hm16 : cpy m15 (w + 13 + 4) 0 (w2 + 13 + 4) 0 (V 0 0 3) = m16 at P16 O16 S16 L16
  have P17 := P16.cpy 27 0 (V 0 0 3) (V 0 0 3) (a := w + 13 + 5) (b := w2 + 13 + 5) (Nat.le_refl _) (fun i hi z => z.elim (fun y => by omega) (fun z14 => z14.elim (fun y => by omega) (fun z13 => z13.elim (fun y => by omega) (fun z12 => z12.elim (fun y => by omega) (fun z11 => z11.elim (fun y => by omega) (fun z10 => z10.elim (fun y => by omega) (fun z9 => z9.elim (fun y => by omega) (fun z8 => z8.elim (fun y => by omega) (fun z7 => z7.elim (fun y => by omega) (fun z6 => z6.elim (fun y => by omega) (fun z5 => z5.elim (fun y => by omega) (fun z4 => z4.elim (fun y => by omega) (fun z3 => z3.elim (fun y => by omega) (fun z2 => z2.elim (fun y => by omega) (fun z1 => z1.elim (fun y => by omega) (fun z0 => absurd z0.2.1 (by omega))))))))))))))))) (fun i hi => ⟨by show _ = w2 + 18; omega, rfl, Or.inr (Or.inr (Or.inr (Or.inr (Or.inr (Or.inr (Or.inr (Or.inr ⟨by decide, by decide, rfl, by omega⟩)))))))⟩) ⟨by decide, by decide⟩ (fun i hi => S16.b4 hi)
  have O17 : Out (inW w2) μ (cpy m16 (w + 13 + 5) 0 (w2 + 13 + 5) 0 (V 0 0 3)) := O16.cpy ⟨by omega, by omega⟩
  have S17 := step _ O17
  have L17 : ∀ q, q < V 0 0 0 → (cpy m16 (w + 13 + 5) 0 (w2 + 13 + 5) 0 (V 0 0 3)).2 (w2 + (21 + 9 * q)) 6 = h64 (V 21 q 0) (V 22 q 0) := L16
  generalize hm17 : cpy m16 (w + 13 + 5) 0 (w2 + 13 + 5) 0 (V 0 0 3) = m17 at P17 O17 S17 L17
  have P18 := P17.put2 0 0 3 (o := w2 + 13) (k := 5) (v := nI (V 0 0 3)) (Or.inl ⟨rfl, rfl, by decide⟩) rfl rfl rfl ⟨by decide, by decide⟩
  have O18 : Out (inW w2) μ (sti m17 (w2 + 13) 5 (nI (V 0 0 3))) := O17.sti ⟨by omega, by omega⟩
  have S18 := step _ O18
  have L18 : ∀ q, q < V 0 0 0 → (sti m17 (w2 + 13) 5 (nI (V 0 0 3))).2 (w2 + (21 + 9 * q)) 6 = h64 (V 21 q 0) (V 22 q 0) := L17
  have e17 := S17.bn
  generalize hm18 : sti m17 (w2 + 13) 5 (nI (V 0 0 3)) = m18 at P18 O18 S18 L18
  have P19 := P18.cpy 20 0 (4) (4) (a := w + 19) (b := w2 + 19) (Nat.le_refl _) (fun i hi z => z.elim (fun y => by omega) (fun z16 => z16.elim (fun y => by omega) (fun z15 => z15.elim (fun y => by omega) (fun z14 => z14.elim (fun y => by omega) (fun z13 => z13.elim (fun y => by omega) (fun z12 => z12.elim (fun y => by omega) (fun z11 => z11.elim (fun y => by omega) (fun z10 => z10.elim (fun y => by omega) (fun z9 => z9.elim (fun y => by omega) (fun z8 => z8.elim (fun y => by omega) (fun z7 => z7.elim (fun y => by omega) (fun z6 => z6.elim (fun y => by omega) (fun z5 => z5.elim (fun y => by omega) (fun z4 => z4.elim (fun y => by omega) (fun z3 => z3.elim (fun y => by omega) (fun z2 => z2.elim (fun y => by omega) (fun z1 => z1.elim (fun y => by omega) (fun z0 => absurd z0.2.1 (by omega))))))))))))))))))) (fun i hi => ⟨rfl, rfl, Or.inr (Or.inr (Or.inr (Or.inr (Or.inr (Or.inr (Or.inr (Or.inl ⟨rfl, rfl, by omega⟩)))))))⟩) ⟨by decide, by decide⟩ (fun i hi => S18.ru hi)
  have O19 : Out (inW w2) μ (cpy m18 (w + 19) 0 (w2 + 19) 0 (4)) := O18.cpy ⟨by omega, by omega⟩
  have S19 := step _ O19
  have L19 : ∀ q, q < V 0 0 0 → (cpy m18 (w + 19) 0 (w2 + 19) 0 (4)).2 (w2 + (21 + 9 * q)) 6 = h64 (V 21 q 0) (V 22 q 0) := L18
  generalize hm19 : cpy m18 (w + 19) 0 (w2 + 19) 0 (4) = m19 at P19 O19 S19 L19
  have P20 := P19.put2 0 0 8 (o := w2) (k := 6) (v := nI (V 0 0 8)) (Or.inl ⟨rfl, rfl, by decide⟩) rfl rfl rfl ⟨by decide, by decide⟩
  have O20 : Out (inW w2) μ (sti m19 (w2) 6 (nI (V 0 0 8))) := O19.sti ⟨by omega, by omega⟩
  have S20 := step _ O20
  have L20 : ∀ q, q < V 0 0 0 → (sti m19 (w2) 6 (nI (V 0 0 8))).2 (w2 + (21 + 9 * q)) 6 = h64 (V 21 q 0) (V 22 q 0) := L19
  have e19 := S19.st
  generalize hm20 : sti m19 (w2) 6 (nI (V 0 0 8)) = m20 at P20 O20 S20 L20
  have P21 := P20.put2 0 0 4 (o := w2) (k := 7) (v := nI (V 0 0 4)) (Or.inl ⟨rfl, rfl, by decide⟩) rfl rfl rfl ⟨by decide, by decide⟩
  have O21 : Out (inW w2) μ (sti m20 (w2) 7 (nI (V 0 0 4))) := O20.sti ⟨by omega, by omega⟩
  have S21 := step _ O21
  have L21 : ∀ q, q < V 0 0 0 → (sti m20 (w2) 7 (nI (V 0 0 4))).2 (w2 + (21 + 9 * q)) 6 = h64 (V 21 q 0) (V 22 q 0) := L20
  have e20 := S20.dy
  generalize hm21 : sti m20 (w2) 7 (nI (V 0 0 4)) = m21 at P21 O21 S21 L21
  have P22 := P21.put2 0 0 5 (o := w2) (k := 8) (v := nI (V 0 0 5)) (Or.inl ⟨rfl, rfl, by decide⟩) rfl rfl rfl ⟨by decide, by decide⟩
  have O22 : Out (inW w2) μ (sti m21 (w2) 8 (nI (V 0 0 5))) := O21.sti ⟨by omega, by omega⟩
  have S22 := step _ O22
  have L22 : ∀ q, q < V 0 0 0 → (sti m21 (w2) 8 (nI (V 0 0 5))).2 (w2 + (21 + 9 * q)) 6 = h64 (V 21 q 0) (V 22 q 0) := L21
  have e21 := S21.fr
  generalize hm22 : sti m21 (w2) 8 (nI (V 0 0 5)) = m22 at P22 O22 S22 L22
  have P23 := P22.put2 0 0 6 (o := w2) (k := 9) (v := nI (V 0 0 6)) (Or.inl ⟨rfl, rfl, by decide⟩) rfl rfl rfl ⟨by decide, by decide⟩
  have O23 : Out (inW w2) μ (sti m22 (w2) 9 (nI (V 0 0 6))) := O22.sti ⟨by omega, by omega⟩
  have S23 := step _ O23
  have L23 : ∀ q, q < V 0 0 0 → (sti m22 (w2) 9 (nI (V 0 0 6))).2 (w2 + (21 + 9 * q)) 6 = h64 (V 21 q 0) (V 22 q 0) := L22
  have e22 := S22.cu
  generalize hm23 : sti m22 (w2) 9 (nI (V 0 0 6)) = m23 at P23 O23 S23 L23
  have P24 := P23.put2 0 0 7 (o := w2) (k := 10) (v := nI (V 0 0 7)) (Or.inl ⟨rfl, rfl, by decide⟩) rfl rfl rfl ⟨by decide, by decide⟩
  have O24 : Out (inW w2) μ (sti m23 (w2) 10 (nI (V 0 0 7))) := O23.sti ⟨by omega, by omega⟩
  have S24 := step _ O24
  have L24 : ∀ q, q < V 0 0 0 → (sti m23 (w2) 10 (nI (V 0 0 7))).2 (w2 + (21 + 9 * q)) 6 = h64 (V 21 q 0) (V 22 q 0) := L23
  have e23 := S23.lo
  generalize hm24 : sti m23 (w2) 10 (nI (V 0 0 7)) = m24 at P24 O24 S24 L24
  have PN := P24.put 0 0 9 0 (o := w2) (k := 11) (v := nI 0) (Or.inl ⟨rfl, rfl, by decide⟩) rfl rfl rfl ⟨by decide, by decide⟩
  have ON := O24.sti (o := w2) (k := 11) (v := nI 0) ⟨by omega, by omega⟩
  refine ⟨_, ?_, ⟨HP.mono (V2 := vset V 0 0 9 0) PN (fun c q k hl => ?_) (fun _ _ _ _ _ => rfl), hk2, fun q hq => ?_⟩, ON⟩
  · unfold World_copyFrom Versions_copyFrom Letters_copyFrom Book_copyFrom
    obtain ⟨l1, l2, l3, l4, l5⟩ := h.lenw
    obtain ⟨k1, k2, k3, k4, k5⟩ := len_way hk2
    have k1 : sL SC (w2 + 7 + 1) = 60 := k1
    have k2 : sL SC (w2 + 7 + 2) = 60 := k2
    have k3 : sL SC (w2 + 7 + 3) = 60 := k3
    have k4 : sL SC (w2 + 7 + 4) = 60 := k4
    have k5 : sL SC (w2 + 7 + 5) = 60 := k5
    have okv := cp_ok (m := V 0 0 1) (la := 40) (lb := 40) v40 v40 (by omega)
    have okw := cp_ok (m := V 0 0 2) (la := 60) (lb := 60) w60 w60 (by omega)
    have okb := cp_ok (m := V 0 0 3) (la := 200) (lb := 200) b200 b200 (by omega)
    have okr := cp_ok (m := 4) (la := 4) (lb := 4) (Nat.le_refl _) (Nat.le_refl _) (by decide)
    have i0 : ix (nI 0) = 0 := rfl
    have iv : ix (nI (V 0 0 1)) = V 0 0 1 := ix_nI (by omega)
    have iw : ix (nI (V 0 0 2)) = V 0 0 2 := ix_nI (by omega)
    have ib : ix (nI (V 0 0 3)) = V 0 0 3 := ix_nI (by omega)
    have i4 : ix (nI 4) = 4 := rfl
    have r1 := S1.vn
    have r2 := S2.vn
    have r3 := S3.vn
    have r4 := S4.vn
    have r6 := S6.wn
    have r7 := S7.wn
    have r8 := S8.wn
    have r9 := S9.wn
    have r10 := S10.wn
    have r12 := S12.bn
    have r13 := S13.bn
    have r14 := S14.bn
    have r15 := S15.bn
    have r16 := S16.bn
    rw [g0, bni_eq, e0, hm1, lt_eq, r1, chc_ok okv, i0, iv, hm2, lt_eq, r2, chc_ok okv, iv, hm3, lt_eq, r3, chc_ok okv, iv, hm4, lt_eq, r4, chc_ok okv, iv, hm5, lt_eq, e5, hm6, lt_eq, bnd_eq, l1, l2, l3, l4, l5, k1, k2, k3, k4, k5, r6, chc_ok okw, iw, hm7, lt_eq, r7, chc_ok okw, iw, hm8, lt_eq, r8, chc_ok okw, iw, hm9, lt_eq, r9, chc_ok okw, iw, hm10, lt_eq, r10, chc_ok okw, iw, hm11, lt_eq, e11, hm12, lt_eq, bnd_eq, r12, chc_ok okb, ib, hm13, lt_eq, r13, chc_ok okb, ib, hm14, lt_eq, r14, chc_ok okb, ib, hm15, lt_eq, r15, chc_ok okb, ib, hm16, lt_eq, r16, chc_ok okb, ib, hm17, lt_eq, e17, hm18, lt_eq, bnd_eq, chc_ok okr, i4, hm19, lt_eq, e19, hm20, lt_eq, e20, hm21, lt_eq, e21, hm22, lt_eq, e22, hm23, lt_eq, e23, hm24, lt_eq, lt_eq]
  · have hl2 : live V c q k := live_same hl (vset_ne (by omega)) (vset_ne (by omega)) (vset_ne (by omega)) (vset_ne (by omega)) (vset_ne (by omega)) (vset_ne (by omega))
    rcases hl2 with ⟨rfl, rfl, hk⟩ | hl3 | hl3 | hl3 | hl3 | ⟨c1, c2, rfl, hk⟩ | ⟨c1, c2, rfl, hk⟩ | ⟨rfl, rfl, hk⟩ | ⟨c1, c2, rfl, hk⟩
    · have : k = 0 ∨ k = 1 ∨ k = 2 ∨ k = 3 ∨ k = 4 ∨ k = 5 ∨ k = 6 ∨ k = 7 ∨ k = 8 ∨ k = 9 := by omega
      rcases this with rfl | rfl | rfl | rfl | rfl | rfl | rfl | rfl | rfl | rfl
      · exact Or.inr (Or.inr (Or.inr (Or.inr (Or.inr (Or.inr (LU_of (Or.inr (LU_of (LU_of (LU_of (LU_of (LU_of (Or.inr (LU_of (LU_of (LU_of (LU_of (Or.inr (LU_of (LU_of (LU_of (LU_of (Or.inl (⟨rfl, rfl, rfl⟩))))))))))))))))))))))))
      · exact Or.inr (Or.inr (Or.inr (Or.inr (Or.inr (Or.inr (LU_of (Or.inr (LU_of (LU_of (LU_of (LU_of (LU_of (Or.inr (LU_of (LU_of (LU_of (LU_of (Or.inl (⟨rfl, rfl, rfl⟩)))))))))))))))))))
      · exact Or.inr (Or.inr (Or.inr (Or.inr (Or.inr (Or.inr (LU_of (Or.inr (LU_of (LU_of (LU_of (LU_of (LU_of (Or.inl (⟨rfl, rfl, rfl⟩))))))))))))))
      · exact Or.inr (Or.inr (Or.inr (Or.inr (Or.inr (Or.inr (LU_of (Or.inl (⟨rfl, rfl, rfl⟩))))))))
      · exact Or.inr (Or.inr (Or.inr (Or.inr (Or.inl (⟨rfl, rfl, rfl⟩)))))
      · exact Or.inr (Or.inr (Or.inr (Or.inl (⟨rfl, rfl, rfl⟩))))
      · exact Or.inr (Or.inr (Or.inl (⟨rfl, rfl, rfl⟩)))
      · exact Or.inr (Or.inl (⟨rfl, rfl, rfl⟩))
      · exact Or.inr (Or.inr (Or.inr (Or.inr (Or.inr (Or.inl (⟨rfl, rfl, rfl⟩))))))
      · exact Or.inl ⟨rfl, rfl, rfl⟩
    · exact Or.inr (Or.inr (Or.inr (Or.inr (Or.inr (Or.inr (LU_of (Or.inr (LU_of (LU_of (LU_of (LU_of (LU_of (Or.inr (LU_of (LU_of (LU_of (LU_of (Or.inr (LU_of (LU_of (LU_of (LU_of (Or.inr (⟨Or.inr (Or.inl hl3), by omega, hl3.2.1⟩))))))))))))))))))))))))
    · exact Or.inr (Or.inr (Or.inr (Or.inr (Or.inr (Or.inr (LU_of (Or.inr (LU_of (LU_of (LU_of (LU_of (LU_of (Or.inr (LU_of (LU_of (LU_of (LU_of (Or.inr (LU_of (LU_of (LU_of (LU_of (Or.inr (⟨Or.inr (Or.inr (Or.inl hl3)), by omega, hl3.2.1⟩))))))))))))))))))))))))
    · exact Or.inr (Or.inr (Or.inr (Or.inr (Or.inr (Or.inr (LU_of (Or.inr (LU_of (LU_of (LU_of (LU_of (LU_of (Or.inr (LU_of (LU_of (LU_of (LU_of (Or.inr (LU_of (LU_of (LU_of (LU_of (Or.inr (⟨Or.inr (Or.inr (Or.inr (Or.inl hl3))), by omega, hl3.2.1⟩))))))))))))))))))))))))
    · exact Or.inr (Or.inr (Or.inr (Or.inr (Or.inr (Or.inr (LU_of (Or.inr (LU_of (LU_of (LU_of (LU_of (LU_of (Or.inr (LU_of (LU_of (LU_of (LU_of (Or.inr (LU_of (LU_of (LU_of (LU_of (Or.inr (⟨Or.inr (Or.inr (Or.inr (Or.inr (Or.inl hl3)))), by omega, hl3.2.2.1⟩))))))))))))))))))))))))
    · have : c = 11 ∨ c = 12 ∨ c = 13 ∨ c = 14 := by omega
      rcases this with rfl | rfl | rfl | rfl
      · exact Or.inr (Or.inr (Or.inr (Or.inr (Or.inr (Or.inr (LU_of (Or.inr (LU_of (LU_of (LU_of (LU_of (LU_of (Or.inr (LU_of (LU_of (LU_of (LU_of (Or.inr (LU_of (LU_of (LU_of (Or.inl (⟨rfl, rfl, hk⟩)))))))))))))))))))))))
      · exact Or.inr (Or.inr (Or.inr (Or.inr (Or.inr (Or.inr (LU_of (Or.inr (LU_of (LU_of (LU_of (LU_of (LU_of (Or.inr (LU_of (LU_of (LU_of (LU_of (Or.inr (LU_of (LU_of (Or.inl (⟨rfl, rfl, hk⟩))))))))))))))))))))))
      · exact Or.inr (Or.inr (Or.inr (Or.inr (Or.inr (Or.inr (LU_of (Or.inr (LU_of (LU_of (LU_of (LU_of (LU_of (Or.inr (LU_of (LU_of (LU_of (LU_of (Or.inr (LU_of (Or.inl (⟨rfl, rfl, hk⟩)))))))))))))))))))))
      · exact Or.inr (Or.inr (Or.inr (Or.inr (Or.inr (Or.inr (LU_of (Or.inr (LU_of (LU_of (LU_of (LU_of (LU_of (Or.inr (LU_of (LU_of (LU_of (LU_of (Or.inr (Or.inl (⟨rfl, rfl, hk⟩))))))))))))))))))))
    · have : c = 15 ∨ c = 16 ∨ c = 17 ∨ c = 18 := by omega
      rcases this with rfl | rfl | rfl | rfl
      · exact Or.inr (Or.inr (Or.inr (Or.inr (Or.inr (Or.inr (LU_of (Or.inr (LU_of (LU_of (LU_of (LU_of (LU_of (Or.inr (LU_of (LU_of (LU_of (Or.inl (⟨rfl, rfl, hk⟩))))))))))))))))))
      · exact Or.inr (Or.inr (Or.inr (Or.inr (Or.inr (Or.inr (LU_of (Or.inr (LU_of (LU_of (LU_of (LU_of (LU_of (Or.inr (LU_of (LU_of (Or.inl (⟨rfl, rfl, hk⟩)))))))))))))))))
      · exact Or.inr (Or.inr (Or.inr (Or.inr (Or.inr (Or.inr (LU_of (Or.inr (LU_of (LU_of (LU_of (LU_of (LU_of (Or.inr (LU_of (Or.inl (⟨rfl, rfl, hk⟩))))))))))))))))
      · exact Or.inr (Or.inr (Or.inr (Or.inr (Or.inr (Or.inr (LU_of (Or.inr (LU_of (LU_of (LU_of (LU_of (LU_of (Or.inr (Or.inl (⟨rfl, rfl, hk⟩)))))))))))))))
    · exact Or.inr (Or.inr (Or.inr (Or.inr (Or.inr (Or.inr (Or.inl (⟨rfl, rfl, hk⟩)))))))
    · have : c = 23 ∨ c = 24 ∨ c = 25 ∨ c = 26 ∨ c = 27 := by omega
      rcases this with rfl | rfl | rfl | rfl | rfl
      · exact Or.inr (Or.inr (Or.inr (Or.inr (Or.inr (Or.inr (LU_of (Or.inr (LU_of (LU_of (LU_of (LU_of (Or.inl (⟨rfl, rfl, hk⟩)))))))))))))
      · exact Or.inr (Or.inr (Or.inr (Or.inr (Or.inr (Or.inr (LU_of (Or.inr (LU_of (LU_of (LU_of (Or.inl (⟨rfl, rfl, hk⟩))))))))))))
      · exact Or.inr (Or.inr (Or.inr (Or.inr (Or.inr (Or.inr (LU_of (Or.inr (LU_of (LU_of (Or.inl (⟨rfl, rfl, hk⟩)))))))))))
      · exact Or.inr (Or.inr (Or.inr (Or.inr (Or.inr (Or.inr (LU_of (Or.inr (LU_of (Or.inl (⟨rfl, rfl, hk⟩))))))))))
      · exact Or.inr (Or.inr (Or.inr (Or.inr (Or.inr (Or.inr (LU_of (Or.inr (Or.inl (⟨rfl, rfl, hk⟩)))))))))
  · rw [vset_ne (by omega)] at hq
    rw [vset_ne (by omega), vset_ne (by omega)]
    exact L24 q hq
