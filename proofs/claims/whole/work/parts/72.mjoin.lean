/-! THE LEAST JOIN, the check -/
theorem hb_zero {x i : Nat} (hx : x < 2 ^ 31) (hi : i < 31) : ((nI x >>> (nI i &&& 31)) &&& nI 1 = 0) ↔ ¬ x.testBit i = true := by
  have hs : ∀ i, i < 31 → ((nI i &&& 31).toBitVec.smod 32).toNat = i := by decide +kernel
  rw [pk_shrN hx _ i (hs i hi), nI_and, show (x / 2 ^ i &&& 1) = x / 2 ^ i % 2 from by rw [show (1 : Nat) = 2 ^ 1 - 1 from rfl, Nat.and_two_pow_sub_one_eq_mod], Nat.testBit_eq_decide_div_mod_eq]
  by_cases e : x / 2 ^ i % 2 = 1
  · rw [e]
    decide
  · rw [show x / 2 ^ i % 2 = 0 by omega]
    decide
theorem m_apart {ν : Mm} {th : Nat} {V : VS} {n a b : Nat} {pv : Nat → Nat} (h : HM ν th V) (h8 : W8 V) (hp : pickM ν n pv) (hB : pickB V n pv) (ha : a < n) (hb : b < n) : M_apartOf (nI a) (nI b) ν = some (nI (apD V pv a b)) := by
  have v40 := h.v40
  have n8 := hB.1
  have l1 := hB.2 a ha
  have l2 := hB.2 b hb
  have m1 := h.vm l1
  have m2 := h.vm l2
  have hl := (apD_le h8 hB ha hb).1
  unfold M_apartOf apD
  rw [chv_nI (by omega) (by decide), ix_nI (by omega), hp.2 a ha, nI_add, chv_nI (by omega) (by decide), chv_nI (by omega) (by decide), ix_nI (by omega), ix_nI (by omega), hp.2 b hb, nI_add, chv_nI (by omega) (by decide), ix_nI (by omega), m1, m2, nI_xor, M_pop (by omega), bnd_eq]
def nkF (D : Nat → Nat) (S E : Nat) (b0 : Int32) (v : Nat) : Nat → Int32 × Int32
  | 0 => (b0, nI E)
  | u + 1 => if nrF D S (u + 1) < E then (nI v, nI (nrF D S (u + 1))) else (b0, nI E)
theorem m_near1 {ν : Mm} {th : Nat} {V : VS} {n v S E : Nat} {b0 : Int32} {pv : Nat → Nat} (h : HM ν th V) (h8 : W8 V) (hp : pickM ν n pv) (hB : pickB V n pv) (hS : S < 2 ^ 16) (h0 : S.testBit 0 = true) (hv : v < n) (hc : ¬ S.testBit v = true) (hE : E < 2 ^ 31) : iter 1000000 (fun s => M_nearest_l21 (nI S) s.1 s.2.1 (nI v) s.2.2 ν) (b0, nI E, nI 0) = some (if nrF (apD V pv v) S n < E then (nI v, nI (nrF (apD V pv v) S n)) else (b0, nI E)) := by
  have n8 := hB.1
  have hbv := hb_test (x := S) (i := v) (by omega) (by omega)
  have ev : nkF (apD V pv v) S E b0 v n = (if nrF (apD V pv v) S n < E then (nI v, nI (nrF (apD V pv v) S n)) else (b0, nI E)) := by
    cases n with
    | zero => omega
    | succ n => rfl
  rw [← ev]
  refine iter_traj (f := fun s : Int32 × Int32 × Int32 => M_nearest_l21 (nI S) s.1 s.2.1 (nI v) s.2.2 ν) (fun k => ((nkF (apD V pv v) S E b0 v k).1, (nkF (apD V pv v) S E b0 v k).2, nI k)) (y := nkF (apD V pv v) S E b0 v n) n 1000000 (fun u hu => ?_) ?_ (by omega)
  · have hz := hb_zero (x := S) (i := u) (by omega) (by omega)
    have ap := m_apart h h8 hp hB hv hu
    have a1 := (apD_le h8 hB hv hu).2
    have e1 : nrF (apD V pv v) S (u + 1) = if S.testBit u = true then min (nrF (apD V pv v) S u) (apD V pv v u) else nrF (apD V pv v) S u := rfl
    have r10 := nrF_le (apD V pv v) S u
    show M_nearest_l21 _ _ _ _ _ _ = _
    unfold M_nearest_l21 M_nearest_j76
    dsimp only
    rw [hp.1, if_neg (nI_ge hu (by omega)), if_neg (fun z => hc (hbv.symm.trans (decide_eq_true z)))]
    by_cases c : S.testBit u = true
    · rw [if_neg (fun z => hz.1 z c), ap, bnd_eq, bnd_eq, nI_add]
      rw [if_pos c] at e1
      cases u with
      | zero =>
        have e0 : nrF (apD V pv v) S 0 = 10 := rfl
        show (if nI (apD V pv v 0) < nI E then _ else _) = _
        by_cases c2 : apD V pv v 0 < E
        · rw [if_pos (nI_lt c2 hE), nkF, if_pos (by omega), e1, e0, Nat.min_eq_right a1]
        · have en : nkF (apD V pv v) S E b0 v (0 + 1) = (b0, nI E) := if_neg (by rw [e1, e0, Nat.min_eq_right a1]; exact c2)
          rw [if_neg (nI_nlt (by omega) (by omega)), en]
          rfl
      | succ u =>
        rw [nkF, nkF]
        by_cases c3 : nrF (apD V pv v) S (u + 1) < E
        · rw [if_pos c3]
          show (if nI (apD V pv v (u + 1)) < nI (nrF (apD V pv v) S (u + 1)) then _ else _) = _
          by_cases c2 : apD V pv v (u + 1) < nrF (apD V pv v) S (u + 1)
          · rw [if_pos (nI_lt c2 (by omega)), if_pos (by omega), e1, Nat.min_eq_right (by omega)]
          · rw [if_neg (nI_nlt (by omega) (by omega)), if_pos (by omega), e1, Nat.min_eq_left (by omega)]
        · rw [if_neg c3]
          show (if nI (apD V pv v (u + 1)) < nI E then _ else _) = _
          by_cases c2 : apD V pv v (u + 1) < E
          · rw [if_pos (nI_lt c2 (by omega)), if_pos (by omega), e1, Nat.min_eq_right (by omega)]
          · rw [if_neg (nI_nlt (by omega) (by omega)), if_neg (by omega)]
    · rw [if_pos (hz.2 c), nI_add]
      rw [if_neg c] at e1
      cases u with
      | zero => exact absurd h0 c
      | succ u => rw [nkF, nkF, e1]
  · show M_nearest_l21 _ _ _ _ _ _ = _
    unfold M_nearest_l21
    rw [hp.1, if_pos (nI_le (Nat.le_refl _) (by omega))]
def msF (D : Nat → Nat → Nat) (S n k : Nat) : Int32 × Int32 := if (bsF D S n k).2 = 11 then (-1, nI 1000000) else (nI (bsF D S n k).1, nI (bsF D S n k).2)
theorem m_near {ν : Mm} {th : Nat} {V : VS} {n S : Nat} {pv : Nat → Nat} (h : HM ν th V) (h8 : W8 V) (hp : pickM ν n pv) (hB : pickB V n pv) (hS : S < 2 ^ 16) (h0 : S.testBit 0 = true) (hx : (bsF (apD V pv) S n n).2 ≤ 10) : M_nearest (nI S) ν = some (nI (100 * (bsF (apD V pv) S n n).2 + (bsF (apD V pv) S n n).1)) := by
  have n8 := hB.1
  have key := iter_traj (f := fun s : Int32 × Int32 × Int32 => M_nearest_l9 (nI S) s.1 s.2.1 s.2.2 ν) (fun k => ((msF (apD V pv) S n k).1, (msF (apD V pv) S n k).2, nI k)) (y := msF (apD V pv) S n n) n 1000000 (fun v hv => ?_) ?_ (by omega)
  · unfold M_nearest
    show bni (iter 1000000 _ ((msF (apD V pv) S n 0).1, (msF (apD V pv) S n 0).2, nI 0)) _ = _
    rw [key, bni_eq, msF, if_neg (by omega)]
    dsimp only
    rw [nI_mulE, nI_add]
  · have hbv := hb_test (x := S) (i := v) (by omega) (by omega)
    show M_nearest_l9 _ _ _ _ _ = _
    unfold M_nearest_l9
    dsimp only
    rw [hp.1, if_neg (nI_ge hv (by omega))]
    by_cases c : S.testBit v = true
    · have i1 : ∀ b e, iter 1000000 (fun s => M_nearest_l21 (nI S) s.1 s.2.1 (nI v) s.2.2 ν) (b, e, nI 0) = some (b, e) := fun b e => by
        refine iter_traj (f := fun s : Int32 × Int32 × Int32 => M_nearest_l21 (nI S) s.1 s.2.1 (nI v) s.2.2 ν) (fun k => (b, e, nI k)) (y := (b, e)) n 1000000 (fun u hu => ?_) ?_ (by omega)
        · show M_nearest_l21 _ _ _ _ _ _ = _
          unfold M_nearest_l21 M_nearest_j76
          rw [hp.1, if_neg (nI_ge hu (by omega)), if_pos (of_decide_eq_true (hbv.trans c)), nI_add]
        · show M_nearest_l21 _ _ _ _ _ _ = _
          unfold M_nearest_l21
          rw [hp.1, if_pos (nI_le (Nat.le_refl _) (by omega))]
      have em : msF (apD V pv) S n (v + 1) = msF (apD V pv) S n v := by
        unfold msF
        rw [bsF, if_pos c]
      rw [i1, bni_eq, nI_add, em]
    · have a2 := nrF_le (apD V pv v) S n
      rw [nI_add]
      rcases bsF_is (D := apD V pv) (S := S) (n := n) v with ⟨e, _⟩ | ⟨_, e, _⟩
      · have m1 : msF (apD V pv) S n v = (-1, nI 1000000) := by rw [msF, e, if_pos rfl]
        have m2 : msF (apD V pv) S n (v + 1) = (nI v, nI (nrF (apD V pv v) S n)) := by
          have e2 : bsF (apD V pv) S n (v + 1) = (v, nrF (apD V pv v) S n) := by
            rw [bsF, if_neg c, e]
            exact if_neg (show ¬ 11 ≤ _ by omega)
          rw [msF, e2]
          exact if_neg (show ¬ _ = 11 by omega)
        rw [m1, m2]
        dsimp only
        rw [m_near1 h h8 hp hB hS h0 hv c (E := 1000000) (by decide), bni_eq, if_pos (by omega)]
      · have m1 : msF (apD V pv) S n v = (nI (bsF (apD V pv) S n v).1, nI (bsF (apD V pv) S n v).2) := by rw [msF, if_neg (by omega)]
        have m2 : msF (apD V pv) S n (v + 1) = if nrF (apD V pv v) S n < (bsF (apD V pv) S n v).2 then (nI v, nI (nrF (apD V pv v) S n)) else (nI (bsF (apD V pv) S n v).1, nI (bsF (apD V pv) S n v).2) := by
          by_cases c2 : (bsF (apD V pv) S n v).2 ≤ nrF (apD V pv v) S n
          · have e2 : bsF (apD V pv) S n (v + 1) = bsF (apD V pv) S n v := by rw [bsF, if_neg c, if_pos c2]
            rw [if_neg (by omega), msF, e2, if_neg (by omega)]
          · have e2 : bsF (apD V pv) S n (v + 1) = (v, nrF (apD V pv v) S n) := by rw [bsF, if_neg c, if_neg c2]
            rw [if_pos (by omega), msF, e2]
            exact if_neg (show ¬ _ = 11 by omega)
        rw [m1, m2]
        dsimp only
        rw [m_near1 h h8 hp hB hS h0 hv c (by omega), bni_eq]
  · show M_nearest_l9 _ _ _ _ _ = _
    unfold M_nearest_l9
    rw [hp.1, if_pos (nI_le (Nat.le_refl _) (by omega))]
theorem m_join {ν : Mm} {V : VS} {n : Nat} {pv : Nat → Nat} (h : HM ν 0 V) (h8 : W8 V) (hp : pickM ν n pv) (hB : pickB V n pv) : M_join ν = some (nI (joinN V n pv), sti ν 0 0 (nI 0)) := by
  have n8 := hB.1
  have h' := h.told (nI 0)
  have hp' : pickM (sti ν 0 0 (nI 0)) n pv := hp
  have key := iter_traj (f := fun s : Int32 × Int32 × Int32 => M_join_l11 s.1 s.2.1 s.2.2 (sti ν 0 0 (nI 0))) (fun k => (nI (jnF (apD V pv) n k).1, nI (jnF (apD V pv) n k).2, nI (k + 1))) (y := nI (joinN V n pv)) (n - 1) 1000000 (fun k hk => ?_) ?_ (by omega)
  · unfold M_join
    rw [lt_eq]
    show bni (iter 1000000 _ (nI (jnF (apD V pv) n 0).1, nI (jnF (apD V pv) n 0).2, nI (0 + 1))) _ = _
    rw [key, bni_eq]
  · have hi := jnF_is (D := apD V pv) n8 k (by omega)
    have hi2 := jnF_is (D := apD V pv) n8 (k + 1) (by omega)
    have p16 : 2 ^ n ≤ 2 ^ 8 := Nat.pow_le_pow_right (by decide) n8
    have hw : (bsF (apD V pv) (jnF (apD V pv) n k).2 n n).1 < n ∧ (bsF (apD V pv) (jnF (apD V pv) n k).2 n n).2 ≤ 10 := by
      rcases bsF_is (D := apD V pv) (S := (jnF (apD V pv) n k).2) (n := n) n with ⟨_, g⟩ | ⟨e, e2, _⟩
      · have e : popc (jnF (apD V pv) n k).2 = n := by
          rw [popc_sum (k := n) (by omega) hi.1, sumF_congr (g := bitN (jnF (apD V pv) n k).2) (g2 := fun _ => 1) n (fun i hi => if_pos (g i hi))]
          exact sum_one n
        omega
      · exact ⟨e, e2⟩
    have en : jnF (apD V pv) n (k + 1) = ((jnF (apD V pv) n k).1 + (bsF (apD V pv) (jnF (apD V pv) n k).2 n n).2, (jnF (apD V pv) n k).2 ||| 2 ^ (bsF (apD V pv) (jnF (apD V pv) n k).2 n n).1) := rfl
    show M_join_l11 _ _ _ _ = _
    unfold M_join_l11
    dsimp only
    rw [hp'.1, if_neg (nI_ge (by omega) (by omega)), m_near h' h8 hp' hB (by omega) hi.2.1 hw.2, bnd_eq, chk_ok (by decide), chk_ok (by decide), lt_eq, pk_rem (by omega) (by decide) (by decide), pk_div (by omega) (by decide) (by decide), Nat.mul_add_mod, Nat.mod_eq_of_lt (show _ < 100 by omega), Nat.mul_add_div (by decide), Nat.div_eq_of_lt (show _ < 100 by omega), Nat.add_zero, shl1 _ (by omega), nI_or, nI_add, nI_add, en]
  · show M_join_l11 _ _ _ _ = _
    unfold M_join_l11
    rw [hp'.1, if_pos (nI_le (by omega) (by omega))]
    rfl
