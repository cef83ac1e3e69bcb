/-! THE CLASS: the post comes -/
/-- as the class has them when k of m are looked at and s stay -/
def clsV (V : VS) (s k m : Nat) : VS := fun c q j => if (15 ≤ c ∧ c ≤ 18) ∧ q = 0 ∧ s ≤ j then V c 0 (j - s + k) else if c = 0 ∧ q = 0 ∧ j = 2 then s + (m - k) else V c q j
theorem clsV_o {V : VS} {s k m c q j : Nat} (h : ¬ (15 ≤ c ∧ c ≤ 18)) (h2 : ¬ (c = 0 ∧ j = 2)) : clsV V s k m c q j = V c q j := by
  unfold clsV
  rw [if_neg (by omega), if_neg (by omega)]
theorem clsV_2 {V : VS} {s k m : Nat} : clsV V s k m 0 0 2 = s + (m - k) := rfl
theorem clsV_s {V : VS} {s k m c : Nat} (h : 15 ≤ c ∧ c ≤ 18) : clsV V s k m c 0 s = V c 0 k := by
  unfold clsV
  rw [if_pos ⟨h, rfl, Nat.le_refl _⟩, show s - s + k = k by omega]
/-- two states that are alike where something is -/
theorem HC.like {μ : Mm} {w : Nat} {V U : VS} (h : HC μ w V) (hL : ∀ c q k, live U c q k → live V c q k) (hV : ∀ c q k, live U c q k → U c q k = V c q k) : HC μ w U := by
  have e0 : U 0 0 0 = V 0 0 0 := hV 0 0 0 (Or.inl ⟨rfl, rfl, by decide⟩)
  refine ⟨h.1.mono hL (fun c q k hl _ => hV c q k hl), h.2.1, fun q hq => ?_⟩
  have l1 : live U 21 q 0 := Or.inr (Or.inr (Or.inr (Or.inl ⟨by omega, hq, rfl⟩)))
  have l2 : live U 22 q 0 := Or.inr (Or.inr (Or.inr (Or.inl ⟨by omega, hq, rfl⟩)))
  rw [hV 21 q 0 l1, hV 22 q 0 l2]
  exact h.2.2 q (by omega)
theorem live_way {V : VS} {c q j : Nat} (h : live V c q j) (hc : 15 ≤ c ∧ c ≤ 18) : q = 0 ∧ j < V 0 0 2 := by
  unfold live at h
  omega
theorem way_live {V : VS} {c j : Nat} (hc : 15 ≤ c ∧ c ≤ 18) (h : j < V 0 0 2) : live V c 0 j := Or.inr (Or.inr (Or.inr (Or.inr (Or.inr (Or.inr (Or.inl ⟨hc.1, hc.2, rfl, h⟩))))))
/-- alike but for those on the way -/
theorem like_way {V U : VS} (o : ∀ c q j, ¬ (15 ≤ c ∧ c ≤ 18) → ¬ (c = 0 ∧ j = 2) → U c q j = V c q j) (h2 : U 0 0 2 = V 0 0 2) (hw : ∀ c j, 15 ≤ c ∧ c ≤ 18 → j < U 0 0 2 → U c 0 j = V c 0 j) : (∀ c q k, live U c q k → live V c q k) ∧ ∀ c q k, live U c q k → U c q k = V c q k := by
  refine ⟨fun c q k hl => live_same hl (o _ _ _ (by omega) (by omega)) (o _ _ _ (by omega) (by omega)) (o _ _ _ (by omega) (by omega)) (o _ _ _ (by omega) (by omega)) h2 (o _ _ _ (by omega) (by omega)), fun c q k hl => ?_⟩
  by_cases hc : 15 ≤ c ∧ c ≤ 18
  · obtain ⟨rfl, hj⟩ := live_way hl hc
    exact hw c k hc hj
  · by_cases hc2 : c = 0 ∧ k = 2
    · obtain ⟨rfl, rfl⟩ := hc2
      have : q = 0 := by unfold live at hl; omega
      subst this
      exact h2
    · exact o c q k hc hc2
theorem brgV_2 {V : VS} : (brgV V).1 0 0 2 = (arvS V (V 0 0 2)).2.1 := by
  show vset (arvS V (V 0 0 2)).1 0 0 2 _ 0 0 2 = _
  exact vset_eq ⟨rfl, rfl, rfl⟩
theorem brgV_o {V : VS} {c q j : Nat} (h : ¬ (c = 0 ∧ j = 2)) : (brgV V).1 c q j = (arvS V (V 0 0 2)).1 c q j := by
  unfold brgV
  exact vset_ne (by omega)
/-- alike but for those on the way -/
def Alk (U V : VS) : Prop := ∀ c q j, ¬ (15 ≤ c ∧ c ≤ 18) → ¬ (c = 0 ∧ j = 2) → U c q j = V c q j
theorem Alk.vset {U V : VS} (h : Alk U V) (c p i x : Nat) : Alk (vset U c p i x) (vset V c p i x) := by
  intro c2 q j h1 h2
  rw [vset_at, vset_at, h c2 q j h1 h2]
theorem Alk.give {U V : VS} (h : Alk U V) (p v f : Nat) : Alk (giveV U p v f) (giveV V p v f) := by
  have a := ((((h.vset 7 p (V 6 p 0) v).vset 8 p (V 6 p 0) f).vset 9 p (V 6 p 0) (V 0 0 4 + V 20 0 1)).vset 10 p (V 6 p 0) (V 20 0 0)).vset 6 p 0 (V 6 p 0 + 1)
  unfold giveV
  rw [h 6 p 0 (by omega) (by omega), h 0 0 4 (by omega) (by omega), h 20 0 1 (by omega) (by omega), h 20 0 0 (by omega) (by omega)]
  unfold hadV
  rw [a 21 p 0 (by omega) (by omega), a 22 p 0 (by omega) (by omega)]
  split
  · exact a.vset _ _ _ _
  · exact a.vset _ _ _ _
theorem Alk.book {U V : VS} (h : Alk U V) (v f t x : Nat) : Alk (bookV U v f t x) (bookV V v f t x) := by
  unfold bookV
  rw [h 0 0 3 (by omega) (by omega), h 0 0 4 (by omega) (by omega)]
  split
  · exact (((((h.vset _ _ _ _).vset _ _ _ _).vset _ _ _ _).vset _ _ _ _).vset _ _ _ _).vset _ _ _ _
  · exact h
theorem Alk.rcb {U V : VS} (h : Alk U V) (v f t : Nat) : (rcbV U v f t).2 = (rcbV V v f t).2 ∧ Alk (rcbV U v f t).1 (rcbV V v f t).1 := by
  have key : (rcvV U v f t).2 = (rcvV V v f t).2 ∧ Alk (rcvV U v f t).1 (rcvV V v f t).1 := by
    unfold rcvV
    rw [h 1 t 1 (by omega) (by omega), h 5 t 0 (by omega) (by omega), h 6 t 0 (by omega) (by omega), h 0 0 7 (by omega) (by omega)]
    split
    · exact ⟨rfl, h⟩
    · split
      · exact ⟨rfl, h⟩
      · split
        · exact ⟨rfl, h.vset _ _ _ _⟩
        · exact ⟨rfl, h.give _ _ _⟩
  unfold rcbV
  refine ⟨key.1, ?_⟩
  show Alk (bookV (rcvV U v f t).1 v f t (rcvV U v f t).2) (bookV (rcvV V v f t).1 v f t (rcvV V v f t).2)
  rw [key.1]
  exact key.2.book _ _ _ _
theorem rcbV_lt {V : VS} {v f t : Nat} : (rcbV V v f t).2 < 4 := by
  unfold rcbV rcvV
  show (ite _ _ _ : VS × Nat).2 < 4
  split
  · exact (by decide : 1 < 4)
  · split
    · exact (by decide : 2 < 4)
    · split
      · exact (by decide : 3 < 4)
      · exact (by decide : 0 < 4)
theorem c_bring {μ : Mm} {w : Nat} {V : VS} {d : Nat} (h : HC μ w V) (hw : WF d V) (hd : d < 2 ^ 30) : ∃ μ2, World_bringPost w μ = some (nI (brgV V).2, μ2) ∧ HC μ2 w (brgV V).1 ∧ Out (inW w) μ μ2 := by
  have w60 := h.w60
  have e7 := h.wn
  have l1 := h.lenw.2.2.2.1
  have key := iter_inv (f := fun s : Int32 × Int32 × Int32 × Mm => World_bringPost_l15 w s.1 (nI (V 0 0 2)) s.2.1 s.2.2.1 s.2.2.2)
    (fun k s => s.1 = nI (arvS V k).2.2 ∧ s.2.1 = nI (arvS V k).2.1 ∧ s.2.2.1 = nI k ∧ HC s.2.2.2 w (clsV (arvS V k).1 (arvS V k).2.1 k (V 0 0 2)) ∧ Out (inW w) μ s.2.2.2)
    (fun x => x.1 = nI (arvS V (V 0 0 2)).2.2 ∧ HC x.2 w (clsV (arvS V (V 0 0 2)).1 (arvS V (V 0 0 2)).2.1 (V 0 0 2) (V 0 0 2)) ∧ Out (inW w) μ x.2) (V 0 0 2) ?_ ?_ 1000000 (nI 0, nI 0, nI 0, μ) ?_ (by omega)
  · obtain ⟨x, h1, h2, h3, h4⟩ := key
    have hs := arvS_le (V := V) (V 0 0 2)
    refine ⟨x.2, ?_, ?_, h4⟩
    · unfold World_bringPost
      rw [e7, h1]
      show some (x.1, x.2) = _
      rw [h2]
      rfl
    · have lk := like_way (V := clsV (arvS V (V 0 0 2)).1 (arvS V (V 0 0 2)).2.1 (V 0 0 2) (V 0 0 2)) (U := (brgV V).1) (fun c q j a b => ?_) ?_ (fun c j a b => ?_)
      · exact h3.like lk.1 lk.2
      · rw [clsV_o a b]
        exact brgV_o b
      · rw [clsV_2, brgV_2]
        omega
      · have b2 : j < (arvS V (V 0 0 2)).2.1 := by
          rw [brgV_2] at b
          exact b
        unfold clsV
        rw [if_neg (by omega), if_neg (by omega)]
        exact brgV_o (by omega)
  · rintro k ⟨cI, sI, kI, m⟩ hk ⟨rfl, rfl, rfl, hC, hO⟩
    have hC : HC m w (clsV (arvS V k).1 (arvS V k).2.1 k (V 0 0 2)) := hC
    have hO : Out (inW w) μ m := hO
    refine Or.inl ?_
    have hs := arvS_le (V := V) k
    have hwk := arvS_wf hw k (by omega)
    have w9 := hw.2.2.2.2.2.2.2.2.2.1 k hk
    have wP : (arvS V k).1 0 0 0 = V 0 0 0 := arvS_o _ (by omega) (by omega) (by omega) (by omega) (by omega) (by omega)
    have wN : (arvS V k).1 0 0 1 = V 0 0 1 := arvS_o _ (by omega) (by omega) (by omega) (by omega) (by omega) (by omega)
    have wD : (arvS V k).1 0 0 4 = V 0 0 4 := arvS_o _ (by omega) (by omega) (by omega) (by omega) (by omega) (by omega)
    have wM : (arvS V k).1 0 0 2 = V 0 0 2 := arvS_o _ (by omega) (by omega) (by omega) (by omega) (by omega) (by omega)
    have r : ∀ {c : Nat}, 15 ≤ c ∧ c ≤ 18 → clsV (arvS V k).1 (arvS V k).2.1 k (V 0 0 2) c 0 (arvS V k).2.1 = V c 0 k := fun hc => (clsV_s hc).trans (arvS_w k hc (Nat.le_refl _))
    have e18 := hC.wd (i := (arvS V k).2.1) (by rw [clsV_2]; omega)
    rw [r (by omega)] at e18
    have eD := hC.dy
    rw [clsV_o (by omega) (by omega), wD] at eD
    have d4 := hw.2.2.2.2.1
    by_cases hx : V 0 0 4 < V 18 0 k
    · have nx : ¬ V 18 0 k ≤ V 0 0 4 := by omega
      have e : arvS V (k + 1) = (wmvV (arvS V k).1 (arvS V k).2.1 k, (arvS V k).2.1 + 1, (arvS V k).2.2) := by
        rw [arvS, if_pos hx]
      refine ⟨(nI (arvS V (k + 1)).2.2, nI (arvS V (k + 1)).2.1, nI (k + 1), m), ?_, rfl, rfl, rfl, ?_, hO⟩
      · show World_bringPost_l15 w _ _ _ _ _ = _
        unfold World_bringPost_l15 World_bringPost_j62
        have nk : ¬ V 0 0 2 ≤ k := by omega
        rw [show w + 11 = w + 7 + 4 from rfl, l1, show w + 7 + 4 = w + 11 from rfl, e]
        simp (disch := omega) only [lt_eq, bnd_eq, bni_eq, bnd2_eq, nI_ltE, nI_leE, nI_eqE, eq_0, lt_0E, le_0, z_lt, z_le, eq_m1, m1_eq, nI_add, nI_mulE, ix_nI, ix_0, chv_nI, chk_ok, chk_T, sti_e, sti_n, sti_2, stl_1, stl_e, stl_n, if_true, if_false, not_true_eq_false, not_false_eq_true, eq_self, Bool.false_eq_true, Bool.true_eq_false, e18, eD, nk, nx]
      · rw [e]
        have lk := like_way (V := clsV (arvS V k).1 (arvS V k).2.1 k (V 0 0 2)) (U := clsV (wmvV (arvS V k).1 (arvS V k).2.1 k) ((arvS V k).2.1 + 1) (k + 1) (V 0 0 2)) (fun c q j a b => ?_) ?_ (fun c j a b => ?_)
        · exact hC.like lk.1 lk.2
        · rw [clsV_o a b, clsV_o a b]
          exact wmvV_o (by omega)
        · rw [clsV_2, clsV_2]
          omega
        · rw [clsV_2] at b
          unfold clsV
          by_cases b1 : j < (arvS V k).2.1
          · rw [if_neg (by omega), if_neg (by omega), if_neg (by omega), if_neg (by omega)]
            exact wmvV_o (by omega)
          · by_cases b2 : j = (arvS V k).2.1
            · rw [if_neg (by omega), if_neg (by omega), if_pos ⟨a, rfl, by omega⟩]
              unfold wmvV
              rw [if_pos ⟨a, rfl, b2⟩, show j - (arvS V k).2.1 + k = k by omega]
            · rw [if_pos ⟨a, rfl, by omega⟩, if_pos ⟨a, rfl, by omega⟩, wmvV_o (by omega), show j - ((arvS V k).2.1 + 1) + (k + 1) = j - (arvS V k).2.1 + k by omega]
    · have nx : V 18 0 k ≤ V 0 0 4 := by omega
      have e : arvS V (k + 1) = ((rcbV (arvS V k).1 (V 15 0 k) (V 16 0 k) (V 17 0 k)).1, (arvS V k).2.1, (arvS V k).2.2 + (if (rcbV (arvS V k).1 (V 15 0 k) (V 16 0 k) (V 17 0 k)).2 = 0 then 1 else 0)) := by
        rw [arvS, if_neg hx]
      have hW5 : W5 (clsV (arvS V k).1 (arvS V k).2.1 k (V 0 0 2)) := by
        have := hwk.2.2.2.2.2.1
        unfold W5 at this ⊢
        simp (disch := omega) only [clsV_o]
        exact this
      obtain ⟨μ1, g1, g2, g3⟩ := c_recv (i := (arvS V k).2.1) hC hW5 (by rw [clsV_2]; omega) (by rw [r (by omega), clsV_o (by omega) (by omega), wP]; exact w9.2.2.1) (by rw [r (by omega), clsV_o (by omega) (by omega), wN]; exact w9.1)
      rw [r (by omega), r (by omega), r (by omega)] at g1 g2
      have hlt : (arvS V k).2.1 < (rcbV (clsV (arvS V k).1 (arvS V k).2.1 k (V 0 0 2)) (V 15 0 k) (V 16 0 k) (V 17 0 k)).1 0 0 2 := by
        rw [rcbV_o (by omega) (by omega) (by omega) (by omega) (by omega), clsV_2]
        omega
      obtain ⟨μ2, f1, f2, f3⟩ := c_remW g2 hlt
      have hA : Alk (clsV (arvS V k).1 (arvS V k).2.1 k (V 0 0 2)) (arvS V k).1 := fun c q j a b => clsV_o a b
      obtain ⟨q1, q2⟩ := hA.rcb (V 15 0 k) (V 16 0 k) (V 17 0 k)
      have q3 : (rcbV (arvS V k).1 (V 15 0 k) (V 16 0 k) (V 17 0 k)).2 < 4 := rcbV_lt
      rw [q1] at g1
      refine ⟨(nI (arvS V (k + 1)).2.2, nI (arvS V (k + 1)).2.1, nI (k + 1), μ2), ?_, rfl, rfl, rfl, ?_, hO.tr (g3.tr f3)⟩
      · show World_bringPost_l15 w _ _ _ _ _ = _
        unfold World_bringPost_l15 World_bringPost_j54 World_bringPost_j62
        have nk : ¬ V 0 0 2 ≤ k := by omega
        rw [show w + 11 = w + 7 + 4 from rfl, l1, show w + 7 + 4 = w + 11 from rfl, e]
        by_cases z : (rcbV (arvS V k).1 (V 15 0 k) (V 16 0 k) (V 17 0 k)).2 = 0
        · simp (disch := omega) only [lt_eq, bnd_eq, bni_eq, bnd2_eq, nI_ltE, nI_leE, nI_eqE, eq_0, lt_0E, le_0, z_lt, z_le, eq_m1, m1_eq, nI_add, nI_mulE, ix_nI, ix_0, chv_nI, chk_ok, chk_T, sti_e, sti_n, sti_2, stl_1, stl_e, stl_n, if_true, if_false, not_true_eq_false, not_false_eq_true, eq_self, Bool.false_eq_true, Bool.true_eq_false, e18, eD, nk, nx, g1, z, f1]
        · simp (disch := omega) only [lt_eq, bnd_eq, bni_eq, bnd2_eq, nI_ltE, nI_leE, nI_eqE, eq_0, lt_0E, le_0, z_lt, z_le, eq_m1, m1_eq, nI_add, nI_mulE, ix_nI, ix_0, chv_nI, chk_ok, chk_T, sti_e, sti_n, sti_2, stl_1, stl_e, stl_n, if_true, if_false, not_true_eq_false, not_false_eq_true, eq_self, Bool.false_eq_true, Bool.true_eq_false, e18, eD, nk, nx, g1, z, f1, Nat.add_zero]
      · rw [e]
        have ro : ∀ {c j : Nat}, 15 ≤ c ∧ c ≤ 18 → (rcbV (clsV (arvS V k).1 (arvS V k).2.1 k (V 0 0 2)) (V 15 0 k) (V 16 0 k) (V 17 0 k)).1 c 0 j = clsV (arvS V k).1 (arvS V k).2.1 k (V 0 0 2) c 0 j := fun a => rcbV_o (by omega) (by omega) (by omega) (by omega) (by omega)
        have ro2 : ∀ {c j : Nat}, 15 ≤ c ∧ c ≤ 18 → (rcbV (arvS V k).1 (V 15 0 k) (V 16 0 k) (V 17 0 k)).1 c 0 j = (arvS V k).1 c 0 j := fun a => rcbV_o (by omega) (by omega) (by omega) (by omega) (by omega)
        have r2 : (rcbV (clsV (arvS V k).1 (arvS V k).2.1 k (V 0 0 2)) (V 15 0 k) (V 16 0 k) (V 17 0 k)).1 0 0 2 = (arvS V k).2.1 + (V 0 0 2 - k) := (rcbV_o (by omega) (by omega) (by omega) (by omega) (by omega)).trans clsV_2
        have lk := like_way (V := wremV (rcbV (clsV (arvS V k).1 (arvS V k).2.1 k (V 0 0 2)) (V 15 0 k) (V 16 0 k) (V 17 0 k)).1 (arvS V k).2.1) (U := clsV (rcbV (arvS V k).1 (V 15 0 k) (V 16 0 k) (V 17 0 k)).1 (arvS V k).2.1 (k + 1) (V 0 0 2)) (fun c q j a b => ?_) ?_ (fun c j a b => ?_)
        · exact f2.like lk.1 lk.2
        · rw [clsV_o a b]
          unfold wremV
          rw [if_neg (by omega), if_neg (by omega)]
          exact (q2 c q j a b).symm
        · rw [clsV_2]
          show _ = (rcbV (clsV (arvS V k).1 (arvS V k).2.1 k (V 0 0 2)) (V 15 0 k) (V 16 0 k) (V 17 0 k)).1 0 0 2 - 1
          rw [r2]
          omega
        · rw [clsV_2] at b
          unfold wremV
          by_cases b1 : j < (arvS V k).2.1
          · rw [if_neg (by omega), if_neg (by omega), ro a]
            unfold clsV
            rw [if_neg (by omega), if_neg (by omega), if_neg (by omega), if_neg (by omega)]
            exact ro2 a
          · rw [if_pos ⟨a, rfl, by omega⟩, ro a]
            unfold clsV
            rw [if_pos ⟨a, rfl, by omega⟩, if_pos ⟨a, rfl, by omega⟩, ro2 a, show j - (arvS V k).2.1 + (k + 1) = j + 1 - (arvS V k).2.1 + k by omega]
  · intro s hI
    obtain ⟨cI, sI, kI, m⟩ := s
    obtain ⟨rfl, rfl, rfl, hC, hO⟩ := hI
    refine ⟨(nI (arvS V (V 0 0 2)).2.2, m), ?_, rfl, hC, hO⟩
    show World_bringPost_l15 w _ _ _ _ _ = _
    unfold World_bringPost_l15
    simp (disch := omega) only [lt_eq, bnd_eq, bni_eq, bnd2_eq, nI_ltE, nI_leE, nI_eqE, eq_0, lt_0E, le_0, z_lt, z_le, eq_m1, m1_eq, nI_add, nI_mulE, ix_nI, ix_0, chv_nI, chk_ok, chk_T, sti_e, sti_n, sti_2, stl_1, stl_e, stl_n, if_true, if_false, not_true_eq_false, not_false_eq_true, eq_self, Bool.false_eq_true, Bool.true_eq_false, Nat.le_refl]
  · refine ⟨rfl, rfl, rfl, ?_, Out.rf⟩
    have lk := like_way (V := V) (U := clsV (arvS V 0).1 (arvS V 0).2.1 0 (V 0 0 2)) (fun c q j a b => clsV_o a b) (by rw [clsV_2]; show 0 + _ = _; omega) (fun c j a b => ?_)
    · exact h.like lk.1 lk.2
    · unfold clsV
      rw [if_pos ⟨a, rfl, Nat.zero_le _⟩]
      rfl
