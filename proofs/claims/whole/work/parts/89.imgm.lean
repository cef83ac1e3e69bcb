/-! THE IMAGE in the check: one row, cell after cell -/
def imC (j : Nat) : Nat × Nat :=
  if j < 712 then (1, j) else if j = 712 then (0, 6) else if j = 713 then (0, 10) else if j < 778 then (4 + (j - 714) % 4, (j - 714) / 4) else if j < 922 then (8, j - 778)
  else if j < 927 then (0, 13 + (j - 922)) else if j < 935 then (9, j - 927) else if j = 935 then (0, 43) else if j < 972 then (20, j - 936) else if j < 1972 then (10, j - 972)
  else if j = 1972 then (13, 0) else if j < 2021 then (14 + (j - 1973) % 3, (j - 1973) / 3) else if j < 2821 then (17 + (j - 2021) % 2, (j - 2021) / 2)
  else if j = 2821 then (13, 1) else if j < 2870 then (14 + (j - 2822) % 3, 16 + (j - 2822) / 3) else (17 + (j - 2870) % 2, 400 + (j - 2870) / 2)
def inIm (o k : Nat) : Prop := (o = 1 ∧ k < 712) ∨ (o = 0 ∧ (k = 6 ∨ k = 10 ∨ (13 ≤ k ∧ k ≤ 17) ∨ k = 43)) ∨ ((4 ≤ o ∧ o ≤ 7) ∧ k < 16) ∨ (o = 8 ∧ k < 144) ∨ (o = 9 ∧ k < 8) ∨ (o = 20 ∧ k < 36) ∨ (o = 10 ∧ k < 1000) ∨ (o = 13 ∧ k < 2) ∨ ((14 ≤ o ∧ o ≤ 16) ∧ k < 32) ∨ ((17 ≤ o ∧ o ≤ 18) ∧ k < 800)
theorem imC_in {o k : Nat} (h : inIm o k) : ∃ j, j < 3670 ∧ imC j = (o, k) := by
  have e : ∀ j, j < 3670 → (imC j).1 = o → (imC j).2 = k → ∃ j, j < 3670 ∧ imC j = (o, k) := fun j h1 h2 h3 => ⟨j, h1, Prod.ext h2 h3⟩
  unfold inIm at h
  rcases h with h | h | h | h | h | h | h | h | h | h
  · refine e k (by omega) ?_ ?_ <;> unfold imC <;> rw [if_pos (by omega)] <;> omega
  · obtain ⟨rfl, h⟩ := h
    rcases h with rfl | rfl | h | rfl
    · exact ⟨712, by decide, by decide⟩
    · exact ⟨713, by decide, by decide⟩
    · have : k = 13 ∨ k = 14 ∨ k = 15 ∨ k = 16 ∨ k = 17 := by omega
      rcases this with rfl | rfl | rfl | rfl | rfl
      · exact ⟨922, by decide, by decide⟩
      · exact ⟨923, by decide, by decide⟩
      · exact ⟨924, by decide, by decide⟩
      · exact ⟨925, by decide, by decide⟩
      · exact ⟨926, by decide, by decide⟩
    · exact ⟨935, by decide, by decide⟩
  · refine e (714 + 4 * k + (o - 4)) (by omega) ?_ ?_ <;> unfold imC <;> rw [if_neg (by omega), if_neg (by omega), if_neg (by omega), if_pos (by omega)] <;> dsimp only <;> omega
  · refine e (778 + k) (by omega) ?_ ?_ <;> unfold imC <;> rw [if_neg (by omega), if_neg (by omega), if_neg (by omega), if_neg (by omega), if_pos (by omega)] <;> dsimp only <;> omega
  · refine e (927 + k) (by omega) ?_ ?_ <;> unfold imC <;> (iterate 6 rw [if_neg (by omega)]) <;> rw [if_pos (by omega)] <;> dsimp only <;> omega
  · refine e (936 + k) (by omega) ?_ ?_ <;> unfold imC <;> (iterate 8 rw [if_neg (by omega)]) <;> rw [if_pos (by omega)] <;> dsimp only <;> omega
  · refine e (972 + k) (by omega) ?_ ?_ <;> unfold imC <;> (iterate 9 rw [if_neg (by omega)]) <;> rw [if_pos (by omega)] <;> dsimp only <;> omega
  · obtain ⟨rfl, h⟩ := h
    have : k = 0 ∨ k = 1 := by omega
    rcases this with rfl | rfl
    · exact ⟨1972, by decide, by decide⟩
    · exact ⟨2821, by decide, by decide⟩
  · by_cases c : k < 16
    · refine e (1973 + 3 * k + (o - 14)) (by omega) ?_ ?_ <;> unfold imC <;> (iterate 11 rw [if_neg (by omega)]) <;> rw [if_pos (by omega)] <;> dsimp only <;> omega
    · refine e (2822 + 3 * (k - 16) + (o - 14)) (by omega) ?_ ?_ <;> unfold imC <;> (iterate 14 rw [if_neg (by omega)]) <;> rw [if_pos (by omega)] <;> dsimp only <;> omega
  · by_cases c : k < 400
    · refine e (2021 + 2 * k + (o - 17)) (by omega) ?_ ?_ <;> unfold imC <;> (iterate 12 rw [if_neg (by omega)]) <;> rw [if_pos (by omega)] <;> dsimp only <;> omega
    · refine e (2870 + 2 * (k - 400) + (o - 17)) (by omega) ?_ ?_ <;> unfold imC <;> (iterate 15 rw [if_neg (by omega)]) <;> dsimp only <;> omega
theorem imC_far0 : ∀ a, a < 58 → ∀ b, b < 64 → (imC (64 * a + b)).1 ≠ 24 ∧ ¬ ((imC (64 * a + b)).1 = 0 ∧ ((imC (64 * a + b)).2 = 49 ∨ (imC (64 * a + b)).2 = 47 ∨ (imC (64 * a + b)).2 = 48 ∨ (imC (64 * a + b)).2 = 5 ∨ (imC (64 * a + b)).2 = 3 ∨ (imC (64 * a + b)).2 = 0)) := by decide +kernel
theorem imC_far (j : Nat) (hj : j < 3670) : (imC j).1 ≠ 24 ∧ ¬ ((imC j).1 = 0 ∧ ((imC j).2 = 49 ∨ (imC j).2 = 47 ∨ (imC j).2 = 48 ∨ (imC j).2 = 5 ∨ (imC j).2 = 3 ∨ (imC j).2 = 0)) := by
  have h := imC_far0 (j / 64) (by omega) (j % 64) (by omega)
  rw [Nat.div_add_mod] at h
  exact h
/-- one cell kept, or given back -/
def kS (j o k : Nat) (μ : Mm) : Mm := if μ.1 0 47 = 0 then sti (sti μ 0 49 (nI (j + 1))) o k (μ.1 24 j) else sti (sti (sti μ 0 49 (nI (j + 1))) 24 j (μ.1 o k)) o k (μ.1 o k)
theorem kept_1 {α : Type} {j o k : Nat} {μ : Mm} (h : μ.1 0 49 = nI j) (hj : j < 3670) (G : Mm → Option α) : (bnd2 (M_kept (μ.1 o k) μ) fun r m => lt (sti m o k r) G) = G (kS j o k μ) := by
  unfold M_kept kS
  rw [lt_eq, h, nI_add, sti_n (by omega), sti_e ⟨rfl, rfl⟩, nI_subE (by omega), Nat.add_sub_cancel, chv_nI (by omega) (by decide), chv_nI (by omega) (by decide), ix_nI (by omega), sti_n (by omega), lt_eq]
  split
  · rfl
  · rfl
theorem kept_2 {α : Type} {j o k n : Nat} {v : Int32} {μ : Mm} (h : μ.1 0 49 = nI j) (hj : j < 3670) (hv : vin v n) (G : Mm → Option α) : (bnd2 (M_kept (μ.1 o k) μ) fun r m => chv v n (lt (sti m o k r) G)) = G (kS j o k μ) := by
  rw [← kept_1 h hj G]
  congr 1
  funext r m
  exact chv_ok hv
def kQ (μ : Mm) : Nat → Mm
  | 0 => μ
  | j + 1 => kS j (imC j).1 (imC j).2 (kQ μ j)
theorem kS_49 {j o k : Nat} {μ : Mm} (h : ¬ (o = 0 ∧ (k = 49 ∨ k = 47))) : (kS j o k μ).1 0 49 = nI (j + 1) ∧ (kS j o k μ).1 0 47 = μ.1 0 47 := by
  unfold kS
  split
  · exact ⟨by rw [sti_n (by omega), sti_e ⟨rfl, rfl⟩], by rw [sti_n (by omega), sti_n (by omega)]⟩
  · exact ⟨by rw [sti_n (by omega), sti_n (by omega), sti_e ⟨rfl, rfl⟩], by rw [sti_n (by omega), sti_n (by omega), sti_n (by omega)]⟩
theorem kQ_49 {μ : Mm} (h : μ.1 0 49 = nI 0) (j : Nat) (hj : j ≤ 3670) : (kQ μ j).1 0 49 = nI j ∧ (kQ μ j).1 0 47 = μ.1 0 47 := by
  induction j with
  | zero => exact ⟨h, rfl⟩
  | succ j ih =>
    obtain ⟨a, b⟩ := kS_49 (j := j) (o := (imC j).1) (k := (imC j).2) (μ := kQ μ j) (by have := (imC_far j (by omega)).2; omega)
    exact ⟨a, b.trans (ih (by omega)).2⟩
theorem kQ_s {μ : Mm} {j o k : Nat} (h : imC j = (o, k)) : kS j o k (kQ μ j) = kQ μ (j + 1) := by
  show _ = kS j (imC j).1 (imC j).2 (kQ μ j)
  rw [h]
theorem imC_a {v : Nat} (h : v < 712) : imC v = (1, v) := if_pos h
theorem imC_b {v r : Nat} (h : v < 16) (hr : r < 4) : imC (714 + 4 * v + r) = (4 + r, v) := by
  unfold imC
  rw [if_neg (by omega), if_neg (by omega), if_neg (by omega), if_pos (by omega)]
  exact Prod.ext (by show 4 + _ = _; omega) (by show _ / 4 = _; omega)
theorem imC_c {v : Nat} (h : v < 144) : imC (778 + v) = (8, v) := by
  unfold imC
  iterate 4 rw [if_neg (by omega)]
  rw [if_pos (by omega), Nat.add_sub_cancel_left]
theorem imC_d {v : Nat} (h : v < 8) : imC (927 + v) = (9, v) := by
  unfold imC
  iterate 6 rw [if_neg (by omega)]
  rw [if_pos (by omega), Nat.add_sub_cancel_left]
theorem imC_e {v : Nat} (h : v < 36) : imC (936 + v) = (20, v) := by
  unfold imC
  iterate 8 rw [if_neg (by omega)]
  rw [if_pos (by omega), Nat.add_sub_cancel_left]
theorem imC_f {v : Nat} (h : v < 1000) : imC (972 + v) = (10, v) := by
  unfold imC
  iterate 9 rw [if_neg (by omega)]
  rw [if_pos (by omega), Nat.add_sub_cancel_left]
/-- the two laws alike -/
theorem imC_g {x v r : Nat} (hx : x < 2) (h : v < 16) (hr : r < 3) : imC (1973 + 849 * x + 3 * v + r) = (14 + r, 16 * x + v) := by
  have : x = 0 ∨ x = 1 := by omega
  unfold imC
  rcases this with rfl | rfl
  · iterate 11 rw [if_neg (by omega)]
    rw [if_pos (by omega)]
    exact Prod.ext (by show 14 + _ = _; omega) (by show _ / 3 = _; omega)
  · iterate 14 rw [if_neg (by omega)]
    rw [if_pos (by omega)]
    exact Prod.ext (by show 14 + _ = _; omega) (by show 16 + _ / 3 = _; omega)
theorem imC_h {x v r : Nat} (hx : x < 2) (h : v < 400) (hr : r < 2) : imC (2021 + 849 * x + 2 * v + r) = (17 + r, 400 * x + v) := by
  have : x = 0 ∨ x = 1 := by omega
  unfold imC
  rcases this with rfl | rfl
  · iterate 12 rw [if_neg (by omega)]
    rw [if_pos (by omega)]
    exact Prod.ext (by show 17 + _ = _; omega) (by show _ / 2 = _; omega)
  · iterate 15 rw [if_neg (by omega)]
    exact Prod.ext (by show 17 + _ = _; omega) (by show 400 + _ / 2 = _; omega)
theorem imC_l {x : Nat} (hx : x < 2) : imC (1972 + 849 * x) = (13, x) := by
  have : x = 0 ∨ x = 1 := by omega
  rcases this with rfl | rfl <;> decide
theorem kq_law {μ : Mm} (h : μ.1 0 49 = nI 0) {x : Nat} (hx : x < 2) : M_keepsLaw (nI x) (kQ μ (1972 + 849 * x)) = some (kQ μ (1972 + 849 * (x + 1))) := by
  have q : ∀ j, j ≤ 3670 → (kQ μ j).1 0 49 = nI j := fun j hj => (kQ_49 h j hj).1
  have k1 := iter_traj (f := fun s : Int32 × Mm => M_keepsLaw_l21 (nI x) s.1 s.2) (fun k => (nI (16 * x + k), kQ μ (1973 + 849 * x + 3 * k))) (y := kQ μ (1973 + 849 * x + 3 * 16)) 16 1000000 ?_ ?_ (by decide)
  · have k2 := iter_traj (f := fun s : Int32 × Mm => M_keepsLaw_l92 (nI x) s.1 s.2) (fun k => (nI (400 * x + k), kQ μ (2021 + 849 * x + 2 * k))) (y := kQ μ (2021 + 849 * x + 2 * 400)) 400 1000000 ?_ ?_ (by decide)
    · unfold M_keepsLaw
      rw [chv_nI hx (by decide), ix_nI (by omega), kept_2 (q _ (by omega)) (by omega) (vin_nI hx (by decide)), kQ_s (imC_l hx), nI_mulE, nI_mulE]
      rw [show 1973 + 849 * x + 3 * 0 = 1972 + 849 * x + 1 by omega, show 16 * x + 0 = 16 * x from rfl] at k1
      rw [show 2021 + 849 * x + 2 * 0 = 1973 + 849 * x + 3 * 16 by omega, show 400 * x + 0 = 400 * x from rfl] at k2
      rw [k1, bni_eq, k2, bni_eq, show 2021 + 849 * x + 2 * 400 = 1972 + 849 * (x + 1) by omega]
    · intro k hk
      show M_keepsLaw_l92 _ _ _ = _
      unfold M_keepsLaw_l92
      rw [nI_mulE, nI_add, if_neg (nI_ge (by omega) (by omega)), chv_nI (by omega) (by decide), ix_nI (by omega), kept_2 (q _ (by omega)) (by omega) (vin_nI (by omega) (by decide))]
      rw [kQ_s (show imC (2021 + 849 * x + 2 * k) = (17, 400 * x + k) from imC_h hx hk (r := 0) (by decide)), chv_nI (by omega) (by decide), kept_2 (q _ (by omega)) (by omega) (vin_nI (by omega) (by decide)), kQ_s (show imC (2021 + 849 * x + 2 * k + 1) = (18, 400 * x + k) from imC_h hx hk (r := 1) (by decide)), nI_add, Nat.add_assoc]
      rfl
    · show M_keepsLaw_l92 _ _ _ = _
      unfold M_keepsLaw_l92
      rw [nI_mulE, nI_add, if_pos (nI_le (Nat.le_refl _) (by omega))]
  · intro k hk
    show M_keepsLaw_l21 _ _ _ = _
    unfold M_keepsLaw_l21
    rw [nI_mulE, nI_add, if_neg (nI_ge (by omega) (by omega)), chv_nI (by omega) (by decide), ix_nI (by omega), kept_2 (q _ (by omega)) (by omega) (vin_nI (by omega) (by decide))]
    rw [kQ_s (show imC (1973 + 849 * x + 3 * k) = (14, 16 * x + k) from imC_g hx hk (r := 0) (by decide)), chv_nI (by omega) (by decide), kept_2 (q _ (by omega)) (by omega) (vin_nI (by omega) (by decide)), kQ_s (show imC (1973 + 849 * x + 3 * k + 1) = (15, 16 * x + k) from imC_g hx hk (r := 1) (by decide)), chv_nI (by omega) (by decide), kept_2 (q _ (by omega)) (by omega) (vin_nI (by omega) (by decide)), kQ_s (show imC (1973 + 849 * x + 3 * k + 2) = (16, 16 * x + k) from imC_g hx hk (r := 2) (by decide)), nI_add, Nat.add_assoc]
    rfl
  · show M_keepsLaw_l21 _ _ _ = _
    unfold M_keepsLaw_l21
    rw [nI_mulE, nI_add, if_pos (nI_le (Nat.le_refl _) (by omega))]
theorem kq_people {μ : Mm} (h : μ.1 0 49 = nI 0) : M_keepsPeople (kQ μ 712) = some (kQ μ 922) := by
  have q : ∀ j, j ≤ 3670 → (kQ μ j).1 0 49 = nI j := fun j hj => (kQ_49 h j hj).1
  have k1 := iter_traj (f := fun s : Int32 × Mm => M_keepsPeople_l26 s.1 s.2) (fun k => (nI k, kQ μ (714 + 4 * k))) (y := kQ μ (714 + 4 * 16)) 16 1000000 ?_ ?_ (by decide)
  · have k2 := iter_traj (f := fun s : Int32 × Mm => M_keepsPeople_l104 s.1 s.2) (fun k => (nI k, kQ μ (778 + k))) (y := kQ μ (778 + 144)) 144 1000000 ?_ ?_ (by decide)
    · unfold M_keepsPeople
      rw [kept_1 (q _ (by decide)) (by decide), kQ_s (by decide), kept_1 (q _ (by decide)) (by decide), kQ_s (by decide)]
      rw [show 714 + 4 * 0 = 712 + 1 + 1 from rfl] at k1
      rw [show 778 + 0 = 714 + 4 * 16 from rfl] at k2
      rw [k1, bni_eq, k2, bni_eq]
    · intro k hk
      show M_keepsPeople_l104 _ _ = _
      unfold M_keepsPeople_l104
      rw [if_neg (nI_ge (by omega) (by omega)), chv_nI (by omega) (by decide), ix_nI (by omega), kept_2 (q _ (by omega)) (by omega) (vin_nI (by omega) (by decide)), kQ_s (imC_c hk), nI_add]
      rfl
    · show M_keepsPeople_l104 _ _ = _
      unfold M_keepsPeople_l104
      rw [if_pos (nI_le (Nat.le_refl _) (by omega))]
  · intro k hk
    show M_keepsPeople_l26 _ _ = _
    unfold M_keepsPeople_l26
    rw [if_neg (nI_ge (by omega) (by omega)), chv_nI (by omega) (by decide), ix_nI (by omega), kept_2 (q _ (by omega)) (by omega) (vin_nI (by omega) (by decide))]
    rw [kQ_s (show imC (714 + 4 * k) = (4, k) from imC_b hk (r := 0) (by decide)), chv_nI (by omega) (by decide), kept_2 (q _ (by omega)) (by omega) (vin_nI (by omega) (by decide)), kQ_s (show imC (714 + 4 * k + 1) = (5, k) from imC_b hk (r := 1) (by decide)), chv_nI (by omega) (by decide), kept_2 (q _ (by omega)) (by omega) (vin_nI (by omega) (by decide)), kQ_s (show imC (714 + 4 * k + 2) = (6, k) from imC_b hk (r := 2) (by decide)), chv_nI (by omega) (by decide), kept_2 (q _ (by omega)) (by omega) (vin_nI (by omega) (by decide)), kQ_s (show imC (714 + 4 * k + 3) = (7, k) from imC_b hk (r := 3) (by decide)), nI_add]
    rfl
  · show M_keepsPeople_l26 _ _ = _
    unfold M_keepsPeople_l26
    rw [if_pos (nI_le (Nat.le_refl _) (by omega))]
theorem kq_nums {μ : Mm} (h : μ.1 0 49 = nI 0) : M_keepsNumbers (kQ μ 922) = some (kQ μ 972) := by
  have q : ∀ j, j ≤ 3670 → (kQ μ j).1 0 49 = nI j := fun j hj => (kQ_49 h j hj).1
  have k1 := iter_traj (f := fun s : Int32 × Mm => M_keepsNumbers_l62 s.1 s.2) (fun k => (nI k, kQ μ (927 + k))) (y := kQ μ (927 + 8)) 8 1000000 ?_ ?_ (by decide)
  · have k2 := iter_traj (f := fun s : Int32 × Mm => M_keepsNumbers_l104 s.1 s.2) (fun k => (nI k, kQ μ (936 + k))) (y := kQ μ (936 + 36)) 36 1000000 ?_ ?_ (by decide)
    · unfold M_keepsNumbers
      rw [kept_1 (q _ (by decide)) (by decide), kQ_s (by decide), kept_1 (q _ (by decide)) (by decide), kQ_s (by decide), kept_1 (q _ (by decide)) (by decide), kQ_s (by decide), kept_1 (q _ (by decide)) (by decide), kQ_s (by decide), kept_1 (q _ (by decide)) (by decide), kQ_s (by decide)]
      rw [show 927 + 0 = 922 + 1 + 1 + 1 + 1 + 1 from rfl] at k1
      rw [k1, bni_eq, kept_1 (q _ (by decide)) (by decide), kQ_s (by decide)]
      rw [show 936 + 0 = 927 + 8 + 1 from rfl] at k2
      rw [k2, bni_eq]
    · intro k hk
      show M_keepsNumbers_l104 _ _ = _
      unfold M_keepsNumbers_l104
      rw [if_neg (nI_ge (by omega) (by omega)), chv_nI (by omega) (by decide), ix_nI (by omega), kept_2 (q _ (by omega)) (by omega) (vin_nI (by omega) (by decide)), kQ_s (imC_e hk), nI_add]
      rfl
    · show M_keepsNumbers_l104 _ _ = _
      unfold M_keepsNumbers_l104
      rw [if_pos (nI_le (Nat.le_refl _) (by omega))]
  · intro k hk
    show M_keepsNumbers_l62 _ _ = _
    unfold M_keepsNumbers_l62
    rw [if_neg (nI_ge (by omega) (by omega)), chv_nI (by omega) (by decide), ix_nI (by omega), kept_2 (q _ (by omega)) (by omega) (vin_nI (by omega) (by decide)), kQ_s (imC_d hk), nI_add]
    rfl
  · show M_keepsNumbers_l62 _ _ = _
    unfold M_keepsNumbers_l62
    rw [if_pos (nI_le (Nat.le_refl _) (by omega))]
def imS (ν : Mm) (b : Nat) : Mm := sti (sti (sti ν 0 47 (nI b)) 0 48 (nI 1)) 0 49 (nI 0)
theorem kq_image (ν : Mm) {b : Nat} (hb : b < 2) : M_image_j18 (nI b) ν = if nI b = 0 then some (nI 1, sti (kQ (imS ν b) 3670) 0 3 (nI 0)) else some (nI 1, kQ (imS ν b) 3670) := by
  have h : (imS ν b).1 0 49 = nI 0 := sti_e ⟨rfl, rfl⟩
  have q : ∀ j, j ≤ 3670 → (kQ (imS ν b) j).1 0 49 = nI j := fun j hj => (kQ_49 h j hj).1
  have k1 := iter_traj (f := fun s : Int32 × Mm => M_image_l35 (nI b) s.1 s.2) (fun k => (nI k, kQ (imS ν b) k)) (y := kQ (imS ν b) 712) 712 1000000 ?_ ?_ (by decide)
  · have k2 := iter_traj (f := fun s : Int32 × Mm => M_image_l74 (nI b) s.1 s.2) (fun k => (nI k, kQ (imS ν b) (972 + k))) (y := kQ (imS ν b) (972 + 1000)) 1000 1000000 ?_ ?_ (by decide)
    · have hb2 : nI b = 0 ∨ nI b = 1 := by
        have : b = 0 ∨ b = 1 := by omega
        rcases this with rfl | rfl
        · exact Or.inl rfl
        · exact Or.inr rfl
      unfold M_image_j18
      rw [chk_ok hb2, lt_eq, lt_eq, lt_eq]
      have e : sti (sti (sti ν 0 47 (nI b)) 0 48 (nI 1)) 0 49 (nI 0) = kQ (imS ν b) 0 := rfl
      rw [e, k1, bni_eq, kq_people h, bnd_eq, kq_nums h, bnd_eq]
      rw [show 972 + 0 = 972 from rfl] at k2
      rw [k2, bni_eq, show 972 + 1000 = 1972 + 849 * 0 from rfl, kq_law h (by decide), bnd_eq, kq_law h (by decide), bnd_eq, lt_eq]
    · intro k hk
      show M_image_l74 _ _ _ = _
      unfold M_image_l74
      rw [if_neg (nI_ge (by omega) (by omega)), chv_nI (by omega) (by decide), ix_nI (by omega), kept_2 (q _ (by omega)) (by omega) (vin_nI (by omega) (by decide)), kQ_s (imC_f hk), nI_add]
      rfl
    · show M_image_l74 _ _ _ = _
      unfold M_image_l74
      rw [if_pos (nI_le (Nat.le_refl _) (by omega))]
  · intro k hk
    show M_image_l35 _ _ _ = _
    unfold M_image_l35
    rw [if_neg (nI_ge (by omega) (by omega)), chv_nI (by omega) (by decide), ix_nI (by omega), kept_2 (q _ (by omega)) (by omega) (vin_nI (by omega) (by decide)), kQ_s (imC_a hk), nI_add]
  · show M_image_l35 _ _ _ = _
    unfold M_image_l35
    rw [if_pos (nI_le (Nat.le_refl _) (by omega))]
/-- taken -/
theorem kQ_take {μ : Mm} (h7 : μ.1 0 47 = nI 1) (h : μ.1 0 49 = nI 0) (j : Nat) (hj : j ≤ 3670) : (∀ o k, o ≠ 24 → ¬ (o = 0 ∧ k = 49) → (kQ μ j).1 o k = μ.1 o k) ∧ ∀ i, i < j → (kQ μ j).1 24 i = μ.1 (imC i).1 (imC i).2 := by
  induction j with
  | zero => exact ⟨fun _ _ _ _ => rfl, fun i hi => absurd hi (Nat.not_lt_zero _)⟩
  | succ j ih =>
    obtain ⟨a, b⟩ := ih (by omega)
    obtain ⟨z1, z2⟩ := imC_far j (by omega)
    have e : kQ μ (j + 1) = sti (sti (sti (kQ μ j) 0 49 (nI (j + 1))) 24 j ((kQ μ j).1 (imC j).1 (imC j).2)) (imC j).1 (imC j).2 ((kQ μ j).1 (imC j).1 (imC j).2) := by
      show kS _ _ _ _ = _
      unfold kS
      rw [(kQ_49 h j (by omega)).2, h7, if_neg (by decide)]
    rw [e]
    refine ⟨fun o k h1 h2 => ?_, fun i hi => ?_⟩
    · by_cases c : o = (imC j).1 ∧ k = (imC j).2
      · obtain ⟨rfl, rfl⟩ := c
        rw [sti_e ⟨rfl, rfl⟩]
        exact a _ _ h1 h2
      · rw [sti_n c, sti_n (by omega), sti_n h2]
        exact a _ _ h1 h2
    · rw [sti_n (fun z => z1 z.1.symm)]
      by_cases c : i = j
      · subst c
        rw [sti_e ⟨rfl, rfl⟩]
        exact a _ _ z1 (by omega)
      · rw [sti_n (fun z => c z.2), sti_n (by omega)]
        exact b i (by omega)
/-- given back -/
theorem kQ_back {μ νI : Mm} (h7 : μ.1 0 47 = nI 0) (h : μ.1 0 49 = nI 0) (hI : ∀ i, i < 3670 → μ.1 24 i = νI.1 (imC i).1 (imC i).2) (j : Nat) (hj : j ≤ 3670) : (∀ i, i < j → (kQ μ j).1 (imC i).1 (imC i).2 = νI.1 (imC i).1 (imC i).2) ∧ (∀ o k, (∀ i, i < j → imC i ≠ (o, k)) → ¬ (o = 0 ∧ k = 49) → (kQ μ j).1 o k = μ.1 o k) := by
  induction j with
  | zero => exact ⟨fun i hi => absurd hi (Nat.not_lt_zero _), fun _ _ _ _ => rfl⟩
  | succ j ih =>
    obtain ⟨a, b⟩ := ih (by omega)
    obtain ⟨z1, z2⟩ := imC_far j (by omega)
    have e24 : (kQ μ j).1 24 j = νI.1 (imC j).1 (imC j).2 := by
      rw [b 24 j (fun i hi z => (imC_far i (by omega)).1 (congrArg Prod.fst z)) (by omega)]
      exact hI j (by omega)
    have e : kQ μ (j + 1) = sti (sti (kQ μ j) 0 49 (nI (j + 1))) (imC j).1 (imC j).2 (νI.1 (imC j).1 (imC j).2) := by
      show kS _ _ _ _ = _
      unfold kS
      rw [(kQ_49 h j (by omega)).2, h7, if_00, e24]
    rw [e]
    refine ⟨fun i hi => ?_, fun o k h1 h2 => ?_⟩
    · by_cases c : (imC i).1 = (imC j).1 ∧ (imC i).2 = (imC j).2
      · rw [c.1, c.2, sti_e ⟨rfl, rfl⟩]
      · rw [sti_n c, sti_n (by have := (imC_far i (by omega)).2; omega)]
        have : i ≠ j := fun z => c (by rw [z]; exact ⟨rfl, rfl⟩)
        exact a i (by omega)
    · rw [sti_n (fun z => h1 j (Nat.lt_succ_self j) (Prod.ext z.1.symm z.2.symm)), sti_n h2]
      exact b o k (fun i hi => h1 i (by omega)) h2
