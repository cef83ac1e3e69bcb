/-! THE CHECK: reading its state -/
section
variable {ν : Mm} {V : VS} {th p i v j : Nat}
theorem HM.cell (h : HM ν th V) {c p i : Nat} (hl : live V c p i) (hb : ¬ (23 ≤ c ∧ c ≤ 27)) (h3 : ¬ (c = 0 ∧ i = 3)) (ho : own3 c i) : ν.1 (mo c i) (pM c p i) = eM c i (V c p i) := (h.1 c p i ⟨hl, fun _ => ⟨hb, h3⟩⟩).2 ho
theorem HM.pot (h : HM ν th V) {c p i : Nat} (hl : live V c p i) (hb : ¬ (23 ≤ c ∧ c ≤ 27)) (h3 : ¬ (c = 0 ∧ i = 3)) : pot c p i := (h.1 c p i ⟨hl, fun _ => ⟨hb, h3⟩⟩).1
theorem HM.P (h : HM ν th V) : ν.1 0 6 = nI (V 0 0 0) := h.cell (live_0 (k := 0) (by decide)) (by omega) (by omega) (by unfold own3; omega)
theorem HM.vn (h : HM ν th V) : ν.1 1 6 = nI (V 0 0 1) := h.cell (live_0 (k := 1) (by decide)) (by omega) (by omega) (by unfold own3; omega)
theorem HM.wn (h : HM ν th V) : ν.1 1 471 = nI (V 0 0 2) := h.cell (live_0 (k := 2) (by decide)) (by omega) (by omega) (by unfold own3; omega)
theorem HM.bn (h : HM ν 0 V) : ν.1 1 2 = nI (V 0 0 3) := (h.1 0 0 3 ⟨live_0 (by decide), fun z => absurd z (by decide)⟩).2 (by unfold own3; omega)
theorem HM.dy (h : HM ν th V) : ν.1 1 0 = nI (V 0 0 4) := h.cell (live_0 (k := 4) (by decide)) (by omega) (by omega) (by unfold own3; omega)
theorem HM.fr (h : HM ν th V) : ν.1 1 3 = nI (V 0 0 5) := h.cell (live_0 (k := 5) (by decide)) (by omega) (by omega) (by unfold own3; omega)
theorem HM.cu (h : HM ν th V) : ν.1 1 4 = nI (V 0 0 6) := h.cell (live_0 (k := 6) (by decide)) (by omega) (by omega) (by unfold own3; omega)
theorem HM.lo (h : HM ν th V) : ν.1 1 5 = nI (V 0 0 7) := h.cell (live_0 (k := 7) (by decide)) (by omega) (by omega) (by unfold own3; omega)
theorem HM.st (h : HM ν th V) : ν.1 1 1 = nI (V 0 0 8) := h.cell (live_0 (k := 8) (by decide)) (by omega) (by omega) (by unfold own3; omega)
theorem HM.town (h : HM ν th V) (hp : p < V 0 0 0) : ν.1 4 p = nI (V 1 p 0) := h.cell (live_t (k := 0) hp (by decide)) (by omega) (by omega) (by unfold own3; omega)
theorem HM.kind (h : HM ν th V) (hp : p < V 0 0 0) : ν.1 5 p = nI (V 1 p 1) := h.cell (live_t (k := 1) hp (by decide)) (by omega) (by omega) (by unfold own3; omega)
theorem HM.lazy (h : HM ν th V) (hp : p < V 0 0 0) : ν.1 6 p = nI (V 1 p 2) := h.cell (live_t (k := 2) hp (by decide)) (by omega) (by omega) (by unfold own3; omega)
theorem HM.papr (h : HM ν th V) (hp : p < V 0 0 0) : ν.1 1 (183 + p) = nI (V 1 p 3) := h.cell (live_t (k := 3) hp (by decide)) (by omega) (by omega) (by unfold own3; omega)
theorem HM.coin (h : HM ν th V) (hp : p < V 0 0 0) : ν.1 1 (199 + p) = nI (V 1 p 4) := h.cell (live_t (k := 4) hp (by decide)) (by omega) (by omega) (by unfold own3; omega)
theorem HM.row (h : HM ν th V) (hp : p < V 0 0 0) (hi : i < V 3 p 0) : ν.1 8 (9 * p + i) = nI (V 2 p i) := h.cell (c := 2) (Or.inr (Or.inr (Or.inl ⟨rfl, hp, hi⟩))) (by omega) (by omega) (by unfold own3; omega)
theorem HM.rc (h : HM ν th V) (hp : p < V 0 0 0) : ν.1 7 p = nI (V 3 p 0) := h.cell (c := 3) (live_p hp (by omega)) (by omega) (by omega) (by unfold own3; omega)
theorem HM.nx (h : HM ν th V) (hp : p < V 0 0 0) : ν.1 1 (167 + p) = nI (V 4 p 0) := h.cell (c := 4) (live_p hp (by omega)) (by omega) (by omega) (by unfold own3; omega)
theorem HM.sn (h : HM ν th V) (hp : p < V 0 0 0) : ν.1 1 (247 + p) = nI (V 5 p 0) := h.cell (c := 5) (live_p hp (by omega)) (by omega) (by omega) (by unfold own3; omega)
theorem HM.hc (h : HM ν th V) (hp : p < V 0 0 0) : ν.1 1 (263 + p) = nI (V 6 p 0) := h.cell (c := 6) (live_p hp (by omega)) (by omega) (by omega) (by unfold own3; omega)
theorem HM.hl (h : HM ν th V) (hp : p < V 0 0 0) : ν.1 1 (215 + p) = nI (V 21 p 0) := h.cell (c := 21) (live_p hp (by omega)) (by omega) (by omega) (by unfold own3; omega)
theorem HM.hh (h : HM ν th V) (hp : p < V 0 0 0) : ν.1 1 (231 + p) = nI (V 22 p 0) := h.cell (c := 22) (live_p hp (by omega)) (by omega) (by omega) (by unfold own3; omega)
theorem HM.lv (h : HM ν th V) (hp : p < V 0 0 0) (hi : i < V 6 p 0) : ν.1 1 (279 + 4 * (3 * p + i)) = nI (V 7 p i) := h.cell (c := 7) (live_l hp (by omega) hi) (by omega) (by omega) (by unfold own3; omega)
theorem HM.lf (h : HM ν th V) (hp : p < V 0 0 0) (hi : i < V 6 p 0) : ν.1 1 (279 + 4 * (3 * p + i) + 1) = nI (V 8 p i) := h.cell (c := 8) (live_l hp (by omega) hi) (by omega) (by omega) (by unfold own3; omega)
theorem HM.ld (h : HM ν th V) (hp : p < V 0 0 0) (hi : i < V 6 p 0) : ν.1 1 (279 + 4 * (3 * p + i) + 2) = nI (V 9 p i) := h.cell (c := 9) (live_l hp (by omega) hi) (by omega) (by omega) (by unfold own3; omega)
theorem HM.ll (h : HM ν th V) (hp : p < V 0 0 0) (hi : i < V 6 p 0) : ν.1 1 (279 + 4 * (3 * p + i) + 3) = nI (V 10 p i) := h.cell (c := 10) (live_l hp (by omega) hi) (by omega) (by omega) (by unfold own3; omega)
theorem live_v {V : VS} {c v : Nat} (hv : v < V 0 0 1) (hc : 11 ≤ c ∧ c ≤ 14) : live V c 0 v := Or.inr (Or.inr (Or.inr (Or.inr (Or.inr (Or.inl ⟨hc.1, hc.2, rfl, hv⟩)))))
theorem live_r {V : VS} {k : Nat} (hk : k < 4) : live V 20 0 k := Or.inr (Or.inr (Or.inr (Or.inr (Or.inr (Or.inr (Or.inr (Or.inl ⟨rfl, rfl, hk⟩)))))))
theorem HM.vc (h : HM ν th V) (hv : v < V 0 0 1) : ν.1 1 (7 + v) = nI (V 11 0 v) := h.cell (c := 11) (live_v hv (by omega)) (by omega) (by omega) (by unfold own3; omega)
theorem HM.vm (h : HM ν th V) (hv : v < V 0 0 1) : ν.1 1 (47 + v) = nI (V 12 0 v) := h.cell (c := 12) (live_v hv (by omega)) (by omega) (by omega) (by unfold own3; omega)
theorem HM.vp (h : HM ν th V) (hv : v < V 0 0 1) : ν.1 1 (87 + v) = nI (V 13 0 v) := h.cell (c := 13) (live_v hv (by omega)) (by omega) (by omega) (by unfold own3; omega)
theorem HM.vw (h : HM ν th V) (hv : v < V 0 0 1) : ν.1 1 (127 + v) = nI (V 14 0 v) := h.cell (c := 14) (live_v hv (by omega)) (by omega) (by omega) (by unfold own3; omega)
theorem HM.wv (h : HM ν th V) (hi : i < V 0 0 2) : ν.1 1 (472 + 4 * i) = nI (V 15 0 i) := h.cell (c := 15) (way_live (by omega) hi) (by omega) (by omega) (by unfold own3; omega)
theorem HM.wf (h : HM ν th V) (hi : i < V 0 0 2) : ν.1 1 (472 + 4 * i + 1) = nI (V 16 0 i) := h.cell (c := 16) (way_live (by omega) hi) (by omega) (by omega) (by unfold own3; omega)
theorem HM.wt (h : HM ν th V) (hi : i < V 0 0 2) : ν.1 1 (472 + 4 * i + 2) = nI (V 17 0 i) := h.cell (c := 17) (way_live (by omega) hi) (by omega) (by omega) (by unfold own3; omega)
theorem HM.wd (h : HM ν th V) (hi : i < V 0 0 2) : ν.1 1 (472 + 4 * i + 3) = nI (V 18 0 i) := h.cell (c := 18) (way_live (by omega) hi) (by omega) (by omega) (by unfold own3; omega)
theorem HM.r0 (h : HM ν th V) : ν.1 0 13 = nI (V 20 0 0) - nI 9 := h.cell (c := 20) (live_r (k := 0) (by decide)) (by omega) (by omega) (by unfold own3; omega)
theorem HM.r1 (h : HM ν th V) : ν.1 0 14 = nI (V 20 0 1) - nI 9 := h.cell (c := 20) (live_r (k := 1) (by decide)) (by omega) (by omega) (by unfold own3; omega)
theorem HM.r3 (h : HM ν th V) : ν.1 0 16 = nI (V 20 0 3) := h.cell (c := 20) (live_r (k := 3) (by decide)) (by omega) (by omega) (by unfold own3; omega)
theorem HM.thf (h : HM ν th V) : ν.1 0 5 = nI th := h.2.2.1
theorem HM.P16 (h : HM ν th V) : V 0 0 0 ≤ 16 := by
  by_cases hh : 16 < V 0 0 0
  · have := h.pot (live_t (p := 16) (k := 0) hh (by decide)) (by omega) (by omega)
    unfold Jvm.Pilot.CNineCopiesLaw_law_r8239_772bdc.pot at this
    omega
  · omega
theorem HM.v40 (h : HM ν th V) : V 0 0 1 ≤ 40 := by
  by_cases hh : 40 < V 0 0 1
  · have := h.pot (live_v (c := 11) (v := 40) hh (by omega)) (by omega) (by omega)
    unfold Jvm.Pilot.CNineCopiesLaw_law_r8239_772bdc.pot at this
    omega
  · omega
theorem HM.w60 (h : HM ν th V) : V 0 0 2 ≤ 60 := by
  by_cases hh : 60 < V 0 0 2
  · have := h.pot (way_live (c := 15) (j := 60) (by omega) hh) (by omega) (by omega)
    unfold Jvm.Pilot.CNineCopiesLaw_law_r8239_772bdc.pot at this
    omega
  · omega
theorem HM.h3 (h : HM ν th V) (hp : p < V 0 0 0) : V 6 p 0 ≤ 3 := by
  by_cases hh : 3 < V 6 p 0
  · have := h.pot (live_l (c := 7) (k := 3) hp (by omega) hh) (by omega) (by omega)
    unfold Jvm.Pilot.CNineCopiesLaw_law_r8239_772bdc.pot at this
    omega
  · omega
theorem HM.r9 (h : HM ν th V) (hp : p < V 0 0 0) : V 3 p 0 ≤ 9 := by
  by_cases hh : 9 < V 3 p 0
  · have := h.pot (c := 2) (p := p) (i := 9) (Or.inr (Or.inr (Or.inl ⟨rfl, hp, hh⟩))) (by omega) (by omega)
    unfold Jvm.Pilot.CNineCopiesLaw_law_r8239_772bdc.pot at this
    omega
  · omega
theorem HM.stp (h : HM ν th V) (hp : p < V 0 0 0) : (ν.1 0 10 >>> (nI p &&& 31)) &&& nI 1 = nI (V 1 p 5) := h.2.1 p hp
end
/-- the check's state from its cells -/
theorem HM.of {ν ν2 : Mm} {th : Nat} {V U : VS} (h : HM ν th V) (hN : HN ν2 U (liveT th U)) (e0 : U 0 0 0 = V 0 0 0) (e5 : ∀ p, U 1 p 5 = V 1 p 5) (e2 : U 20 0 2 = V 20 0 2) (o10 : ν2.1 0 10 = ν.1 0 10) (o5 : ν2.1 0 5 = ν.1 0 5) (o15 : ν2.1 0 15 = ν.1 0 15) : HM ν2 th U := by
  refine ⟨hN, fun p hp => ?_, ?_, ?_⟩
  · rw [o10, e5]
    exact h.2.1 p (by omega)
  · rw [o5]
    exact h.2.2.1
  · rw [o15, e2]
    exact h.2.2.2
/-- a store of one component that changes what is there in no way -/
theorem HM.put1 {ν : Mm} {th : Nat} {V : VS} (h : HM ν th V) (c p i x : Nat) {o k : Nat} {v : Int32} (hl : live V c p i) (ho : o = mo c i) (hk : k = pM c p i) (hv : v = eM c i x) (h1 : own3 c i) (h2 : c ≠ 3 ∧ c ≠ 6 ∧ ¬ (c = 0 ∧ i < 4) ∧ ¬ (23 ≤ c ∧ c ≤ 27)) : HM (sti ν o k v) th (vset V c p i x) := by
  have hp := h.pot hl h2.2.2.2 (by omega)
  have hcm := cellM_of hp h1
  rw [← ho, ← hk] at hcm
  unfold own3 at h1
  unfold cellM at hcm
  refine h.of ?_ (vset_ne (by omega)) (fun p => vset_ne (by omega)) (vset_ne (by omega)) (sti_n (by omega)) (sti_n (by omega)) (sti_n (by omega))
  refine HN.mono (h.1.put c p i x hp ho hk hv h1) (fun c2 q k hl => ?_) (fun _ _ _ _ _ => rfl)
  refine lput_of ⟨live_same hl.1 ?_ ?_ ?_ ?_ ?_ ?_, hl.2⟩ <;> exact vset_ne (by omega)
/-- who wrote: the check keeps no account of it -/
theorem HM.putW {ν : Mm} {th : Nat} {V : VS} (h : HM ν th V) (x : Nat) : HM ν th (vset V 0 0 9 x) := by
  refine h.of ?_ (vset_ne (by omega)) (fun p => vset_ne (by omega)) (vset_ne (by omega)) rfl rfl rfl
  refine HN.mono (h.1.putN 0 0 9 x (Or.inl ⟨rfl, rfl, by decide⟩) (by unfold own3; omega)) (fun c2 q k hl => ?_) (fun _ _ _ _ _ => rfl)
  refine lput_of ⟨live_same hl.1 ?_ ?_ ?_ ?_ ?_ ?_, hl.2⟩ <;> exact vset_ne (by omega)
/-- two states that are alike where something is -/
theorem HM.like {ν : Mm} {th : Nat} {V U : VS} (h : HM ν th V) (hL : ∀ c q k, live U c q k → live V c q k) (hV : ∀ c q k, live U c q k → U c q k = V c q k) : HM ν th U := by
  have e0 : U 0 0 0 = V 0 0 0 := hV 0 0 0 (live_0 (by decide))
  refine ⟨HN.mono h.1 (fun c q k hl => ⟨hL c q k hl.1, hl.2⟩) (fun c q k hl _ => hV c q k hl.1), fun p hp => ?_, h.2.2.1, ?_⟩
  · rw [hV 1 p 5 (live_t hp (by decide))]
    exact h.2.1 p (by omega)
  · rw [hV 20 0 2 (live_r (by decide))]
    exact h.2.2.2
