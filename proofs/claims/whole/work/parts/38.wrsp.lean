/-! WRITING OUT in plain words: what it leaves alone -/
section
variable {V : VS} {d p i c q j : Nat} {T : TT}
theorem WF.rem (hw : WF d V) (hi : i < V 6 p 0) : WF d (remV V p i) := by
  obtain ⟨w0, w1, w2, w3, w4, w5, w6, w7, w8, w9, w10⟩ := hw
  have o : ∀ {c q k : Nat}, ¬ (6 ≤ c ∧ c ≤ 10) → remV V p i c q k = V c q k := fun a => remV_o (by omega)
  unfold WF W5 W6 W7 W8 W9 W10
  simp (disch := omega) only [o]
  refine ⟨w0, w1, w2, w3, w4, fun q hq => ?_, w6, fun q k hq hk => ?_, w8, w9, w10⟩
  · have h := w5 q hq
    rw [remV_6]
    by_cases e : q = p
    · subst e
      rw [if_pos rfl]
      omega
    · rw [if_neg e]
      exact h
  · rw [remV_6] at hk
    by_cases e : q = p
    · subst e
      rw [if_pos rfl] at hk
      rw [remV_l (by omega), remV_l (by omega), remV_l (by omega)]
      by_cases e2 : i ≤ k
      · rw [if_pos e2, if_pos e2, if_pos e2]
        exact w7 q (k + 1) hq (by omega)
      · rw [if_neg e2, if_neg e2, if_neg e2]
        exact w7 q k hq (by omega)
    · rw [if_neg e] at hk
      rw [remV_o (by omega), remV_o (by omega), remV_o (by omega)]
      exact w7 q k hq hk
/-- what sending copies of one letter leaves alone -/
def sndK (p i c q j : Nat) : Prop := ¬ (11 ≤ c ∧ c ≤ 18) ∧ ¬ (c = 0 ∧ (j = 1 ∨ j = 2 ∨ j = 7 ∨ j = 8 ∨ j = 9)) ∧ ¬ (c = 5 ∧ q = p) ∧ ¬ (c = 4 ∧ q = p) ∧ ¬ (c = 1 ∧ q = p ∧ j = 3) ∧ ¬ (c = 10 ∧ q = p ∧ j = i)
theorem itn_snd (hw : WF d V) (hB : TB T) (hp : p < V 0 0 0) (hi : i < V 6 p 0) (hr : 0 < V 3 p 0) (k : Nat) : WF d (itn k (fun U => sndV T U p i) V) ∧ (∀ c q j, sndK p i c q j → itn k (fun U => sndV T U p i) V c q j = V c q j) ∧ itn k (fun U => sndV T U p i) V 1 p 3 = V 1 p 3 - k ∧ itn k (fun U => sndV T U p i) V 10 p i = V 10 p i - k := by
  induction k with
  | zero => exact ⟨hw, fun _ _ _ _ => rfl, rfl, rfl⟩
  | succ k ih =>
    obtain ⟨i1, i2, i3, i4⟩ := ih
    show WF d (sndV T _ p i) ∧ (∀ c q j, _ → sndV T _ p i c q j = _) ∧ sndV T _ p i 1 p 3 = _ ∧ sndV T _ p i 10 p i = _
    refine ⟨i1.snd hB ?_ ?_ ?_, fun c q j h => ?_, ?_, ?_⟩
    · rw [i2 0 0 0 (by unfold sndK; omega)]
      exact hp
    · rw [i2 6 p 0 (by unfold sndK; omega)]
      exact hi
    · rw [i2 3 p 0 (by unfold sndK; omega)]
      exact hr
    · rw [sndV_o h.1 h.2.1 h.2.2.1 h.2.2.2.1 h.2.2.2.2.1 h.2.2.2.2.2]
      exact i2 c q j h
    · rw [sndV_1, i3]
      omega
    · rw [sndV_10, i4]
      omega
theorem wr1V_k (hw : WF d V) (hB : TB T) (hp : p < V 0 0 0) (hi : i < V 6 p 0) (hr : 0 < V 3 p 0) : WF d (wr1V T V p i) ∧ (∀ c q j, sndK p i c q j → wr1V T V p i c q j = V c q j) := ⟨(itn_snd hw hB hp hi hr _).1, (itn_snd hw hB hp hi hr _).2.1⟩
/-- what writing out all of one's letters leaves alone -/
def wrpK (p c q j : Nat) : Prop := ¬ (11 ≤ c ∧ c ≤ 18) ∧ ¬ (c = 0 ∧ (j = 1 ∨ j = 2 ∨ j = 5 ∨ j = 7 ∨ j = 8 ∨ j = 9)) ∧ ¬ (q = p ∧ (4 ≤ c ∧ c ≤ 10)) ∧ ¬ (c = 1 ∧ q = p ∧ j = 3)
theorem wr2V_pos {s : VS × Nat} (h : wr1V T s.1 p s.2 10 p s.2 = 0) : wr2V T p s = (vset (remV (wr1V T s.1 p s.2) p s.2) 0 0 5 (wr1V T s.1 p s.2 0 0 5 + 1), s.2) := if_pos h
theorem wr2V_neg {s : VS × Nat} (h : ¬ wr1V T s.1 p s.2 10 p s.2 = 0) : wr2V T p s = (wr1V T s.1 p s.2, s.2 + 1) := if_neg h
theorem itn_wr2 (hw : WF d V) (hB : TB T) (hp : p < V 0 0 0) (hr : 0 < V 3 p 0) (n : Nat) (hn : n ≤ V 6 p 0) : WF d (itn n (wr2V T p) (V, 0)).1 ∧ (∀ c q j, wrpK p c q j → (itn n (wr2V T p) (V, 0)).1 c q j = V c q j) ∧ (itn n (wr2V T p) (V, 0)).1 6 p 0 = (itn n (wr2V T p) (V, 0)).2 + (V 6 p 0 - n) := by
  induction n with
  | zero => exact ⟨hw, fun _ _ _ _ => rfl, by show V 6 p 0 = 0 + (V 6 p 0 - 0); omega⟩
  | succ n ih =>
    obtain ⟨i1, i2, i3⟩ := ih (by omega)
    have e1 := i2 0 0 0 (by unfold wrpK; omega)
    have e2 := i2 3 p 0 (by unfold wrpK; omega)
    have hi : (itn n (wr2V T p) (V, 0)).2 < (itn n (wr2V T p) (V, 0)).1 6 p 0 := by omega
    obtain ⟨k1, k2⟩ := wr1V_k i1 hB (by rw [e1]; exact hp) hi (by rw [e2]; exact hr)
    have k6 := k2 6 p 0 (by unfold sndK; omega)
    show WF d (wr2V T p _).1 ∧ (∀ c q j, _ → (wr2V T p _).1 c q j = _) ∧ (wr2V T p _).1 6 p 0 = (wr2V T p _).2 + _
    by_cases z : wr1V T (itn n (wr2V T p) (V, 0)).1 p (itn n (wr2V T p) (V, 0)).2 10 p (itn n (wr2V T p) (V, 0)).2 = 0
    · rw [wr2V_pos z]
      refine ⟨(k1.rem (by rw [k6]; exact hi)).lost (by decide), fun c q j h => ?_, ?_⟩
      · show vset _ 0 0 5 _ c q j = _
        unfold wrpK at h
        rw [vset_ne (by omega), remV_o (by omega), k2 c q j (by unfold sndK; omega)]
        exact i2 c q j h
      · dsimp only
        rw [vset_ne (by omega), remV_6, if_pos rfl, k6]
        show _ = (itn n (wr2V T p) (V, 0)).2 + _
        omega
    · rw [wr2V_neg z]
      refine ⟨k1, fun c q j h => ?_, ?_⟩
      · show wr1V T _ p _ c q j = _
        unfold wrpK at h
        rw [k2 c q j (by unfold sndK; omega)]
        exact i2 c q j h
      · show wr1V T _ p _ 6 p 0 = (itn n (wr2V T p) (V, 0)).2 + 1 + _
        rw [k6]
        omega
theorem wrpV_k (hw : WF d V) (hB : TB T) (hp : p < V 0 0 0) (hr : 0 < V 3 p 0) : WF d (wrpV T V p) ∧ ∀ c q j, wrpK p c q j → wrpV T V p c q j = V c q j := ⟨(itn_wr2 hw hB hp hr _ (Nat.le_refl _)).1, (itn_wr2 hw hB hp hr _ (Nat.le_refl _)).2.1⟩
/-- what all writing leaves alone -/
def wraK (c j : Nat) : Prop := ¬ (4 ≤ c ∧ c ≤ 18) ∧ ¬ (c = 0 ∧ (j = 1 ∨ j = 2 ∨ j = 5 ∨ j = 7 ∨ j = 8 ∨ j = 9)) ∧ ¬ (c = 1 ∧ j = 3)
theorem wraV_k (hw : WF d V) (hB : TB T) (n : Nat) (hn : n ≤ V 0 0 0) : WF d (wraV T V n) ∧ ∀ c q j, wraK c j → wraV T V n c q j = V c q j := by
  induction n with
  | zero => exact ⟨hw, fun _ _ _ _ => rfl⟩
  | succ n ih =>
    obtain ⟨i1, i2⟩ := ih (by omega)
    have e1 := i2 0 0 0 (by unfold wraK; omega)
    unfold wraV
    split
    · rename_i h
      obtain ⟨k1, k2⟩ := wrpV_k i1 hB (by rw [e1]; omega) h.2.2
      refine ⟨k1, fun c q j h => ?_⟩
      rw [k2 c q j (by unfold wraK at h; unfold wrpK; omega)]
      exact i2 c q j h
    · exact ⟨i1, i2⟩
end
