/-! THE FRAME'S STATE IN PLAIN WORDS: objects by their numbers (in the order in which they were made), whole numbers and longs as two functions of number and place. -/
abbrev Mm : Type := (Nat → Nat → Int32) × (Nat → Nat → Int64)
abbrev Sh : Type := (Nat × (Nat → Nat)) × ((Nat → Nat) × (Nat → Nat → Option Nat))
abbrev MD : Type := MethodName × ByteArray × Nat × Option FieldType
abbrev Lc : Type := List (Option Value)
def sN (S : Sh) : Nat := S.1.1
def sK (S : Sh) (i : Nat) : Nat := S.1.2 i
def sL (S : Sh) (i : Nat) : Nat := S.2.1 i
def sR (S : Sh) (i k : Nat) : Option Nat := S.2.2 i k
/-- the kinds of the fields of each kind of object: 0 a whole number, 1 a long, 2 a reference -/
def ftab : List (List Nat) := [[2,2,2,2,2,0],[2,2,2,2,2,0,0],[2,2,2,2,2,0],[2,2,2,0,0,0,1],[2,0],[2,0],[2,0,0,0,2,2,2,0,0,2,2,0],[2,2,2],[2,2,2,2,0],[2,0,2,2,2,2,0,0,0,0,0,0,2],[2,2,2,2,2,2,0,2,0,0,2,2,2],[0,2,2,0,2,0,0,2,2,2,0,2,2,0,0,0,0,0,2,2,2,0,0,0,0,0,2,2,2,2,2,2,2,0,0,0,2,0,0,0,0,0,2,0,2,2,2,0,0,0,2]]
def ftc (c k : Nat) : Nat := (ftab.getD c []).getD k 0
def nfc (c : Nat) : Nat := (ftab.getD c []).length
def fv (ad : Nat → Nat) (S : Sh) (μ : Mm) (i k : Nat) : Value := if ftc (sK S i) k = 0 then .int (μ.1 i k) else if ftc (sK S i) k = 1 then .long (μ.2 i k) else va_rf ((sR S i k).map ad)
def cellE (ad : Nat → Nat) (ca : Nat → ClassId) (S : Sh) (μ : Mm) (i : Nat) : va_E :=
  if sK S i < 12 then .inr (sK S i, (List.range (nfc (sK S i))).map (fv ad S μ i))
  else if sK S i = 12 then .inl (ca i, sL S i, .inl (μ.1 i))
  else .inl (ca i, sL S i, .inr (.inr (.inr (.inr (fun j => (sR S i j).map ad)))))
def conc (ad : Nat → Nat) (ca : Nat → ClassId) (S : Sh) (μ : Mm) : va_W := (List.range (sN S)).map fun i => (ad i, cellE ad ca S μ i)
def ety (k : Nat) : FieldType := if k = 12 then .int else if k = 13 then .object "NineCopies$Person" else .object "NineCopies$World"
theorem conc_get {ad : Nat → Nat} {ca : Nat → ClassId} {S : Sh} {μ : Mm} {i : Nat} (h : i < sN S) : (conc ad ca S μ)[i]? = some (ad i, cellE ad ca S μ i) := by
  simp [conc, h]
theorem conc_set {ad : Nat → Nat} {ca : Nat → ClassId} {S S' : Sh} {μ μ' : Mm} {i : Nat} (hn : sN S' = sN S) (h : ∀ j, j ≠ i → cellE ad ca S' μ' j = cellE ad ca S μ j) : (conc ad ca S μ).set i (ad i, cellE ad ca S' μ' i) = conc ad ca S' μ' := by
  apply List.ext_getElem?
  intro j
  rw [List.getElem?_set]
  by_cases e : i = j
  · subst e
    by_cases hi : i < sN S
    · simp [conc, hi, hn]
    · simp [conc, hi, hn]
  · rw [if_neg e]
    by_cases hj : j < sN S
    · simp [conc, hj, hn, h j (fun x => e x.symm)]
    · simp [conc, hj, hn]
theorem conc_eq {ad ad' : Nat → Nat} {ca ca' : Nat → ClassId} {S S' : Sh} {μ μ' : Mm} (hn : sN S' = sN S) (h : ∀ j, j < sN S → ad' j = ad j ∧ cellE ad' ca' S' μ' j = cellE ad ca S μ j) : conc ad' ca' S' μ' = conc ad ca S μ := by
  unfold conc
  rw [hn]
  apply List.map_congr_left
  intro j hj
  have := h j (List.mem_range.mp hj)
  rw [this.1, this.2]
/-- the addresses of what was made are kept, and those of the constants -/
def ext (n : Nat) (ad ad' : Nat → Nat) : Prop := ∀ i, (i < n ∨ 1000000 ≤ i) → ad' i = ad i
theorem ext.rf {n : Nat} {ad : Nat → Nat} : ext n ad ad := fun _ _ => rfl
theorem ext.tr {n n' : Nat} {a b c : Nat → Nat} (h1 : ext n a b) (h2 : ext n' b c) (hn : n ≤ n') : ext n a c := fun i hi => (h2 i (by omega)).trans (h1 i hi)
/-- what is made refers to what is made, or to constants -/
def clo (S : Sh) : Prop := ∀ i, i < sN S → ∀ k j, sR S i k = some j → (j < sN S ∨ 1000000 ≤ j)
theorem conc_ext {ad ad' : Nat → Nat} {ca ca' : Nat → ClassId} {S : Sh} {μ : Mm} (hc : clo S) (h : ext (sN S) ad ad') (h2 : ∀ i, i < sN S → ca' i = ca i) : conc ad' ca' S μ = conc ad ca S μ := by
  have hm : ∀ j, j < sN S → ∀ k, (sR S j k).map ad' = (sR S j k).map ad := by
    intro j hj k
    cases e : sR S j k with
    | none => rfl
    | some x => simp [h x (hc j hj k x e)]
  refine conc_eq rfl (fun j hj => ⟨h j (Or.inl hj), ?_⟩)
  unfold cellE
  rw [h2 j hj]
  have e1 : fv ad' S μ j = fv ad S μ j := by
    funext k
    unfold fv
    rw [hm j hj k]
  have e2 : (fun k => (sR S j k).map ad') = (fun k => (sR S j k).map ad) := by
    funext k
    exact hm j hj k
  rw [e1, e2]
def rl (ad : Nat → Nat) : Value → Value
  | .ref i => .ref (ad i)
  | v => v
theorem rl_cat (ad : Nat → Nat) (v : Value) : (rl ad v).category = v.category := by cases v <;> rfl
theorem rl_sum (ad : Nat → Nat) (st : List Value) : ((st.map (rl ad)).map fun v => v.category).sum = (st.map fun v => v.category).sum := by
  rw [List.map_map]
  congr 1
  apply List.map_congr_left
  intro v _
  exact rl_cat ad v
/-- the locals that are known -/
def lrel (ad : Nat → Nat) (L : Lc) (ls : Array Slot) (nL : Nat) : Prop := L.length = nL ∧ ls.size = nL ∧ lv_wf ls ∧ ∀ (i : Nat) (v : Value), L[i]? = some (some v) → ls[i]? = some (.val (rl ad v))
def llist (ad : Nat → Nat) (L : Lc) : List (Nat × Value) := (List.range L.length).filterMap fun i => match L[i]? with
  | some (some v) => some (i, rl ad v)
  | _ => none
theorem llist_mem {ad : Nat → Nat} {L : Lc} {i : Nat} {v : Value} (h : L[i]? = some (some v)) : (i, rl ad v) ∈ llist ad L := by
  unfold llist
  rw [List.mem_filterMap]
  refine ⟨i, List.mem_range.mpr ?_, by rw [h]⟩
  exact (List.getElem?_eq_some_iff.mp h).1
theorem llist_of {ad : Nat → Nat} {L : Lc} {q : Nat × Value} (h : q ∈ llist ad L) : ∃ v, L[q.1]? = some (some v) ∧ q.2 = rl ad v := by
  unfold llist at h
  rw [List.mem_filterMap] at h
  obtain ⟨i, _, hi⟩ := h
  split at hi
  · rename_i v hv
    cases hi
    exact ⟨v, hv, rfl⟩
  · cases hi
theorem lrel.has {ad : Nat → Nat} {L : Lc} {ls : Array Slot} {nL : Nat} (h : lrel ad L ls nL) : lv_has ls nL (llist ad L) :=
  ⟨h.2.1, h.2.2.1, fun q hq => by
    obtain ⟨v, h1, h2⟩ := llist_of hq
    rw [h2]
    exact h.2.2.2 _ _ h1⟩
theorem lrel.at {ad : Nat → Nat} {L : Lc} {ls : Array Slot} {nL : Nat} (h : lrel ad L ls nL) {i : Nat} {v : Value} (hv : L[i]? = some (some v)) : ls[i]? = some (.val (rl ad v)) := h.2.2.2 i v hv
/-- a long that is cut off is no value more -/
def cut2 : Option Value → Option Value
  | some (.long _) => none
  | some (.double _) => none
  | o => o
/-- a value of one place is stored -/
def sl (L : Lc) (i : Nat) (v : Value) : Lc := match i with
  | 0 => L.set 0 (some v)
  | i + 1 => (L.modify i cut2).set (i + 1) (some v)
/-- a value of two places is stored -/
def sl2 (L : Lc) (i : Nat) (v : Value) : Lc := (sl L i v).set (i + 1) none
theorem cut2_some {o : Option Value} {v : Value} (h : cut2 o = some v) : o = some v ∧ v.category = 1 := by
  cases o with
  | none => simp [cut2] at h
  | some w =>
    cases w <;> simp [cut2] at h <;> subst h <;> exact ⟨rfl, rfl⟩
theorem sl_len (L : Lc) (i : Nat) (v : Value) : (sl L i v).length = L.length := by
  cases i <;> simp [sl]
theorem sl_get {L : Lc} {i j : Nat} {v w : Value} (h : (sl L i v)[j]? = some (some w)) : (j = i ∧ w = v) ∨ (j ≠ i ∧ L[j]? = some (some w) ∧ (j + 1 = i → w.category = 1)) := by
  cases i with
  | zero =>
    simp only [sl, List.getElem?_set] at h
    by_cases e : 0 = j
    · subst e
      left
      simp at h
      exact ⟨rfl, h.2.symm⟩
    · rw [if_neg e] at h
      right
      exact ⟨fun x => e x.symm, h, fun x => by omega⟩
  | succ i =>
    simp only [sl, List.getElem?_set, List.length_modify] at h
    by_cases e : i + 1 = j
    · subst e
      left
      simp at h
      exact ⟨rfl, h.2.symm⟩
    · rw [if_neg e, List.getElem?_modify] at h
      right
      refine ⟨fun x => e x.symm, ?_⟩
      by_cases e2 : i = j
      · subst e2
        cases hq : L[i]? with
        | none => simp [hq] at h
        | some o =>
          simp only [hq, if_true, Option.map_eq_map, Option.map_some, Option.some.injEq] at h
          have h3 := cut2_some h
          exact ⟨by rw [h3.1], fun _ => h3.2⟩
      · simp only [if_neg e2, Option.map_eq_map, Option.map_id', id_eq] at h
        exact ⟨h, fun x => absurd (by omega) e2⟩
theorem lrel_store {ad : Nat → Nat} {L : Lc} {ls ls' : Array Slot} {nL i : Nat} {v : Value} (h : lrel ad L ls nL) (hv : v.category = 1) (h' : lv_has ls' nL ((i, rl ad v) :: (llist ad L).filter (fun q => !(q.1 == i) && !(q.1 + 1 == i && q.2.category == 2)))) : lrel ad (sl L i v) ls' nL := by
  refine ⟨by rw [sl_len]; exact h.1, h'.1, h'.2.1, fun j w hw => ?_⟩
  rcases sl_get hw with ⟨rfl, rfl⟩ | ⟨h1, h2, h3⟩
  · exact h'.2.2 (j, rl ad w) List.mem_cons_self
  · refine h'.2.2 (j, rl ad w) (List.mem_cons_of_mem _ (List.mem_filter.mpr ⟨llist_mem h2, ?_⟩))
    by_cases e : j + 1 = i
    · simp [h1, rl_cat, h3 e]
    · simp [h1, e]
theorem lrel_store2 {ad : Nat → Nat} {L : Lc} {ls ls' : Array Slot} {nL i : Nat} {v : Value} (h : lrel ad L ls nL) (h' : lv_has ls' nL ((i, rl ad v) :: (llist ad L).filter (fun q => !(q.1 == i) && (!(q.1 == i + 1) && !(q.1 + 1 == i && q.2.category == 2))))) : lrel ad (sl2 L i v) ls' nL := by
  refine ⟨by simp [sl2, sl_len, h.1], h'.1, h'.2.1, fun j w hw => ?_⟩
  unfold sl2 at hw
  rw [List.getElem?_set] at hw
  by_cases e0 : i + 1 = j
  · subst e0
    simp at hw
  · rw [if_neg e0] at hw
    rcases sl_get hw with ⟨rfl, rfl⟩ | ⟨h1, h2, h3⟩
    · exact h'.2.2 (j, rl ad w) List.mem_cons_self
    · refine h'.2.2 (j, rl ad w) (List.mem_cons_of_mem _ (List.mem_filter.mpr ⟨llist_mem h2, ?_⟩))
      have e0' : ¬ j = i + 1 := fun x => e0 x.symm
      by_cases e : j + 1 = i
      · simp [h1, rl_cat, h3 e]
        exact e0'
      · simp [h1, e, e0']
/-- fewer locals known -/
theorem lrel_weak {ad : Nat → Nat} {L L' : Lc} {ls : Array Slot} {nL : Nat} (h : lrel ad L ls nL) (hl : L'.length = L.length) (hs : ∀ (i : Nat) (v : Value), L'[i]? = some (some v) → L[i]? = some (some v)) : lrel ad L' ls nL := ⟨hl.trans h.1, h.2.1, h.2.2.1, fun i v hv => h.2.2.2 i v (hs i v hv)⟩
