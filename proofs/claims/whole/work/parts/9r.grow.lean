/-! SHAPES THAT GROW, as lists of objects: kind, length, references -/
abbrev Ob : Type := Nat × Nat × List (Nat × Nat)
def lkp : List (Nat × Nat) → Nat → Option Nat
  | [], _ => none
  | a :: t, k => if k = a.1 then some a.2 else lkp t k
def obK (l : List Ob) (i : Nat) : Nat := match l[i]? with
  | some o => o.1
  | none => 99
def obL (l : List Ob) (i : Nat) : Nat := match l[i]? with
  | some o => o.2.1
  | none => 0
def obR (l : List Ob) (i k : Nat) : Option Nat := match l[i]? with
  | some o => lkp o.2.2 k
  | none => none
def shl (l : List Ob) : Sh := ((l.length, obK l), (obL l, obR l))
def clO (l : List Ob) : Prop := ∀ (i : Nat) (o : Ob), l[i]? = some o → ∀ q ∈ o.2.2, q.2 < l.length
def zM (n : Nat) (μ : Mm) : Prop := ∀ i k, n ≤ i → μ.1 i k = 0 ∧ μ.2 i k = 0
theorem lookup_in {rs : List (Nat × Nat)} {k j : Nat} (h : lkp rs k = some j) : (k, j) ∈ rs := by
  induction rs with
  | nil => cases h
  | cons a t ih =>
    obtain ⟨a1, a2⟩ := a
    unfold lkp at h
    by_cases e : k = a1
    · rw [if_pos e] at h
      cases h
      subst e
      exact List.mem_cons_self
    · rw [if_neg e] at h
      exact List.mem_cons_of_mem _ (ih h)
theorem clO.sh {l : List Ob} (h : clO l) : clo (shl l) := fun i hi k j hr => Or.inl (by
  have hr : obR l i k = some j := hr
  unfold obR at hr
  split at hr
  · rename_i o ho
    exact h i o ho _ (lookup_in hr)
  · cases hr)
theorem clO.push {l : List Ob} (h : clO l) (c N : Nat) : clO (l ++ [(c, N, [])]) := fun i o hi q hq => by
  rw [List.length_append]
  by_cases e : i < l.length
  · rw [List.getElem?_append_left e] at hi
    exact Nat.lt_of_lt_of_le (h i o hi q hq) (Nat.le_add_right _ _)
  · rw [List.getElem?_append_right (by omega)] at hi
    have hz : i - l.length < 1 := (List.getElem?_eq_some_iff.mp hi).1
    rw [show i - l.length = 0 by omega] at hi
    cases hi
    cases hq
theorem clO.set {l : List Ob} (h : clO l) {x c N k y : Nat} {rs : List (Nat × Nat)} (hx : l[x]? = some (c, N, rs)) (hy : y < l.length) : clO (l.set x (c, N, (k, y) :: rs)) := fun i o hi q hq => by
  rw [List.length_set]
  rw [List.getElem?_set] at hi
  split at hi
  · split at hi
    · cases hi
      rcases List.mem_cons.mp hq with e | e
      · subst e
        exact hy
      · exact h x _ hx q e
    · cases hi
  · exact h i o hi q hq
theorem zM.mono {n n2 : Nat} {μ : Mm} (h : zM n μ) (hn : n ≤ n2) : zM n2 μ := fun i k hi => h i k (Nat.le_trans hn hi)
theorem zM.sti {n x k : Nat} {v : Int32} {μ : Mm} (h : zM n μ) (hx : x < n) : zM n (sti μ x k v) := fun i j hi => by
  rw [sti_1, if_neg (by omega)]
  exact h i j hi
theorem obK_push {l : List Ob} {o : Ob} {i : Nat} (hi : i < l.length) : obK (l ++ [o]) i = obK l i ∧ obL (l ++ [o]) i = obL l i ∧ ∀ k, obR (l ++ [o]) i k = obR l i k := by
  unfold obK obL obR
  rw [List.getElem?_append_left hi]
  exact ⟨rfl, rfl, fun _ => rfl⟩
theorem ob_last {l : List Ob} {c N : Nat} : obK (l ++ [(c, N, [])]) l.length = c ∧ obL (l ++ [(c, N, [])]) l.length = N ∧ ∀ k, obR (l ++ [(c, N, [])]) l.length k = none := by
  unfold obK obL obR
  rw [List.getElem?_append_right (Nat.le_refl _), Nat.sub_self]
  exact ⟨rfl, rfl, fun _ => rfl⟩
theorem conc_push {ad ad2 : Nat → Nat} {ca ca2 : Nat → ClassId} {l : List Ob} {o : Ob} {μ : Mm} (hc : clO l) (he : ext l.length ad ad2) (ha : ∀ i, i < l.length → ca2 i = ca i) : conc ad2 ca2 (shl (l ++ [o])) μ = conc ad ca (shl l) μ ++ [(ad2 l.length, cellE ad2 ca2 (shl (l ++ [o])) μ l.length)] := by
  unfold conc
  rw [show sN (shl (l ++ [o])) = l.length + 1 from by show (l ++ [o]).length = _; rw [List.length_append]; rfl, show sN (shl l) = l.length from rfl, List.range_succ, List.map_append, List.map_singleton]
  congr 1
  apply List.map_congr_left
  intro j hj
  have hj : j < l.length := List.mem_range.mp hj
  obtain ⟨k1, k2, k3⟩ := obK_push (o := o) hj
  have hm : ∀ k, (sR (shl (l ++ [o])) j k).map ad2 = (sR (shl l) j k).map ad := fun k => by
    show (obR (l ++ [o]) j k).map ad2 = (obR l j k).map ad
    rw [k3]
    cases e : obR l j k with
    | none => rfl
    | some x =>
      have : x < sN (shl l) ∨ 1000000 ≤ x := hc.sh j hj k x e
      simp only [Option.map_some]
      rw [he x this]
  rw [he j (Or.inl hj)]
  congr 1
  unfold cellE
  have k1' : sK (shl (l ++ [o])) j = sK (shl l) j := k1
  have k2' : sL (shl (l ++ [o])) j = sL (shl l) j := k2
  have e1 : fv ad2 (shl (l ++ [o])) μ j = fv ad (shl l) μ j := by
    funext k
    unfold fv
    rw [hm k, k1']
  have e2 : (fun k => (sR (shl (l ++ [o])) j k).map ad2) = (fun k => (sR (shl l) j k).map ad) := funext hm
  rw [e1, e2, ha j hj, k1', k2']
/-- the references on the stack, and in the locals, are made ones -/
def rfV (n : Nat) : Value → Prop
  | .ref x => x < n ∨ 1000000 ≤ x
  | _ => True
def rfS (n : Nat) : List Value → Prop
  | [] => True
  | v :: t => rfV n v ∧ rfS n t
def rfL (n : Nat) : Lc → Prop
  | [] => True
  | none :: t => rfL n t
  | some v :: t => rfV n v ∧ rfL n t
theorem rl_ext {n : Nat} {ad ad2 : Nat → Nat} (he : ext n ad ad2) {v : Value} (h : rfV n v) : rl ad2 v = rl ad v := by
  cases v <;> first | rfl | (show Value.ref _ = Value.ref _; rw [he _ h])
theorem rlS_ext {n : Nat} {ad ad2 : Nat → Nat} (he : ext n ad ad2) : ∀ {st : List Value}, rfS n st → st.map (rl ad2) = st.map (rl ad)
  | [], _ => rfl
  | v :: t, h => by rw [List.map_cons, List.map_cons, rl_ext he h.1, rlS_ext he h.2]
theorem rfL_at {n : Nat} : ∀ {L : Lc}, rfL n L → ∀ (i : Nat) (v : Value), L[i]? = some (some v) → rfV n v
  | [], _, i, v, h => by simp at h
  | none :: t, hl, 0, v, h => by simp at h
  | none :: t, hl, i + 1, v, h => rfL_at (L := t) hl i v (by simpa using h)
  | some w :: t, hl, 0, v, h => by
    simp at h
    subst h
    exact hl.1
  | some w :: t, hl, i + 1, v, h => rfL_at (L := t) hl.2 i v (by simpa using h)
theorem lrel.ext {n nL : Nat} {ad ad2 : Nat → Nat} {L : Lc} {ls : Array Slot} (h : lrel ad L ls nL) (he : ext n ad ad2) (hl : rfL n L) : lrel ad2 L ls nL := ⟨h.1, h.2.1, h.2.2.1, fun i v hv => by
  rw [rl_ext he (rfL_at hl i v hv)]
  exact h.2.2.2 i v hv⟩
theorem Rok.grow {Q : Option Value → Sh → Mm → Prop} {n n2 : Nat} {ad ad2 : Nat → Nat} {ca ca2 : Nat → ClassId} {D : va_G} {A : Nat → Prop} {args : Array Value} {s : State} {QQ : Array Value → State → Outcome → State → Prop} (K : Rok Q n ad ca D A args s QQ) (hn : n ≤ n2) (he : ext n ad ad2) (hc : ∀ i, i < n → ca2 i = ca i) : Rok Q n2 ad2 ca2 D A args s QQ := fun v S' μ' ad' ca' tys' H' locs' t hQ hiv hle hext hca hR ht hw => K v S' μ' ad' ca' tys' H' locs' t hQ hiv (Nat.le_trans hn hle) (he.tr hext hn) (fun i hi => (hca i (Nat.lt_of_lt_of_le hi hn)).trans (hc i hi)) hR ht hw
def adP (ad : Nat → Nat) (n q : Nat) : Nat → Nat := fun i => if i = n then q else ad i
theorem adP_ext {ad : Nat → Nat} {n q : Nat} (hn : n < 1000000) : ext n ad (adP ad n q) := fun i hi => by
  unfold adP
  rw [if_neg (by omega)]
theorem adP_at {ad : Nat → Nat} {n q : Nat} : adP ad n q n = q := if_pos rfl
def caP (ca : Nat → ClassId) (n : Nat) (c : ClassId) : Nat → ClassId := fun i => if i = n then c else ca i
theorem caP_lt {ca : Nat → ClassId} {n i : Nat} {c : ClassId} (h : i < n) : caP ca n c i = ca i := if_neg (by omega)
def Wg (l : Launch) (l0 : List Ob) (d : Nat) (b : Nat × Nat) (M : MD) (pc : Nat) (L : Lc) (st : List Value) (μ : Mm) (Q : Option Value → Sh → Mm → Prop) : Prop := clO l0 → zM l0.length μ → l0.length + b.1 ≤ 100000 → Wp l (shl l0) d b M pc L st μ Q
