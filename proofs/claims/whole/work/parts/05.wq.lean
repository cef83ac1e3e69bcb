/-! WHAT THE PLAIN FUNCTIONS ARE MADE OF, and the rows once more, as the program that writes the walks wants them -/
def ix (i : Int32) : Nat := i.toNatClampNeg
/-- a place in a row of n -/
def vin (i : Int32) (n : Nat) : Prop := ¬ (i < 0 ∨ n ≤ i.toNatClampNeg)
def chv {α : Type} (i : Int32) (n : Nat) (k : Option α) : Option α := if i < 0 ∨ n ≤ i.toNatClampNeg then none else k
theorem chv_some {α : Type} {i : Int32} {n : Nat} {k : Option α} {y : α} (h : chv i n k = some y) : vin i n ∧ k = some y := by
  unfold chv at h
  by_cases hc : i < 0 ∨ n ≤ i.toNatClampNeg
  · rw [if_pos hc] at h
    cases h
  · rw [if_neg hc] at h
    exact ⟨hc, h⟩
theorem chv_ok {α : Type} {i : Int32} {n : Nat} {k : Option α} (h : vin i n) : chv i n k = k := if_neg h
def chk {α : Type} (c : Prop) [Decidable c] (k : Option α) : Option α := if c then k else none
def lt {α β : Type} (v : α) (k : α → Option β) : Option β := k v
def bnd {α β : Type} (x : Option α) (k : α → Option β) : Option β := match x with
  | none => none
  | some y => k y
def bnd2 {α γ β : Type} (x : Option (α × γ)) (k : α → γ → Option β) : Option β := match x with
  | none => none
  | some y => k y.1 y.2
def bni {α β : Type} (x : Option α) (k : α → Option β) : Option β := match x with
  | none => none
  | some y => k y
def iter {σ ρ : Type} : Nat → (σ → Option (σ ⊕ ρ)) → σ → Option ρ
  | 0, _, _ => none
  | n + 1, f, s => match f s with
    | none => none
    | some (.inl s2) => iter n f s2
    | some (.inr x) => some x
def nxt {σ ρ : Type} (n : Nat) (f : σ → Option (σ ⊕ ρ)) (z : σ ⊕ ρ) (y : ρ) : Prop := match z with
  | .inl s2 => iter n f s2 = some y
  | .inr x => x = y
theorem chk_some {α : Type} {c : Prop} {_ : Decidable c} {k : Option α} {y : α} (h : chk c k = some y) : c ∧ k = some y := by
  unfold chk at h
  by_cases hc : c
  · rw [if_pos hc] at h
    exact ⟨hc, h⟩
  · rw [if_neg hc] at h
    cases h
theorem lt_some {α β : Type} {v : α} {k : α → Option β} {y : β} (h : lt v k = some y) : ∃ u, u = v ∧ k u = some y := ⟨v, rfl, h⟩
theorem bnd_some {α β : Type} {x : Option α} {k : α → Option β} {y : β} (h : bnd x k = some y) : ∃ u, x = some u ∧ k u = some y := by
  cases x with
  | none => cases h
  | some u => exact ⟨u, rfl, h⟩
theorem bni_some {α β : Type} {x : Option α} {k : α → Option β} {y : β} (h : bni x k = some y) : ∃ u, x = some u ∧ k u = some y := by
  cases x with
  | none => cases h
  | some u => exact ⟨u, rfl, h⟩
theorem bnd2_some {α γ β : Type} {x : Option (α × γ)} {k : α → γ → Option β} {y : β} (h : bnd2 x k = some y) : ∃ u m, x = some (u, m) ∧ k u m = some y := by
  cases x with
  | none => cases h
  | some u => exact ⟨u.1, u.2, rfl, h⟩
theorem iter_some {σ ρ : Type} {n : Nat} {f : σ → Option (σ ⊕ ρ)} {s : σ} {y : ρ} (h : iter (n + 1) f s = some y) : ∃ z, f s = some z ∧ nxt n f z y := by
  unfold iter at h
  cases e : f s with
  | none => rw [e] at h; cases h
  | some z =>
    rw [e] at h
    refine ⟨z, rfl, ?_⟩
    cases z with
    | inl s2 => exact h
    | inr x => exact Option.some.inj h
theorem some1 {α : Type} {a b : α} (h : some a = some b) : b = a := (Option.some.inj h).symm
theorem ret1 {α : Type} {a b : α} (h : some a = some b) : b = a := (Option.some.inj h).symm
theorem ret2 {α β : Type} {a c : α} {b d : β} (h : some (a, b) = some (c, d)) : c = a ∧ d = b := by
  cases h
  exact ⟨rfl, rfl⟩
theorem eL {α β γ : Type} {f : α → Option γ} {g : β → Option γ} {x : α} {y : γ} (h : Sum.elim f g (Sum.inl x) = some y) : f x = some y := h
theorem eR {α β γ : Type} {f : α → Option γ} {g : β → Option γ} {x : β} {y : γ} (h : Sum.elim f g (Sum.inr x) = some y) : g x = some y := h
theorem nei {x k : Int32} {z : Int} (h : ¬ x = k) (hz : k.toInt = z) : ¬ x.toInt = z := fun e => h (Int32.toInt_inj.mp (e.trans hz.symm))
def jmin (x y : Int32) : Int32 := if y < x then y else x
def jmax (x y : Int32) : Int32 := if x < y then y else x
def cpok (sp dp n : Int32) (la lb : Nat) : Prop := (¬ sp < 0) ∧ (¬ dp < 0) ∧ (¬ n < 0) ∧ ix sp + ix n ≤ la ∧ ix dp + ix n ≤ lb
def chc {α : Type} (sp dp n : Int32) (la lb : Nat) (k : Option α) : Option α := if (¬ sp < 0) ∧ (¬ dp < 0) ∧ (¬ n < 0) ∧ ix sp + ix n ≤ la ∧ ix dp + ix n ≤ lb then k else none
theorem chc_some {α : Type} {sp dp n : Int32} {la lb : Nat} {k : Option α} {y : α} (h : chc sp dp n la lb k = some y) : cpok sp dp n la lb ∧ k = some y := by
  unfold chc at h
  by_cases hc : (¬ sp < 0) ∧ (¬ dp < 0) ∧ (¬ n < 0) ∧ ix sp + ix n ≤ la ∧ ix dp + ix n ≤ lb
  · rw [if_pos hc] at h
    exact ⟨hc, h⟩
  · rw [if_neg hc] at h
    cases h
theorem chc_ok {α : Type} {sp dp n : Int32} {la lb : Nat} {k : Option α} (h : cpok sp dp n la lb) : chc sp dp n la lb k = k := if_pos h
def cpy (μ : Mm) (a sp b dp n : Nat) : Mm := (fun i k => if i = b then va_cpy (μ.1 a) (μ.1 b) sp dp n k else μ.1 i k, μ.2)
def Qi (S : Sh) (r : Int32) (μ : Mm) : Option Value → Sh → Mm → Prop := fun v S' m => v = some (.int r) ∧ S' = S ∧ m = μ
def Qv (S : Sh) (μ : Mm) : Option Value → Sh → Mm → Prop := fun v S' m => v = none ∧ S' = S ∧ m = μ
def CV (own : String) (idx : Nat) (M' : MD) (n ck : Nat) : Prop := MW M' n ∧ Cond.methodLink own idx M'.1 ∈ lwT ∧ (Cond.instanceMethod M'.1 ∈ lwT ∧ Cond.selects M'.1.cls M'.1 M'.1 ∈ lwT) ∧ (ck < 12 ∧ (vwCl[ck]?).map (fun q => q.1) = some M'.1.cls)
def CS (own : String) (idx : Nat) (M' : MD) (n : Nat) : Prop := MW M' n ∧ Cond.methodLink own idx M'.1 ∈ lwT ∧ Cond.static M'.1 ∈ lwT
def CSN (own : String) (idx : Nat) (M' : MD) (n : Nat) : Prop := MW M' n ∧ (∃ host : String, (own, idx, M'.1, host) ∈ nestL) ∧ Cond.static M'.1 ∈ lwT
theorem cats_of {vs : List Value} (h : vs.all (fun v => v.category == 1) = true) : ∀ v ∈ vs, v.category = 1 := fun v hv => by
  have := List.all_eq_true.mp h v hv
  simpa using this
def okp (L : Lc) (i : Nat) : Bool := match i with
  | 0 => true
  | i + 1 => match L[i]? with
    | some (some (.long _)) => false
    | some (some (.double _)) => false
    | _ => true
theorem sl_keep {L : Lc} {i j : Nat} {v w : Value} (hp : okp L i = true) (h : (L.set i (some v))[j]? = some (some w)) : (sl L i v)[j]? = some (some w) := by
  cases i with
  | zero => exact h
  | succ i =>
    unfold sl
    simp only [List.getElem?_set, List.length_modify] at h ⊢
    by_cases e : i + 1 = j
    · rw [if_pos e] at h ⊢
      exact h
    · rw [if_neg e] at h ⊢
      rw [List.getElem?_modify]
      by_cases e2 : i = j
      · subst e2
        simp only [okp, h] at hp
        rw [h]
        cases w <;> simp_all [cut2]
      · simp [e2, h]
theorem sl_drop {L : Lc} {i j : Nat} {v w : Value} (h : ((L.set (i - 1) none).set i (some v))[j]? = some (some w)) : (sl L i v)[j]? = some (some w) := by
  cases i with
  | zero =>
    simp only [sl, List.getElem?_set, List.length_set] at h ⊢
    by_cases e : 0 = j
    · rw [if_pos e] at h ⊢
      exact h
    · rw [if_neg e] at h
      simp only [Nat.zero_sub, if_neg e] at h
      rw [if_neg e]
      exact h
  | succ i =>
    unfold sl
    simp only [List.getElem?_set, List.length_modify, List.length_set, Nat.add_sub_cancel] at h ⊢
    by_cases e : i + 1 = j
    · rw [if_pos e] at h ⊢
      exact h
    · rw [if_neg e] at h ⊢
      rw [List.getElem?_modify]
      by_cases e2 : i = j
      · subst e2
        simp at h
      · rw [if_neg e2] at h
        simp [e2, h]
section
variable {l : Launch} {S : Sh} {d : Nat} {b : Nat × Nat} {M : MD} {pc : Nat} {L L2 : Lc} {st : List Value} {μ μ2 : Mm} {Q : Option Value → Sh → Mm → Prop}
theorem Wp.weak (h : L2.length = L.length) (hs : ∀ (i : Nat) (v : Value), L2[i]? = some (some v) → L[i]? = some (some v)) (k : Wp l S d b M pc L2 st μ Q) : Wp l S d b M pc L st μ Q := by
  intro p e R s m args below meth c H locs cells slots ls D ad ca tys A QQ mc ms C B P X hl K
  exact k p e R s m args below meth c H locs cells slots ls D ad ca tys A QQ mc ms C B P X (lrel_weak hl h hs) K
theorem keepL {i : Nat} {v : Value} (hp : okp L i = true) (hL : L.set i (some v) = L2) (k : Wp l S d b M pc L2 st μ Q) : Wp l S d b M pc (sl L i v) st μ Q := by
  subst hL
  exact k.weak (by rw [sl_len, List.length_set]) (fun j w h => sl_keep hp h)
theorem dropL {i : Nat} {v : Value} (hL : (L.set (i - 1) none).set i (some v) = L2) (k : Wp l S d b M pc L2 st μ Q) : Wp l S d b M pc (sl L i v) st μ Q := by
  subst hL
  exact k.weak (by rw [sl_len, List.length_set, List.length_set]) (fun j w h => sl_drop h)
theorem wp_istore_n {n : Fin 4} {x : Int32} (hd : decode M.2.1 pc = .ok (.istore_n n, 1)) (hn : (n : Nat) < M.2.2.1) (hp : okp L n = true) (hL : L.set n (some (.int x)) = L2) (k : Wp l S d b M (pc + 1) L2 st μ Q) : Wp l S d b M pc L (.int x :: st) μ Q := wp0_istore_n hd hn (keepL hp hL k)
theorem wp_istore_nF {n : Fin 4} {x : Int32} (hd : decode M.2.1 pc = .ok (.istore_n n, 1)) (hn : (n : Nat) < M.2.2.1) (hL : (L.set (n - 1) none).set n (some (.int x)) = L2) (k : Wp l S d b M (pc + 1) L2 st μ Q) : Wp l S d b M pc L (.int x :: st) μ Q := wp0_istore_n hd hn (dropL hL k)
theorem wp_istore {n : Nat} {x : Int32} (hd : decode M.2.1 pc = .ok (.istore n, 2)) (hn : n < M.2.2.1) (hp : okp L n = true) (hL : L.set n (some (.int x)) = L2) (k : Wp l S d b M (pc + 2) L2 st μ Q) : Wp l S d b M pc L (.int x :: st) μ Q := wp0_istore hd hn (keepL hp hL k)
theorem wp_istoreF {n : Nat} {x : Int32} (hd : decode M.2.1 pc = .ok (.istore n, 2)) (hn : n < M.2.2.1) (hL : (L.set (n - 1) none).set n (some (.int x)) = L2) (k : Wp l S d b M (pc + 2) L2 st μ Q) : Wp l S d b M pc L (.int x :: st) μ Q := wp0_istore hd hn (dropL hL k)
theorem wp_astore_n {n : Fin 4} {x : Nat} (hd : decode M.2.1 pc = .ok (.astore_n n, 1)) (hn : (n : Nat) < M.2.2.1) (hp : okp L n = true) (hL : L.set n (some (.ref x)) = L2) (k : Wp l S d b M (pc + 1) L2 st μ Q) : Wp l S d b M pc L (.ref x :: st) μ Q := wp0_astore_n hd hn (keepL hp hL k)
theorem wp_astore_nF {n : Fin 4} {x : Nat} (hd : decode M.2.1 pc = .ok (.astore_n n, 1)) (hn : (n : Nat) < M.2.2.1) (hL : (L.set (n - 1) none).set n (some (.ref x)) = L2) (k : Wp l S d b M (pc + 1) L2 st μ Q) : Wp l S d b M pc L (.ref x :: st) μ Q := wp0_astore_n hd hn (dropL hL k)
theorem wp_astore {n : Nat} {x : Nat} (hd : decode M.2.1 pc = .ok (.astore n, 2)) (hn : n < M.2.2.1) (hp : okp L n = true) (hL : L.set n (some (.ref x)) = L2) (k : Wp l S d b M (pc + 2) L2 st μ Q) : Wp l S d b M pc L (.ref x :: st) μ Q := wp0_astore hd hn (keepL hp hL k)
theorem wp_astoreF {n : Nat} {x : Nat} (hd : decode M.2.1 pc = .ok (.astore n, 2)) (hn : n < M.2.2.1) (hL : (L.set (n - 1) none).set n (some (.ref x)) = L2) (k : Wp l S d b M (pc + 2) L2 st μ Q) : Wp l S d b M pc L (.ref x :: st) μ Q := wp0_astore hd hn (dropL hL k)
theorem wp_iinc {n : Nat} {i : Int} {x k0 : Int32} (hd : decode M.2.1 pc = .ok (.iinc n i, 3)) (hv : L[n]? = some (some (.int x))) (hk : Int32.ofInt i = k0) (hn : n < M.2.2.1) (hp : okp L n = true) (hL : L.set n (some (.int (x + k0))) = L2) (k : Wp l S d b M (pc + 3) L2 st μ Q) : Wp l S d b M pc L st μ Q := by
  subst hk
  exact wp0_iinc hd hv hn (keepL hp hL k)
theorem wp_iincF {n : Nat} {i : Int} {x k0 : Int32} (hd : decode M.2.1 pc = .ok (.iinc n i, 3)) (hv : L[n]? = some (some (.int x))) (hk : Int32.ofInt i = k0) (hn : n < M.2.2.1) (hL : (L.set (n - 1) none).set n (some (.int (x + k0))) = L2) (k : Wp l S d b M (pc + 3) L2 st μ Q) : Wp l S d b M pc L st μ Q := by
  subst hk
  exact wp0_iinc hd hv hn (dropL hL k)
theorem sl2_keep {i j : Nat} {v w : Value} (hp : okp L i = true) (h : ((L.set i (some v)).set (i + 1) none)[j]? = some (some w)) : (sl2 L i v)[j]? = some (some w) := by
  unfold sl2
  rw [List.getElem?_set] at h ⊢
  by_cases e : i + 1 = j
  · rw [if_pos e] at h
    split at h <;> cases h
  · rw [if_neg e] at h ⊢
    exact sl_keep hp h
theorem wp_lstore_n {n : Fin 4} {x : Int64} (hd : decode M.2.1 pc = .ok (.lstore_n n, 1)) (hn : (n : Nat) + 1 < M.2.2.1) (hp : okp L n = true) (hL : (L.set n (some (.long x))).set (n + 1) none = L2) (k : Wp l S d b M (pc + 1) L2 st μ Q) : Wp l S d b M pc L (.long x :: st) μ Q := by
  subst hL
  exact wp0_lstore_n hd hn (k.weak (by simp [sl2, sl_len]) (fun j w h => sl2_keep hp h))
theorem sl2_drop {i j : Nat} {v w : Value} (h : (((L.set (i - 1) none).set i (some v)).set (i + 1) none)[j]? = some (some w)) : (sl2 L i v)[j]? = some (some w) := by
  unfold sl2
  rw [List.getElem?_set] at h ⊢
  by_cases e : i + 1 = j
  · rw [if_pos e] at h
    split at h <;> cases h
  · rw [if_neg e] at h ⊢
    exact sl_drop h
theorem wp_lstore_nF {n : Fin 4} {x : Int64} (hd : decode M.2.1 pc = .ok (.lstore_n n, 1)) (hn : (n : Nat) + 1 < M.2.2.1) (hL : ((L.set (n - 1) none).set n (some (.long x))).set (n + 1) none = L2) (k : Wp l S d b M (pc + 1) L2 st μ Q) : Wp l S d b M pc L (.long x :: st) μ Q := by
  subst hL
  exact wp0_lstore_n hd hn (k.weak (by simp [sl2, sl_len]) (fun j w h => sl2_drop h))
theorem wp_putIe {idx ck k x : Nat} {v : Int32} (e : μ2 = sti μ x k v) (hF : FL M.1.cls idx ck k .int false) (hc : ck < 12) (hf : ftc ck k = 0) (hx : x < sN S) (hk : sK S x = ck) (hd : decode M.2.1 pc = .ok (.putfield idx, 3)) (kk : Wp l S d b M (pc + 3) L st μ2 Q) : Wp l S d b M pc L (.int v :: .ref x :: st) μ Q := by
  subst e
  exact wp_putI hF hc hf hx hk rfl rfl hd kk
theorem wp_putZe {idx ck k x : Nat} {v : Int32} (e : μ2 = sti μ x k v) (hF : FL M.1.cls idx ck k .boolean false) (hc : ck < 12) (hf : ftc ck k = 0) (hx : x < sN S) (hk : sK S x = ck) (hz : v = 0 ∨ v = 1) (hd : decode M.2.1 pc = .ok (.putfield idx, 3)) (kk : Wp l S d b M (pc + 3) L st μ2 Q) : Wp l S d b M pc L (.int v :: .ref x :: st) μ Q := by
  subst e
  exact wp_putI hF hc hf hx hk (by rcases hz with rfl | rfl <;> rfl) (by rcases hz with rfl | rfl <;> rfl) hd kk
theorem wp_putLe {idx ck k x : Nat} {v : Int64} (e : μ2 = stl μ x k v) (hF : FL M.1.cls idx ck k .long false) (hc : ck < 12) (hf : ftc ck k = 1) (hx : x < sN S) (hk : sK S x = ck) (hd : decode M.2.1 pc = .ok (.putfield idx, 3)) (kk : Wp l S d b M (pc + 3) L st μ2 Q) : Wp l S d b M pc L (.long v :: .ref x :: st) μ Q := by
  subst e
  exact wp_putL hF hc hf hx hk hd kk
theorem wp_ialde {x n : Nat} {i : Int32} (hx : x < sN S) (hk : sK S x = 12) (hlen : sL S x = n) (hin : vp_in i n) (hd : decode M.2.1 pc = .ok (.iaload, 1)) (kk : Wp l S d b M (pc + 1) L (.int (μ.1 x (ix i)) :: st) μ Q) : Wp l S d b M pc L (.int i :: .ref x :: st) μ Q := by
  subst hlen
  exact wp_iald hx hk hin hd kk
theorem wp_iaste {x n : Nat} {i v : Int32} (e : μ2 = sti μ x (ix i) v) (hx : x < sN S) (hk : sK S x = 12) (hlen : sL S x = n) (hin : vp_in i n) (hd : decode M.2.1 pc = .ok (.iastore, 1)) (kk : Wp l S d b M (pc + 1) L st μ2 Q) : Wp l S d b M pc L (.int v :: .int i :: .ref x :: st) μ Q := by
  subst hlen e
  exact wp_iast hx hk hin hd kk
theorem wp_alene {x n : Nat} (hx : x < sN S) (hk : sK S x = 12) (hlen : sL S x = n) (hd : decode M.2.1 pc = .ok (.arraylength, 1)) (kk : Wp l S d b M (pc + 1) L (.int (nI n) :: st) μ Q) : Wp l S d b M pc L (.ref x :: st) μ Q := by
  subst hlen
  exact wp_alen hx hk hd kk
theorem cS_static {w : Cond} (h : w ∈ lw_tbl) (hg : goodWord w = true) : w ∈ lwT := lwT_of h hg
theorem mm_stat : Cond.static Lib.Math.min.name ∈ lwT := lwT_of (by decide +kernel) rfl
theorem mm_init : Cond.initialized "java/lang/Math" ∈ lwT := lwT_of (by decide +kernel) rfl
theorem mm_code : Cond.code Lib.Math.min.name Lib.Math.min.code 2 (some .int) ∈ lwT := lwT_of (by decide +kernel) rfl
theorem mx_stat : Cond.static Lib.Math.max.name ∈ lwT := lwT_of (by decide +kernel) rfl
theorem mx_code : Cond.code Lib.Math.max.name Lib.Math.max.code 2 (some .int) ∈ lwT := lwT_of (by decide +kernel) rfl
theorem ac_nat : Cond.native arraycopyName ∈ lwT := lwT_of (by decide +kernel) rfl
theorem ac_stat : Cond.static arraycopyName ∈ lwT := lwT_of (by decide +kernel) rfl
theorem ac_init : Cond.initialized "java/lang/System" ∈ lwT := lwT_of (by decide +kernel) rfl
theorem wp_mmin {x y : Int32} {idx : Nat} (hl0 : Cond.methodLink M.1.cls idx Lib.Math.min.name ∈ lwT) (h1 : 1 ≤ d) (hr : (st.map fun v => v.category).sum ≤ 8) (hd : decode M.2.1 pc = .ok (.invokestatic idx, 3)) (kk : Wp l S d b M (pc + 3) L (.int (jmin x y) :: st) μ Q) : Wp l S d b M pc L (.int y :: .int x :: st) μ Q := by
  intro p e R s m args below meth c H locs cells slots ls D ad ca tys A QQ mc ms C B P X hl K
  exact va_mmin C.1 C.2.1 (C.2.2.1.trans hl.2.1.symm) C.2.2.2.1 (C.2.2.2.2.1 _ hl0) (C.2.2.2.2.1 _ mm_stat) (C.2.2.2.2.1 _ mm_init) (C.2.2.2.2.1 _ mm_code) (Nat.le_trans h1 B.1) (by rw [rl_sum]; have := B.2.1; omega) (by have := B.2.2.1; have := B.2.2.2.2.1; omega) (by have := B.2.2.2.1; have := B.2.2.2.2.2; omega) hd (kk p e R s m args below meth c H locs cells slots ls D ad ca tys A QQ mc ms C B P X hl K)
theorem wp_mmax {x y : Int32} {idx : Nat} (hl0 : Cond.methodLink M.1.cls idx Lib.Math.max.name ∈ lwT) (h1 : 1 ≤ d) (hr : (st.map fun v => v.category).sum ≤ 8) (hd : decode M.2.1 pc = .ok (.invokestatic idx, 3)) (kk : Wp l S d b M (pc + 3) L (.int (jmax x y) :: st) μ Q) : Wp l S d b M pc L (.int y :: .int x :: st) μ Q := by
  intro p e R s m args below meth c H locs cells slots ls D ad ca tys A QQ mc ms C B P X hl K
  exact va_mmax C.1 C.2.1 (C.2.2.1.trans hl.2.1.symm) C.2.2.2.1 (C.2.2.2.2.1 _ hl0) (C.2.2.2.2.1 _ mx_stat) (C.2.2.2.2.1 _ mm_init) (C.2.2.2.2.1 _ mx_code) (Nat.le_trans h1 B.1) (by rw [rl_sum]; have := B.2.1; omega) (by have := B.2.2.1; have := B.2.2.2.2.1; omega) (by have := B.2.2.2.1; have := B.2.2.2.2.2; omega) hd (kk p e R s m args below meth c H locs cells slots ls D ad ca tys A QQ mc ms C B P X hl K)
theorem cellE_cpy {ad : Nat → Nat} {ca : Nat → ClassId} {a sp y dp n j : Nat} (hy : sK S y = 12) (h : j ≠ y) : cellE ad ca S (cpy μ a sp y dp n) j = cellE ad ca S μ j := by
  have e2 : (cpy μ a sp y dp n).1 j = μ.1 j := by
    funext k'
    unfold cpy
    simp only [if_neg h]
  have e : fv ad S (cpy μ a sp y dp n) j = fv ad S μ j := by
    funext k'
    unfold fv
    rw [e2]
    rfl
  unfold cellE
  rw [e, e2]
theorem wp_acopy {sp dp n : Int32} {x y la lb idx : Nat} (e : μ2 = cpy μ x (ix sp) y (ix dp) (ix n)) (hl0 : Cond.methodLink M.1.cls idx arraycopyName ∈ lwT) (hx : x < sN S) (hk : sK S x = 12) (hlen : sL S x = la) (hy : y < sN S) (hky : sK S y = 12) (hleny : sL S y = lb) (hok : cpok sp dp n la lb) (h1 : 1 ≤ d) (hr : (st.map fun v => v.category).sum ≤ 8) (hd : decode M.2.1 pc = .ok (.invokestatic idx, 3))
    (kk : Wp l S d b M (pc + 3) L st μ2 Q) : Wp l S d b M pc L (.int n :: .int dp :: .ref y :: .int sp :: .ref x :: st) μ Q := by
  subst hlen hleny e
  intro p e R s m args below meth c H locs cells slots ls D ad ca tys A QQ mc ms C B P X hl K
  obtain ⟨t0, ht0⟩ := P.2.2.2.2.2 x hx (by omega)
  obtain ⟨t1, ht1⟩ := P.2.2.2.2.2 y hy (by omega)
  rw [hk] at ht0
  rw [hky] at ht1
  refine va_copyi C.1 C.2.1 (C.2.2.1.trans hl.2.1.symm) C.2.2.2.1 (C.2.2.2.2.1 _ hl0) (C.2.2.2.2.1 _ ac_nat) (C.2.2.2.2.1 _ ac_stat) (C.2.2.2.2.1 _ ac_init) P.1 P.2.1 P.2.2.1 P.2.2.2.1 x y t0 t1 (f := μ.1 x) (g := μ.1 y) (n0 := sL S x) (n1 := sL S y) (c0 := ca x) (c1 := ca y) (by rw [conc_get hx, cellE_row hk]) (by rw [conc_get hy, cellE_row hky]) ht0 ht1 rfl hok.1 hok.2.1 hok.2.2.1 hok.2.2.2.1 hok.2.2.2.2 (fun _ _ => rfl) (Nat.le_trans h1 B.1) (by rw [rl_sum]; have := B.2.1; have e0 : nativeFrameWords "java/lang/System" "arraycopy" 5 + 11 ≤ 56 := (by decide +kernel); omega) hd (fun H1 locs1 hP hD hS => ?_)
  refine kk p e R s m args below meth c H1 locs1 cells slots ls D ad ca tys A QQ mc ms C B (P.put (e := .inl (ca y, sL S y, .inl (va_cpy (μ.1 x) (μ.1 y) (ix sp) (ix dp) (ix n)))) rfl (fun _ => rfl) ?_ (fun j hj => cellE_cpy hky hj) hP hD hS) X hl K
  rw [cellE_row hky]
  congr 4
  funext j
  simp [cpy]
end
section
variable {l : Launch} {S : Sh} {d d0 : Nat} {b : Nat × Nat} {M M' : MD} {pc : Nat} {L : Lc} {μ μ1 : Mm} {Q : Option Value → Sh → Mm → Prop} {n idx o ck : Nat} {as rest st : List Value} {r : Int32}
theorem wp_cVi (hM : CV M.1.cls idx M' n ck) (ho : o < sN S) (hko : sK S o = ck) (hd : decode M.2.1 pc = .ok (.invokevirtual idx, 3)) (hd0 : d + 1 ≤ d0) (hS : clo S) (hn : as.length = n) (hcat : (.ref o :: as : List Value).all (fun v => v.category == 1) = true) (hlen : as.length + 1 ≤ M'.2.2.1) (hrest : (rest.map fun v => v.category).sum ≤ 8)
    (hW : Wp l S d (0, 0) M' 0 (ent M'.2.2.1 (.ref o :: as)) [] μ (Qi S r μ1)) (kk : Wp l S d0 b M (pc + 3) L (.int r :: rest) μ1 Q) (hst : st = as.reverse ++ .ref o :: rest) : Wp l S d0 b M pc L st μ Q :=
  wp_callV (Qc := Qi S r μ1) hM.1 hM.2.1 hM.2.2.1.1 hM.2.2.1.2 hM.2.2.2 ho hko hd hd0 hS hn (cats_of hcat) hlen hrest hW (fun _ _ _ q => q.2.1) (fun v m _ q => by obtain ⟨rfl, -, rfl⟩ := q; exact kk) hst
theorem wp_cVv (hM : CV M.1.cls idx M' n ck) (ho : o < sN S) (hko : sK S o = ck) (hd : decode M.2.1 pc = .ok (.invokevirtual idx, 3)) (hd0 : d + 1 ≤ d0) (hS : clo S) (hn : as.length = n) (hcat : (.ref o :: as : List Value).all (fun v => v.category == 1) = true) (hlen : as.length + 1 ≤ M'.2.2.1) (hrest : (rest.map fun v => v.category).sum ≤ 8)
    (hW : Wp l S d (0, 0) M' 0 (ent M'.2.2.1 (.ref o :: as)) [] μ (Qv S μ1)) (kk : Wp l S d0 b M (pc + 3) L rest μ1 Q) (hst : st = as.reverse ++ .ref o :: rest) : Wp l S d0 b M pc L st μ Q :=
  wp_callV (Qc := Qv S μ1) hM.1 hM.2.1 hM.2.2.1.1 hM.2.2.1.2 hM.2.2.2 ho hko hd hd0 hS hn (cats_of hcat) hlen hrest hW (fun _ _ _ q => q.2.1) (fun v m _ q => by obtain ⟨rfl, -, rfl⟩ := q; exact kk) hst
theorem wp_cSi (hM : CS M.1.cls idx M' n) (hd : decode M.2.1 pc = .ok (.invokestatic idx, 3)) (hd0 : d + 1 ≤ d0) (hS : clo S) (hn : as.length = n) (hcat : as.all (fun v => v.category == 1) = true) (hlen : as.length ≤ M'.2.2.1) (hrest : (rest.map fun v => v.category).sum ≤ 8)
    (hW : Wp l S d (0, 0) M' 0 (ent M'.2.2.1 as) [] μ (Qi S r μ1)) (kk : Wp l S d0 b M (pc + 3) L (.int r :: rest) μ1 Q) (hst : st = as.reverse ++ rest) : Wp l S d0 b M pc L st μ Q :=
  wp_callS (Qc := Qi S r μ1) hM.1 hM.2.1 hM.2.2 hd hd0 hS hn (cats_of hcat) hlen hrest hW (fun _ _ _ q => q.2.1) (fun v m _ q => by obtain ⟨rfl, -, rfl⟩ := q; exact kk) hst
theorem wp_cSv (hM : CS M.1.cls idx M' n) (hd : decode M.2.1 pc = .ok (.invokestatic idx, 3)) (hd0 : d + 1 ≤ d0) (hS : clo S) (hn : as.length = n) (hcat : as.all (fun v => v.category == 1) = true) (hlen : as.length ≤ M'.2.2.1) (hrest : (rest.map fun v => v.category).sum ≤ 8)
    (hW : Wp l S d (0, 0) M' 0 (ent M'.2.2.1 as) [] μ (Qv S μ1)) (kk : Wp l S d0 b M (pc + 3) L rest μ1 Q) (hst : st = as.reverse ++ rest) : Wp l S d0 b M pc L st μ Q :=
  wp_callS (Qc := Qv S μ1) hM.1 hM.2.1 hM.2.2 hd hd0 hS hn (cats_of hcat) hlen hrest hW (fun _ _ _ q => q.2.1) (fun v m _ q => by obtain ⟨rfl, -, rfl⟩ := q; exact kk) hst
theorem wp_cNi (hM : CSN M.1.cls idx M' n) (hd : decode M.2.1 pc = .ok (.invokestatic idx, 3)) (hd0 : d + 1 ≤ d0) (hS : clo S) (hn : as.length = n) (hcat : as.all (fun v => v.category == 1) = true) (hlen : as.length ≤ M'.2.2.1) (hrest : (rest.map fun v => v.category).sum ≤ 8)
    (hW : Wp l S d (0, 0) M' 0 (ent M'.2.2.1 as) [] μ (Qi S r μ1)) (kk : Wp l S d0 b M (pc + 3) L (.int r :: rest) μ1 Q) (hst : st = as.reverse ++ rest) : Wp l S d0 b M pc L st μ Q := by
  obtain ⟨host, hh⟩ := hM.2.1
  exact wp_callSN (Qc := Qi S r μ1) hM.1 hh hM.2.2 hd hd0 hS hn (cats_of hcat) hlen hrest hW (fun _ _ _ q => q.2.1) (fun v m _ q => by obtain ⟨rfl, -, rfl⟩ := q; exact kk) hst
end
