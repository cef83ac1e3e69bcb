/-! MAKERS: each <init>, from the object alone to all that it made -/
theorem rT {l0 T : List Ob} {i c N k y : Nat} {rs : List (Nat × Nat)} (h : T[i]? = some (c, N, rs)) (hk : lkp rs k = some y) : sR (shl (l0 ++ T)) (l0.length + i) k = some y := by
  show obR _ _ _ = _
  unfold obR
  rw [gT h]
  exact hk
theorem get_app {B t : List Ob} {o oy : Ob} {y : Nat} (h : B.length + 1 = y) : (o :: (B ++ (oy :: t)))[y]? = some oy := by
  subst h
  rw [List.getElem?_cons_succ, List.getElem?_append_right (Nat.le_refl _), Nat.sub_self]
  rfl
def wrdI (μ : Mm) (x : Nat) : Nat → Mm
  | 0 => μ
  | k + 1 => sti (wrdI μ x k) x k (nI (wR k))
theorem zM_wrd {n x k : Nat} {μ : Mm} (h : zM n μ) (hx : x < n) : zM n (wrdI μ x k) := by
  induction k with
  | zero => exact h
  | succ k ih => exact zM.sti ih hx
def TL (o : Ob) (B : List Ob) (a : Nat × Nat) (rs : List (Nat × Nat)) (X : List Ob) : List Ob := o :: ((B ++ [(a.1, a.2, rs)]) ++ X)
theorem TL_app {o : Ob} {B X Y : List Ob} {a : Nat × Nat} {rs : List (Nat × Nat)} : TL o B a rs X ++ Y = TL o B a rs (X ++ Y) := by
  unfold TL
  rw [List.cons_append, List.append_assoc]
theorem TL_get {o : Ob} {B X : List Ob} {a : Nat × Nat} {rs : List (Nat × Nat)} {i : Nat} (h : B.length + 1 = i) : (TL o B a rs X)[i]? = some (a.1, a.2, rs) := by
  subst h
  unfold TL
  rw [List.getElem?_cons_succ, List.append_assoc, List.getElem?_append_right (Nat.le_refl _), Nat.sub_self]
  rfl
theorem TL_set {o : Ob} {B X : List Ob} {a : Nat × Nat} {rs rs2 : List (Nat × Nat)} {i : Nat} (h : B.length + 1 = i) : (TL o B a rs X).set i (a.1, a.2, rs2) = TL o B a rs2 X := by
  subst h
  unfold TL
  rw [List.set_cons_succ, List.append_assoc, List.append_assoc, List.set_append_right _ _ (Nat.le_refl _), Nat.sub_self]
  rfl
def psL (g : Nat → List Ob) (n s w : Nat) : Nat → List Ob
  | 0 => []
  | k + 1 => psL g n s w k ++ g (n + (s + w * k))
def prL (n s w : Nat) : Nat → List (Nat × Nat)
  | 0 => []
  | k + 1 => (k, n + (s + w * k)) :: prL n s w k
def Mk (l : Launch) (M : MD) (c d : Nat) (b : Nat × Nat) (as : List Value) (body : Nat → List Ob) (mf : Nat → Mm → Mm) : Prop := ∀ (l0 : List Ob) (μ : Mm), clO (l0 ++ [(c, 0, [])]) → zM (l0 ++ [(c, 0, [])]).length μ → (l0 ++ [(c, 0, [])]).length + b.1 ≤ 100000 → Wp l (shl (l0 ++ [(c, 0, [])])) d b M 0 (ent M.2.2.1 (.ref l0.length :: as)) [] μ (fun v S' m' => v = none ∧ S' = shl (l0 ++ body l0.length) ∧ m' = mf l0.length μ ∧ clO (l0 ++ body l0.length) ∧ zM (l0 ++ body l0.length).length (mf l0.length μ))
section
variable {l : Launch} {l0 T0 T T2 : List Ob} {d d1 c : Nat} {b b1 b2 : Nat × Nat} {M M' : MD} {pc : Nat} {L : Lc} {μ μ2 : Mm} {Q : Option Value → Sh → Mm → Prop} {rest as : List Value} {body : Nat → List Ob} {mf : Nat → Mm → Mm}
theorem rfr {n x : Nat} (h : x < n) : rfV n (.ref x) := Or.inl h
theorem rfV_mono {n n2 : Nat} (h : n ≤ n2) {v : Value} (hv : rfV n v) : rfV n2 v := by
  cases v <;> first | trivial | exact hv.imp (fun z => Nat.lt_of_lt_of_le z h) id
theorem rfS_mono {n n2 : Nat} (h : n ≤ n2) : ∀ {st : List Value}, rfS n st → rfS n2 st
  | [], _ => trivial
  | _ :: _, hs => ⟨rfV_mono h hs.1, rfS_mono h hs.2⟩
theorem rfL_mono {n n2 : Nat} (h : n ≤ n2) : ∀ {L : Lc}, rfL n L → rfL n2 L
  | [], _ => trivial
  | none :: t, hs => rfL_mono (L := t) h hs
  | some _ :: t, hs => ⟨rfV_mono h hs.1, rfL_mono (L := t) h hs.2⟩
theorem initT_len {j : Nat} (hj : T0.length = j) (hln : ∀ n, (body n).length = b1.1 + 1) : (l0 ++ (T0 ++ body (l0.length + j))).length = (l0 ++ (T0 ++ [(c, 0, [])])).length + b1.1 := by
  rw [List.length_append, List.length_append, List.length_append, List.length_append, hln]
  show _ = l0.length + (T0.length + 1) + b1.1
  omega
theorem wp_initT {st : List Value} {n idx j : Nat} (hK : Mk l M' c d1 b1 as body mf) (hM : MW M' n) (hl : Cond.methodLink M.1.cls idx M'.1 ∈ lwT) (hin : Cond.instanceMethod M'.1 ∈ lwT) (hnm : M'.1.name = "<init>") (hret : M'.2.2.2 = none) (hd : decode M.2.1 pc = .ok (.invokespecial idx, 3)) (hd0 : d1 + 1 ≤ d)
    (hn : as.length = n) (hcat : ∀ v ∈ (.ref (l0.length + j) :: as : List Value), v.category = 1) (hlen : as.length + 1 ≤ M'.2.2.1) (hrest : (rest.map fun v => v.category).sum ≤ 8) (hT : T0 ++ [(c, 0, [])] = T) (hj : T0.length = j) (hT2 : T0 ++ body (l0.length + j) = T2) (hln : ∀ n, (body n).length = b1.1 + 1) (hμ : mf (l0.length + j) μ = μ2) (hbb : b = (b1.1 + b2.1, b1.2 + b2.2))
    (hrS : rfS (l0.length + j + 1) rest) (hrL : rfL (l0.length + j + 1) L) (hcl : clO (l0 ++ T)) (hz : zM (l0 ++ T).length μ) (hb : (l0 ++ T).length + b.1 ≤ 100000) (hst : st = as.reverse ++ .ref (l0.length + j) :: rest)
    (kk : clO (l0 ++ T2) → zM (l0 ++ T2).length μ2 → (l0 ++ T2).length + b2.1 ≤ 100000 → Wp l (shl (l0 ++ T2)) d b2 M (pc + 3) L rest μ2 Q) : Wp l (shl (l0 ++ T)) d b M pc L st μ Q := by
  subst hT hT2 hμ hbb
  have e : (l0 ++ T0).length = l0.length + j := by rw [List.length_append, hj]
  have hb : (l0 ++ (T0 ++ [(c, 0, ([] : List (Nat × Nat)))])).length + (b1.1 + b2.1) ≤ 100000 := hb
  have hlen2 := initT_len (l0 := l0) (c := c) hj hln
  have k0 := hK (l0 ++ T0) μ (by rw [List.append_assoc]; exact hcl) (by rw [List.append_assoc]; exact hz) (by rw [List.append_assoc]; omega)
  rw [e, List.append_assoc, List.append_assoc] at k0
  have hl1 : l0.length + j + 1 ≤ (l0 ++ (T0 ++ [(c, 0, ([] : List (Nat × Nat)))])).length := by
    rw [List.length_append, List.length_append, hj]
    exact Nat.le_refl (l0.length + (j + 1))
  exact wp_initL (l2 := l0 ++ (T0 ++ body (l0.length + j))) (o := l0.length + j) (as := as) (rest := rest) hM hl hin hnm hret hd hd0 hn hcat hlen hrest k0 (fun _ _ _ h => h) (by omega) (rfS_mono hl1 hrS) (rfL_mono hl1 hrL) (fun c1 z1 => kk c1 z1 (by omega)) hst
theorem wp_initTN {st : List Value} {n idx j : Nat} {host : String} (hK : Mk l M' c d1 b1 as body mf) (hM : MW M' n) (hl : (M.1.cls, idx, M'.1, host) ∈ nestL) (hin : Cond.instanceMethod M'.1 ∈ lwT) (hnm : M'.1.name = "<init>") (hret : M'.2.2.2 = none) (hd : decode M.2.1 pc = .ok (.invokespecial idx, 3)) (hd0 : d1 + 1 ≤ d)
    (hn : as.length = n) (hcat : ∀ v ∈ (.ref (l0.length + j) :: as : List Value), v.category = 1) (hlen : as.length + 1 ≤ M'.2.2.1) (hrest : (rest.map fun v => v.category).sum ≤ 8) (hT : T0 ++ [(c, 0, [])] = T) (hj : T0.length = j) (hT2 : T0 ++ body (l0.length + j) = T2) (hln : ∀ n, (body n).length = b1.1 + 1) (hμ : mf (l0.length + j) μ = μ2) (hbb : b = (b1.1 + b2.1, b1.2 + b2.2))
    (hrS : rfS (l0.length + j + 1) rest) (hrL : rfL (l0.length + j + 1) L) (hcl : clO (l0 ++ T)) (hz : zM (l0 ++ T).length μ) (hb : (l0 ++ T).length + b.1 ≤ 100000) (hst : st = as.reverse ++ .ref (l0.length + j) :: rest)
    (kk : clO (l0 ++ T2) → zM (l0 ++ T2).length μ2 → (l0 ++ T2).length + b2.1 ≤ 100000 → Wp l (shl (l0 ++ T2)) d b2 M (pc + 3) L rest μ2 Q) : Wp l (shl (l0 ++ T)) d b M pc L st μ Q := by
  subst hT hT2 hμ hbb
  have e : (l0 ++ T0).length = l0.length + j := by rw [List.length_append, hj]
  have hb : (l0 ++ (T0 ++ [(c, 0, ([] : List (Nat × Nat)))])).length + (b1.1 + b2.1) ≤ 100000 := hb
  have hlen2 := initT_len (l0 := l0) (c := c) hj hln
  have k0 := hK (l0 ++ T0) μ (by rw [List.append_assoc]; exact hcl) (by rw [List.append_assoc]; exact hz) (by rw [List.append_assoc]; omega)
  rw [e, List.append_assoc, List.append_assoc] at k0
  have hl1 : l0.length + j + 1 ≤ (l0 ++ (T0 ++ [(c, 0, ([] : List (Nat × Nat)))])).length := by
    rw [List.length_append, List.length_append, hj]
    exact Nat.le_refl (l0.length + (j + 1))
  exact wp_initN (l2 := l0 ++ (T0 ++ body (l0.length + j))) (o := l0.length + j) (as := as) (rest := rest) hM hl hin hnm hret hd hd0 hn hcat hlen hrest k0 (fun _ _ _ h => h) (by omega) (rfS_mono hl1 hrS) (rfL_mono hl1 hrL) (fun c1 z1 => kk c1 z1 (by omega)) hst
end
theorem ar_int : Cond.arrayClass .int ∈ lwT := (lwT_1 (i := 68) (by decide +kernel) rfl)
theorem ob_inst : Cond.instanceMethod Lib.objectInit ∈ lwT := (lwT_1 (i := 28) (by decide +kernel) rfl)
theorem ob_code : Cond.code Lib.objectInit ⟨#[0xb1]⟩ 1 none ∈ lwT := (lwT_1 (i := 29) (by decide +kernel) rfl)
def mX8_init : MD := (yX8_init, cX8_init, 1, none)
theorem mw_X8_init : MW mX8_init 0 := ⟨(lwT_1 (i := 42) (by decide +kernel) rfl), (lwT_1 (i := 3) (by decide +kernel) rfl), by decide +kernel, ⟨by decide +kernel, by decide +kernel, by decide +kernel⟩, by decide⟩
theorem im_X8_init : Cond.instanceMethod mX8_init.1 ∈ lwT := (lwT_1 (i := 41) (by decide +kernel) rfl)
theorem df_X8_init : ∀ k, k < nfc 8 → defaultValue (tyX8 k) = dfV 8 k := by decide
theorem ob_X8 : Cond.methodLink RX8 3 Lib.objectInit ∈ lwT := (lwT_1 (i := 43) (by decide +kernel) rfl)
def mX2_init : MD := (yX2_init, cX2_init, 2, none)
theorem mw_X2_init : MW mX2_init 1 := ⟨(lwT_1 (i := 73) (by decide +kernel) rfl), (lwT_1 (i := 4) (by decide +kernel) rfl), by decide +kernel, ⟨by decide +kernel, by decide +kernel, by decide +kernel⟩, by decide⟩
theorem im_X2_init : Cond.instanceMethod mX2_init.1 ∈ lwT := (lwT_1 (i := 72) (by decide +kernel) rfl)
theorem df_X2_init : ∀ k, k < nfc 2 → defaultValue (tyX2 k) = dfV 2 k := by decide
theorem ob_X2 : Cond.methodLink RX2 1 Lib.objectInit ∈ lwT := (lwT_1 (i := 74) (by decide +kernel) rfl)
def mX0_init : MD := (yX0_init, cX0_init, 1, none)
theorem mw_X0_init : MW mX0_init 0 := ⟨(lwT_1 (i := 111) (by decide +kernel) rfl), (lwT_1 (i := 5) (by decide +kernel) rfl), by decide +kernel, ⟨by decide +kernel, by decide +kernel, by decide +kernel⟩, by decide⟩
theorem im_X0_init : Cond.instanceMethod mX0_init.1 ∈ lwT := (lwT_1 (i := 110) (by decide +kernel) rfl)
theorem df_X0_init : ∀ k, k < nfc 0 → defaultValue (tyX0 k) = dfV 0 k := by decide
theorem ob_X0 : Cond.methodLink RX0 3 Lib.objectInit ∈ lwT := (lwT_1 (i := 112) (by decide +kernel) rfl)
def mX1_init : MD := (yX1_init, cX1_init, 1, none)
theorem mw_X1_init : MW mX1_init 0 := ⟨(lwT_2 (i := 3) (by decide +kernel) rfl), (lwT_1 (i := 8) (by decide +kernel) rfl), by decide +kernel, ⟨by decide +kernel, by decide +kernel, by decide +kernel⟩, by decide⟩
theorem im_X1_init : Cond.instanceMethod mX1_init.1 ∈ lwT := (lwT_2 (i := 2) (by decide +kernel) rfl)
theorem df_X1_init : ∀ k, k < nfc 1 → defaultValue (tyX1 k) = dfV 1 k := by decide
theorem ob_X1 : Cond.methodLink RX1 3 Lib.objectInit ∈ lwT := (lwT_2 (i := 4) (by decide +kernel) rfl)
def mX4_init : MD := (yX4_init, cX4_init, 1, none)
theorem mw_X4_init : MW mX4_init 0 := ⟨(lwT_2 (i := 68) (by decide +kernel) rfl), (lwT_1 (i := 11) (by decide +kernel) rfl), by decide +kernel, ⟨by decide +kernel, by decide +kernel, by decide +kernel⟩, by decide⟩
theorem im_X4_init : Cond.instanceMethod mX4_init.1 ∈ lwT := (lwT_2 (i := 67) (by decide +kernel) rfl)
theorem df_X4_init : ∀ k, k < nfc 4 → defaultValue (tyX4 k) = dfV 4 k := by decide
theorem ob_X4 : Cond.methodLink RX4 3 Lib.objectInit ∈ lwT := (lwT_2 (i := 69) (by decide +kernel) rfl)
def mX5_init : MD := (yX5_init, cX5_init, 1, none)
theorem mw_X5_init : MW mX5_init 0 := ⟨(lwT_2 (i := 34) (by decide +kernel) rfl), (lwT_1 (i := 9) (by decide +kernel) rfl), by decide +kernel, ⟨by decide +kernel, by decide +kernel, by decide +kernel⟩, by decide⟩
theorem im_X5_init : Cond.instanceMethod mX5_init.1 ∈ lwT := (lwT_2 (i := 33) (by decide +kernel) rfl)
theorem df_X5_init : ∀ k, k < nfc 5 → defaultValue (tyX5 k) = dfV 5 k := by decide
theorem ob_X5 : Cond.methodLink RX5 3 Lib.objectInit ∈ lwT := (lwT_2 (i := 35) (by decide +kernel) rfl)
def mX3_init : MD := (yX3_init, cX3_init, 1, none)
theorem mw_X3_init : MW mX3_init 0 := ⟨(lwT_1 (i := 141) (by decide +kernel) rfl), (lwT_1 (i := 6) (by decide +kernel) rfl), by decide +kernel, ⟨by decide +kernel, by decide +kernel, by decide +kernel⟩, by decide⟩
theorem im_X3_init : Cond.instanceMethod mX3_init.1 ∈ lwT := (lwT_1 (i := 140) (by decide +kernel) rfl)
theorem df_X3_init : ∀ k, k < nfc 3 → defaultValue (tyX3 k) = dfV 3 k := by decide
theorem ob_X3 : Cond.methodLink RX3 3 Lib.objectInit ∈ lwT := (lwT_1 (i := 142) (by decide +kernel) rfl)
theorem nw_X3_18 : Cond.classLink RX3 18 RX2 ∈ lwT ∧ Cond.instantiable RX2 (nfc 2) ∈ lwT ∧ Cond.initialized RX2 ∈ lwT := ⟨(lwT_1 (i := 143) (by decide +kernel) rfl), (lwT_1 (i := 70) (by decide +kernel) rfl), (lwT_1 (i := 4) (by decide +kernel) rfl)⟩
theorem il_X3_20 : Cond.methodLink RX3 20 mX2_init.1 ∈ lwT := (lwT_1 (i := 144) (by decide +kernel) rfl)
def mX7_init : MD := (yX7_init, cX7_init, 1, none)
theorem mw_X7_init : MW mX7_init 0 := ⟨(lwT_1 (i := 237) (by decide +kernel) rfl), (lwT_1 (i := 7) (by decide +kernel) rfl), by decide +kernel, ⟨by decide +kernel, by decide +kernel, by decide +kernel⟩, by decide⟩
theorem im_X7_init : Cond.instanceMethod mX7_init.1 ∈ lwT := (lwT_1 (i := 236) (by decide +kernel) rfl)
theorem df_X7_init : ∀ k, k < nfc 7 → defaultValue (tyX7 k) = dfV 7 k := by decide
theorem ob_X7 : Cond.methodLink RX7 1 Lib.objectInit ∈ lwT := (lwT_1 (i := 238) (by decide +kernel) rfl)
theorem nw_X7_7 : Cond.classLink RX7 7 RX1 ∈ lwT ∧ Cond.instantiable RX1 (nfc 1) ∈ lwT ∧ Cond.initialized RX1 ∈ lwT := ⟨(lwT_1 (i := 239) (by decide +kernel) rfl), (lwT_2 (i := 0) (by decide +kernel) rfl), (lwT_1 (i := 8) (by decide +kernel) rfl)⟩
theorem nw_X7_19 : Cond.classLink RX7 19 RX5 ∈ lwT ∧ Cond.instantiable RX5 (nfc 5) ∈ lwT ∧ Cond.initialized RX5 ∈ lwT := ⟨(lwT_2 (i := 30) (by decide +kernel) rfl), (lwT_2 (i := 31) (by decide +kernel) rfl), (lwT_1 (i := 9) (by decide +kernel) rfl)⟩
theorem il_X7_21 : Cond.methodLink RX7 21 mX5_init.1 ∈ lwT := (lwT_2 (i := 32) (by decide +kernel) rfl)
def mX6_init : MD := (yX6_init, cX6_init, 1, none)
theorem mw_X6_init : MW mX6_init 0 := ⟨(lwT_2 (i := 83) (by decide +kernel) rfl), (lwT_1 (i := 12) (by decide +kernel) rfl), by decide +kernel, ⟨by decide +kernel, by decide +kernel, by decide +kernel⟩, by decide⟩
theorem im_X6_init : Cond.instanceMethod mX6_init.1 ∈ lwT := (lwT_2 (i := 82) (by decide +kernel) rfl)
theorem df_X6_init : ∀ k, k < nfc 6 → defaultValue (tyX6 k) = dfV 6 k := by decide
theorem ob_X6 : Cond.methodLink RX6 3 Lib.objectInit ∈ lwT := (lwT_2 (i := 84) (by decide +kernel) rfl)
theorem nw_X6_28 : Cond.classLink RX6 28 RX1 ∈ lwT ∧ Cond.instantiable RX1 (nfc 1) ∈ lwT ∧ Cond.initialized RX1 ∈ lwT := ⟨(lwT_2 (i := 85) (by decide +kernel) rfl), (lwT_2 (i := 0) (by decide +kernel) rfl), (lwT_1 (i := 8) (by decide +kernel) rfl)⟩
theorem nw_X6_35 : Cond.classLink RX6 35 RX5 ∈ lwT ∧ Cond.instantiable RX5 (nfc 5) ∈ lwT ∧ Cond.initialized RX5 ∈ lwT := ⟨(lwT_2 (i := 87) (by decide +kernel) rfl), (lwT_2 (i := 31) (by decide +kernel) rfl), (lwT_1 (i := 9) (by decide +kernel) rfl)⟩
theorem il_X6_37 : Cond.methodLink RX6 37 mX5_init.1 ∈ lwT := (lwT_2 (i := 88) (by decide +kernel) rfl)
def mX9_init : MD := (yX9_init, cX9_init, 2, none)
theorem mw_X9_init : MW mX9_init 0 := ⟨(lwT_1 (i := 34) (by decide +kernel) rfl), (lwT_1 (i := 2) (by decide +kernel) rfl), by decide +kernel, ⟨by decide +kernel, by decide +kernel, by decide +kernel⟩, by decide⟩
theorem im_X9_init : Cond.instanceMethod mX9_init.1 ∈ lwT := (lwT_1 (i := 33) (by decide +kernel) rfl)
theorem df_X9_init : ∀ k, k < nfc 9 → defaultValue (tyX9 k) = dfV 9 k := by decide
theorem ob_X9 : Cond.methodLink RX9 3 Lib.objectInit ∈ lwT := (lwT_1 (i := 35) (by decide +kernel) rfl)
theorem nw_X9_9 : Cond.classLink RX9 9 RX3 ∈ lwT ∧ Cond.instantiable RX3 (nfc 3) ∈ lwT ∧ Cond.initialized RX3 ∈ lwT := ⟨(lwT_1 (i := 36) (by decide +kernel) rfl), (lwT_1 (i := 138) (by decide +kernel) rfl), (lwT_1 (i := 6) (by decide +kernel) rfl)⟩
theorem nw_X9_17 : Cond.classLink RX9 17 RX8 ∈ lwT ∧ Cond.instantiable RX8 (nfc 8) ∈ lwT ∧ Cond.initialized RX8 ∈ lwT := ⟨(lwT_1 (i := 38) (by decide +kernel) rfl), (lwT_1 (i := 39) (by decide +kernel) rfl), (lwT_1 (i := 3) (by decide +kernel) rfl)⟩
theorem nw_X9_24 : Cond.classLink RX9 24 RX2 ∈ lwT ∧ Cond.instantiable RX2 (nfc 2) ∈ lwT ∧ Cond.initialized RX2 ∈ lwT := ⟨(lwT_1 (i := 69) (by decide +kernel) rfl), (lwT_1 (i := 70) (by decide +kernel) rfl), (lwT_1 (i := 4) (by decide +kernel) rfl)⟩
theorem il_X9_26 : Cond.methodLink RX9 26 mX2_init.1 ∈ lwT := (lwT_1 (i := 71) (by decide +kernel) rfl)
theorem nw_X9_33 : Cond.classLink RX9 33 RX0 ∈ lwT ∧ Cond.instantiable RX0 (nfc 0) ∈ lwT ∧ Cond.initialized RX0 ∈ lwT := ⟨(lwT_1 (i := 107) (by decide +kernel) rfl), (lwT_1 (i := 108) (by decide +kernel) rfl), (lwT_1 (i := 5) (by decide +kernel) rfl)⟩
def bd8 (n : Nat) : List Ob := ((8, 0, [(3, n + 4), (2, n + 3), (1, n + 2), (0, n + 1)]) :: (((([] ++ [(12, 40, [])]) ++ [(12, 40, [])]) ++ [(12, 40, [])]) ++ [(12, 40, [])]))
theorem len_bd8 {n : Nat} : (bd8 n).length = 5 := rfl
theorem in_X8 {l : Launch} : Mk l mX8_init 8 1 (4, 160) [] (bd8) (fun n μ => μ) := by
  intro l0 μ c z b
  refine wp_aload_n (x := l0.length) dX8_init_0 rfl ?_
  refine wp_objI ob_X8 ob_inst ob_code (by omega) (Nat.le_of_ble_eq_true rfl) dX8_init_1 ?_
  refine wp_aload_n (x := l0.length) dX8_init_4 rfl ?_
  refine wp_bipush (nI 40) dX8_init_5 rfl ?_
  refine wp_newaT (T2 := (8, 0, []) :: ([] ++ [(12, 40, [])])) (b2 := (3, 120)) (j := 1) (N := 40) rfl (by decide) ar_int rfl (by simp only [List.length_cons, List.length_append, List.length_nil]) rfl ⟨rfr (by omega), trivial⟩ ⟨rfr (by omega), trivial⟩ c z b dX8_init_7 (fun c z b => ?_)
  refine wp_putT (i := 0) (T2 := ((8, 0, [(0, l0.length + 1)]) :: ([] ++ [(12, 40, [])]))) (j := 2) rfl (by simp only [List.length_cons, List.length_append, List.length_nil]) (by omega) rfl fl_X8_9 (by decide) (by decide) rfl rfl (fun _ => ⟨rfl, rfl⟩) c z b dX8_init_9 (fun c z b => ?_)
  refine wp_aload_n (x := l0.length) dX8_init_12 rfl ?_
  refine wp_bipush (nI 40) dX8_init_13 rfl ?_
  refine wp_newaT (T2 := (8, 0, [(0, l0.length + 1)]) :: (([] ++ [(12, 40, [])]) ++ [(12, 40, [])])) (b2 := (2, 80)) (j := 2) (N := 40) rfl (by decide) ar_int rfl (by simp only [List.length_cons, List.length_append, List.length_nil]) rfl ⟨rfr (by omega), trivial⟩ ⟨rfr (by omega), trivial⟩ c z b dX8_init_15 (fun c z b => ?_)
  refine wp_putT (i := 0) (T2 := ((8, 0, [(1, l0.length + 2), (0, l0.length + 1)]) :: (([] ++ [(12, 40, [])]) ++ [(12, 40, [])]))) (j := 3) rfl (by simp only [List.length_cons, List.length_append, List.length_nil]) (by omega) rfl fl_X8_15 (by decide) (by decide) rfl rfl (fun _ => ⟨rfl, rfl⟩) c z b dX8_init_17 (fun c z b => ?_)
  refine wp_aload_n (x := l0.length) dX8_init_20 rfl ?_
  refine wp_bipush (nI 40) dX8_init_21 rfl ?_
  refine wp_newaT (T2 := (8, 0, [(1, l0.length + 2), (0, l0.length + 1)]) :: ((([] ++ [(12, 40, [])]) ++ [(12, 40, [])]) ++ [(12, 40, [])])) (b2 := (1, 40)) (j := 3) (N := 40) rfl (by decide) ar_int rfl (by simp only [List.length_cons, List.length_append, List.length_nil]) rfl ⟨rfr (by omega), trivial⟩ ⟨rfr (by omega), trivial⟩ c z b dX8_init_23 (fun c z b => ?_)
  refine wp_putT (i := 0) (T2 := ((8, 0, [(2, l0.length + 3), (1, l0.length + 2), (0, l0.length + 1)]) :: ((([] ++ [(12, 40, [])]) ++ [(12, 40, [])]) ++ [(12, 40, [])]))) (j := 4) rfl (by simp only [List.length_cons, List.length_append, List.length_nil]) (by omega) rfl fl_X8_18 (by decide) (by decide) rfl rfl (fun _ => ⟨rfl, rfl⟩) c z b dX8_init_25 (fun c z b => ?_)
  refine wp_aload_n (x := l0.length) dX8_init_28 rfl ?_
  refine wp_bipush (nI 40) dX8_init_29 rfl ?_
  refine wp_newaT (T2 := (8, 0, [(2, l0.length + 3), (1, l0.length + 2), (0, l0.length + 1)]) :: (((([] ++ [(12, 40, [])]) ++ [(12, 40, [])]) ++ [(12, 40, [])]) ++ [(12, 40, [])])) (b2 := (0, 0)) (j := 4) (N := 40) rfl (by decide) ar_int rfl (by simp only [List.length_cons, List.length_append, List.length_nil]) rfl ⟨rfr (by omega), trivial⟩ ⟨rfr (by omega), trivial⟩ c z b dX8_init_31 (fun c z b => ?_)
  refine wp_putT (i := 0) (T2 := ((8, 0, [(3, l0.length + 4), (2, l0.length + 3), (1, l0.length + 2), (0, l0.length + 1)]) :: (((([] ++ [(12, 40, [])]) ++ [(12, 40, [])]) ++ [(12, 40, [])]) ++ [(12, 40, [])]))) (j := 5) rfl (by simp only [List.length_cons, List.length_append, List.length_nil]) (by omega) rfl fl_X8_21 (by decide) (by decide) rfl rfl (fun _ => ⟨rfl, rfl⟩) c z b dX8_init_33 (fun c z b => ?_)
  exact wp_vret rfl dX8_init_36 ⟨rfl, rfl, rfl, c, z⟩
def bd2 (N : Nat) (n : Nat) : List Ob := ((2, 0, [(4, n + 5), (3, n + 4), (2, n + 3), (1, n + 2), (0, n + 1)]) :: ((((([] ++ [(12, N, [])]) ++ [(12, N, [])]) ++ [(12, N, [])]) ++ [(12, N, [])]) ++ [(12, N, [])]))
theorem len_bd2 {N : Nat} {n : Nat} : (bd2 N n).length = 6 := by
  unfold bd2
  simp only [List.length_cons, List.length_append, List.length_nil, len_bd8]
theorem in_X2 (N : Nat) (hN : N < 100000) {l : Launch} : Mk l mX2_init 2 1 (5, 0 + N + N + N + N + N) [.int (nI N)] (bd2 N) (fun n μ => μ) := by
  intro l0 μ c z b
  refine wp_aload_n (x := l0.length) dX2_init_0 rfl ?_
  refine wp_objI ob_X2 ob_inst ob_code (by omega) (Nat.le_of_ble_eq_true rfl) dX2_init_1 ?_
  refine wp_aload_n (x := l0.length) dX2_init_4 rfl ?_
  refine wp_iload_n (x := (nI N)) dX2_init_5 rfl ?_
  refine wp_newaT (T2 := (2, 0, []) :: ([] ++ [(12, N, [])])) (b2 := (4, 0 + N + N + N + N)) (j := 1) (N := N) rfl hN ar_int rfl (by simp only [List.length_cons, List.length_append, List.length_nil, len_bd8]) rfl ⟨rfr (by omega), trivial⟩ ⟨rfr (by omega), ⟨trivial, trivial⟩⟩ c z b dX2_init_6 (fun c z b => ?_)
  refine wp_putT (i := 0) (T2 := ((2, 0, [(0, l0.length + 1)]) :: ([] ++ [(12, N, [])]))) (j := 2) rfl (by simp only [List.length_cons, List.length_append, List.length_nil, len_bd8]) (by omega) rfl fl_X2_7 (by decide) (by decide) rfl rfl (fun _ => ⟨rfl, rfl⟩) c z b dX2_init_8 (fun c z b => ?_)
  refine wp_aload_n (x := l0.length) dX2_init_11 rfl ?_
  refine wp_iload_n (x := (nI N)) dX2_init_12 rfl ?_
  refine wp_newaT (T2 := (2, 0, [(0, l0.length + 1)]) :: (([] ++ [(12, N, [])]) ++ [(12, N, [])])) (b2 := (3, 0 + N + N + N)) (j := 2) (N := N) rfl hN ar_int rfl (by simp only [List.length_cons, List.length_append, List.length_nil, len_bd8]) rfl ⟨rfr (by omega), trivial⟩ ⟨rfr (by omega), ⟨trivial, trivial⟩⟩ c z b dX2_init_13 (fun c z b => ?_)
  refine wp_putT (i := 0) (T2 := ((2, 0, [(1, l0.length + 2), (0, l0.length + 1)]) :: (([] ++ [(12, N, [])]) ++ [(12, N, [])]))) (j := 3) rfl (by simp only [List.length_cons, List.length_append, List.length_nil, len_bd8]) (by omega) rfl fl_X2_13 (by decide) (by decide) rfl rfl (fun _ => ⟨rfl, rfl⟩) c z b dX2_init_15 (fun c z b => ?_)
  refine wp_aload_n (x := l0.length) dX2_init_18 rfl ?_
  refine wp_iload_n (x := (nI N)) dX2_init_19 rfl ?_
  refine wp_newaT (T2 := (2, 0, [(1, l0.length + 2), (0, l0.length + 1)]) :: ((([] ++ [(12, N, [])]) ++ [(12, N, [])]) ++ [(12, N, [])])) (b2 := (2, 0 + N + N)) (j := 3) (N := N) rfl hN ar_int rfl (by simp only [List.length_cons, List.length_append, List.length_nil, len_bd8]) rfl ⟨rfr (by omega), trivial⟩ ⟨rfr (by omega), ⟨trivial, trivial⟩⟩ c z b dX2_init_20 (fun c z b => ?_)
  refine wp_putT (i := 0) (T2 := ((2, 0, [(2, l0.length + 3), (1, l0.length + 2), (0, l0.length + 1)]) :: ((([] ++ [(12, N, [])]) ++ [(12, N, [])]) ++ [(12, N, [])]))) (j := 4) rfl (by simp only [List.length_cons, List.length_append, List.length_nil, len_bd8]) (by omega) rfl fl_X2_16 (by decide) (by decide) rfl rfl (fun _ => ⟨rfl, rfl⟩) c z b dX2_init_22 (fun c z b => ?_)
  refine wp_aload_n (x := l0.length) dX2_init_25 rfl ?_
  refine wp_iload_n (x := (nI N)) dX2_init_26 rfl ?_
  refine wp_newaT (T2 := (2, 0, [(2, l0.length + 3), (1, l0.length + 2), (0, l0.length + 1)]) :: (((([] ++ [(12, N, [])]) ++ [(12, N, [])]) ++ [(12, N, [])]) ++ [(12, N, [])])) (b2 := (1, 0 + N)) (j := 4) (N := N) rfl hN ar_int rfl (by simp only [List.length_cons, List.length_append, List.length_nil, len_bd8]) rfl ⟨rfr (by omega), trivial⟩ ⟨rfr (by omega), ⟨trivial, trivial⟩⟩ c z b dX2_init_27 (fun c z b => ?_)
  refine wp_putT (i := 0) (T2 := ((2, 0, [(3, l0.length + 4), (2, l0.length + 3), (1, l0.length + 2), (0, l0.length + 1)]) :: (((([] ++ [(12, N, [])]) ++ [(12, N, [])]) ++ [(12, N, [])]) ++ [(12, N, [])]))) (j := 5) rfl (by simp only [List.length_cons, List.length_append, List.length_nil, len_bd8]) (by omega) rfl fl_X2_19 (by decide) (by decide) rfl rfl (fun _ => ⟨rfl, rfl⟩) c z b dX2_init_29 (fun c z b => ?_)
  refine wp_aload_n (x := l0.length) dX2_init_32 rfl ?_
  refine wp_iload_n (x := (nI N)) dX2_init_33 rfl ?_
  refine wp_newaT (T2 := (2, 0, [(3, l0.length + 4), (2, l0.length + 3), (1, l0.length + 2), (0, l0.length + 1)]) :: ((((([] ++ [(12, N, [])]) ++ [(12, N, [])]) ++ [(12, N, [])]) ++ [(12, N, [])]) ++ [(12, N, [])])) (b2 := (0, 0)) (j := 5) (N := N) rfl hN ar_int rfl (by simp only [List.length_cons, List.length_append, List.length_nil, len_bd8]) rfl ⟨rfr (by omega), trivial⟩ ⟨rfr (by omega), ⟨trivial, trivial⟩⟩ c z b dX2_init_34 (fun c z b => ?_)
  refine wp_putT (i := 0) (T2 := ((2, 0, [(4, l0.length + 5), (3, l0.length + 4), (2, l0.length + 3), (1, l0.length + 2), (0, l0.length + 1)]) :: ((((([] ++ [(12, N, [])]) ++ [(12, N, [])]) ++ [(12, N, [])]) ++ [(12, N, [])]) ++ [(12, N, [])]))) (j := 6) rfl (by simp only [List.length_cons, List.length_append, List.length_nil, len_bd8]) (by omega) rfl fl_X2_22 (by decide) (by decide) rfl rfl (fun _ => ⟨rfl, rfl⟩) c z b dX2_init_36 (fun c z b => ?_)
  exact wp_vret rfl dX2_init_39 ⟨rfl, rfl, rfl, c, z⟩
def bd0 (n : Nat) : List Ob := ((0, 0, [(4, n + 5), (3, n + 4), (2, n + 3), (1, n + 2), (0, n + 1)]) :: ((((([] ++ [(12, 200, [])]) ++ [(12, 200, [])]) ++ [(12, 200, [])]) ++ [(12, 200, [])]) ++ [(12, 200, [])]))
theorem len_bd0 {n : Nat} : (bd0 n).length = 6 := by
  unfold bd0
  simp only [List.length_cons, List.length_append, List.length_nil, len_bd8, len_bd2]
theorem in_X0 {l : Launch} : Mk l mX0_init 0 1 (5, 1000) [] (bd0) (fun n μ => μ) := by
  intro l0 μ c z b
  refine wp_aload_n (x := l0.length) dX0_init_0 rfl ?_
  refine wp_objI ob_X0 ob_inst ob_code (by omega) (Nat.le_of_ble_eq_true rfl) dX0_init_1 ?_
  refine wp_aload_n (x := l0.length) dX0_init_4 rfl ?_
  refine wp_sipush (nI 200) dX0_init_5 rfl ?_
  refine wp_newaT (T2 := (0, 0, []) :: ([] ++ [(12, 200, [])])) (b2 := (4, 800)) (j := 1) (N := 200) rfl (by decide) ar_int rfl (by simp only [List.length_cons, List.length_append, List.length_nil, len_bd8, len_bd2]) rfl ⟨rfr (by omega), trivial⟩ ⟨rfr (by omega), trivial⟩ c z b dX0_init_8 (fun c z b => ?_)
  refine wp_putT (i := 0) (T2 := ((0, 0, [(0, l0.length + 1)]) :: ([] ++ [(12, 200, [])]))) (j := 2) rfl (by simp only [List.length_cons, List.length_append, List.length_nil, len_bd8, len_bd2]) (by omega) rfl fl_X0_9 (by decide) (by decide) rfl rfl (fun _ => ⟨rfl, rfl⟩) c z b dX0_init_10 (fun c z b => ?_)
  refine wp_aload_n (x := l0.length) dX0_init_13 rfl ?_
  refine wp_sipush (nI 200) dX0_init_14 rfl ?_
  refine wp_newaT (T2 := (0, 0, [(0, l0.length + 1)]) :: (([] ++ [(12, 200, [])]) ++ [(12, 200, [])])) (b2 := (3, 600)) (j := 2) (N := 200) rfl (by decide) ar_int rfl (by simp only [List.length_cons, List.length_append, List.length_nil, len_bd8, len_bd2]) rfl ⟨rfr (by omega), trivial⟩ ⟨rfr (by omega), trivial⟩ c z b dX0_init_17 (fun c z b => ?_)
  refine wp_putT (i := 0) (T2 := ((0, 0, [(1, l0.length + 2), (0, l0.length + 1)]) :: (([] ++ [(12, 200, [])]) ++ [(12, 200, [])]))) (j := 3) rfl (by simp only [List.length_cons, List.length_append, List.length_nil, len_bd8, len_bd2]) (by omega) rfl fl_X0_15 (by decide) (by decide) rfl rfl (fun _ => ⟨rfl, rfl⟩) c z b dX0_init_19 (fun c z b => ?_)
  refine wp_aload_n (x := l0.length) dX0_init_22 rfl ?_
  refine wp_sipush (nI 200) dX0_init_23 rfl ?_
  refine wp_newaT (T2 := (0, 0, [(1, l0.length + 2), (0, l0.length + 1)]) :: ((([] ++ [(12, 200, [])]) ++ [(12, 200, [])]) ++ [(12, 200, [])])) (b2 := (2, 400)) (j := 3) (N := 200) rfl (by decide) ar_int rfl (by simp only [List.length_cons, List.length_append, List.length_nil, len_bd8, len_bd2]) rfl ⟨rfr (by omega), trivial⟩ ⟨rfr (by omega), trivial⟩ c z b dX0_init_26 (fun c z b => ?_)
  refine wp_putT (i := 0) (T2 := ((0, 0, [(2, l0.length + 3), (1, l0.length + 2), (0, l0.length + 1)]) :: ((([] ++ [(12, 200, [])]) ++ [(12, 200, [])]) ++ [(12, 200, [])]))) (j := 4) rfl (by simp only [List.length_cons, List.length_append, List.length_nil, len_bd8, len_bd2]) (by omega) rfl fl_X0_18 (by decide) (by decide) rfl rfl (fun _ => ⟨rfl, rfl⟩) c z b dX0_init_28 (fun c z b => ?_)
  refine wp_aload_n (x := l0.length) dX0_init_31 rfl ?_
  refine wp_sipush (nI 200) dX0_init_32 rfl ?_
  refine wp_newaT (T2 := (0, 0, [(2, l0.length + 3), (1, l0.length + 2), (0, l0.length + 1)]) :: (((([] ++ [(12, 200, [])]) ++ [(12, 200, [])]) ++ [(12, 200, [])]) ++ [(12, 200, [])])) (b2 := (1, 200)) (j := 4) (N := 200) rfl (by decide) ar_int rfl (by simp only [List.length_cons, List.length_append, List.length_nil, len_bd8, len_bd2]) rfl ⟨rfr (by omega), trivial⟩ ⟨rfr (by omega), trivial⟩ c z b dX0_init_35 (fun c z b => ?_)
  refine wp_putT (i := 0) (T2 := ((0, 0, [(3, l0.length + 4), (2, l0.length + 3), (1, l0.length + 2), (0, l0.length + 1)]) :: (((([] ++ [(12, 200, [])]) ++ [(12, 200, [])]) ++ [(12, 200, [])]) ++ [(12, 200, [])]))) (j := 5) rfl (by simp only [List.length_cons, List.length_append, List.length_nil, len_bd8, len_bd2]) (by omega) rfl fl_X0_21 (by decide) (by decide) rfl rfl (fun _ => ⟨rfl, rfl⟩) c z b dX0_init_37 (fun c z b => ?_)
  refine wp_aload_n (x := l0.length) dX0_init_40 rfl ?_
  refine wp_sipush (nI 200) dX0_init_41 rfl ?_
  refine wp_newaT (T2 := (0, 0, [(3, l0.length + 4), (2, l0.length + 3), (1, l0.length + 2), (0, l0.length + 1)]) :: ((((([] ++ [(12, 200, [])]) ++ [(12, 200, [])]) ++ [(12, 200, [])]) ++ [(12, 200, [])]) ++ [(12, 200, [])])) (b2 := (0, 0)) (j := 5) (N := 200) rfl (by decide) ar_int rfl (by simp only [List.length_cons, List.length_append, List.length_nil, len_bd8, len_bd2]) rfl ⟨rfr (by omega), trivial⟩ ⟨rfr (by omega), trivial⟩ c z b dX0_init_44 (fun c z b => ?_)
  refine wp_putT (i := 0) (T2 := ((0, 0, [(4, l0.length + 5), (3, l0.length + 4), (2, l0.length + 3), (1, l0.length + 2), (0, l0.length + 1)]) :: ((((([] ++ [(12, 200, [])]) ++ [(12, 200, [])]) ++ [(12, 200, [])]) ++ [(12, 200, [])]) ++ [(12, 200, [])]))) (j := 6) rfl (by simp only [List.length_cons, List.length_append, List.length_nil, len_bd8, len_bd2]) (by omega) rfl fl_X0_24 (by decide) (by decide) rfl rfl (fun _ => ⟨rfl, rfl⟩) c z b dX0_init_46 (fun c z b => ?_)
  exact wp_vret rfl dX0_init_49 ⟨rfl, rfl, rfl, c, z⟩
def bd1 (n : Nat) : List Ob := ((1, 0, [(4, n + 5), (3, n + 4), (2, n + 3), (1, n + 2), (0, n + 1)]) :: ((((([] ++ [(12, 400, [])]) ++ [(12, 16, [])]) ++ [(12, 16, [])]) ++ [(12, 16, [])]) ++ [(12, 32, [])]))
theorem len_bd1 {n : Nat} : (bd1 n).length = 6 := by
  unfold bd1
  simp only [List.length_cons, List.length_append, List.length_nil, len_bd8, len_bd2, len_bd0]
theorem in_X1 {l : Launch} : Mk l mX1_init 1 1 (5, 480) [] (bd1) (fun n μ => μ) := by
  intro l0 μ c z b
  refine wp_aload_n (x := l0.length) dX1_init_0 rfl ?_
  refine wp_objI ob_X1 ob_inst ob_code (by omega) (Nat.le_of_ble_eq_true rfl) dX1_init_1 ?_
  refine wp_aload_n (x := l0.length) dX1_init_4 rfl ?_
  refine wp_sipush (nI 400) dX1_init_5 rfl ?_
  refine wp_newaT (T2 := (1, 0, []) :: ([] ++ [(12, 400, [])])) (b2 := (4, 80)) (j := 1) (N := 400) rfl (by decide) ar_int rfl (by simp only [List.length_cons, List.length_append, List.length_nil, len_bd8, len_bd2, len_bd0]) rfl ⟨rfr (by omega), trivial⟩ ⟨rfr (by omega), trivial⟩ c z b dX1_init_8 (fun c z b => ?_)
  refine wp_putT (i := 0) (T2 := ((1, 0, [(0, l0.length + 1)]) :: ([] ++ [(12, 400, [])]))) (j := 2) rfl (by simp only [List.length_cons, List.length_append, List.length_nil, len_bd8, len_bd2, len_bd0]) (by omega) rfl fl_X1_9 (by decide) (by decide) rfl rfl (fun _ => ⟨rfl, rfl⟩) c z b dX1_init_10 (fun c z b => ?_)
  refine wp_aload_n (x := l0.length) dX1_init_13 rfl ?_
  refine wp_bipush (nI 16) dX1_init_14 rfl ?_
  refine wp_newaT (T2 := (1, 0, [(0, l0.length + 1)]) :: (([] ++ [(12, 400, [])]) ++ [(12, 16, [])])) (b2 := (3, 64)) (j := 2) (N := 16) rfl (by decide) ar_int rfl (by simp only [List.length_cons, List.length_append, List.length_nil, len_bd8, len_bd2, len_bd0]) rfl ⟨rfr (by omega), trivial⟩ ⟨rfr (by omega), trivial⟩ c z b dX1_init_16 (fun c z b => ?_)
  refine wp_putT (i := 0) (T2 := ((1, 0, [(1, l0.length + 2), (0, l0.length + 1)]) :: (([] ++ [(12, 400, [])]) ++ [(12, 16, [])]))) (j := 3) rfl (by simp only [List.length_cons, List.length_append, List.length_nil, len_bd8, len_bd2, len_bd0]) (by omega) rfl fl_X1_15 (by decide) (by decide) rfl rfl (fun _ => ⟨rfl, rfl⟩) c z b dX1_init_18 (fun c z b => ?_)
  refine wp_aload_n (x := l0.length) dX1_init_21 rfl ?_
  refine wp_bipush (nI 16) dX1_init_22 rfl ?_
  refine wp_newaT (T2 := (1, 0, [(1, l0.length + 2), (0, l0.length + 1)]) :: ((([] ++ [(12, 400, [])]) ++ [(12, 16, [])]) ++ [(12, 16, [])])) (b2 := (2, 48)) (j := 3) (N := 16) rfl (by decide) ar_int rfl (by simp only [List.length_cons, List.length_append, List.length_nil, len_bd8, len_bd2, len_bd0]) rfl ⟨rfr (by omega), trivial⟩ ⟨rfr (by omega), trivial⟩ c z b dX1_init_24 (fun c z b => ?_)
  refine wp_putT (i := 0) (T2 := ((1, 0, [(2, l0.length + 3), (1, l0.length + 2), (0, l0.length + 1)]) :: ((([] ++ [(12, 400, [])]) ++ [(12, 16, [])]) ++ [(12, 16, [])]))) (j := 4) rfl (by simp only [List.length_cons, List.length_append, List.length_nil, len_bd8, len_bd2, len_bd0]) (by omega) rfl fl_X1_18 (by decide) (by decide) rfl rfl (fun _ => ⟨rfl, rfl⟩) c z b dX1_init_26 (fun c z b => ?_)
  refine wp_aload_n (x := l0.length) dX1_init_29 rfl ?_
  refine wp_bipush (nI 16) dX1_init_30 rfl ?_
  refine wp_newaT (T2 := (1, 0, [(2, l0.length + 3), (1, l0.length + 2), (0, l0.length + 1)]) :: (((([] ++ [(12, 400, [])]) ++ [(12, 16, [])]) ++ [(12, 16, [])]) ++ [(12, 16, [])])) (b2 := (1, 32)) (j := 4) (N := 16) rfl (by decide) ar_int rfl (by simp only [List.length_cons, List.length_append, List.length_nil, len_bd8, len_bd2, len_bd0]) rfl ⟨rfr (by omega), trivial⟩ ⟨rfr (by omega), trivial⟩ c z b dX1_init_32 (fun c z b => ?_)
  refine wp_putT (i := 0) (T2 := ((1, 0, [(3, l0.length + 4), (2, l0.length + 3), (1, l0.length + 2), (0, l0.length + 1)]) :: (((([] ++ [(12, 400, [])]) ++ [(12, 16, [])]) ++ [(12, 16, [])]) ++ [(12, 16, [])]))) (j := 5) rfl (by simp only [List.length_cons, List.length_append, List.length_nil, len_bd8, len_bd2, len_bd0]) (by omega) rfl fl_X1_21 (by decide) (by decide) rfl rfl (fun _ => ⟨rfl, rfl⟩) c z b dX1_init_34 (fun c z b => ?_)
  refine wp_aload_n (x := l0.length) dX1_init_37 rfl ?_
  refine wp_bipush (nI 32) dX1_init_38 rfl ?_
  refine wp_newaT (T2 := (1, 0, [(3, l0.length + 4), (2, l0.length + 3), (1, l0.length + 2), (0, l0.length + 1)]) :: ((((([] ++ [(12, 400, [])]) ++ [(12, 16, [])]) ++ [(12, 16, [])]) ++ [(12, 16, [])]) ++ [(12, 32, [])])) (b2 := (0, 0)) (j := 5) (N := 32) rfl (by decide) ar_int rfl (by simp only [List.length_cons, List.length_append, List.length_nil, len_bd8, len_bd2, len_bd0]) rfl ⟨rfr (by omega), trivial⟩ ⟨rfr (by omega), trivial⟩ c z b dX1_init_40 (fun c z b => ?_)
  refine wp_putT (i := 0) (T2 := ((1, 0, [(4, l0.length + 5), (3, l0.length + 4), (2, l0.length + 3), (1, l0.length + 2), (0, l0.length + 1)]) :: ((((([] ++ [(12, 400, [])]) ++ [(12, 16, [])]) ++ [(12, 16, [])]) ++ [(12, 16, [])]) ++ [(12, 32, [])]))) (j := 6) rfl (by simp only [List.length_cons, List.length_append, List.length_nil, len_bd8, len_bd2, len_bd0]) (by omega) rfl fl_X1_24 (by decide) (by decide) rfl rfl (fun _ => ⟨rfl, rfl⟩) c z b dX1_init_42 (fun c z b => ?_)
  exact wp_vret rfl dX1_init_45 ⟨rfl, rfl, rfl, c, z⟩
def bd4 (n : Nat) : List Ob := ((4, 0, [(0, n + 1)]) :: ([] ++ [(12, 8, [])]))
theorem len_bd4 {n : Nat} : (bd4 n).length = 2 := by
  unfold bd4
  simp only [List.length_cons, List.length_append, List.length_nil, len_bd8, len_bd2, len_bd0, len_bd1]
theorem in_X4 {l : Launch} : Mk l mX4_init 4 1 (1, 8) [] (bd4) (fun n μ => μ) := by
  intro l0 μ c z b
  refine wp_aload_n (x := l0.length) dX4_init_0 rfl ?_
  refine wp_objI ob_X4 ob_inst ob_code (by omega) (Nat.le_of_ble_eq_true rfl) dX4_init_1 ?_
  refine wp_aload_n (x := l0.length) dX4_init_4 rfl ?_
  refine wp_bipush (nI 8) dX4_init_5 rfl ?_
  refine wp_newaT (T2 := (4, 0, []) :: ([] ++ [(12, 8, [])])) (b2 := (0, 0)) (j := 1) (N := 8) rfl (by decide) ar_int rfl (by simp only [List.length_cons, List.length_append, List.length_nil, len_bd8, len_bd2, len_bd0, len_bd1]) rfl ⟨rfr (by omega), trivial⟩ ⟨rfr (by omega), trivial⟩ c z b dX4_init_7 (fun c z b => ?_)
  refine wp_putT (i := 0) (T2 := ((4, 0, [(0, l0.length + 1)]) :: ([] ++ [(12, 8, [])]))) (j := 2) rfl (by simp only [List.length_cons, List.length_append, List.length_nil, len_bd8, len_bd2, len_bd0, len_bd1]) (by omega) rfl fl_X4_9 (by decide) (by decide) rfl rfl (fun _ => ⟨rfl, rfl⟩) c z b dX4_init_9 (fun c z b => ?_)
  exact wp_vret rfl dX4_init_12 ⟨rfl, rfl, rfl, c, z⟩
def bd5 (n : Nat) : List Ob := ((5, 0, [(0, n + 1)]) :: ([] ++ [(12, 36, [])]))
theorem len_bd5 {n : Nat} : (bd5 n).length = 2 := by
  unfold bd5
  simp only [List.length_cons, List.length_append, List.length_nil, len_bd8, len_bd2, len_bd0, len_bd1, len_bd4]
theorem in_X5 {l : Launch} : Mk l mX5_init 5 2 (1, 36) [] (bd5) (fun n μ => fil μ (n + 1) 36) := by
  intro l0 μ c z b
  refine wp_aload_n (x := l0.length) dX5_init_0 rfl ?_
  refine wp_objI ob_X5 ob_inst ob_code (by omega) (Nat.le_of_ble_eq_true rfl) dX5_init_1 ?_
  refine wp_aload_n (x := l0.length) dX5_init_4 rfl ?_
  refine wp_bipush (nI 36) dX5_init_5 rfl ?_
  refine wp_newaT (T2 := (5, 0, []) :: ([] ++ [(12, 36, [])])) (b2 := (0, 0)) (j := 1) (N := 36) rfl (by decide) ar_int rfl (by simp only [List.length_cons, List.length_append, List.length_nil, len_bd8, len_bd2, len_bd0, len_bd1, len_bd4]) rfl ⟨rfr (by omega), trivial⟩ ⟨rfr (by omega), trivial⟩ c z b dX5_init_7 (fun c z b => ?_)
  refine wp_putT (i := 0) (T2 := ((5, 0, [(0, l0.length + 1)]) :: ([] ++ [(12, 36, [])]))) (j := 2) rfl (by simp only [List.length_cons, List.length_append, List.length_nil, len_bd8, len_bd2, len_bd0, len_bd1, len_bd4]) (by omega) rfl fl_X5_9 (by decide) (by decide) rfl rfl (fun _ => ⟨rfl, rfl⟩) c z b dX5_init_9 (fun c z b => ?_)
  refine wp_aload_n (x := l0.length) dX5_init_12 rfl ?_
  refine wp_getR (l0.length + 1) fl_X5_9 (by decide) (by decide) (kT (i := 0) (T := ((5, 0, [(0, l0.length + 1)]) :: ([] ++ [(12, 36, [])]))) rfl).2.2 (kT (i := 0) (T := ((5, 0, [(0, l0.length + 1)]) :: ([] ++ [(12, 36, [])]))) rfl).1 (rT (i := 0) (T := ((5, 0, [(0, l0.length + 1)]) :: ([] ++ [(12, 36, [])]))) rfl rfl) dX5_init_13 ?_
  refine wp_iconst (nI 1) dX5_init_16 rfl ?_
  refine wp_cSv (d := 1) cs_X5_15 (as := [.ref (l0.length + 1), .int (nI 1)]) (rest := []) dX5_init_17 (by omega) c.sh rfl rfl (Nat.le_of_ble_eq_true rfl) (Nat.le_of_ble_eq_true rfl) (ok_JA_fill (wfT _) (by omega) (l0.length + 1) (kT (i := 1) (T := ((5, 0, [(0, l0.length + 1)]) :: ([] ++ [(12, 36, [])]))) rfl).1 (nI 1) μ (fil_is (kT (i := 1) (T := ((5, 0, [(0, l0.length + 1)]) :: ([] ++ [(12, 36, [])]))) rfl).2.1)) ?_ rfl
  have z : zM (l0 ++ ((5, 0, [(0, l0.length + 1)]) :: ([] ++ [(12, 36, [])]))).length (fil μ (l0.length + 1) 36) := z.fil (by rw [lT (j := 2) (by simp only [List.length_cons, List.length_append, List.length_nil, len_bd8, len_bd2, len_bd0, len_bd1, len_bd4])]; omega)
  exact wp_vret rfl dX5_init_20 ⟨rfl, rfl, rfl, c, z⟩
def bd3 (n : Nat) : List Ob := ((3, 0, [(2, n + 3), (1, n + 2), (0, n + 1)]) :: ((([] ++ [(12, 6, [])]) ++ [(12, 9, [])]) ++ bd2 3 (n + 3)))
theorem len_bd3 {n : Nat} : (bd3 n).length = 9 := by
  unfold bd3
  simp only [List.length_cons, List.length_append, List.length_nil, len_bd8, len_bd2, len_bd0, len_bd1, len_bd4, len_bd5]
theorem in_X3 {l : Launch} : Mk l mX3_init 3 2 (8, 36) [] (bd3) (fun n μ => μ) := by
  intro l0 μ c z b
  refine wp_aload_n (x := l0.length) dX3_init_0 rfl ?_
  refine wp_objI ob_X3 ob_inst ob_code (by omega) (Nat.le_of_ble_eq_true rfl) dX3_init_1 ?_
  refine wp_aload_n (x := l0.length) dX3_init_4 rfl ?_
  refine wp_bipush (nI 6) dX3_init_5 rfl ?_
  refine wp_newaT (T2 := (3, 0, []) :: ([] ++ [(12, 6, [])])) (b2 := (7, 30)) (j := 1) (N := 6) rfl (by decide) ar_int rfl (by simp only [List.length_cons, List.length_append, List.length_nil, len_bd8, len_bd2, len_bd0, len_bd1, len_bd4, len_bd5]) rfl ⟨rfr (by omega), trivial⟩ ⟨rfr (by omega), trivial⟩ c z b dX3_init_7 (fun c z b => ?_)
  refine wp_putT (i := 0) (T2 := ((3, 0, [(0, l0.length + 1)]) :: ([] ++ [(12, 6, [])]))) (j := 2) rfl (by simp only [List.length_cons, List.length_append, List.length_nil, len_bd8, len_bd2, len_bd0, len_bd1, len_bd4, len_bd5]) (by omega) rfl fl_X3_9 (by decide) (by decide) rfl rfl (fun _ => ⟨rfl, rfl⟩) c z b dX3_init_9 (fun c z b => ?_)
  refine wp_aload_n (x := l0.length) dX3_init_12 rfl ?_
  refine wp_bipush (nI 9) dX3_init_13 rfl ?_
  refine wp_newaT (T2 := (3, 0, [(0, l0.length + 1)]) :: (([] ++ [(12, 6, [])]) ++ [(12, 9, [])])) (b2 := (6, 21)) (j := 2) (N := 9) rfl (by decide) ar_int rfl (by simp only [List.length_cons, List.length_append, List.length_nil, len_bd8, len_bd2, len_bd0, len_bd1, len_bd4, len_bd5]) rfl ⟨rfr (by omega), trivial⟩ ⟨rfr (by omega), trivial⟩ c z b dX3_init_15 (fun c z b => ?_)
  refine wp_putT (i := 0) (T2 := ((3, 0, [(1, l0.length + 2), (0, l0.length + 1)]) :: (([] ++ [(12, 6, [])]) ++ [(12, 9, [])]))) (j := 3) rfl (by simp only [List.length_cons, List.length_append, List.length_nil, len_bd8, len_bd2, len_bd0, len_bd1, len_bd4, len_bd5]) (by omega) rfl fl_X3_15 (by decide) (by decide) rfl rfl (fun _ => ⟨rfl, rfl⟩) c z b dX3_init_17 (fun c z b => ?_)
  refine wp_aload_n (x := l0.length) dX3_init_20 rfl ?_
  refine wp_newT (T2 := (3, 0, [(1, l0.length + 2), (0, l0.length + 1)]) :: ((([] ++ [(12, 6, [])]) ++ [(12, 9, [])]) ++ [(2, 0, [])])) (b2 := (5, 15)) (j := 3) (c := 2) (Tt := TX2) (C := RX2) tyX2 rfl (by decide) uw2 tyX2_ok df_X2_init nw_X3_18.1 nw_X3_18.2.1 nw_X3_18.2.2 rfl (by simp only [List.length_cons, List.length_append, List.length_nil, len_bd8, len_bd2, len_bd0, len_bd1, len_bd4, len_bd5]) rfl ⟨rfr (by omega), trivial⟩ ⟨rfr (by omega), trivial⟩ c z b dX3_init_21 (fun c z b => ?_)
  refine wp_dup dX3_init_24 rfl ?_
  refine wp_iconst (nI 3) dX3_init_25 rfl ?_
  refine wp_initT (T2 := (3, 0, [(1, l0.length + 2), (0, l0.length + 1)]) :: ((([] ++ [(12, 6, [])]) ++ [(12, 9, [])]) ++ bd2 3 (l0.length + 3))) (b1 := (5, 0 + 3 + 3 + 3 + 3 + 3)) (b2 := (0, 0)) (d1 := 1) (j := 3) (as := [.int (nI 3)]) (rest := [(.ref (l0.length + 3)), (.ref l0.length)]) (T0 := (3, 0, [(1, l0.length + 2), (0, l0.length + 1)]) :: (([] ++ [(12, 6, [])]) ++ [(12, 9, [])])) (in_X2 3 (by decide)) mw_X2_init il_X3_20 im_X2_init rfl rfl dX3_init_26 (by omega) rfl (cats_of rfl) (Nat.le_of_ble_eq_true rfl) (Nat.le_of_ble_eq_true rfl) rfl (by simp only [List.length_cons, List.length_append, List.length_nil, len_bd8, len_bd2, len_bd0, len_bd1, len_bd4, len_bd5]) rfl (fun n => len_bd2) rfl rfl ⟨rfr (by omega), ⟨rfr (by omega), trivial⟩⟩ ⟨rfr (by omega), trivial⟩ c z b rfl (fun c z b => ?_)
  refine wp_putT (i := 0) (T2 := ((3, 0, [(2, l0.length + 3), (1, l0.length + 2), (0, l0.length + 1)]) :: ((([] ++ [(12, 6, [])]) ++ [(12, 9, [])]) ++ bd2 3 (l0.length + 3)))) (j := 9) rfl (by simp only [List.length_cons, List.length_append, List.length_nil, len_bd8, len_bd2, len_bd0, len_bd1, len_bd4, len_bd5]) (by omega) rfl fl_X3_23 (by decide) (by decide) rfl rfl (fun _ => ⟨rfl, rfl⟩) c z b dX3_init_29 (fun c z b => ?_)
  exact wp_vret rfl dX3_init_32 ⟨rfl, rfl, rfl, c, z⟩
def mf7 (n : Nat) (μ : Mm) : Mm := (fil μ ((n + 13) + 1) 36)
def bd7 (n : Nat) : List Ob := ((7, 0, [(2, n + 13), (1, n + 7), (0, n + 1)]) :: ((([] ++ bd1 (n + 1)) ++ bd1 (n + 7)) ++ bd5 (n + 13)))
theorem len_bd7 {n : Nat} : (bd7 n).length = 15 := by
  unfold bd7
  simp only [List.length_cons, List.length_append, List.length_nil, len_bd8, len_bd2, len_bd0, len_bd1, len_bd4, len_bd5, len_bd3]
theorem in_X7 {l : Launch} : Mk l mX7_init 7 3 (14, 1012) [] (bd7) (fun n μ => mf7 n μ) := by
  intro l0 μ c z b
  refine wp_aload_n (x := l0.length) dX7_init_0 rfl ?_
  refine wp_objI ob_X7 ob_inst ob_code (by omega) (Nat.le_of_ble_eq_true rfl) dX7_init_1 ?_
  refine wp_aload_n (x := l0.length) dX7_init_4 rfl ?_
  refine wp_newT (T2 := (7, 0, []) :: ([] ++ [(1, 0, [])])) (b2 := (13, 1005)) (j := 1) (c := 1) (Tt := TX1) (C := RX1) tyX1 rfl (by decide) uw1 tyX1_ok df_X1_init nw_X7_7.1 nw_X7_7.2.1 nw_X7_7.2.2 rfl (by simp only [List.length_cons, List.length_append, List.length_nil, len_bd8, len_bd2, len_bd0, len_bd1, len_bd4, len_bd5, len_bd3]) rfl ⟨rfr (by omega), trivial⟩ ⟨rfr (by omega), trivial⟩ c z b dX7_init_5 (fun c z b => ?_)
  refine wp_dup dX7_init_8 rfl ?_
  refine wp_initTN (T2 := (7, 0, []) :: ([] ++ bd1 (l0.length + 1))) (b1 := (5, 480)) (b2 := (8, 525)) (d1 := 1) (j := 1) (as := []) (rest := [(.ref (l0.length + 1)), (.ref l0.length)]) (T0 := (7, 0, []) :: []) (in_X1) mw_X1_init (host := "NineCopies") (by decide) im_X1_init rfl rfl dX7_init_9 (by omega) rfl (cats_of rfl) (Nat.le_of_ble_eq_true rfl) (Nat.le_of_ble_eq_true rfl) rfl (by simp only [List.length_cons, List.length_append, List.length_nil, len_bd8, len_bd2, len_bd0, len_bd1, len_bd4, len_bd5, len_bd3]) rfl (fun n => len_bd1) rfl rfl ⟨rfr (by omega), ⟨rfr (by omega), trivial⟩⟩ ⟨rfr (by omega), trivial⟩ c z b rfl (fun c z b => ?_)
  refine wp_putT (i := 0) (T2 := ((7, 0, [(0, l0.length + 1)]) :: ([] ++ bd1 (l0.length + 1)))) (j := 7) rfl (by simp only [List.length_cons, List.length_append, List.length_nil, len_bd8, len_bd2, len_bd0, len_bd1, len_bd4, len_bd5, len_bd3]) (by omega) rfl fl_X7_10 (by decide) (by decide) rfl rfl (fun _ => ⟨rfl, rfl⟩) c z b dX7_init_12 (fun c z b => ?_)
  refine wp_aload_n (x := l0.length) dX7_init_15 rfl ?_
  refine wp_newT (T2 := (7, 0, [(0, l0.length + 1)]) :: (([] ++ bd1 (l0.length + 1)) ++ [(1, 0, [])])) (b2 := (7, 518)) (j := 7) (c := 1) (Tt := TX1) (C := RX1) tyX1 rfl (by decide) uw1 tyX1_ok df_X1_init nw_X7_7.1 nw_X7_7.2.1 nw_X7_7.2.2 rfl (by simp only [List.length_cons, List.length_append, List.length_nil, len_bd8, len_bd2, len_bd0, len_bd1, len_bd4, len_bd5, len_bd3]) rfl ⟨rfr (by omega), trivial⟩ ⟨rfr (by omega), trivial⟩ c z b dX7_init_16 (fun c z b => ?_)
  refine wp_dup dX7_init_19 rfl ?_
  refine wp_initTN (T2 := (7, 0, [(0, l0.length + 1)]) :: (([] ++ bd1 (l0.length + 1)) ++ bd1 (l0.length + 7))) (b1 := (5, 480)) (b2 := (2, 38)) (d1 := 1) (j := 7) (as := []) (rest := [(.ref (l0.length + 7)), (.ref l0.length)]) (T0 := (7, 0, [(0, l0.length + 1)]) :: ([] ++ bd1 (l0.length + 1))) (in_X1) mw_X1_init (host := "NineCopies") (by decide) im_X1_init rfl rfl dX7_init_20 (by omega) rfl (cats_of rfl) (Nat.le_of_ble_eq_true rfl) (Nat.le_of_ble_eq_true rfl) rfl (by simp only [List.length_cons, List.length_append, List.length_nil, len_bd8, len_bd2, len_bd0, len_bd1, len_bd4, len_bd5, len_bd3]) rfl (fun n => len_bd1) rfl rfl ⟨rfr (by omega), ⟨rfr (by omega), trivial⟩⟩ ⟨rfr (by omega), trivial⟩ c z b rfl (fun c z b => ?_)
  refine wp_putT (i := 0) (T2 := ((7, 0, [(1, l0.length + 7), (0, l0.length + 1)]) :: (([] ++ bd1 (l0.length + 1)) ++ bd1 (l0.length + 7)))) (j := 13) rfl (by simp only [List.length_cons, List.length_append, List.length_nil, len_bd8, len_bd2, len_bd0, len_bd1, len_bd4, len_bd5, len_bd3]) (by omega) rfl fl_X7_16 (by decide) (by decide) rfl rfl (fun _ => ⟨rfl, rfl⟩) c z b dX7_init_23 (fun c z b => ?_)
  refine wp_aload_n (x := l0.length) dX7_init_26 rfl ?_
  refine wp_newT (T2 := (7, 0, [(1, l0.length + 7), (0, l0.length + 1)]) :: ((([] ++ bd1 (l0.length + 1)) ++ bd1 (l0.length + 7)) ++ [(5, 0, [])])) (b2 := (1, 36)) (j := 13) (c := 5) (Tt := TX5) (C := RX5) tyX5 rfl (by decide) uw5 tyX5_ok df_X5_init nw_X7_19.1 nw_X7_19.2.1 nw_X7_19.2.2 rfl (by simp only [List.length_cons, List.length_append, List.length_nil, len_bd8, len_bd2, len_bd0, len_bd1, len_bd4, len_bd5, len_bd3]) rfl ⟨rfr (by omega), trivial⟩ ⟨rfr (by omega), trivial⟩ c z b dX7_init_27 (fun c z b => ?_)
  refine wp_dup dX7_init_30 rfl ?_
  refine wp_initT (T2 := (7, 0, [(1, l0.length + 7), (0, l0.length + 1)]) :: ((([] ++ bd1 (l0.length + 1)) ++ bd1 (l0.length + 7)) ++ bd5 (l0.length + 13))) (b1 := (1, 36)) (b2 := (0, 0)) (d1 := 2) (j := 13) (as := []) (rest := [(.ref (l0.length + 13)), (.ref l0.length)]) (T0 := (7, 0, [(1, l0.length + 7), (0, l0.length + 1)]) :: (([] ++ bd1 (l0.length + 1)) ++ bd1 (l0.length + 7))) (in_X5) mw_X5_init il_X7_21 im_X5_init rfl rfl dX7_init_31 (by omega) rfl (cats_of rfl) (Nat.le_of_ble_eq_true rfl) (Nat.le_of_ble_eq_true rfl) rfl (by simp only [List.length_cons, List.length_append, List.length_nil, len_bd8, len_bd2, len_bd0, len_bd1, len_bd4, len_bd5, len_bd3]) rfl (fun n => len_bd5) rfl rfl ⟨rfr (by omega), ⟨rfr (by omega), trivial⟩⟩ ⟨rfr (by omega), trivial⟩ c z b rfl (fun c z b => ?_)
  refine wp_putT (i := 0) (T2 := ((7, 0, [(2, l0.length + 13), (1, l0.length + 7), (0, l0.length + 1)]) :: ((([] ++ bd1 (l0.length + 1)) ++ bd1 (l0.length + 7)) ++ bd5 (l0.length + 13)))) (j := 15) rfl (by simp only [List.length_cons, List.length_append, List.length_nil, len_bd8, len_bd2, len_bd0, len_bd1, len_bd4, len_bd5, len_bd3]) (by omega) rfl fl_X7_22 (by decide) (by decide) rfl rfl (fun _ => ⟨rfl, rfl⟩) c z b dX7_init_34 (fun c z b => ?_)
  exact wp_vret rfl dX7_init_37 ⟨rfl, rfl, rfl, c, z⟩
def mf6 (n : Nat) (μ : Mm) : Mm := (fil (sti μ n 3 (-1)) ((n + 11) + 1) 36)
def bd6 (n : Nat) : List Ob := ((6, 0, [(10, n + 11), (9, n + 5), (6, n + 4), (5, n + 3), (4, n + 2), (0, n + 1)]) :: (((((([] ++ [(12, 400, [])]) ++ [(12, 401, [])]) ++ [(12, 401, [])]) ++ [(12, 401, [])]) ++ bd1 (n + 5)) ++ bd5 (n + 11)))
theorem len_bd6 {n : Nat} : (bd6 n).length = 13 := by
  unfold bd6
  simp only [List.length_cons, List.length_append, List.length_nil, len_bd8, len_bd2, len_bd0, len_bd1, len_bd4, len_bd5, len_bd3, len_bd7]
theorem in_X6 {l : Launch} : Mk l mX6_init 6 3 (12, 2128) [] (bd6) (fun n μ => mf6 n μ) := by
  intro l0 μ c z b
  refine wp_aload_n (x := l0.length) dX6_init_0 rfl ?_
  refine wp_objI ob_X6 ob_inst ob_code (by omega) (Nat.le_of_ble_eq_true rfl) dX6_init_1 ?_
  refine wp_aload_n (x := l0.length) dX6_init_4 rfl ?_
  refine wp_sipush (nI 400) dX6_init_5 rfl ?_
  refine wp_newaT (T2 := (6, 0, []) :: ([] ++ [(12, 400, [])])) (b2 := (11, 1728)) (j := 1) (N := 400) rfl (by decide) ar_int rfl (by simp only [List.length_cons, List.length_append, List.length_nil, len_bd8, len_bd2, len_bd0, len_bd1, len_bd4, len_bd5, len_bd3, len_bd7]) rfl ⟨rfr (by omega), trivial⟩ ⟨rfr (by omega), trivial⟩ c z b dX6_init_8 (fun c z b => ?_)
  refine wp_putT (i := 0) (T2 := ((6, 0, [(0, l0.length + 1)]) :: ([] ++ [(12, 400, [])]))) (j := 2) rfl (by simp only [List.length_cons, List.length_append, List.length_nil, len_bd8, len_bd2, len_bd0, len_bd1, len_bd4, len_bd5, len_bd3, len_bd7]) (by omega) rfl fl_X6_9 (by decide) (by decide) rfl rfl (fun _ => ⟨rfl, rfl⟩) c z b dX6_init_10 (fun c z b => ?_)
  refine wp_aload_n (x := l0.length) dX6_init_13 rfl ?_
  refine wp_iconst (-1) dX6_init_14 rfl ?_
  refine wp_putIe (μ2 := (sti μ l0.length 3 (-1))) rfl fl_X6_15 (by decide) rfl (kT (i := 0) (T := ((6, 0, [(0, l0.length + 1)]) :: ([] ++ [(12, 400, [])]))) rfl).2.2 (kT (i := 0) (T := ((6, 0, [(0, l0.length + 1)]) :: ([] ++ [(12, 400, [])]))) rfl).1 dX6_init_15 ?_
  have z : zM (l0 ++ ((6, 0, [(0, l0.length + 1)]) :: ([] ++ [(12, 400, [])]))).length (sti μ l0.length 3 (-1)) := zM.sti z (by rw [lT (j := 2) (by simp only [List.length_cons, List.length_append, List.length_nil, len_bd8, len_bd2, len_bd0, len_bd1, len_bd4, len_bd5, len_bd3, len_bd7])]; omega)
  refine wp_aload_n (x := l0.length) dX6_init_18 rfl ?_
  refine wp_sipush (nI 401) dX6_init_19 rfl ?_
  refine wp_newaT (T2 := (6, 0, [(0, l0.length + 1)]) :: (([] ++ [(12, 400, [])]) ++ [(12, 401, [])])) (b2 := (10, 1327)) (j := 2) (N := 401) rfl (by decide) ar_int rfl (by simp only [List.length_cons, List.length_append, List.length_nil, len_bd8, len_bd2, len_bd0, len_bd1, len_bd4, len_bd5, len_bd3, len_bd7]) rfl ⟨rfr (by omega), trivial⟩ ⟨rfr (by omega), trivial⟩ c z b dX6_init_22 (fun c z b => ?_)
  refine wp_putT (i := 0) (T2 := ((6, 0, [(4, l0.length + 2), (0, l0.length + 1)]) :: (([] ++ [(12, 400, [])]) ++ [(12, 401, [])]))) (j := 3) rfl (by simp only [List.length_cons, List.length_append, List.length_nil, len_bd8, len_bd2, len_bd0, len_bd1, len_bd4, len_bd5, len_bd3, len_bd7]) (by omega) rfl fl_X6_19 (by decide) (by decide) rfl rfl (fun _ => ⟨rfl, rfl⟩) c z b dX6_init_24 (fun c z b => ?_)
  refine wp_aload_n (x := l0.length) dX6_init_27 rfl ?_
  refine wp_sipush (nI 401) dX6_init_28 rfl ?_
  refine wp_newaT (T2 := (6, 0, [(4, l0.length + 2), (0, l0.length + 1)]) :: ((([] ++ [(12, 400, [])]) ++ [(12, 401, [])]) ++ [(12, 401, [])])) (b2 := (9, 926)) (j := 3) (N := 401) rfl (by decide) ar_int rfl (by simp only [List.length_cons, List.length_append, List.length_nil, len_bd8, len_bd2, len_bd0, len_bd1, len_bd4, len_bd5, len_bd3, len_bd7]) rfl ⟨rfr (by omega), trivial⟩ ⟨rfr (by omega), trivial⟩ c z b dX6_init_31 (fun c z b => ?_)
  refine wp_putT (i := 0) (T2 := ((6, 0, [(5, l0.length + 3), (4, l0.length + 2), (0, l0.length + 1)]) :: ((([] ++ [(12, 400, [])]) ++ [(12, 401, [])]) ++ [(12, 401, [])]))) (j := 4) rfl (by simp only [List.length_cons, List.length_append, List.length_nil, len_bd8, len_bd2, len_bd0, len_bd1, len_bd4, len_bd5, len_bd3, len_bd7]) (by omega) rfl fl_X6_22 (by decide) (by decide) rfl rfl (fun _ => ⟨rfl, rfl⟩) c z b dX6_init_33 (fun c z b => ?_)
  refine wp_aload_n (x := l0.length) dX6_init_36 rfl ?_
  refine wp_sipush (nI 401) dX6_init_37 rfl ?_
  refine wp_newaT (T2 := (6, 0, [(5, l0.length + 3), (4, l0.length + 2), (0, l0.length + 1)]) :: (((([] ++ [(12, 400, [])]) ++ [(12, 401, [])]) ++ [(12, 401, [])]) ++ [(12, 401, [])])) (b2 := (8, 525)) (j := 4) (N := 401) rfl (by decide) ar_int rfl (by simp only [List.length_cons, List.length_append, List.length_nil, len_bd8, len_bd2, len_bd0, len_bd1, len_bd4, len_bd5, len_bd3, len_bd7]) rfl ⟨rfr (by omega), trivial⟩ ⟨rfr (by omega), trivial⟩ c z b dX6_init_40 (fun c z b => ?_)
  refine wp_putT (i := 0) (T2 := ((6, 0, [(6, l0.length + 4), (5, l0.length + 3), (4, l0.length + 2), (0, l0.length + 1)]) :: (((([] ++ [(12, 400, [])]) ++ [(12, 401, [])]) ++ [(12, 401, [])]) ++ [(12, 401, [])]))) (j := 5) rfl (by simp only [List.length_cons, List.length_append, List.length_nil, len_bd8, len_bd2, len_bd0, len_bd1, len_bd4, len_bd5, len_bd3, len_bd7]) (by omega) rfl fl_X6_25 (by decide) (by decide) rfl rfl (fun _ => ⟨rfl, rfl⟩) c z b dX6_init_42 (fun c z b => ?_)
  refine wp_aload_n (x := l0.length) dX6_init_45 rfl ?_
  refine wp_newT (T2 := (6, 0, [(6, l0.length + 4), (5, l0.length + 3), (4, l0.length + 2), (0, l0.length + 1)]) :: ((((([] ++ [(12, 400, [])]) ++ [(12, 401, [])]) ++ [(12, 401, [])]) ++ [(12, 401, [])]) ++ [(1, 0, [])])) (b2 := (7, 518)) (j := 5) (c := 1) (Tt := TX1) (C := RX1) tyX1 rfl (by decide) uw1 tyX1_ok df_X1_init nw_X6_28.1 nw_X6_28.2.1 nw_X6_28.2.2 rfl (by simp only [List.length_cons, List.length_append, List.length_nil, len_bd8, len_bd2, len_bd0, len_bd1, len_bd4, len_bd5, len_bd3, len_bd7]) rfl ⟨rfr (by omega), trivial⟩ ⟨rfr (by omega), trivial⟩ c z b dX6_init_46 (fun c z b => ?_)
  refine wp_dup dX6_init_49 rfl ?_
  refine wp_initTN (T2 := (6, 0, [(6, l0.length + 4), (5, l0.length + 3), (4, l0.length + 2), (0, l0.length + 1)]) :: ((((([] ++ [(12, 400, [])]) ++ [(12, 401, [])]) ++ [(12, 401, [])]) ++ [(12, 401, [])]) ++ bd1 (l0.length + 5))) (b1 := (5, 480)) (b2 := (2, 38)) (d1 := 1) (j := 5) (as := []) (rest := [(.ref (l0.length + 5)), (.ref l0.length)]) (T0 := (6, 0, [(6, l0.length + 4), (5, l0.length + 3), (4, l0.length + 2), (0, l0.length + 1)]) :: (((([] ++ [(12, 400, [])]) ++ [(12, 401, [])]) ++ [(12, 401, [])]) ++ [(12, 401, [])])) (in_X1) mw_X1_init (host := "NineCopies") (by decide) im_X1_init rfl rfl dX6_init_50 (by omega) rfl (cats_of rfl) (Nat.le_of_ble_eq_true rfl) (Nat.le_of_ble_eq_true rfl) rfl (by simp only [List.length_cons, List.length_append, List.length_nil, len_bd8, len_bd2, len_bd0, len_bd1, len_bd4, len_bd5, len_bd3, len_bd7]) rfl (fun n => len_bd1) rfl rfl ⟨rfr (by omega), ⟨rfr (by omega), trivial⟩⟩ ⟨rfr (by omega), trivial⟩ c z b rfl (fun c z b => ?_)
  refine wp_putT (i := 0) (T2 := ((6, 0, [(9, l0.length + 5), (6, l0.length + 4), (5, l0.length + 3), (4, l0.length + 2), (0, l0.length + 1)]) :: ((((([] ++ [(12, 400, [])]) ++ [(12, 401, [])]) ++ [(12, 401, [])]) ++ [(12, 401, [])]) ++ bd1 (l0.length + 5)))) (j := 11) rfl (by simp only [List.length_cons, List.length_append, List.length_nil, len_bd8, len_bd2, len_bd0, len_bd1, len_bd4, len_bd5, len_bd3, len_bd7]) (by omega) rfl fl_X6_31 (by decide) (by decide) rfl rfl (fun _ => ⟨rfl, rfl⟩) c z b dX6_init_53 (fun c z b => ?_)
  refine wp_aload_n (x := l0.length) dX6_init_56 rfl ?_
  refine wp_newT (T2 := (6, 0, [(9, l0.length + 5), (6, l0.length + 4), (5, l0.length + 3), (4, l0.length + 2), (0, l0.length + 1)]) :: (((((([] ++ [(12, 400, [])]) ++ [(12, 401, [])]) ++ [(12, 401, [])]) ++ [(12, 401, [])]) ++ bd1 (l0.length + 5)) ++ [(5, 0, [])])) (b2 := (1, 36)) (j := 11) (c := 5) (Tt := TX5) (C := RX5) tyX5 rfl (by decide) uw5 tyX5_ok df_X5_init nw_X6_35.1 nw_X6_35.2.1 nw_X6_35.2.2 rfl (by simp only [List.length_cons, List.length_append, List.length_nil, len_bd8, len_bd2, len_bd0, len_bd1, len_bd4, len_bd5, len_bd3, len_bd7]) rfl ⟨rfr (by omega), trivial⟩ ⟨rfr (by omega), trivial⟩ c z b dX6_init_57 (fun c z b => ?_)
  refine wp_dup dX6_init_60 rfl ?_
  refine wp_initT (T2 := (6, 0, [(9, l0.length + 5), (6, l0.length + 4), (5, l0.length + 3), (4, l0.length + 2), (0, l0.length + 1)]) :: (((((([] ++ [(12, 400, [])]) ++ [(12, 401, [])]) ++ [(12, 401, [])]) ++ [(12, 401, [])]) ++ bd1 (l0.length + 5)) ++ bd5 (l0.length + 11))) (b1 := (1, 36)) (b2 := (0, 0)) (d1 := 2) (j := 11) (as := []) (rest := [(.ref (l0.length + 11)), (.ref l0.length)]) (T0 := (6, 0, [(9, l0.length + 5), (6, l0.length + 4), (5, l0.length + 3), (4, l0.length + 2), (0, l0.length + 1)]) :: ((((([] ++ [(12, 400, [])]) ++ [(12, 401, [])]) ++ [(12, 401, [])]) ++ [(12, 401, [])]) ++ bd1 (l0.length + 5))) (in_X5) mw_X5_init il_X6_37 im_X5_init rfl rfl dX6_init_61 (by omega) rfl (cats_of rfl) (Nat.le_of_ble_eq_true rfl) (Nat.le_of_ble_eq_true rfl) rfl (by simp only [List.length_cons, List.length_append, List.length_nil, len_bd8, len_bd2, len_bd0, len_bd1, len_bd4, len_bd5, len_bd3, len_bd7]) rfl (fun n => len_bd5) rfl rfl ⟨rfr (by omega), ⟨rfr (by omega), trivial⟩⟩ ⟨rfr (by omega), trivial⟩ c z b rfl (fun c z b => ?_)
  refine wp_putT (i := 0) (T2 := ((6, 0, [(10, l0.length + 11), (9, l0.length + 5), (6, l0.length + 4), (5, l0.length + 3), (4, l0.length + 2), (0, l0.length + 1)]) :: (((((([] ++ [(12, 400, [])]) ++ [(12, 401, [])]) ++ [(12, 401, [])]) ++ [(12, 401, [])]) ++ bd1 (l0.length + 5)) ++ bd5 (l0.length + 11)))) (j := 13) rfl (by simp only [List.length_cons, List.length_append, List.length_nil, len_bd8, len_bd2, len_bd0, len_bd1, len_bd4, len_bd5, len_bd3, len_bd7]) (by omega) rfl fl_X6_38 (by decide) (by decide) rfl rfl (fun _ => ⟨rfl, rfl⟩) c z b dX6_init_64 (fun c z b => ?_)
  exact wp_vret rfl dX6_init_67 ⟨rfl, rfl, rfl, c, z⟩
theorem len_pt9 {n : Nat} (k : Nat) : (psL bd3 n 21 9 k).length = 9 * k := by
  induction k with
  | zero => rfl
  | succ k ih =>
    unfold psL
    rw [List.length_append, ih, len_bd3]
    omega
def TK9 (n k : Nat) (rs : List (Nat × Nat)) (X : List Ob) : List Ob := TL (9, 0, [(12, n + 20), (5, n + 19), (4, n + 13), (3, n + 7), (2, n + 2), (0, n + 1)]) [] (13, 16) rs (((((([] ++ bd8 (n + 2)) ++ bd2 60 (n + 7)) ++ bd0 (n + 13)) ++ [(12, 4, [])]) ++ [(12, 11, [])]) ++ X)
theorem len_TK9 {n k : Nat} {rs : List (Nat × Nat)} {X : List Ob} {j : Nat} (h : X.length = j) : (TK9 n k rs X).length = 21 + j := by
  unfold TK9 TL
  simp only [List.length_cons, List.length_append, List.length_nil, len_bd8, len_bd2, len_bd0, len_bd1, len_bd4, len_bd5, len_bd3, len_bd7, len_bd6, h]
  omega
theorem TK9_app {n k : Nat} {rs : List (Nat × Nat)} {X Y : List Ob} : TK9 n k rs X ++ Y = TK9 n k rs (X ++ Y) := by
  unfold TK9
  rw [TL_app]
  exact congrArg (TL _ _ _ rs) (List.append_assoc _ _ _)
theorem TK9_get {n k : Nat} {rs : List (Nat × Nat)} {X : List Ob} : (TK9 n k rs X)[1]? = some (13, 16, rs) := TL_get (by simp only [List.length_cons, List.length_append, List.length_nil, len_bd8, len_bd2, len_bd0, len_bd1, len_bd4, len_bd5, len_bd3, len_bd7, len_bd6])
theorem TK9_set {n k : Nat} {rs rs2 : List (Nat × Nat)} {X : List Ob} : (TK9 n k rs X).set 1 (13, 16, rs2) = TK9 n k rs2 X := TL_set (by simp only [List.length_cons, List.length_append, List.length_nil, len_bd8, len_bd2, len_bd0, len_bd1, len_bd4, len_bd5, len_bd3, len_bd7, len_bd6])
theorem loop9 {l : Launch} {l0 : List Ob} {Q : Option Value → Sh → Mm → Prop} {μ0 : Mm} (kk : clO (l0 ++ TK9 l0.length 0 (prL l0.length 21 9 16) (psL bd3 l0.length 21 9 16)) → zM (l0 ++ TK9 l0.length 0 (prL l0.length 21 9 16) (psL bd3 l0.length 21 9 16)).length μ0 → (l0 ++ TK9 l0.length 0 (prL l0.length 21 9 16) (psL bd3 l0.length 21 9 16)).length + 0 ≤ 100000 → Wp l (shl (l0 ++ TK9 l0.length 0 (prL l0.length 21 9 16) (psL bd3 l0.length 21 9 16))) 3 (0, 0) mX9_init 90 [some (.ref l0.length), some (.int (nI 16))] [] μ0 Q) (m : Nat) : ∀ k, k + m = 16 → clO (l0 ++ TK9 l0.length 0 (prL l0.length 21 9 k) (psL bd3 l0.length 21 9 k)) → zM (l0 ++ TK9 l0.length 0 (prL l0.length 21 9 k) (psL bd3 l0.length 21 9 k)).length μ0 → (l0 ++ TK9 l0.length 0 (prL l0.length 21 9 k) (psL bd3 l0.length 21 9 k)).length + 9 * m ≤ 100000 →
    Wp l (shl (l0 ++ TK9 l0.length 0 (prL l0.length 21 9 k) (psL bd3 l0.length 21 9 k))) 3 (9 * m, 43 * m) mX9_init 65 [some (.ref l0.length), some (.int (nI k))] [] μ0 Q := by
  induction m with
  | zero =>
    intro k hk c z b
    have e : k = 16 := by omega
    subst e
    refine wp_iload_n (x := nI 16) dX9_init_65 rfl ?_
    refine wp_bipush (nI 16) dX9_init_66 rfl ?_
    exact wp_icmp_ge 90 dX9_init_68 (by decide) (fun _ => kk c z b) (fun h => absurd (show nI 16 ≤ nI 16 by decide) h)
  | succ m ih =>
    intro k hk c z b
    have hk2 : k < 16 := by omega
    have lp := len_pt9 (n := l0.length) k
    refine wp_iload_n (x := nI k) dX9_init_65 rfl ?_
    refine wp_bipush (nI 16) dX9_init_66 rfl ?_
    refine wp_icmp_ge 90 dX9_init_68 (by decide) (fun h => absurd h (nI_ge hk2 (by decide))) (fun _ => ?_)
    refine wp_aload_n (x := l0.length) dX9_init_71 rfl ?_
    refine wp_getR (l0.length + 1) fl_X9_11 (by decide) (by decide) (kT (i := 0) (T := TK9 l0.length 0 (prL l0.length 21 9 k) (psL bd3 l0.length 21 9 k)) rfl).2.2 (kT (i := 0) (T := TK9 l0.length 0 (prL l0.length 21 9 k) (psL bd3 l0.length 21 9 k)) rfl).1 (rT (i := 0) (T := TK9 l0.length 0 (prL l0.length 21 9 k) (psL bd3 l0.length 21 9 k)) rfl rfl) dX9_init_72 ?_
    refine wp_iload_n (x := nI k) dX9_init_75 rfl ?_
    refine wp_newT (T2 := TK9 l0.length 0 (prL l0.length 21 9 k) (psL bd3 l0.length 21 9 k ++ [(3, 0, [])])) (b2 := (9 * m + 8, 43 * m + 36)) (j := 21 + 9 * k) (c := 3) (Tt := TX3) (C := RX3) tyX3 rfl (by decide) uw3 tyX3_ok df_X3_init nw_X9_9.1 nw_X9_9.2.1 nw_X9_9.2.2 TK9_app (len_TK9 lp) rfl ⟨trivial, ⟨rfr (by omega), trivial⟩⟩ ⟨rfr (by omega), ⟨trivial, trivial⟩⟩ c z b dX9_init_76 (fun c z b => ?_)
    refine wp_dup dX9_init_79 rfl ?_
    refine wp_initTN (T2 := TK9 l0.length 0 (prL l0.length 21 9 k) (psL bd3 l0.length 21 9 k ++ bd3 (l0.length + (21 + 9 * k)))) (b1 := (8, 36)) (b2 := (9 * m, 43 * m)) (d1 := 2) (j := 21 + 9 * k) (as := []) (rest := [(.ref (l0.length + (21 + 9 * k))), (.int (nI k)), (.ref (l0.length + 1))]) (T0 := TK9 l0.length 0 (prL l0.length 21 9 k) (psL bd3 l0.length 21 9 k)) (in_X3) mw_X3_init (host := "NineCopies") (by decide) im_X3_init rfl rfl dX9_init_80 (by omega) rfl (cats_of rfl) (Nat.le_of_ble_eq_true rfl) (Nat.le_of_ble_eq_true rfl) TK9_app (len_TK9 lp) TK9_app (fun n => len_bd3) rfl (by rw [Nat.add_comm (9 * m), Nat.add_comm (43 * m)]) ⟨rfr (by omega), ⟨trivial, ⟨rfr (by omega), trivial⟩⟩⟩ ⟨rfr (by omega), ⟨trivial, trivial⟩⟩ c z b rfl (fun c z b => ?_)
    have lp2 : (psL bd3 l0.length 21 9 (k + 1)).length = 9 * (k + 1) := len_pt9 (k + 1)
    have hy : (TK9 l0.length 0 (prL l0.length 21 9 k) (psL bd3 l0.length 21 9 k ++ bd3 (l0.length + (21 + 9 * k))))[21 + 9 * k]? = (bd3 (l0.length + (21 + 9 * k)))[0]? := by
      rw [← TK9_app, List.getElem?_append_right (by rw [len_TK9 lp]; exact Nat.le_refl _), len_TK9 lp, Nat.sub_self]
    refine wp_aastT (ck := 3) (i := 1) (y := 21 + 9 * k) (T2 := TK9 l0.length 0 (prL l0.length 21 9 (k + 1)) (psL bd3 l0.length 21 9 (k + 1))) (j := 21 + 9 * (k + 1)) TK9_get (by decide) (hy.trans rfl) rfl (by decide) rfl rfl rfl hk2 (by decide) (len_TK9 lp2) TK9_set c z b dX9_init_83 (fun c z b => ?_)
    refine wp_iinc (x := nI k) (k0 := nI 1) (L2 := [some (.ref l0.length), some (.int (nI (k + 1)))]) dX9_init_84 rfl rfl (by decide) rfl (by rw [nI_add]; rfl) ?_
    refine wp_goto 65 dX9_init_87 (by decide) ?_
    exact ih (k + 1) (by omega) c z b
def bd9 (n : Nat) : List Ob := TK9 n 0 (prL n 21 9 16) (psL bd3 n 21 9 16)
theorem len_bd9 {n : Nat} : (bd9 n).length = 165 := len_TK9 (len_pt9 16)
def mf9 (n : Nat) (μ : Mm) : Mm := (sti (sti μ (n + 19) 0 (nI 9)) (n + 19) 1 (nI 9))
theorem in_X9 {l : Launch} : Mk l mX9_init 9 3 (164, 2196) [] (bd9) (fun n μ => mf9 n μ) := by
  intro l0 μ c z b
  refine wp_aload_n (x := l0.length) dX9_init_0 rfl ?_
  refine wp_objI ob_X9 ob_inst ob_code (by omega) (Nat.le_of_ble_eq_true rfl) dX9_init_1 ?_
  refine wp_aload_n (x := l0.length) dX9_init_4 rfl ?_
  refine wp_bipush (nI 16) dX9_init_5 rfl ?_
  refine wp_newqT (T2 := (9, 0, []) :: ([] ++ [(13, 16, [])])) (b2 := (163, 2180)) (j := 1) (N := 16) rfl (by decide) (by decide) rfl nw_X9_9.1 (Or.inl rfl) rfl (by simp only [List.length_cons, List.length_append, List.length_nil, len_bd8, len_bd2, len_bd0, len_bd1, len_bd4, len_bd5, len_bd3, len_bd7, len_bd6]) rfl ⟨rfr (by omega), trivial⟩ ⟨rfr (by omega), trivial⟩ c z b dX9_init_7 (fun c z b => ?_)
  refine wp_putT (i := 0) (T2 := ((9, 0, [(0, l0.length + 1)]) :: ([] ++ [(13, 16, [])]))) (j := 2) rfl (by simp only [List.length_cons, List.length_append, List.length_nil, len_bd8, len_bd2, len_bd0, len_bd1, len_bd4, len_bd5, len_bd3, len_bd7, len_bd6]) (by omega) rfl fl_X9_11 (by decide) (by decide) rfl rfl (fun _ => ⟨rfl, rfl⟩) c z b dX9_init_10 (fun c z b => ?_)
  refine wp_aload_n (x := l0.length) dX9_init_13 rfl ?_
  refine wp_newT (T2 := (9, 0, [(0, l0.length + 1)]) :: (([] ++ [(13, 16, [])]) ++ [(8, 0, [])])) (b2 := (162, 2175)) (j := 2) (c := 8) (Tt := TX8) (C := RX8) tyX8 rfl (by decide) uw8 tyX8_ok df_X8_init nw_X9_17.1 nw_X9_17.2.1 nw_X9_17.2.2 rfl (by simp only [List.length_cons, List.length_append, List.length_nil, len_bd8, len_bd2, len_bd0, len_bd1, len_bd4, len_bd5, len_bd3, len_bd7, len_bd6]) rfl ⟨rfr (by omega), trivial⟩ ⟨rfr (by omega), trivial⟩ c z b dX9_init_14 (fun c z b => ?_)
  refine wp_dup dX9_init_17 rfl ?_
  refine wp_initTN (T2 := (9, 0, [(0, l0.length + 1)]) :: (([] ++ [(13, 16, [])]) ++ bd8 (l0.length + 2))) (b1 := (4, 160)) (b2 := (158, 2015)) (d1 := 1) (j := 2) (as := []) (rest := [(.ref (l0.length + 2)), (.ref l0.length)]) (T0 := (9, 0, [(0, l0.length + 1)]) :: ([] ++ [(13, 16, [])])) (in_X8) mw_X8_init (host := "NineCopies") (by decide) im_X8_init rfl rfl dX9_init_18 (by omega) rfl (cats_of rfl) (Nat.le_of_ble_eq_true rfl) (Nat.le_of_ble_eq_true rfl) rfl (by simp only [List.length_cons, List.length_append, List.length_nil, len_bd8, len_bd2, len_bd0, len_bd1, len_bd4, len_bd5, len_bd3, len_bd7, len_bd6]) rfl (fun n => len_bd8) rfl rfl ⟨rfr (by omega), ⟨rfr (by omega), trivial⟩⟩ ⟨rfr (by omega), trivial⟩ c z b rfl (fun c z b => ?_)
  refine wp_putT (i := 0) (T2 := ((9, 0, [(2, l0.length + 2), (0, l0.length + 1)]) :: (([] ++ [(13, 16, [])]) ++ bd8 (l0.length + 2)))) (j := 7) rfl (by simp only [List.length_cons, List.length_append, List.length_nil, len_bd8, len_bd2, len_bd0, len_bd1, len_bd4, len_bd5, len_bd3, len_bd7, len_bd6]) (by omega) rfl fl_X9_20 (by decide) (by decide) rfl rfl (fun _ => ⟨rfl, rfl⟩) c z b dX9_init_21 (fun c z b => ?_)
  refine wp_aload_n (x := l0.length) dX9_init_24 rfl ?_
  refine wp_newT (T2 := (9, 0, [(2, l0.length + 2), (0, l0.length + 1)]) :: ((([] ++ [(13, 16, [])]) ++ bd8 (l0.length + 2)) ++ [(2, 0, [])])) (b2 := (157, 2009)) (j := 7) (c := 2) (Tt := TX2) (C := RX2) tyX2 rfl (by decide) uw2 tyX2_ok df_X2_init nw_X9_24.1 nw_X9_24.2.1 nw_X9_24.2.2 rfl (by simp only [List.length_cons, List.length_append, List.length_nil, len_bd8, len_bd2, len_bd0, len_bd1, len_bd4, len_bd5, len_bd3, len_bd7, len_bd6]) rfl ⟨rfr (by omega), trivial⟩ ⟨rfr (by omega), trivial⟩ c z b dX9_init_25 (fun c z b => ?_)
  refine wp_dup dX9_init_28 rfl ?_
  refine wp_bipush (nI 60) dX9_init_29 rfl ?_
  refine wp_initT (T2 := (9, 0, [(2, l0.length + 2), (0, l0.length + 1)]) :: ((([] ++ [(13, 16, [])]) ++ bd8 (l0.length + 2)) ++ bd2 60 (l0.length + 7))) (b1 := (5, 0 + 60 + 60 + 60 + 60 + 60)) (b2 := (152, 1709)) (d1 := 1) (j := 7) (as := [.int (nI 60)]) (rest := [(.ref (l0.length + 7)), (.ref l0.length)]) (T0 := (9, 0, [(2, l0.length + 2), (0, l0.length + 1)]) :: (([] ++ [(13, 16, [])]) ++ bd8 (l0.length + 2))) (in_X2 60 (by decide)) mw_X2_init il_X9_26 im_X2_init rfl rfl dX9_init_31 (by omega) rfl (cats_of rfl) (Nat.le_of_ble_eq_true rfl) (Nat.le_of_ble_eq_true rfl) rfl (by simp only [List.length_cons, List.length_append, List.length_nil, len_bd8, len_bd2, len_bd0, len_bd1, len_bd4, len_bd5, len_bd3, len_bd7, len_bd6]) rfl (fun n => len_bd2) rfl rfl ⟨rfr (by omega), ⟨rfr (by omega), trivial⟩⟩ ⟨rfr (by omega), trivial⟩ c z b rfl (fun c z b => ?_)
  refine wp_putT (i := 0) (T2 := ((9, 0, [(3, l0.length + 7), (2, l0.length + 2), (0, l0.length + 1)]) :: ((([] ++ [(13, 16, [])]) ++ bd8 (l0.length + 2)) ++ bd2 60 (l0.length + 7)))) (j := 13) rfl (by simp only [List.length_cons, List.length_append, List.length_nil, len_bd8, len_bd2, len_bd0, len_bd1, len_bd4, len_bd5, len_bd3, len_bd7, len_bd6]) (by omega) rfl fl_X9_29 (by decide) (by decide) rfl rfl (fun _ => ⟨rfl, rfl⟩) c z b dX9_init_34 (fun c z b => ?_)
  refine wp_aload_n (x := l0.length) dX9_init_37 rfl ?_
  refine wp_newT (T2 := (9, 0, [(3, l0.length + 7), (2, l0.length + 2), (0, l0.length + 1)]) :: (((([] ++ [(13, 16, [])]) ++ bd8 (l0.length + 2)) ++ bd2 60 (l0.length + 7)) ++ [(0, 0, [])])) (b2 := (151, 1703)) (j := 13) (c := 0) (Tt := TX0) (C := RX0) tyX0 rfl (by decide) uw0 tyX0_ok df_X0_init nw_X9_33.1 nw_X9_33.2.1 nw_X9_33.2.2 rfl (by simp only [List.length_cons, List.length_append, List.length_nil, len_bd8, len_bd2, len_bd0, len_bd1, len_bd4, len_bd5, len_bd3, len_bd7, len_bd6]) rfl ⟨rfr (by omega), trivial⟩ ⟨rfr (by omega), trivial⟩ c z b dX9_init_38 (fun c z b => ?_)
  refine wp_dup dX9_init_41 rfl ?_
  refine wp_initTN (T2 := (9, 0, [(3, l0.length + 7), (2, l0.length + 2), (0, l0.length + 1)]) :: (((([] ++ [(13, 16, [])]) ++ bd8 (l0.length + 2)) ++ bd2 60 (l0.length + 7)) ++ bd0 (l0.length + 13))) (b1 := (5, 1000)) (b2 := (146, 703)) (d1 := 1) (j := 13) (as := []) (rest := [(.ref (l0.length + 13)), (.ref l0.length)]) (T0 := (9, 0, [(3, l0.length + 7), (2, l0.length + 2), (0, l0.length + 1)]) :: ((([] ++ [(13, 16, [])]) ++ bd8 (l0.length + 2)) ++ bd2 60 (l0.length + 7))) (in_X0) mw_X0_init (host := "NineCopies") (by decide) im_X0_init rfl rfl dX9_init_42 (by omega) rfl (cats_of rfl) (Nat.le_of_ble_eq_true rfl) (Nat.le_of_ble_eq_true rfl) rfl (by simp only [List.length_cons, List.length_append, List.length_nil, len_bd8, len_bd2, len_bd0, len_bd1, len_bd4, len_bd5, len_bd3, len_bd7, len_bd6]) rfl (fun n => len_bd0) rfl rfl ⟨rfr (by omega), ⟨rfr (by omega), trivial⟩⟩ ⟨rfr (by omega), trivial⟩ c z b rfl (fun c z b => ?_)
  refine wp_putT (i := 0) (T2 := ((9, 0, [(4, l0.length + 13), (3, l0.length + 7), (2, l0.length + 2), (0, l0.length + 1)]) :: (((([] ++ [(13, 16, [])]) ++ bd8 (l0.length + 2)) ++ bd2 60 (l0.length + 7)) ++ bd0 (l0.length + 13)))) (j := 19) rfl (by simp only [List.length_cons, List.length_append, List.length_nil, len_bd8, len_bd2, len_bd0, len_bd1, len_bd4, len_bd5, len_bd3, len_bd7, len_bd6]) (by omega) rfl fl_X9_36 (by decide) (by decide) rfl rfl (fun _ => ⟨rfl, rfl⟩) c z b dX9_init_45 (fun c z b => ?_)
  refine wp_aload_n (x := l0.length) dX9_init_48 rfl ?_
  refine wp_iconst (nI 4) dX9_init_49 rfl ?_
  refine wp_newaT (T2 := (9, 0, [(4, l0.length + 13), (3, l0.length + 7), (2, l0.length + 2), (0, l0.length + 1)]) :: ((((([] ++ [(13, 16, [])]) ++ bd8 (l0.length + 2)) ++ bd2 60 (l0.length + 7)) ++ bd0 (l0.length + 13)) ++ [(12, 4, [])])) (b2 := (145, 699)) (j := 19) (N := 4) rfl (by decide) ar_int rfl (by simp only [List.length_cons, List.length_append, List.length_nil, len_bd8, len_bd2, len_bd0, len_bd1, len_bd4, len_bd5, len_bd3, len_bd7, len_bd6]) rfl ⟨rfr (by omega), trivial⟩ ⟨rfr (by omega), trivial⟩ c z b dX9_init_50 (fun c z b => ?_)
  refine wp_putT (i := 0) (T2 := ((9, 0, [(5, l0.length + 19), (4, l0.length + 13), (3, l0.length + 7), (2, l0.length + 2), (0, l0.length + 1)]) :: ((((([] ++ [(13, 16, [])]) ++ bd8 (l0.length + 2)) ++ bd2 60 (l0.length + 7)) ++ bd0 (l0.length + 13)) ++ [(12, 4, [])]))) (j := 20) rfl (by simp only [List.length_cons, List.length_append, List.length_nil, len_bd8, len_bd2, len_bd0, len_bd1, len_bd4, len_bd5, len_bd3, len_bd7, len_bd6]) (by omega) rfl fl_X9_40 (by decide) (by decide) rfl rfl (fun _ => ⟨rfl, rfl⟩) c z b dX9_init_52 (fun c z b => ?_)
  refine wp_aload_n (x := l0.length) dX9_init_55 rfl ?_
  refine wp_bipush (nI 11) dX9_init_56 rfl ?_
  refine wp_newaT (T2 := (9, 0, [(5, l0.length + 19), (4, l0.length + 13), (3, l0.length + 7), (2, l0.length + 2), (0, l0.length + 1)]) :: (((((([] ++ [(13, 16, [])]) ++ bd8 (l0.length + 2)) ++ bd2 60 (l0.length + 7)) ++ bd0 (l0.length + 13)) ++ [(12, 4, [])]) ++ [(12, 11, [])])) (b2 := (144, 688)) (j := 20) (N := 11) rfl (by decide) ar_int rfl (by simp only [List.length_cons, List.length_append, List.length_nil, len_bd8, len_bd2, len_bd0, len_bd1, len_bd4, len_bd5, len_bd3, len_bd7, len_bd6]) rfl ⟨rfr (by omega), trivial⟩ ⟨rfr (by omega), trivial⟩ c z b dX9_init_58 (fun c z b => ?_)
  refine wp_putT (i := 0) (T2 := ((9, 0, [(12, l0.length + 20), (5, l0.length + 19), (4, l0.length + 13), (3, l0.length + 7), (2, l0.length + 2), (0, l0.length + 1)]) :: (((((([] ++ [(13, 16, [])]) ++ bd8 (l0.length + 2)) ++ bd2 60 (l0.length + 7)) ++ bd0 (l0.length + 13)) ++ [(12, 4, [])]) ++ [(12, 11, [])]))) (j := 21) rfl (by simp only [List.length_cons, List.length_append, List.length_nil, len_bd8, len_bd2, len_bd0, len_bd1, len_bd4, len_bd5, len_bd3, len_bd7, len_bd6]) (by omega) rfl fl_X9_44 (by decide) (by decide) rfl rfl (fun _ => ⟨rfl, rfl⟩) c z b dX9_init_60 (fun c z b => ?_)
  refine wp_iconst (nI 0) dX9_init_63 rfl ?_
  refine wp_istore_n (L2 := [some (.ref l0.length), some (.int (nI 0))]) dX9_init_64 (by decide) rfl rfl ?_
  have e0 : ((9, 0, [(12, l0.length + 20), (5, l0.length + 19), (4, l0.length + 13), (3, l0.length + 7), (2, l0.length + 2), (0, l0.length + 1)]) :: (((((([] ++ [(13, 16, [])]) ++ bd8 (l0.length + 2)) ++ bd2 60 (l0.length + 7)) ++ bd0 (l0.length + 13)) ++ [(12, 4, [])]) ++ [(12, 11, [])])) = TK9 l0.length 0 (prL l0.length 21 9 0) (psL bd3 l0.length 21 9 0) := by
    unfold TK9 TL prL psL
    simp only [List.append_assoc, List.nil_append, List.append_nil, List.cons_append]
  rw [e0] at c z b ⊢
  refine loop9 (μ0 := μ) (fun c z b => ?_) 16 0 rfl c z b
  refine wp_aload_n (x := l0.length) dX9_init_90 rfl ?_
  refine wp_getR (l0.length + 19) fl_X9_40 (by decide) (by decide) (kT (i := 0) (T := (TK9 l0.length 0 (prL l0.length 21 9 16) (psL bd3 l0.length 21 9 16))) rfl).2.2 (kT (i := 0) (T := (TK9 l0.length 0 (prL l0.length 21 9 16) (psL bd3 l0.length 21 9 16))) rfl).1 (rT (i := 0) (T := (TK9 l0.length 0 (prL l0.length 21 9 16) (psL bd3 l0.length 21 9 16))) rfl rfl) dX9_init_91 ?_
  refine wp_iconst (nI 0) dX9_init_94 rfl ?_
  refine wp_bipush (nI 9) dX9_init_95 rfl ?_
  refine wp_iaste (μ2 := (sti μ (l0.length + 19) 0 (nI 9))) (n := 4) (by rw [ix_nI (by decide)]) (kT (i := 19) (T := (TK9 l0.length 0 (prL l0.length 21 9 16) (psL bd3 l0.length 21 9 16))) rfl).2.2 (kT (i := 19) (T := (TK9 l0.length 0 (prL l0.length 21 9 16) (psL bd3 l0.length 21 9 16))) rfl).1 (kT (i := 19) (T := (TK9 l0.length 0 (prL l0.length 21 9 16) (psL bd3 l0.length 21 9 16))) rfl).2.1 (vin_nI (by decide) (by decide)) dX9_init_97 ?_
  have z : zM (l0 ++ (TK9 l0.length 0 (prL l0.length 21 9 16) (psL bd3 l0.length 21 9 16))).length (sti μ (l0.length + 19) 0 (nI 9)) := zM.sti z (by rw [lT (j := 165) (len_TK9 (len_pt9 16))]; omega)
  refine wp_aload_n (x := l0.length) dX9_init_98 rfl ?_
  refine wp_getR (l0.length + 19) fl_X9_40 (by decide) (by decide) (kT (i := 0) (T := (TK9 l0.length 0 (prL l0.length 21 9 16) (psL bd3 l0.length 21 9 16))) rfl).2.2 (kT (i := 0) (T := (TK9 l0.length 0 (prL l0.length 21 9 16) (psL bd3 l0.length 21 9 16))) rfl).1 (rT (i := 0) (T := (TK9 l0.length 0 (prL l0.length 21 9 16) (psL bd3 l0.length 21 9 16))) rfl rfl) dX9_init_99 ?_
  refine wp_iconst (nI 1) dX9_init_102 rfl ?_
  refine wp_bipush (nI 9) dX9_init_103 rfl ?_
  refine wp_iaste (μ2 := (sti (sti μ (l0.length + 19) 0 (nI 9)) (l0.length + 19) 1 (nI 9))) (n := 4) (by rw [ix_nI (by decide)]) (kT (i := 19) (T := (TK9 l0.length 0 (prL l0.length 21 9 16) (psL bd3 l0.length 21 9 16))) rfl).2.2 (kT (i := 19) (T := (TK9 l0.length 0 (prL l0.length 21 9 16) (psL bd3 l0.length 21 9 16))) rfl).1 (kT (i := 19) (T := (TK9 l0.length 0 (prL l0.length 21 9 16) (psL bd3 l0.length 21 9 16))) rfl).2.1 (vin_nI (by decide) (by decide)) dX9_init_105 ?_
  have z : zM (l0 ++ (TK9 l0.length 0 (prL l0.length 21 9 16) (psL bd3 l0.length 21 9 16))).length (sti (sti μ (l0.length + 19) 0 (nI 9)) (l0.length + 19) 1 (nI 9)) := zM.sti z (by rw [lT (j := 165) (len_TK9 (len_pt9 16))]; omega)
  exact wp_vret rfl dX9_init_106 ⟨rfl, rfl, rfl, c, z⟩
