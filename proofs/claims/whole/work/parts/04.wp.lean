def ushr (x y : Int32) : Int32 := (x.toUInt32 >>> (y.toUInt32 &&& Int32.toUInt32 31)).toInt32
def lushr (x : Int64) (y : Int32) : Int64 := (x.toUInt64 >>> (y.toInt64.toUInt64 &&& Int64.toUInt64 63)).toInt64
def wordsText : String := "write ill when or and not post to in curse left kind lazy coin person day days paper held marks "
def wordsBytes : List Int32 := [119, 114, 105, 116, 101, 32, 105, 108, 108, 32, 119, 104, 101, 110, 32, 111, 114, 32, 97, 110, 100, 32, 110, 111, 116, 32, 112, 111, 115, 116, 32, 116, 111, 32, 105, 110, 32, 99, 117, 114, 115, 101, 32, 108, 101, 102, 116, 32, 107, 105, 110, 100, 32, 108, 97, 122, 121, 32, 99, 111, 105, 110, 32, 112, 101, 114, 115, 111, 110, 32, 100, 97, 121, 32, 100, 97, 121, 115, 32, 112, 97, 112, 101, 114, 32, 104, 101, 108, 100, 32, 109, 97, 114, 107, 115, 32]
def wordsAt : Nat := 82
/-! THE FRAME IN PLAIN WORDS -/
def lwT : List Cond := lw_tbl.filter goodWord
theorem lwT_of {w : Cond} (h : w ∈ lw_tbl) (hg : goodWord w = true) : w ∈ lwT := List.mem_filter.mpr ⟨h, hg⟩
theorem lwT_good {ws : List Cond} (h : ∀ w ∈ ws, w ∈ lwT) : GoodIn lwT ws := fun w hw => ⟨h w hw, good_of_word (List.mem_filter.mp (h w hw)).2⟩
def leastT : List Int32 := [0, 0, 0, 0, 0, 0, 1, 1, 0, 0]
def mostT : List Int32 := [5, 2, 99, 99, 9999, 1, 9, 20, 1000, 1]
/-- links within the nest -/
def nestL : List (String × Nat × MethodName × String) := [("NineCopies$World", 19, ⟨"NineCopies$Versions", "<init>", "()V"⟩, "NineCopies"), ("NineCopies$World", 35, ⟨"NineCopies$Book", "<init>", "()V"⟩, "NineCopies"), ("NineCopies$World", 47, ⟨"NineCopies$Person", "<init>", "()V"⟩, "NineCopies"), ("NineCopies", 18, ⟨"NineCopies$Texts", "<init>", "()V"⟩, "NineCopies"), ("NineCopies$Texts", 9, ⟨"NineCopies$Law", "<init>", "()V"⟩, "NineCopies"), ("NineCopies", 25, ⟨"NineCopies$Picks", "<init>", "()V"⟩, "NineCopies"), ("NineCopies", 52, ⟨"NineCopies$Reader", "<init>", "()V"⟩, "NineCopies"), ("NineCopies$Reader", 30, ⟨"NineCopies$Law", "<init>", "()V"⟩, "NineCopies"), ("NineCopies$World", 123, ⟨"NineCopies", "hasBit", "(II)Z"⟩, "NineCopies"), ("NineCopies$World", 224, ⟨"NineCopies", "heldTo", "(II)I"⟩, "NineCopies"), ("NineCopies$Picks", 19, ⟨"NineCopies", "hasBit", "(II)Z"⟩, "NineCopies")]
/-- what the statics and the constant text hold -/
def Xc (ad : Nat → Nat) (A : Nat → Prop) (U : State) (H : Heap) : Prop :=
  (va_Z "NineCopies" "LEAST_TOLD" "[I" (.ref (ad 1000000)) A U H ∧ va_T .int (ad 1000000) 10 (fun j => .int (leastT.getD j 0)) A U H) ∧
  (va_Z "NineCopies" "MOST_TOLD" "[I" (.ref (ad 1000001)) A U H ∧ va_T .int (ad 1000001) 10 (fun j => .int (mostT.getD j 0)) A U H) ∧
  (vk_R "NineCopies$Reader" wordsAt wordsText (ad 1000002) U ∧ vk_S 1 [96] [wordsBytes] (fun _ => ad 1000002) (fun _ => ad 1000003) A U H ∧ va_Z "java/lang/String" "COMPACT_STRINGS" "Z" (.int 1) A U H) ∧
  ((∀ q ∈ nestL, va_Nw (.methodLinkNest q.1 q.2.1 q.2.2.1 q.2.2.2) U) ∧ va_AO "NineCopies$Person" U ∧ va_AO "NineCopies$World" U) ∧
  (va_Z "jdk/internal/util/Preconditions" "SIOOBE_FORMATTER" "Ljava/util/function/BiFunction;" .null A U H ∨ va_Z "jdk/internal/util/Preconditions" "SIOOBE_FORMATTER" "Ljava/util/function/BiFunction;" (.ref (ad 1000004)) A U H)
theorem Xc.ext {n : Nat} {ad ad' : Nat → Nat} {A : Nat → Prop} {U : State} {H : Heap} (h : Xc ad A U H) (he : ext n ad ad') : Xc ad' A U H := by
  have e0 := he 1000000 (Or.inr (Nat.le_refl _))
  have e1 := he 1000001 (Or.inr (by omega))
  have e2 := he 1000002 (Or.inr (by omega))
  have e3 := he 1000003 (Or.inr (by omega))
  have e4 := he 1000004 (Or.inr (by omega))
  unfold Xc at h ⊢
  rw [e0, e1, e2, e3, e4]
  exact h
theorem Xc.to {ad : Nat → Nat} {A B : Nat → Prop} {u U : State} {H H1 : Heap} (h : Xc ad A u H) (hw : u.WarmedH U.vm) (hk : ∀ a : Nat, a < H.size → ¬ A a → H1[a]? = H[a]?) (hAB : ∀ q, B q → A q) : Xc ad B U H1 :=
  ⟨⟨((h.1.1.moved hw.alike).kept hk).narrow hAB, ((h.1.2.moved hw.alike).kept hk).narrow hAB⟩, ⟨((h.2.1.1.moved hw.alike).kept hk).narrow hAB, ((h.2.1.2.moved hw.alike).kept hk).narrow hAB⟩, ⟨h.2.2.1.1.warm hw, ((h.2.2.1.2.1.moved hw.alike).kept hk).narrow hAB, ((h.2.2.1.2.2.moved hw.alike).kept hk).narrow hAB⟩, ⟨fun q hq => (h.2.2.2.1.1 q hq).warmM hw, h.2.2.2.1.2.1.moved hw.alike, h.2.2.2.1.2.2.moved hw.alike⟩, h.2.2.2.2.imp (fun z => ((z.moved hw.alike).kept hk).narrow hAB) (fun z => ((z.moved hw.alike).kept hk).narrow hAB)⟩
def Cx (M : MD) (p : Program) (s : State) (m : MethodId) (args : Array Value) (meth : Method) (c : Code) : Prop :=
  p.tables.exec = Jvm.exec ∧ c.code = M.2.1 ∧ c.maxLocals = M.2.2.1 ∧ s.vm.findClass M.1.cls = some m.cls ∧ (∀ w ∈ lwT, w.before args s = true) ∧ meth.locks = false ∧ meth.sig.returnType = M.2.2.2 ∧ meth.name = M.1.name
def Bd (d : Nat) (b : Nat × Nat) (R : Room) (cells slots mc ms : Nat) : Prop := d ≤ R.frames ∧ 64 * d ≤ R.locals ∧ cells + b.1 ≤ mc ∧ slots + b.2 ≤ ms ∧ mc ≤ R.cells ∧ ms ≤ R.slots
def Tk (ca : Nat → ClassId) (tys : List (ClassId × FieldType)) (S : Sh) : Prop := ∀ i, i < sN S → 12 ≤ sK S i → ∃ t0 : Nat, tys[t0]? = some (ca i, ety (sK S i))
def Rp (D : va_G) (ad : Nat → Nat) (ca : Nat → ClassId) (tys : List (ClassId × FieldType)) (S : Sh) (μ : Mm) (A : Nat → Prop) (s : State) (H : Heap) (locs : List Loc) : Prop :=
  va_K D vwCl tys s ∧ va_P D vwCl (conc ad ca S μ) H ∧ va_D A (conc ad ca S μ) ∧ va_S A s.heap H locs ∧ (∀ q, s.heap.size ≤ q → A q) ∧ Tk ca tys S
def iv (v : Option Value) : Prop := v = none ∨ ∃ r : Int32, v = some (.int r)
def Rok (Q : Option Value → Sh → Mm → Prop) (n : Nat) (ad : Nat → Nat) (ca : Nat → ClassId) (D : va_G) (A : Nat → Prop) (args : Array Value) (s : State) (QQ : Array Value → State → Outcome → State → Prop) : Prop :=
  ∀ (v : Option Value) (S' : Sh) (μ' : Mm) (ad' : Nat → Nat) (ca' : Nat → ClassId) (tys' : List (ClassId × FieldType)) (H' : Heap) (locs' : List Loc) (t : State), Q v S' μ' → iv v → n ≤ sN S' → ext n ad ad' → (∀ i, i < n → ca' i = ca i) → Rp D ad' ca' tys' S' μ' A s H' locs' → t.heap = H' → s.WarmedH t.vm → QQ args s (.returned v) t
def Wp (l : Launch) (S : Sh) (d : Nat) (b : Nat × Nat) (M : MD) (pc : Nat) (L : Lc) (st : List Value) (μ : Mm) (Q : Option Value → Sh → Mm → Prop) : Prop :=
  ∀ (p : Program) (e : Env) (R : Room) (s : State) (m : MethodId) (args : Array Value) (below : List Frame) (meth : Method) (c : Code) (H : Heap) (locs : List Loc) (cells slots : Nat) (ls : Array Slot) (D : va_G) (ad : Nat → Nat) (ca : Nat → ClassId) (tys : List (ClassId × FieldType)) (A : Nat → Prop) (QQ : Array Value → State → Outcome → State → Prop) (mc ms : Nat),
    Cx M p s m args meth c → Bd d b R cells slots mc ms → Rp D ad ca tys S μ A s H locs → Xc ad A s s.heap → lrel ad L ls M.2.2.1 → Rok Q (sN S) ad ca D A args s QQ →
    W p l e R s m args below meth c H locs cells slots (MQ below QQ args s mc ms A) (F0 m pc ls (st.map (rl ad)))
section
variable {l : Launch} {S : Sh} {d : Nat} {b : Nat × Nat} {M : MD} {pc : Nat} {L : Lc} {st : List Value} {μ : Mm} {Q : Option Value → Sh → Mm → Prop}
theorem wp_iadd {x y : Int32} (hd : decode M.2.1 pc = .ok (.iadd, 1)) (k : Wp l S d b M (pc + 1) L (.int (x + y) :: st) μ Q) : Wp l S d b M pc L (.int y :: .int x :: st) μ Q := by
  intro p e R s m args below meth c H locs cells slots ls D ad ca tys A QQ mc ms C B P X hl K
  exact lv_iadd C.1 C.2.1 hd (k p e R s m args below meth c H locs cells slots ls D ad ca tys A QQ mc ms C B P X hl K)
theorem wp_isub {x y : Int32} (hd : decode M.2.1 pc = .ok (.isub, 1)) (k : Wp l S d b M (pc + 1) L (.int (x - y) :: st) μ Q) : Wp l S d b M pc L (.int y :: .int x :: st) μ Q := by
  intro p e R s m args below meth c H locs cells slots ls D ad ca tys A QQ mc ms C B P X hl K
  exact lv_isub C.1 C.2.1 hd (k p e R s m args below meth c H locs cells slots ls D ad ca tys A QQ mc ms C B P X hl K)
theorem wp_imul {x y : Int32} (hd : decode M.2.1 pc = .ok (.imul, 1)) (k : Wp l S d b M (pc + 1) L (.int (x * y) :: st) μ Q) : Wp l S d b M pc L (.int y :: .int x :: st) μ Q := by
  intro p e R s m args below meth c H locs cells slots ls D ad ca tys A QQ mc ms C B P X hl K
  exact lv_imul C.1 C.2.1 hd (k p e R s m args below meth c H locs cells slots ls D ad ca tys A QQ mc ms C B P X hl K)
theorem wp_iand {x y : Int32} (hd : decode M.2.1 pc = .ok (.iand, 1)) (k : Wp l S d b M (pc + 1) L (.int (x &&& y) :: st) μ Q) : Wp l S d b M pc L (.int y :: .int x :: st) μ Q := by
  intro p e R s m args below meth c H locs cells slots ls D ad ca tys A QQ mc ms C B P X hl K
  exact lv_iand C.1 C.2.1 hd (k p e R s m args below meth c H locs cells slots ls D ad ca tys A QQ mc ms C B P X hl K)
theorem wp_ior {x y : Int32} (hd : decode M.2.1 pc = .ok (.ior, 1)) (k : Wp l S d b M (pc + 1) L (.int (x ||| y) :: st) μ Q) : Wp l S d b M pc L (.int y :: .int x :: st) μ Q := by
  intro p e R s m args below meth c H locs cells slots ls D ad ca tys A QQ mc ms C B P X hl K
  exact lv_ior C.1 C.2.1 hd (k p e R s m args below meth c H locs cells slots ls D ad ca tys A QQ mc ms C B P X hl K)
theorem wp_ixor {x y : Int32} (hd : decode M.2.1 pc = .ok (.ixor, 1)) (k : Wp l S d b M (pc + 1) L (.int (x ^^^ y) :: st) μ Q) : Wp l S d b M pc L (.int y :: .int x :: st) μ Q := by
  intro p e R s m args below meth c H locs cells slots ls D ad ca tys A QQ mc ms C B P X hl K
  exact lv_ixor C.1 C.2.1 hd (k p e R s m args below meth c H locs cells slots ls D ad ca tys A QQ mc ms C B P X hl K)
theorem wp_ishl {x y : Int32} (hd : decode M.2.1 pc = .ok (.ishl, 1)) (k : Wp l S d b M (pc + 1) L (.int (x <<< (y &&& 31)) :: st) μ Q) : Wp l S d b M pc L (.int y :: .int x :: st) μ Q := by
  intro p e R s m args below meth c H locs cells slots ls D ad ca tys A QQ mc ms C B P X hl K
  exact lv_ishl C.1 C.2.1 hd (k p e R s m args below meth c H locs cells slots ls D ad ca tys A QQ mc ms C B P X hl K)
theorem wp_ishr {x y : Int32} (hd : decode M.2.1 pc = .ok (.ishr, 1)) (k : Wp l S d b M (pc + 1) L (.int (x >>> (y &&& 31)) :: st) μ Q) : Wp l S d b M pc L (.int y :: .int x :: st) μ Q := by
  intro p e R s m args below meth c H locs cells slots ls D ad ca tys A QQ mc ms C B P X hl K
  exact lv_ishr C.1 C.2.1 hd (k p e R s m args below meth c H locs cells slots ls D ad ca tys A QQ mc ms C B P X hl K)
theorem wp_iushr {x y : Int32} (hd : decode M.2.1 pc = .ok (.iushr, 1)) (k : Wp l S d b M (pc + 1) L (.int (ushr x y) :: st) μ Q) : Wp l S d b M pc L (.int y :: .int x :: st) μ Q := by
  intro p e R s m args below meth c H locs cells slots ls D ad ca tys A QQ mc ms C B P X hl K
  exact lv_iushr C.1 C.2.1 hd rfl (k p e R s m args below meth c H locs cells slots ls D ad ca tys A QQ mc ms C B P X hl K)
theorem wp_idiv {x y : Int32} (hd : decode M.2.1 pc = .ok (.idiv, 1)) (h0 : ¬ y = 0) (k : Wp l S d b M (pc + 1) L (.int (x / y) :: st) μ Q) : Wp l S d b M pc L (.int y :: .int x :: st) μ Q := by
  intro p e R s m args below meth c H locs cells slots ls D ad ca tys A QQ mc ms C B P X hl K
  exact lv_idiv C.1 C.2.1 hd h0 (k p e R s m args below meth c H locs cells slots ls D ad ca tys A QQ mc ms C B P X hl K)
theorem wp_irem {x y : Int32} (hd : decode M.2.1 pc = .ok (.irem, 1)) (h0 : ¬ y = 0) (k : Wp l S d b M (pc + 1) L (.int (x - x / y * y) :: st) μ Q) : Wp l S d b M pc L (.int y :: .int x :: st) μ Q := by
  intro p e R s m args below meth c H locs cells slots ls D ad ca tys A QQ mc ms C B P X hl K
  exact lv_irem C.1 C.2.1 hd h0 (k p e R s m args below meth c H locs cells slots ls D ad ca tys A QQ mc ms C B P X hl K)
theorem wp_ineg {x : Int32} (hd : decode M.2.1 pc = .ok (.ineg, 1)) (k : Wp l S d b M (pc + 1) L (.int (-x) :: st) μ Q) : Wp l S d b M pc L (.int x :: st) μ Q := by
  intro p e R s m args below meth c H locs cells slots ls D ad ca tys A QQ mc ms C B P X hl K
  exact lv_ineg C.1 C.2.1 hd (k p e R s m args below meth c H locs cells slots ls D ad ca tys A QQ mc ms C B P X hl K)
theorem wp_land {x y : Int64} (hd : decode M.2.1 pc = .ok (.land, 1)) (k : Wp l S d b M (pc + 1) L (.long (x &&& y) :: st) μ Q) : Wp l S d b M pc L (.long y :: .long x :: st) μ Q := by
  intro p e R s m args below meth c H locs cells slots ls D ad ca tys A QQ mc ms C B P X hl K
  exact lv_land C.1 C.2.1 hd (k p e R s m args below meth c H locs cells slots ls D ad ca tys A QQ mc ms C B P X hl K)
theorem wp_lor {x y : Int64} (hd : decode M.2.1 pc = .ok (.lor, 1)) (k : Wp l S d b M (pc + 1) L (.long (x ||| y) :: st) μ Q) : Wp l S d b M pc L (.long y :: .long x :: st) μ Q := by
  intro p e R s m args below meth c H locs cells slots ls D ad ca tys A QQ mc ms C B P X hl K
  exact lv_lor C.1 C.2.1 hd (k p e R s m args below meth c H locs cells slots ls D ad ca tys A QQ mc ms C B P X hl K)
theorem wp_lsub {x y : Int64} (hd : decode M.2.1 pc = .ok (.lsub, 1)) (k : Wp l S d b M (pc + 1) L (.long (x - y) :: st) μ Q) : Wp l S d b M pc L (.long y :: .long x :: st) μ Q := by
  intro p e R s m args below meth c H locs cells slots ls D ad ca tys A QQ mc ms C B P X hl K
  exact lv_lsub C.1 C.2.1 hd (k p e R s m args below meth c H locs cells slots ls D ad ca tys A QQ mc ms C B P X hl K)
theorem wp_ladd {x y : Int64} (hd : decode M.2.1 pc = .ok (.ladd, 1)) (k : Wp l S d b M (pc + 1) L (.long (x + y) :: st) μ Q) : Wp l S d b M pc L (.long y :: .long x :: st) μ Q := by
  intro p e R s m args below meth c H locs cells slots ls D ad ca tys A QQ mc ms C B P X hl K
  exact lv_ladd C.1 C.2.1 hd (k p e R s m args below meth c H locs cells slots ls D ad ca tys A QQ mc ms C B P X hl K)
theorem wp_lushr {x : Int64} {y : Int32} (hd : decode M.2.1 pc = .ok (.lushr, 1)) (k : Wp l S d b M (pc + 1) L (.long (lushr x y) :: st) μ Q) : Wp l S d b M pc L (.int y :: .long x :: st) μ Q := by
  intro p e R s m args below meth c H locs cells slots ls D ad ca tys A QQ mc ms C B P X hl K
  exact lv_lushr C.1 C.2.1 hd rfl (k p e R s m args below meth c H locs cells slots ls D ad ca tys A QQ mc ms C B P X hl K)
theorem wp_lshl {x : Int64} {y : Int32} (hd : decode M.2.1 pc = .ok (.lshl, 1)) (k : Wp l S d b M (pc + 1) L (.long (x <<< (y.toInt64 &&& 63)) :: st) μ Q) : Wp l S d b M pc L (.int y :: .long x :: st) μ Q := by
  intro p e R s m args below meth c H locs cells slots ls D ad ca tys A QQ mc ms C B P X hl K
  exact lv_lshl C.1 C.2.1 hd rfl (k p e R s m args below meth c H locs cells slots ls D ad ca tys A QQ mc ms C B P X hl K)
theorem wp_lshr {x : Int64} {y : Int32} (hd : decode M.2.1 pc = .ok (.lshr, 1)) (k : Wp l S d b M (pc + 1) L (.long (x >>> (y.toInt64 &&& 63)) :: st) μ Q) : Wp l S d b M pc L (.int y :: .long x :: st) μ Q := by
  intro p e R s m args below meth c H locs cells slots ls D ad ca tys A QQ mc ms C B P X hl K
  exact lv_lshr C.1 C.2.1 hd rfl (k p e R s m args below meth c H locs cells slots ls D ad ca tys A QQ mc ms C B P X hl K)
theorem wp_l2i {x : Int64} (hd : decode M.2.1 pc = .ok (.l2i, 1)) (k : Wp l S d b M (pc + 1) L (.int x.toInt32 :: st) μ Q) : Wp l S d b M pc L (.long x :: st) μ Q := by
  intro p e R s m args below meth c H locs cells slots ls D ad ca tys A QQ mc ms C B P X hl K
  exact lv_l2i C.1 C.2.1 hd rfl (k p e R s m args below meth c H locs cells slots ls D ad ca tys A QQ mc ms C B P X hl K)
theorem wp_lcmp {x y : Int64} (hd : decode M.2.1 pc = .ok (.lcmp, 1)) (k : Wp l S d b M (pc + 1) L (.int (lg_cmp x y) :: st) μ Q) : Wp l S d b M pc L (.long y :: .long x :: st) μ Q := by
  intro p e R s m args below meth c H locs cells slots ls D ad ca tys A QQ mc ms C B P X hl K
  exact W.lcmp C.1 C.2.1 hd (k p e R s m args below meth c H locs cells slots ls D ad ca tys A QQ mc ms C B P X hl K)
theorem wp_iconst {n : Int} (v : Int32) (hd : decode M.2.1 pc = .ok (.iconst n, 1)) (hv : Int32.ofInt n = v) (k : Wp l S d b M (pc + 1) L (.int v :: st) μ Q) : Wp l S d b M pc L st μ Q := by
  intro p e R s m args below meth c H locs cells slots ls D ad ca tys A QQ mc ms C B P X hl K
  exact lv_iconst C.1 C.2.1 hd hv (k p e R s m args below meth c H locs cells slots ls D ad ca tys A QQ mc ms C B P X hl K)
theorem wp_bipush {n : Int} (v : Int32) (hd : decode M.2.1 pc = .ok (.bipush n, 2)) (hv : (Int8.ofInt n).toInt32 = v) (k : Wp l S d b M (pc + 2) L (.int v :: st) μ Q) : Wp l S d b M pc L st μ Q := by
  intro p e R s m args below meth c H locs cells slots ls D ad ca tys A QQ mc ms C B P X hl K
  exact lv_bipush C.1 C.2.1 hd hv (k p e R s m args below meth c H locs cells slots ls D ad ca tys A QQ mc ms C B P X hl K)
theorem wp_sipush {n : Int} (v : Int32) (hd : decode M.2.1 pc = .ok (.sipush n, 3)) (hv : (Int16.ofInt n).toInt32 = v) (k : Wp l S d b M (pc + 3) L (.int v :: st) μ Q) : Wp l S d b M pc L st μ Q := by
  intro p e R s m args below meth c H locs cells slots ls D ad ca tys A QQ mc ms C B P X hl K
  exact lv_sipush C.1 C.2.1 hd hv (k p e R s m args below meth c H locs cells slots ls D ad ca tys A QQ mc ms C B P X hl K)
theorem wp_lconst {n : Fin 2} (v : Int64) (hd : decode M.2.1 pc = .ok (.lconst n, 1)) (hv : Int64.ofNat (n : Nat) = v) (k : Wp l S d b M (pc + 1) L (.long v :: st) μ Q) : Wp l S d b M pc L st μ Q := by
  intro p e R s m args below meth c H locs cells slots ls D ad ca tys A QQ mc ms C B P X hl K
  exact lv_lconst C.1 C.2.1 hd hv (k p e R s m args below meth c H locs cells slots ls D ad ca tys A QQ mc ms C B P X hl K)
theorem wp_ldc {n : Nat} {v : Int32} (hd : decode M.2.1 pc = .ok (.ldc n, 2)) (hw : Jvm.Cond.constant M.1.cls n v ∈ lwT) (k : Wp l S d b M (pc + 2) L (.int v :: st) μ Q) : Wp l S d b M pc L st μ Q := by
  intro p e R s m args below meth c H locs cells slots ls D ad ca tys A QQ mc ms C B P X hl K
  exact lv_ldc C.1 C.2.1 C.2.2.2.1 (C.2.2.2.2.1 _ hw) hd (k p e R s m args below meth c H locs cells slots ls D ad ca tys A QQ mc ms C B P X hl K)
theorem wp_ldcw {n : Nat} {v : Int32} (hd : decode M.2.1 pc = .ok (.ldc_w n, 3)) (hw : Jvm.Cond.constant M.1.cls n v ∈ lwT) (k : Wp l S d b M (pc + 3) L (.int v :: st) μ Q) : Wp l S d b M pc L st μ Q := by
  intro p e R s m args below meth c H locs cells slots ls D ad ca tys A QQ mc ms C B P X hl K
  exact lv_ldcw C.1 C.2.1 C.2.2.2.1 (C.2.2.2.2.1 _ hw) hd (k p e R s m args below meth c H locs cells slots ls D ad ca tys A QQ mc ms C B P X hl K)
theorem wp_ldc2 {n : Nat} {v : Int64} (hd : decode M.2.1 pc = .ok (.ldc2_w n, 3)) (hw : Jvm.Cond.constantLong M.1.cls n v ∈ lwT) (k : Wp l S d b M (pc + 3) L (.long v :: st) μ Q) : Wp l S d b M pc L st μ Q := by
  intro p e R s m args below meth c H locs cells slots ls D ad ca tys A QQ mc ms C B P X hl K
  exact lv_ldc2 C.1 C.2.1 C.2.2.2.1 (C.2.2.2.2.1 _ hw) hd (k p e R s m args below meth c H locs cells slots ls D ad ca tys A QQ mc ms C B P X hl K)
theorem wp_iload_n {n : Fin 4} {x : Int32} (hd : decode M.2.1 pc = .ok (.iload_n n, 1)) (hv : L[(n : Nat)]? = some (some (.int x))) (k : Wp l S d b M (pc + 1) L (.int x :: st) μ Q) : Wp l S d b M pc L st μ Q := by
  intro p e R s m args below meth c H locs cells slots ls D ad ca tys A QQ mc ms C B P X hl K
  exact lv_iload_n C.1 C.2.1 hd rfl (hl.at hv) (k p e R s m args below meth c H locs cells slots ls D ad ca tys A QQ mc ms C B P X hl K)
theorem wp_iload {n : Nat} {x : Int32} (hd : decode M.2.1 pc = .ok (.iload n, 2)) (hv : L[n]? = some (some (.int x))) (k : Wp l S d b M (pc + 2) L (.int x :: st) μ Q) : Wp l S d b M pc L st μ Q := by
  intro p e R s m args below meth c H locs cells slots ls D ad ca tys A QQ mc ms C B P X hl K
  exact lv_iload C.1 C.2.1 hd (hl.at hv) (k p e R s m args below meth c H locs cells slots ls D ad ca tys A QQ mc ms C B P X hl K)
theorem wp_lload_n {n : Fin 4} {x : Int64} (hd : decode M.2.1 pc = .ok (.lload_n n, 1)) (hv : L[(n : Nat)]? = some (some (.long x))) (k : Wp l S d b M (pc + 1) L (.long x :: st) μ Q) : Wp l S d b M pc L st μ Q := by
  intro p e R s m args below meth c H locs cells slots ls D ad ca tys A QQ mc ms C B P X hl K
  exact lv_lload_n C.1 C.2.1 hd rfl (hl.at hv) (k p e R s m args below meth c H locs cells slots ls D ad ca tys A QQ mc ms C B P X hl K)
theorem wp_aload_n {n : Fin 4} {x : Nat} (hd : decode M.2.1 pc = .ok (.aload_n n, 1)) (hv : L[(n : Nat)]? = some (some (.ref x))) (k : Wp l S d b M (pc + 1) L (.ref x :: st) μ Q) : Wp l S d b M pc L st μ Q := by
  intro p e R s m args below meth c H locs cells slots ls D ad ca tys A QQ mc ms C B P X hl K
  exact lv_aload_n C.1 C.2.1 hd rfl (hl.at hv) (k p e R s m args below meth c H locs cells slots ls D ad ca tys A QQ mc ms C B P X hl K)
theorem wp_aload {n : Nat} {x : Nat} (hd : decode M.2.1 pc = .ok (.aload n, 2)) (hv : L[n]? = some (some (.ref x))) (k : Wp l S d b M (pc + 2) L (.ref x :: st) μ Q) : Wp l S d b M pc L st μ Q := by
  intro p e R s m args below meth c H locs cells slots ls D ad ca tys A QQ mc ms C B P X hl K
  exact lv_aload C.1 C.2.1 hd (hl.at hv) (k p e R s m args below meth c H locs cells slots ls D ad ca tys A QQ mc ms C B P X hl K)
theorem wp0_istore_n {n : Fin 4} {x : Int32} (hd : decode M.2.1 pc = .ok (.istore_n n, 1)) (hn : (n : Nat) < M.2.2.1) (k : Wp l S d b M (pc + 1) (sl L n (.int x)) st μ Q) : Wp l S d b M pc L (.int x :: st) μ Q := by
  intro p e R s m args below meth c H locs cells slots ls D ad ca tys A QQ mc ms C B P X hl K
  exact lv_istore_n C.1 C.2.1 hd rfl hl.has hn rfl (fun ls1 h1 => k p e R s m args below meth c H locs cells slots ls1 D ad ca tys A QQ mc ms C B P X (lrel_store (v := .int x) hl rfl h1) K)
theorem wp0_istore {n : Nat} {x : Int32} (hd : decode M.2.1 pc = .ok (.istore n, 2)) (hn : n < M.2.2.1) (k : Wp l S d b M (pc + 2) (sl L n (.int x)) st μ Q) : Wp l S d b M pc L (.int x :: st) μ Q := by
  intro p e R s m args below meth c H locs cells slots ls D ad ca tys A QQ mc ms C B P X hl K
  exact lv_istore C.1 C.2.1 hd hl.has hn rfl (fun ls1 h1 => k p e R s m args below meth c H locs cells slots ls1 D ad ca tys A QQ mc ms C B P X (lrel_store (v := .int x) hl rfl h1) K)
theorem wp0_astore_n {n : Fin 4} {x : Nat} (hd : decode M.2.1 pc = .ok (.astore_n n, 1)) (hn : (n : Nat) < M.2.2.1) (k : Wp l S d b M (pc + 1) (sl L n (.ref x)) st μ Q) : Wp l S d b M pc L (.ref x :: st) μ Q := by
  intro p e R s m args below meth c H locs cells slots ls D ad ca tys A QQ mc ms C B P X hl K
  exact lv_astore_n C.1 C.2.1 hd rfl hl.has hn rfl (fun ls1 h1 => k p e R s m args below meth c H locs cells slots ls1 D ad ca tys A QQ mc ms C B P X (lrel_store (v := .ref x) hl rfl h1) K)
theorem wp0_astore {n : Nat} {x : Nat} (hd : decode M.2.1 pc = .ok (.astore n, 2)) (hn : n < M.2.2.1) (k : Wp l S d b M (pc + 2) (sl L n (.ref x)) st μ Q) : Wp l S d b M pc L (.ref x :: st) μ Q := by
  intro p e R s m args below meth c H locs cells slots ls D ad ca tys A QQ mc ms C B P X hl K
  exact lv_astore C.1 C.2.1 hd hl.has hn rfl (fun ls1 h1 => k p e R s m args below meth c H locs cells slots ls1 D ad ca tys A QQ mc ms C B P X (lrel_store (v := .ref x) hl rfl h1) K)
theorem wp0_lstore_n {n : Fin 4} {x : Int64} (hd : decode M.2.1 pc = .ok (.lstore_n n, 1)) (hn : (n : Nat) + 1 < M.2.2.1) (k : Wp l S d b M (pc + 1) (sl2 L n (.long x)) st μ Q) : Wp l S d b M pc L (.long x :: st) μ Q := by
  intro p e R s m args below meth c H locs cells slots ls D ad ca tys A QQ mc ms C B P X hl K
  exact lv_lstore_n C.1 C.2.1 hd rfl hl.has hn rfl (fun ls1 h1 => k p e R s m args below meth c H locs cells slots ls1 D ad ca tys A QQ mc ms C B P X (lrel_store2 (v := .long x) hl h1) K)
theorem wp0_iinc {n : Nat} {i : Int} {x : Int32} (hd : decode M.2.1 pc = .ok (.iinc n i, 3)) (hv : L[n]? = some (some (.int x))) (hn : n < M.2.2.1) (k : Wp l S d b M (pc + 3) (sl L n (.int (x + Int32.ofInt i))) st μ Q) : Wp l S d b M pc L st μ Q := by
  intro p e R s m args below meth c H locs cells slots ls D ad ca tys A QQ mc ms C B P X hl K
  obtain ⟨kk, hkk⟩ := List.getElem?_of_mem (llist_mem (ad := ad) hv)
  exact lv_iinc C.1 C.2.1 hd hl.has hkk rfl hn rfl (fun ls1 h1 => k p e R s m args below meth c H locs cells slots ls1 D ad ca tys A QQ mc ms C B P X (lrel_store (v := .int (x + Int32.ofInt i)) hl rfl h1) K)
theorem wp_dup {v : Value} (hd : decode M.2.1 pc = .ok (.dup, 1)) (hv : v.category = 1) (k : Wp l S d b M (pc + 1) L (v :: v :: st) μ Q) : Wp l S d b M pc L (v :: st) μ Q := by
  intro p e R s m args below meth c H locs cells slots ls D ad ca tys A QQ mc ms C B P X hl K
  exact lv_dup C.1 C.2.1 hd ((rl_cat ad v).trans hv) (k p e R s m args below meth c H locs cells slots ls D ad ca tys A QQ mc ms C B P X hl K)
theorem wp_dup_x1 {v w : Value} (hd : decode M.2.1 pc = .ok (.dup_x1, 1)) (hv : v.category = 1) (hw : w.category = 1) (k : Wp l S d b M (pc + 1) L (v :: w :: v :: st) μ Q) : Wp l S d b M pc L (v :: w :: st) μ Q := by
  intro p e R s m args below meth c H locs cells slots ls D ad ca tys A QQ mc ms C B P X hl K
  exact lv_dup_x1 C.1 C.2.1 hd ((rl_cat ad v).trans hv) ((rl_cat ad w).trans hw) (k p e R s m args below meth c H locs cells slots ls D ad ca tys A QQ mc ms C B P X hl K)
theorem wp_dup2 {v w : Value} (hd : decode M.2.1 pc = .ok (.dup2, 1)) (hv : v.category = 1) (hw : w.category = 1) (k : Wp l S d b M (pc + 1) L (v :: w :: v :: w :: st) μ Q) : Wp l S d b M pc L (v :: w :: st) μ Q := by
  intro p e R s m args below meth c H locs cells slots ls D ad ca tys A QQ mc ms C B P X hl K
  exact lv_dup2_11 C.1 C.2.1 hd ((rl_cat ad v).trans hv) ((rl_cat ad w).trans hw) (k p e R s m args below meth c H locs cells slots ls D ad ca tys A QQ mc ms C B P X hl K)
theorem wp_pop {v : Value} (hd : decode M.2.1 pc = .ok (.pop, 1)) (hv : v.category = 1) (k : Wp l S d b M (pc + 1) L st μ Q) : Wp l S d b M pc L (v :: st) μ Q := by
  intro p e R s m args below meth c H locs cells slots ls D ad ca tys A QQ mc ms C B P X hl K
  exact lv_pop C.1 C.2.1 hd ((rl_cat ad v).trans hv) (k p e R s m args below meth c H locs cells slots ls D ad ca tys A QQ mc ms C B P X hl K)
theorem wp_goto {o : Int} (tgt : Nat) (hd : decode M.2.1 pc = .ok (.goto o, 3)) (ht : (pc : Int) + o = (tgt : Int)) (k : Wp l S d b M tgt L st μ Q) : Wp l S d b M pc L st μ Q := by
  intro p e R s m args below meth c H locs cells slots ls D ad ca tys A QQ mc ms C B P X hl K
  exact lv_goto C.1 C.2.1 hd ht (k p e R s m args below meth c H locs cells slots ls D ad ca tys A QQ mc ms C B P X hl K)
theorem wp_icmp_eq {x y : Int32} {o : Int} (tgt : Nat) (hd : decode M.2.1 pc = .ok (.if_icmp .eq o, 3)) (ht : (pc : Int) + o = (tgt : Int)) (k1 : x = y → Wp l S d b M tgt L st μ Q) (k2 : ¬ x = y → Wp l S d b M (pc + 3) L st μ Q) : Wp l S d b M pc L (.int y :: .int x :: st) μ Q := by
  intro p e R s m args below meth c H locs cells slots ls D ad ca tys A QQ mc ms C B P X hl K
  exact lv_icmp_eq C.1 C.2.1 hd ht (fun h => k1 h p e R s m args below meth c H locs cells slots ls D ad ca tys A QQ mc ms C B P X hl K) (fun h => k2 h p e R s m args below meth c H locs cells slots ls D ad ca tys A QQ mc ms C B P X hl K)
theorem wp_if_eq {x : Int32} {o : Int} (tgt : Nat) (hd : decode M.2.1 pc = .ok (.ifCond .eq o, 3)) (ht : (pc : Int) + o = (tgt : Int)) (k1 : x = 0 → Wp l S d b M tgt L st μ Q) (k2 : ¬ x = 0 → Wp l S d b M (pc + 3) L st μ Q) : Wp l S d b M pc L (.int x :: st) μ Q := by
  intro p e R s m args below meth c H locs cells slots ls D ad ca tys A QQ mc ms C B P X hl K
  exact lv_if_eq C.1 C.2.1 hd ht (fun h => k1 h p e R s m args below meth c H locs cells slots ls D ad ca tys A QQ mc ms C B P X hl K) (fun h => k2 h p e R s m args below meth c H locs cells slots ls D ad ca tys A QQ mc ms C B P X hl K)
theorem wp_icmp_ne {x y : Int32} {o : Int} (tgt : Nat) (hd : decode M.2.1 pc = .ok (.if_icmp .ne o, 3)) (ht : (pc : Int) + o = (tgt : Int)) (k1 : ¬ x = y → Wp l S d b M tgt L st μ Q) (k2 : x = y → Wp l S d b M (pc + 3) L st μ Q) : Wp l S d b M pc L (.int y :: .int x :: st) μ Q := by
  intro p e R s m args below meth c H locs cells slots ls D ad ca tys A QQ mc ms C B P X hl K
  exact lv_icmp_ne C.1 C.2.1 hd ht (fun h => k1 h p e R s m args below meth c H locs cells slots ls D ad ca tys A QQ mc ms C B P X hl K) (fun h => k2 h p e R s m args below meth c H locs cells slots ls D ad ca tys A QQ mc ms C B P X hl K)
theorem wp_if_ne {x : Int32} {o : Int} (tgt : Nat) (hd : decode M.2.1 pc = .ok (.ifCond .ne o, 3)) (ht : (pc : Int) + o = (tgt : Int)) (k1 : ¬ x = 0 → Wp l S d b M tgt L st μ Q) (k2 : x = 0 → Wp l S d b M (pc + 3) L st μ Q) : Wp l S d b M pc L (.int x :: st) μ Q := by
  intro p e R s m args below meth c H locs cells slots ls D ad ca tys A QQ mc ms C B P X hl K
  exact lv_if_ne C.1 C.2.1 hd ht (fun h => k1 h p e R s m args below meth c H locs cells slots ls D ad ca tys A QQ mc ms C B P X hl K) (fun h => k2 h p e R s m args below meth c H locs cells slots ls D ad ca tys A QQ mc ms C B P X hl K)
theorem wp_icmp_lt {x y : Int32} {o : Int} (tgt : Nat) (hd : decode M.2.1 pc = .ok (.if_icmp .lt o, 3)) (ht : (pc : Int) + o = (tgt : Int)) (k1 : x < y → Wp l S d b M tgt L st μ Q) (k2 : ¬ x < y → Wp l S d b M (pc + 3) L st μ Q) : Wp l S d b M pc L (.int y :: .int x :: st) μ Q := by
  intro p e R s m args below meth c H locs cells slots ls D ad ca tys A QQ mc ms C B P X hl K
  exact lv_icmp_lt C.1 C.2.1 hd ht (fun h => k1 h p e R s m args below meth c H locs cells slots ls D ad ca tys A QQ mc ms C B P X hl K) (fun h => k2 h p e R s m args below meth c H locs cells slots ls D ad ca tys A QQ mc ms C B P X hl K)
theorem wp_if_lt {x : Int32} {o : Int} (tgt : Nat) (hd : decode M.2.1 pc = .ok (.ifCond .lt o, 3)) (ht : (pc : Int) + o = (tgt : Int)) (k1 : x < 0 → Wp l S d b M tgt L st μ Q) (k2 : ¬ x < 0 → Wp l S d b M (pc + 3) L st μ Q) : Wp l S d b M pc L (.int x :: st) μ Q := by
  intro p e R s m args below meth c H locs cells slots ls D ad ca tys A QQ mc ms C B P X hl K
  exact lv_if_lt C.1 C.2.1 hd ht (fun h => k1 h p e R s m args below meth c H locs cells slots ls D ad ca tys A QQ mc ms C B P X hl K) (fun h => k2 h p e R s m args below meth c H locs cells slots ls D ad ca tys A QQ mc ms C B P X hl K)
theorem wp_icmp_ge {x y : Int32} {o : Int} (tgt : Nat) (hd : decode M.2.1 pc = .ok (.if_icmp .ge o, 3)) (ht : (pc : Int) + o = (tgt : Int)) (k1 : y ≤ x → Wp l S d b M tgt L st μ Q) (k2 : ¬ y ≤ x → Wp l S d b M (pc + 3) L st μ Q) : Wp l S d b M pc L (.int y :: .int x :: st) μ Q := by
  intro p e R s m args below meth c H locs cells slots ls D ad ca tys A QQ mc ms C B P X hl K
  exact lv_icmp_ge C.1 C.2.1 hd ht (fun h => k1 h p e R s m args below meth c H locs cells slots ls D ad ca tys A QQ mc ms C B P X hl K) (fun h => k2 h p e R s m args below meth c H locs cells slots ls D ad ca tys A QQ mc ms C B P X hl K)
theorem wp_if_ge {x : Int32} {o : Int} (tgt : Nat) (hd : decode M.2.1 pc = .ok (.ifCond .ge o, 3)) (ht : (pc : Int) + o = (tgt : Int)) (k1 : 0 ≤ x → Wp l S d b M tgt L st μ Q) (k2 : ¬ 0 ≤ x → Wp l S d b M (pc + 3) L st μ Q) : Wp l S d b M pc L (.int x :: st) μ Q := by
  intro p e R s m args below meth c H locs cells slots ls D ad ca tys A QQ mc ms C B P X hl K
  exact lv_if_ge C.1 C.2.1 hd ht (fun h => k1 h p e R s m args below meth c H locs cells slots ls D ad ca tys A QQ mc ms C B P X hl K) (fun h => k2 h p e R s m args below meth c H locs cells slots ls D ad ca tys A QQ mc ms C B P X hl K)
theorem wp_icmp_gt {x y : Int32} {o : Int} (tgt : Nat) (hd : decode M.2.1 pc = .ok (.if_icmp .gt o, 3)) (ht : (pc : Int) + o = (tgt : Int)) (k1 : y < x → Wp l S d b M tgt L st μ Q) (k2 : ¬ y < x → Wp l S d b M (pc + 3) L st μ Q) : Wp l S d b M pc L (.int y :: .int x :: st) μ Q := by
  intro p e R s m args below meth c H locs cells slots ls D ad ca tys A QQ mc ms C B P X hl K
  exact lv_icmp_gt C.1 C.2.1 hd ht (fun h => k1 h p e R s m args below meth c H locs cells slots ls D ad ca tys A QQ mc ms C B P X hl K) (fun h => k2 h p e R s m args below meth c H locs cells slots ls D ad ca tys A QQ mc ms C B P X hl K)
theorem wp_if_gt {x : Int32} {o : Int} (tgt : Nat) (hd : decode M.2.1 pc = .ok (.ifCond .gt o, 3)) (ht : (pc : Int) + o = (tgt : Int)) (k1 : 0 < x → Wp l S d b M tgt L st μ Q) (k2 : ¬ 0 < x → Wp l S d b M (pc + 3) L st μ Q) : Wp l S d b M pc L (.int x :: st) μ Q := by
  intro p e R s m args below meth c H locs cells slots ls D ad ca tys A QQ mc ms C B P X hl K
  exact lv_if_gt C.1 C.2.1 hd ht (fun h => k1 h p e R s m args below meth c H locs cells slots ls D ad ca tys A QQ mc ms C B P X hl K) (fun h => k2 h p e R s m args below meth c H locs cells slots ls D ad ca tys A QQ mc ms C B P X hl K)
theorem wp_icmp_le {x y : Int32} {o : Int} (tgt : Nat) (hd : decode M.2.1 pc = .ok (.if_icmp .le o, 3)) (ht : (pc : Int) + o = (tgt : Int)) (k1 : x ≤ y → Wp l S d b M tgt L st μ Q) (k2 : ¬ x ≤ y → Wp l S d b M (pc + 3) L st μ Q) : Wp l S d b M pc L (.int y :: .int x :: st) μ Q := by
  intro p e R s m args below meth c H locs cells slots ls D ad ca tys A QQ mc ms C B P X hl K
  exact lv_icmp_le C.1 C.2.1 hd ht (fun h => k1 h p e R s m args below meth c H locs cells slots ls D ad ca tys A QQ mc ms C B P X hl K) (fun h => k2 h p e R s m args below meth c H locs cells slots ls D ad ca tys A QQ mc ms C B P X hl K)
theorem wp_if_le {x : Int32} {o : Int} (tgt : Nat) (hd : decode M.2.1 pc = .ok (.ifCond .le o, 3)) (ht : (pc : Int) + o = (tgt : Int)) (k1 : x ≤ 0 → Wp l S d b M tgt L st μ Q) (k2 : ¬ x ≤ 0 → Wp l S d b M (pc + 3) L st μ Q) : Wp l S d b M pc L (.int x :: st) μ Q := by
  intro p e R s m args below meth c H locs cells slots ls D ad ca tys A QQ mc ms C B P X hl K
  exact lv_if_le C.1 C.2.1 hd ht (fun h => k1 h p e R s m args below meth c H locs cells slots ls D ad ca tys A QQ mc ms C B P X hl K) (fun h => k2 h p e R s m args below meth c H locs cells slots ls D ad ca tys A QQ mc ms C B P X hl K)
theorem wp_tableIn {x : Int32} {dflt lo hi : Int} {offs : Array Int} {len : Nat} {off : Int} {tgt : Nat} (hd : decode M.2.1 pc = .ok (.tableswitch dflt lo hi offs, len)) (h1 : ¬ x.toInt < lo) (h2 : ¬ hi < x.toInt) (ho : offs[(x.toInt - lo).toNat]? = some off) (ht : (pc : Int) + off = (tgt : Int)) (k : Wp l S d b M tgt L st μ Q) : Wp l S d b M pc L (.int x :: st) μ Q := by
  intro p e R s m args below meth c H locs cells slots ls D ad ca tys A QQ mc ms C B P X hl K
  exact lv_tableIn C.1 C.2.1 hd h1 h2 ho ht (k p e R s m args below meth c H locs cells slots ls D ad ca tys A QQ mc ms C B P X hl K)
theorem wp_tableOut {x : Int32} {dflt lo hi : Int} {offs : Array Int} {len : Nat} {tgt : Nat} (hd : decode M.2.1 pc = .ok (.tableswitch dflt lo hi offs, len)) (h : x.toInt < lo ∨ hi < x.toInt) (ht : (pc : Int) + dflt = (tgt : Int)) (k : Wp l S d b M tgt L st μ Q) : Wp l S d b M pc L (.int x :: st) μ Q := by
  intro p e R s m args below meth c H locs cells slots ls D ad ca tys A QQ mc ms C B P X hl K
  exact lv_tableOut C.1 C.2.1 hd h ht (k p e R s m args below meth c H locs cells slots ls D ad ca tys A QQ mc ms C B P X hl K)
theorem wp_lookup {x : Int32} {dflt : Int} {ps : Array (Int × Int)} {len : Nat} {off : Int} {tgt : Nat} (hd : decode M.2.1 pc = .ok (.lookupswitch dflt ps, len)) (hp : (ps.toList.zip (ps.toList.drop 1)).all (fun (a, next) => a.1 < next.1) = true) (ho : Op.lookupswitch.offset ps.toList dflt x.toInt = off) (ht : (pc : Int) + off = (tgt : Int)) (k : Wp l S d b M tgt L st μ Q) : Wp l S d b M pc L (.int x :: st) μ Q := by
  intro p e R s m args below meth c H locs cells slots ls D ad ca tys A QQ mc ms C B P X hl K
  exact lv_lookup C.1 C.2.1 hd hp ho ht (k p e R s m args below meth c H locs cells slots ls D ad ca tys A QQ mc ms C B P X hl K)
/-- a field: its kind of object, its place, its type, whether it is final -/
def FL (own : String) (idx c k : Nat) (ty : FieldType) (fin : Bool) : Prop := ∃ (C : String) (T : u_T) (N : Nat) (ty0 : Nat → FieldType), vwCl[c]? = some (C, T, N) ∧ (∀ w ∈ u_ws C T N, w ∈ lwT) ∧ N = nfc c ∧ k < N ∧ (∀ j, j < N → parseFieldDescriptor (T j).2.2.1 = some (ty0 j)) ∧ (∀ a, a < N → ∀ b, b < N → a ≠ b → (T a).2.1 ≠ (T b).2.1) ∧ Cond.fieldLink own idx C (T k).2.1 (T k).2.2.1 ∈ lwT ∧ (T k).1 = C ∧ parseFieldDescriptor (T k).2.2.1 = some ty ∧ (T k).2.2.2 = fin
theorem cellE_obj {ad : Nat → Nat} {ca : Nat → ClassId} {S : Sh} {μ : Mm} {i c : Nat} (h : sK S i = c) (hc : c < 12) : cellE ad ca S μ i = .inr (c, (List.range (nfc c)).map (fv ad S μ i)) := by
  unfold cellE
  rw [h, if_pos hc]
theorem cellE_row {ad : Nat → Nat} {ca : Nat → ClassId} {S : Sh} {μ : Mm} {i : Nat} (h : sK S i = 12) : cellE ad ca S μ i = .inl (ca i, sL S i, .inl (μ.1 i)) := by
  unfold cellE
  rw [h]
  rfl
theorem cellE_refs {ad : Nat → Nat} {ca : Nat → ClassId} {S : Sh} {μ : Mm} {i c : Nat} (h : sK S i = c) (hc : 12 < c) : cellE ad ca S μ i = .inl (ca i, sL S i, .inr (.inr (.inr (.inr (fun j => (sR S i j).map ad))))) := by
  unfold cellE
  rw [h, if_neg (by omega), if_neg (by omega)]
theorem fv_int {ad : Nat → Nat} {S : Sh} {μ : Mm} {i c k : Nat} (h : sK S i = c) (hf : ftc c k = 0) : fv ad S μ i k = .int (μ.1 i k) := by
  unfold fv
  rw [h, if_pos hf]
theorem fv_long {ad : Nat → Nat} {S : Sh} {μ : Mm} {i c k : Nat} (h : sK S i = c) (hf : ftc c k = 1) : fv ad S μ i k = .long (μ.2 i k) := by
  unfold fv
  rw [h, if_neg (by omega), if_pos hf]
theorem fv_ref {ad : Nat → Nat} {S : Sh} {μ : Mm} {i c k : Nat} (h : sK S i = c) (hf : ftc c k = 2) : fv ad S μ i k = va_rf ((sR S i k).map ad) := by
  unfold fv
  rw [h, if_neg (by omega), if_neg (by omega)]
theorem getf_at {ad : Nat → Nat} {ca : Nat → ClassId} {S : Sh} {μ : Mm} {i c : Nat} (hi : i < sN S) (h : sK S i = c) (hc : c < 12) : (conc ad ca S μ)[i]? = some (ad i, .inr (c, (List.range (nfc c)).map (fv ad S μ i))) := by
  rw [conc_get hi, cellE_obj h hc]
theorem wp_getf {idx c k x : Nat} {ty : FieldType} {fin : Bool} (hF : FL M.1.cls idx c k ty fin) (hc : c < 12) (hx : x < sN S) (hk : sK S x = c) {v : Value} (hv : ∀ ad : Nat → Nat, fv ad S μ x k = rl ad v) (hd : decode M.2.1 pc = .ok (.getfield idx, 3)) (kk : Wp l S d b M (pc + 3) L (v :: st) μ Q) : Wp l S d b M pc L (.ref x :: st) μ Q := by
  obtain ⟨C0, T, N, ty0, h1, h2, h3, h4, h5, h6, h7, h8, h9, h10⟩ := hF
  intro p e R s m args below meth c H locs cells slots ls D ad ca tys A QQ mc ms C B P X hl K
  exact va_get C.1 C.2.1 C.2.2.2.2.1 h2 C.2.2.2.1 P.1 P.2.1 x (getf_at hx hk hc) h1 k h4 (C.2.2.2.2.1 _ h7) (fun z hz => by rw [h8] at hz; exact hz) (v := rl ad v) (by rw [List.getElem?_map, List.getElem?_range (by omega), Option.map_some, hv ad]) hd (kk p e R s m args below meth c H locs cells slots ls D ad ca tys A QQ mc ms C B P X hl K)
theorem wp_getI {idx c k x : Nat} {ty : FieldType} {fin : Bool} (hF : FL M.1.cls idx c k ty fin) (hc : c < 12) (hf : ftc c k = 0) (hx : x < sN S) (hk : sK S x = c) (hd : decode M.2.1 pc = .ok (.getfield idx, 3)) (kk : Wp l S d b M (pc + 3) L (.int (μ.1 x k) :: st) μ Q) : Wp l S d b M pc L (.ref x :: st) μ Q :=
  wp_getf hF hc hx hk (fun _ => fv_int hk hf) hd kk
theorem wp_getL {idx c k x : Nat} {ty : FieldType} {fin : Bool} (hF : FL M.1.cls idx c k ty fin) (hc : c < 12) (hf : ftc c k = 1) (hx : x < sN S) (hk : sK S x = c) (hd : decode M.2.1 pc = .ok (.getfield idx, 3)) (kk : Wp l S d b M (pc + 3) L (.long (μ.2 x k) :: st) μ Q) : Wp l S d b M pc L (.ref x :: st) μ Q :=
  wp_getf hF hc hx hk (fun _ => fv_long hk hf) hd kk
theorem wp_getR {idx c k x : Nat} {ty : FieldType} {fin : Bool} (y : Nat) (hF : FL M.1.cls idx c k ty fin) (hc : c < 12) (hf : ftc c k = 2) (hx : x < sN S) (hk : sK S x = c) (hr : sR S x k = some y) (hd : decode M.2.1 pc = .ok (.getfield idx, 3)) (kk : Wp l S d b M (pc + 3) L (.ref y :: st) μ Q) : Wp l S d b M pc L (.ref x :: st) μ Q :=
  wp_getf (v := .ref y) hF hc hx hk (fun ad => by rw [fv_ref hk hf, hr]; rfl) hd kk
/-- the world with a number, a long, a reference put -/
def sti (μ : Mm) (i k : Nat) (v : Int32) : Mm := (fun i' k' => if i' = i ∧ k' = k then v else μ.1 i' k', μ.2)
def stl (μ : Mm) (i k : Nat) (v : Int64) : Mm := (μ.1, fun i' k' => if i' = i ∧ k' = k then v else μ.2 i' k')
def str (S : Sh) (i k : Nat) (v : Option Nat) : Sh := (S.1, (S.2.1, fun i' k' => if i' = i ∧ k' = k then v else S.2.2 i' k'))
theorem range_set {N k : Nat} {f g : Nat → Value} {w : Value} (hw : g k = w) (h : ∀ j, j ≠ k → g j = f j) : ((List.range N).map f).set k w = (List.range N).map g := by
  apply List.ext_getElem?
  intro j
  rw [List.getElem?_set]
  by_cases e : k = j
  · subst e
    rw [if_pos rfl]
    by_cases hk : k < N
    · simp [hk, hw]
    · simp [hk]
  · rw [if_neg e]
    by_cases hj : j < N
    · simp [hj, h j (fun x => e x.symm)]
    · simp [hj]
theorem fv_sti {ad : Nat → Nat} {S : Sh} {μ : Mm} {i k i' k' : Nat} {v : Int32} (h : ¬ (i' = i ∧ k' = k)) : fv ad S (sti μ i k v) i' k' = fv ad S μ i' k' := by
  unfold fv sti
  simp only [if_neg h]
theorem fv_stl {ad : Nat → Nat} {S : Sh} {μ : Mm} {i k i' k' : Nat} {v : Int64} (h : ¬ (i' = i ∧ k' = k)) : fv ad S (stl μ i k v) i' k' = fv ad S μ i' k' := by
  unfold fv stl
  simp only [if_neg h]
theorem fv_str {ad : Nat → Nat} {S : Sh} {μ : Mm} {i k i' k' : Nat} {v : Option Nat} (h : ¬ (i' = i ∧ k' = k)) : fv ad (str S i k v) μ i' k' = fv ad S μ i' k' := by
  unfold fv str sR sK
  simp only [if_neg h]
theorem cellE_sti {ad : Nat → Nat} {ca : Nat → ClassId} {S : Sh} {μ : Mm} {i k : Nat} {v : Int32} {j : Nat} (h : j ≠ i) : cellE ad ca S (sti μ i k v) j = cellE ad ca S μ j := by
  have e : fv ad S (sti μ i k v) j = fv ad S μ j := by
    funext k'
    exact fv_sti (fun z => h z.1)
  have e2 : (sti μ i k v).1 j = μ.1 j := by
    funext k'
    unfold sti
    simp only [if_neg (fun z : j = i ∧ k' = k => h z.1)]
  unfold cellE
  rw [e, e2]
theorem cellE_stl {ad : Nat → Nat} {ca : Nat → ClassId} {S : Sh} {μ : Mm} {i k : Nat} {v : Int64} {j : Nat} (h : j ≠ i) : cellE ad ca S (stl μ i k v) j = cellE ad ca S μ j := by
  have e : fv ad S (stl μ i k v) j = fv ad S μ j := by
    funext k'
    exact fv_stl (fun z => h z.1)
  unfold cellE
  rw [e]
  rfl
theorem cellE_str {ad : Nat → Nat} {ca : Nat → ClassId} {S : Sh} {μ : Mm} {i k : Nat} {v : Option Nat} {j : Nat} (h : j ≠ i) : cellE ad ca (str S i k v) μ j = cellE ad ca S μ j := by
  have e : fv ad (str S i k v) μ j = fv ad S μ j := by
    funext k'
    exact fv_str (fun z => h z.1)
  have e2 : (fun k' => (sR (str S i k v) j k').map ad) = (fun k' => (sR S j k').map ad) := by
    funext k'
    unfold sR str
    simp only [if_neg (fun z : j = i ∧ k' = k => h z.1)]
  unfold cellE
  rw [e, e2]
  rfl
theorem Rp.put {D : va_G} {ad : Nat → Nat} {ca : Nat → ClassId} {tys : List (ClassId × FieldType)} {S S' : Sh} {μ μ' : Mm} {A : Nat → Prop} {s : State} {H H1 : Heap} {locs locs1 : List Loc} {x : Nat} {e : va_E} (P : Rp D ad ca tys S μ A s H locs) (hn : sN S' = sN S) (hkk : ∀ i, sK S' i = sK S i) (he : cellE ad ca S' μ' x = e) (hj : ∀ j, j ≠ x → cellE ad ca S' μ' j = cellE ad ca S μ j)
    (hP : va_P D vwCl ((conc ad ca S μ).set x (ad x, e)) H1) (hD : va_D A ((conc ad ca S μ).set x (ad x, e))) (hS : va_S A s.heap H1 locs1) : Rp D ad ca tys S' μ' A s H1 locs1 := by
  rw [← he, conc_set hn hj] at hP hD
  exact ⟨P.1, hP, hD, hS, P.2.2.2.2.1, fun i hi h => by rw [hkk i] at h ⊢; rw [hn] at hi; exact P.2.2.2.2.2 i hi h⟩
theorem wp_putI {idx ck k x : Nat} {ty : FieldType} {v : Int32} (hF : FL M.1.cls idx ck k ty false) (hc : ck < 12) (hf : ftc ck k = 0) (hx : x < sN S) (hk : sK S x = ck) (hn : narrow ty (.int v) = .int v) (hfit : fits ty (.int v) = true) (hd : decode M.2.1 pc = .ok (.putfield idx, 3)) (kk : Wp l S d b M (pc + 3) L st (sti μ x k v) Q) : Wp l S d b M pc L (.int v :: .ref x :: st) μ Q := by
  obtain ⟨C0, T, N, ty0, h1, h2, h3, h4, h5, h6, h7, h8, h9, h10⟩ := hF
  intro p e R s m args below meth c H locs cells slots ls D ad ca tys A QQ mc ms C B P X hl K
  refine va_put C.1 C.2.1 C.2.2.2.2.1 h2 ty0 h5 h6 C.2.2.2.1 P.1 P.2.1 P.2.2.1 P.2.2.2.1 x (getf_at hx hk hc) h1 k h4 (C.2.2.2.2.1 _ h7) (fun z hz => by rw [h8] at hz; exact hz) h10 h9 hn hfit (by simp; omega) hd (fun H1 locs1 hP hD hS => ?_)
  refine kk p e R s m args below meth c H1 locs1 cells slots ls D ad ca tys A QQ mc ms C B (P.put (e := .inr (ck, ((List.range (nfc ck)).map (fv ad S μ x)).set k (.int v))) rfl (fun _ => rfl) ?_ (fun j hj => cellE_sti hj) hP hD hS) X hl K
  rw [cellE_obj hk hc]
  congr 2
  exact (range_set (by rw [fv_int hk hf]; simp [sti]) (fun j hj => fv_sti (fun z => hj z.2))).symm
theorem wp_putL {idx ck k x : Nat} {v : Int64} (hF : FL M.1.cls idx ck k .long false) (hc : ck < 12) (hf : ftc ck k = 1) (hx : x < sN S) (hk : sK S x = ck) (hd : decode M.2.1 pc = .ok (.putfield idx, 3)) (kk : Wp l S d b M (pc + 3) L st (stl μ x k v) Q) : Wp l S d b M pc L (.long v :: .ref x :: st) μ Q := by
  obtain ⟨C0, T, N, ty0, h1, h2, h3, h4, h5, h6, h7, h8, h9, h10⟩ := hF
  intro p e R s m args below meth c H locs cells slots ls D ad ca tys A QQ mc ms C B P X hl K
  refine va_put C.1 C.2.1 C.2.2.2.2.1 h2 ty0 h5 h6 C.2.2.2.1 P.1 P.2.1 P.2.2.1 P.2.2.2.1 x (getf_at hx hk hc) h1 k h4 (C.2.2.2.2.1 _ h7) (fun z hz => by rw [h8] at hz; exact hz) h10 h9 rfl rfl (by simp; omega) hd (fun H1 locs1 hP hD hS => ?_)
  refine kk p e R s m args below meth c H1 locs1 cells slots ls D ad ca tys A QQ mc ms C B (P.put (e := .inr (ck, ((List.range (nfc ck)).map (fv ad S μ x)).set k (.long v))) rfl (fun _ => rfl) ?_ (fun j hj => cellE_stl hj) hP hD hS) X hl K
  rw [cellE_obj hk hc]
  congr 2
  exact (range_set (by rw [fv_long hk hf]; simp [stl]) (fun j hj => fv_stl (fun z => hj z.2))).symm
theorem wp_putF {idx ck k x y : Nat} {ty : FieldType} (hF : FL M.1.cls idx ck k ty true) (hc : ck < 12) (hf : ftc ck k = 2) (hx : x < sN S) (hk : sK S x = ck) (hnm : M.1.name = "<init>") (hown : ((vwCl.getD ck ("", (fun _ => ("", "", "", false)), 0)).1) = M.1.cls) (hfit : ∀ a : Nat, narrow ty (.ref a) = .ref a ∧ fits ty (.ref a) = true) (hd : decode M.2.1 pc = .ok (.putfield idx, 3)) (kk : Wp l (str S x k (some y)) d b M (pc + 3) L st μ Q) : Wp l S d b M pc L (.ref y :: .ref x :: st) μ Q := by
  obtain ⟨C0, T, N, ty0, h1, h2, h3, h4, h5, h6, h7, h8, h9, h10⟩ := hF
  intro p e R s m args below meth c H locs cells slots ls D ad ca tys A QQ mc ms C B P X hl K
  refine va_putF C.1 C.2.1 C.2.2.2.2.1 h2 ty0 h5 h6 C.2.2.2.1 P.1 P.2.1 P.2.2.1 P.2.2.2.1 x (getf_at hx hk hc) h1 k h4 (C.2.2.2.2.1 _ h7) (fun z hz => by rw [h8] at hz; exact hz) h10 (C.2.2.2.2.2.2.2.trans hnm) ?_ h9 (hfit (ad y)).1 (hfit (ad y)).2 (by simp; omega) hd (fun H1 locs1 hP hD hS => ?_)
  · rw [h8, ← hown, List.getD_eq_getElem?_getD, h1]
    rfl
  refine kk p e R s m args below meth c H1 locs1 cells slots ls D ad ca tys A QQ mc ms C B (P.put (S' := str S x k (some y)) (e := .inr (ck, ((List.range (nfc ck)).map (fv ad S μ x)).set k (.ref (ad y)))) rfl (fun _ => rfl) ?_ (fun j hj => cellE_str hj) hP hD hS) X hl K
  rw [cellE_obj (show sK (str S x k (some y)) x = ck from hk) hc]
  congr 2
  refine (range_set ?_ (fun j hj => fv_str (fun z => hj z.2))).symm
  rw [fv_ref (show sK (str S x k (some y)) x = ck from hk) hf]
  simp [sR, str, va_rf]
-- rows
theorem wp_iald {x : Nat} {i : Int32} (hx : x < sN S) (hk : sK S x = 12) (hin : vp_in i (sL S x)) (hd : decode M.2.1 pc = .ok (.iaload, 1)) (kk : Wp l S d b M (pc + 1) L (.int (μ.1 x i.toNatClampNeg) :: st) μ Q) : Wp l S d b M pc L (.int i :: .ref x :: st) μ Q := by
  intro p e R s m args below meth c H locs cells slots ls D ad ca tys A QQ mc ms C B P X hl K
  obtain ⟨t0, ht⟩ := P.2.2.2.2.2 x hx (by omega)
  rw [hk] at ht
  exact va_iald C.1 C.2.1 P.1 P.2.1 x t0 (by rw [conc_get hx, cellE_row hk]) ht hin hd (kk p e R s m args below meth c H locs cells slots ls D ad ca tys A QQ mc ms C B P X hl K)
theorem wp_iast {x : Nat} {i v : Int32} (hx : x < sN S) (hk : sK S x = 12) (hin : vp_in i (sL S x)) (hd : decode M.2.1 pc = .ok (.iastore, 1)) (kk : Wp l S d b M (pc + 1) L st (sti μ x i.toNatClampNeg v) Q) : Wp l S d b M pc L (.int v :: .int i :: .ref x :: st) μ Q := by
  intro p e R s m args below meth c H locs cells slots ls D ad ca tys A QQ mc ms C B P X hl K
  obtain ⟨t0, ht⟩ := P.2.2.2.2.2 x hx (by omega)
  rw [hk] at ht
  refine va_iast C.1 C.2.1 P.1 P.2.1 P.2.2.1 P.2.2.2.1 x t0 (by rw [conc_get hx, cellE_row hk]) ht hin hd (fun H1 locs1 hP hD hS => ?_)
  refine kk p e R s m args below meth c H1 locs1 cells slots ls D ad ca tys A QQ mc ms C B (P.put (e := .inl (ca x, sL S x, .inl (upd (μ.1 x) i.toNatClampNeg v))) rfl (fun _ => rfl) ?_ (fun j hj => cellE_sti hj) hP hD hS) X hl K
  rw [cellE_row hk]
  congr 4
  funext j
  simp [sti, upd]
theorem wp_alen {x : Nat} (hx : x < sN S) (hk : sK S x = 12) (hd : decode M.2.1 pc = .ok (.arraylength, 1)) (kk : Wp l S d b M (pc + 1) L (.int (nI (sL S x)) :: st) μ Q) : Wp l S d b M pc L (.ref x :: st) μ Q := by
  intro p e R s m args below meth c H locs cells slots ls D ad ca tys A QQ mc ms C B P X hl K
  obtain ⟨t0, ht⟩ := P.2.2.2.2.2 x hx (by omega)
  rw [hk] at ht
  exact va_alen C.1 C.2.1 P.1 P.2.1 x t0 (x := (sL S x, .inl (μ.1 x))) (by rw [conc_get hx, cellE_row hk]) ht rfl hd (kk p e R s m args below meth c H locs cells slots ls D ad ca tys A QQ mc ms C B P X hl K)
theorem wp_aald {x c : Nat} {i : Int32} (y : Nat) (hx : x < sN S) (hk : sK S x = c) (hc : 12 < c) (hin : vp_in i (sL S x)) (hr : sR S x i.toNatClampNeg = some y) (hd : decode M.2.1 pc = .ok (.aaload, 1)) (kk : Wp l S d b M (pc + 1) L (.ref y :: st) μ Q) : Wp l S d b M pc L (.int i :: .ref x :: st) μ Q := by
  intro p e R s m args below meth c H locs cells slots ls D ad ca tys A QQ mc ms C B P X hl K
  obtain ⟨t0, ht⟩ := P.2.2.2.2.2 x hx (by omega)
  have ht : ∃ CN : String, tys[t0]? = some (ca x, .object CN) := by
    rw [ht]
    unfold ety
    rw [if_neg (by omega)]
    split
    · exact ⟨_, rfl⟩
    · exact ⟨_, rfl⟩
  obtain ⟨CN, ht⟩ := ht
  refine va_aldq C.1 C.2.1 P.1 P.2.1 x t0 (by rw [conc_get hx, cellE_refs hk hc]) ht hin hd ?_
  rw [hr]
  exact kk p e R s m args below meth c H locs cells slots ls D ad ca tys A QQ mc ms C B P X hl K
-- the constants' rows
theorem wp_getLeast {idx : Nat} (hl0 : Cond.fieldLink M.1.cls idx "NineCopies" "LEAST_TOLD" "[I" ∈ lwT) (hd : decode M.2.1 pc = .ok (.getstatic idx, 3)) (kk : Wp l S d b M (pc + 3) L (.ref 1000000 :: st) μ Q) : Wp l S d b M pc L st μ Q := by
  intro p e R s m args below meth c H locs cells slots ls D ad ca tys A QQ mc ms C B P X hl K
  exact va_gets C.1 C.2.1 X.1.1 P.2.2.2.1 C.2.2.2.1 (C.2.2.2.2.1 _ hl0) (fun _ h => h) hd (kk p e R s m args below meth c H locs cells slots ls D ad ca tys A QQ mc ms C B P X hl K)
theorem wp_getMost {idx : Nat} (hl0 : Cond.fieldLink M.1.cls idx "NineCopies" "MOST_TOLD" "[I" ∈ lwT) (hd : decode M.2.1 pc = .ok (.getstatic idx, 3)) (kk : Wp l S d b M (pc + 3) L (.ref 1000001 :: st) μ Q) : Wp l S d b M pc L st μ Q := by
  intro p e R s m args below meth c H locs cells slots ls D ad ca tys A QQ mc ms C B P X hl K
  exact va_gets C.1 C.2.1 X.2.1.1 P.2.2.2.1 C.2.2.2.1 (C.2.2.2.2.1 _ hl0) (fun _ h => h) hd (kk p e R s m args below meth c H locs cells slots ls D ad ca tys A QQ mc ms C B P X hl K)
theorem wp_ialdLeast {i : Int32} (hin : vp_in i 10) (hd : decode M.2.1 pc = .ok (.iaload, 1)) (kk : Wp l S d b M (pc + 1) L (.int (leastT.getD i.toNatClampNeg 0) :: st) μ Q) : Wp l S d b M pc L (.int i :: .ref 1000000 :: st) μ Q := by
  intro p e R s m args below meth c H locs cells slots ls D ad ca tys A QQ mc ms C B P X hl K
  exact va_ti C.1 C.2.1 X.1.2 P.2.2.2.1 hin rfl hd (kk p e R s m args below meth c H locs cells slots ls D ad ca tys A QQ mc ms C B P X hl K)
theorem wp_ialdMost {i : Int32} (hin : vp_in i 10) (hd : decode M.2.1 pc = .ok (.iaload, 1)) (kk : Wp l S d b M (pc + 1) L (.int (mostT.getD i.toNatClampNeg 0) :: st) μ Q) : Wp l S d b M pc L (.int i :: .ref 1000001 :: st) μ Q := by
  intro p e R s m args below meth c H locs cells slots ls D ad ca tys A QQ mc ms C B P X hl K
  exact va_ti C.1 C.2.1 X.2.1.2 P.2.2.2.1 hin rfl hd (kk p e R s m args below meth c H locs cells slots ls D ad ca tys A QQ mc ms C B P X hl K)
theorem wp_alenLeast (hd : decode M.2.1 pc = .ok (.arraylength, 1)) (kk : Wp l S d b M (pc + 1) L (.int 10 :: st) μ Q) : Wp l S d b M pc L (.ref 1000000 :: st) μ Q := by
  intro p e R s m args below meth c H locs cells slots ls D ad ca tys A QQ mc ms C B P X hl K
  exact va_tlen C.1 C.2.1 X.1.2 P.2.2.2.1 rfl hd (kk p e R s m args below meth c H locs cells slots ls D ad ca tys A QQ mc ms C B P X hl K)
-- ends
theorem wp_iret {v : Int32} (hr : M.2.2.2 = some .int) (hd : decode M.2.1 pc = .ok (.ireturn, 1)) (kk : Q (some (.int v)) S μ) : Wp l S d b M pc L [.int v] μ Q := by
  intro p e R s m args below meth c H locs cells slots ls D ad ca tys A QQ mc ms C B P X hl K
  refine W.widen (k := mc) (n := ms) (by have := B.2.2.1; omega) (by have := B.2.2.2.1; omega) ?_
  exact W.iret C.1 C.2.1 (C.2.2.2.2.2.2.1.trans hr) (fun t ht hw => K (some (.int v)) S μ ad ca tys H locs t kk (Or.inr ⟨v, rfl⟩) (Nat.le_refl _) ext.rf (fun _ _ => rfl) P ht hw) P.2.2.2.1.2.2 hd C.2.2.2.2.2.1
theorem wp_zret {v : Int32} (hr : M.2.2.2 = some .boolean) (hz : v = 0 ∨ v = 1) (hd : decode M.2.1 pc = .ok (.ireturn, 1)) (kk : Q (some (.int v)) S μ) : Wp l S d b M pc L [.int v] μ Q := by
  intro p e R s m args below meth c H locs cells slots ls D ad ca tys A QQ mc ms C B P X hl K
  refine W.widen (k := mc) (n := ms) (by have := B.2.2.1; omega) (by have := B.2.2.2.1; omega) ?_
  exact W.zret C.1 C.2.1 (C.2.2.2.2.2.2.1.trans hr) (by rcases hz with rfl | rfl <;> rfl) (fun t ht hw => K (some (.int v)) S μ ad ca tys H locs t kk (Or.inr ⟨v, rfl⟩) (Nat.le_refl _) ext.rf (fun _ _ => rfl) P ht hw) P.2.2.2.1.2.2 hd C.2.2.2.2.2.1
theorem wp_vret (hr : M.2.2.2 = none) (hd : decode M.2.1 pc = .ok (.return_, 1)) (kk : Q none S μ) : Wp l S d b M pc L [] μ Q := by
  intro p e R s m args below meth c H locs cells slots ls D ad ca tys A QQ mc ms C B P X hl K
  refine W.widen (k := mc) (n := ms) (by have := B.2.2.1; omega) (by have := B.2.2.2.1; omega) ?_
  exact W.vret C.1 C.2.1 (C.2.2.2.2.2.2.1.trans hr) (fun t ht hw => K none S μ ad ca tys H locs t kk (Or.inl rfl) (Nat.le_refl _) ext.rf (fun _ _ => rfl) P ht hw) P.2.2.2.1.2.2 hd C.2.2.2.2.2.1
end
-- CALLS
/-- what a method needs: its code, its kind of class, how many it takes -/
def MW (M : MD) (n : Nat) : Prop := Cond.code M.1 M.2.1 M.2.2.1 M.2.2.2 ∈ lwT ∧ Cond.initialized M.1.cls ∈ lwT ∧ plainName M.1.cls = true ∧ (M.1.cls ≠ "java/lang/invoke/MethodHandle" ∧ M.1.cls ≠ "java/lang/invoke/VarHandle" ∧ (parseMethodDescriptor M.1.desc).map (fun d => d.parameters.length) = some n) ∧ M.2.2.1 ≤ 44
def ent (n : Nat) (args : List Value) : Lc := args.map some ++ List.replicate (n - args.length) none
theorem lv_args_get : ∀ (vs : List Value) (i k : Nat) (v : Value), (∀ v ∈ vs, v.category = 1) → vs[k]? = some v → (i + k, v) ∈ lv_args i vs
  | [], i, k, v, _, h => by simp at h
  | w :: vs, i, k, v, hc, h => by
    unfold lv_args
    have hw := hc w List.mem_cons_self
    rw [if_neg (by omega)]
    cases k with
    | zero =>
      simp at h
      subst h
      exact List.mem_cons_self
    | succ k =>
      simp at h
      have := lv_args_get vs (i + 1) k v (fun v hv => hc v (List.mem_cons_of_mem _ hv)) h
      rw [show i + 1 + k = i + (k + 1) by omega] at this
      exact List.mem_cons_of_mem _ this
theorem lg_sl_len : ∀ vs : List Value, (∀ v ∈ vs, v.category = 1) → (lg_sl vs).length = vs.length
  | [], _ => rfl
  | w :: vs, hc => by
    have hw := hc w List.mem_cons_self
    have := lg_sl_len vs (fun v hv => hc v (List.mem_cons_of_mem _ hv))
    have e : lg_sl (w :: vs) = [.val w] ++ lg_sl vs := by simp [lg_sl, hw]
    rw [e, List.length_append, this]
    simp
    omega
theorem lrel_ent {ad : Nat → Nat} {args : List Value} {n : Nat} (hc : ∀ v ∈ args, v.category = 1) (hn : args.length ≤ n) : lrel ad (ent n args) ((lg_sl (args.map (rl ad)) ++ List.replicate (n - (lg_sl (args.map (rl ad))).length) Slot.unset).toArray) n := by
  have hc' : ∀ v ∈ args.map (rl ad), v.category = 1 := fun v hv => by
    obtain ⟨w, h1, h2⟩ := List.mem_map.mp hv
    rw [← h2, rl_cat]
    exact hc w h1
  have hlen := lg_sl_len _ hc'
  have h := lv_entry (args.map (rl ad)) (n := n) (by rw [hlen, List.length_map]; exact hn)
  refine ⟨by simp [ent]; omega, h.1, h.2.1, fun i v hv => ?_⟩
  have h1 : args[i]? = some v := by
    unfold ent at hv
    rw [List.getElem?_append] at hv
    split at hv
    · rw [List.getElem?_map] at hv
      cases e : args[i]? with
      | none => simp [e] at hv
      | some w => simp [e] at hv; rw [hv]
    · rw [List.getElem?_replicate] at hv
      split at hv <;> simp at hv
  have h2 := lv_args_get (args.map (rl ad)) 0 i (rl ad v) hc' (by rw [List.getElem?_map, h1]; rfl)
  rw [Nat.zero_add] at h2
  exact h.2.2 _ h2
/-- the end of a method as its caller sees it -/
def QN (Q : Option Value → Sh → Mm → Prop) (n : Nat) (ad : Nat → Nat) (ca : Nat → ClassId) (D : va_G) (A : Nat → Prop) : Array Value → State → Outcome → State → Prop := fun _ st o t =>
  (∃ (v : Option Value) (S' : Sh) (μ' : Mm) (ad' : Nat → Nat) (ca' : Nat → ClassId) (tys' : List (ClassId × FieldType)), o = .returned v ∧ iv v ∧ Q v S' μ' ∧ n ≤ sN S' ∧ ext n ad ad' ∧ (∀ i, i < n → ca' i = ca i) ∧ va_K D vwCl tys' t ∧ va_P D vwCl (conc ad' ca' S' μ') t.heap ∧ va_D A (conc ad' ca' S' μ') ∧ Tk ca' tys' S') ∧ va_F A st t
def rmd (d : Nat) (b : Nat × Nat) : Room := { frames := d, cells := b.1, slots := b.2, locals := 64 * d }
def PN (S : Sh) (μ : Mm) (ad : Nat → Nat) (ca : Nat → ClassId) (D : va_G) (tys : List (ClassId × FieldType)) (sz : Nat) (U : State) : Prop := U.heap.size = sz ∧ va_P D vwCl (conc ad ca S μ) U.heap ∧ va_K D vwCl tys U ∧ va_D (fun _ => True) (conc ad ca S μ) ∧ Xc ad (va_A (conc ad ca S μ) sz) U U.heap
/-- a method's contract out of its walk -/
theorem met_of {l : Launch} {S : Sh} {d : Nat} {b : Nat × Nat} {M : MD} {args : List Value} {μ : Mm} {Q : Option Value → Sh → Mm → Prop} {n : Nat} (hM : MW M n) (hc : ∀ v ∈ args, v.category = 1) (hn : args.length ≤ M.2.2.1) (hW : Wp l S d b M 0 (ent M.2.2.1 args) [] μ Q) (ad : Nat → Nat) (ca : Nat → ClassId) (D : va_G) (tys : List (ClassId × FieldType)) (sz : Nat) (hT : Tk ca tys S) :
    Met l M.1 (Cond.code M.1 M.2.1 M.2.2.1 M.2.2.2 :: lwT) (rmd d b) (va_Pc (args.map (rl ad)) (PN S μ ad ca D tys sz)) (QN Q (sN S) ad ca D (va_A (conc ad ca S μ) sz)) b.1 b.2 (va_A (conc ad ca S μ) sz) := by
  refine Met.ofW (cc := M.2.1) (maxL := M.2.2.1) (ret := M.2.2.2) hM.2.2.1 rfl ?_
  intro p e s m as below meth c s₁ B hml hv
  obtain ⟨rfl, hsz, hP, hK, hD0, hX⟩ := hv
  have hts := atoms_spec (ws := Cond.code M.1 M.2.1 M.2.2.1 M.2.2.2 :: lwT) B.pre
  have hown : s.vm.findClass M.1.cls = some m.cls := findClass_of_methodNamed B.named
  have hnm : meth.name = M.1.name := (name_of_methodNamed B.named B.method).1
  subst hsz
  rw [lg_entry_eq]
  refine hW p e (headSpec (Cond.code M.1 M.2.1 M.2.2.1 M.2.2.2 :: lwT) (rmd d b)).room s m _ below meth c s.heap [] 0 0 _ D ad ca tys (va_A (conc ad ca S μ) s.heap.size) _ b.1 b.2 ⟨B.exec, B.bytes, hml, hown, fun w hw => hts w (List.mem_cons_of_mem _ hw), B.notSynchronized, B.returns, hnm⟩ ?_ ?_ hX (lrel_ent hc hn) ?_
  · exact ⟨Nat.le_refl _, Nat.le_refl _, by omega, by omega, Nat.le_refl _, Nat.le_refl _⟩
  · exact ⟨hK, hP, hD0.self, va_S.rf, fun q hq => Or.inr hq, hT⟩
  · intro v S' μ' ad' ca' tys' H' locs' t hQ hiv hle hext hca hR ht hw
    exact ⟨⟨v, S', μ', ad', ca', tys', rfl, hiv, hQ, hle, hext, hca, va_K.moved hw.alike hR.1, by rw [ht]; exact hR.2.1, hR.2.2.1, hR.2.2.2.2.2⟩, hR.2.2.2.1.F ht⟩
/-- the way on behind a call -/
theorem call_on {l : Launch} {S : Sh} {d : Nat} {b : Nat × Nat} {M : MD} {pc : Nat} {L : Lc} {μ : Mm} {Q Qc : Option Value → Sh → Mm → Prop} {rest : List Value} (hcl : ∀ v S' μ', Qc v S' μ' → S' = S) (hS : clo S)
    (kk : ∀ v μ', iv v → Qc v S μ' → Wp l S d b M (pc + 3) L (v.toList ++ rest) μ' Q)
    {p : Program} {e : Env} {R : Room} {s : State} {m : MethodId} {args : Array Value} {below : List Frame} {meth : Method} {c : Code} {H : Heap} {locs : List Loc} {cells slots : Nat} {ls : Array Slot} {D : va_G} {ad : Nat → Nat} {ca : Nat → ClassId} {tys : List (ClassId × FieldType)} {A : Nat → Prop} {QQ : Array Value → State → Outcome → State → Prop} {mc ms : Nat} {st0 : List Value} {a : Array Value}
    (C : Cx M p s m args meth c) (B : Bd d b R cells slots mc ms) (P : Rp D ad ca tys S μ A s H locs) (X : Xc ad A s s.heap) (hl : lrel ad L ls M.2.2.1) (K : Rok Q (sN S) ad ca D A args s QQ)
    (hr : va_Run p l e R s m args below meth c H locs cells slots 0 0 (F0 m pc ls st0) (rest.map (rl ad)) (QN Qc (sN S) ad ca D (va_A (conc ad ca S μ) H.size) a) (va_A (conc ad ca S μ) H.size)) :
    W p l e R s m args below meth c H locs cells slots (MQ below QQ args s mc ms A) (F0 m pc ls st0) := by
  have hAA : ∀ q, va_A (conc ad ca S μ) H.size q → A q := by
    rintro q (⟨k, e, hk⟩ | hq)
    · exact P.2.2.1.2 k _ hk
    · exact P.2.2.2.2.1 q (Nat.le_trans P.2.2.2.1.1 hq)
  intro T hT X'
  obtain ⟨v, st₀, t, T', Lc', h0, Y, hL, e1, e2, ⟨⟨v', S', μ', ad', ca', tys', ho, hiv, hQ, hle, hext, hca, hK1, hP1, hD1, hT1⟩, hz, hk⟩, st⟩ := hr T hT X'
  cases ho
  rw [h0] at hz hk
  have hS' := (hcl _ _ _ hQ).symm
  subst hS'
  have hce := conc_ext (μ := μ') hS hext hca
  rw [hce] at hP1 hD1
  have hH1 : va_S A s.heap T'.heap (locs ++ Lc') := ⟨Nat.le_trans P.2.2.2.1.1 (by rw [e1]; exact hz), fun q h1 h2 => by
      rw [e1, hk q (Nat.lt_of_lt_of_le h1 P.2.2.2.1.1) (fun z => h2 (hAA q z))]
      exact P.2.2.2.1.2.1 q h1 h2, fun q hq => by
      rcases List.mem_append.mp hq with h | h
      · exact P.2.2.2.1.2.2 q h
      · exact hAA _ (hL q h)⟩
  have hrv : v.toList ++ rest.map (rl ad) = (v.toList ++ rest).map (rl ad) := by
    rw [List.map_append]
    rcases hiv with rfl | ⟨r, rfl⟩ <;> rfl
  rw [hrv] at st
  have P' : Rp D ad ca tys S μ' A s T'.heap (locs ++ Lc') := ⟨P.1, by rw [e1]; exact hP1, ⟨hD1.1, fun k q hq => hAA _ (hD1.2 k q hq)⟩, hH1, P.2.2.2.2.1, P.2.2.2.2.2⟩
  obtain ⟨t2, a1, b1⟩ := kk v μ' hiv hQ p e R s m args below meth c T'.heap (locs ++ Lc') (cells + 0) (slots + 0) ls D ad ca tys A QQ mc ms C B P' X hl K T' rfl Y
  exact ⟨t2, st t2 a1, b1⟩
theorem pn_pre {S : Sh} {μ : Mm} {ad : Nat → Nat} {ca : Nat → ClassId} {D : va_G} {tys : List (ClassId × FieldType)} {A : Nat → Prop} {s : State} {H : Heap} {locs : List Loc} (P : Rp D ad ca tys S μ A s H locs) (X : Xc ad A s s.heap) : ∀ U : State, U.heap = H → s.WarmedH U.vm → PN S μ ad ca D tys H.size U := by
  intro U hU hw
  have hAA : ∀ q, va_A (conc ad ca S μ) H.size q → A q := by
    rintro q (⟨k, e, hk⟩ | hq)
    · exact P.2.2.1.2 k _ hk
    · exact P.2.2.2.2.1 q (Nat.le_trans P.2.2.2.1.1 hq)
  refine ⟨by rw [hU], by rw [hU]; exact P.2.1, va_K.moved hw.alike P.1, P.2.2.1.weaken (fun _ _ _ _ => trivial), ?_⟩
  rw [hU]
  exact X.to hw P.2.2.2.1.2.1 hAA
theorem pn_blind {S : Sh} {μ : Mm} {ad : Nat → Nat} {ca : Nat → ClassId} {D : va_G} {tys : List (ClassId × FieldType)} {sz : Nat} {av : List Value} : FrameBlind (va_Pc av (PN S μ ad ca D tys sz)) := by
  intro a U g mk h
  obtain ⟨h0, h1, h2, h3, h4, h5⟩ := h
  exact ⟨h0, h1, h2, va_K.moved (u := U) (U := U.calling g mk a) (Vm.Alike.refl U.vm) h3, h4, h5⟩
theorem cats_room {ad : Nat → Nat} {m : MethodId} {pc : Nat} {ls : Array Slot} {st0 rest : List Value} (h : (rest.map fun v => v.category).sum ≤ 8) : 2 * (F0 m pc ls st0).monitorRoom + ((rest.map (rl ad)).map fun v => v.category).sum ≤ 8 :=
  lv_room (by rw [rl_sum]; exact h)
theorem callB_T {R : Room} {s : State} {argsv : Array Value} {own : String} {idx d : Nat} {b : Nat × Nat} {M : MD} {n : Nat} {cells slots mc ms d0 : Nat} {b0 : Nat × Nat} (hts : ∀ w ∈ lwT, w.before argsv s = true) (hM : MW M n) (hl : Cond.methodLink own idx M.1 ∈ lwT) (B : Bd d0 b0 R cells slots mc ms) (hd : d + 1 ≤ d0) :
    CallB R s argsv own idx M.1 M.2.1 M.2.2.1 M.2.2.2 (Cond.code M.1 M.2.1 M.2.2.1 M.2.2.2 :: lwT) (rmd d b) b.1 b.2 n :=
  callB_of n hts (lwT_good (fun w hw => by
    rcases List.mem_cons.mp hw with rfl | h
    · exact hM.1
    · exact h)) rfl rfl rfl (hts _ hM.2.1) (hts _ hl) hM.2.2.2.1 ⟨by have := B.1; show d + 1 ≤ _; omega, by have := B.2.1; have := hM.2.2.2.2; show 8 + (M.2.2.1 + 11) + 64 * d ≤ _; omega⟩
theorem wp_callV {l : Launch} {S : Sh} {d d0 : Nat} {b : Nat × Nat} {M M' : MD} {pc : Nat} {L : Lc} {μ : Mm} {Q Qc : Option Value → Sh → Mm → Prop} {n idx o : Nat} {as rest : List Value} {ck : Nat} (hM : MW M' n) (hl : Cond.methodLink M.1.cls idx M'.1 ∈ lwT) (hin : Cond.instanceMethod M'.1 ∈ lwT) (hse : Cond.selects M'.1.cls M'.1 M'.1 ∈ lwT) (hck : ck < 12 ∧ (vwCl[ck]?).map (fun q => q.1) = some M'.1.cls) (ho : o < sN S) (hko : sK S o = ck) (hd : decode M.2.1 pc = .ok (.invokevirtual idx, 3)) (hd0 : d + 1 ≤ d0) (hS : clo S)
    (hn : as.length = n) (hcat : ∀ v ∈ (.ref o :: as : List Value), v.category = 1) (hlen : (as.length + 1) ≤ M'.2.2.1) (hrest : (rest.map fun v => v.category).sum ≤ 8)
    (hW : Wp l S d (0, 0) M' 0 (ent M'.2.2.1 (.ref o :: as)) [] μ Qc) (hcl : ∀ v S' μ', Qc v S' μ' → S' = S) (kk : ∀ v μ', iv v → Qc v S μ' → Wp l S d0 b M (pc + 3) L (v.toList ++ rest) μ' Q) {st : List Value} (hst : st = as.reverse ++ .ref o :: rest) : Wp l S d0 b M pc L st μ Q := by
  subst hst
  intro p e R s m args below meth c H locs cells slots ls D ad ca tys A QQ mc ms C B P X hlr K
  refine call_on (Qc := Qc) hcl hS kk C B P X hlr K (rest := rest) (a := ((Value.ref (ad o) :: as.map (rl ad)).toArray)) ?_
  obtain ⟨q, hq, hqn⟩ : ∃ q : vw_C, vwCl[ck]? = some q ∧ q.1 = M'.1.cls := by
    have := hck.2
    cases e : vwCl[ck]? with
    | none => rw [e] at this; simp at this
    | some q => rw [e] at this; simp at this; exact ⟨q, rfl, this⟩
  have hrecv := va_recv P.1 P.2.1 hq (getf_at ho hko hck.1)
  rw [hqn] at hrecv
  exact va_runV (As := as.map (rl ad)) (rest := rest.map (rl ad)) (nL := M.2.2.1) (C := M'.1.cls) ⟨C.1, C.2.1, C.2.2.1, C.2.2.2.1, C.2.2.2.2.1⟩ (met_of hM hcat hlen hW ad ca D tys H.size P.2.2.2.2.2) ⟨callB_T C.2.2.2.2.1 hM hl B hd0, C.2.2.2.2.1 _ hin, C.2.2.2.2.1 _ hse⟩ ⟨pn_blind, hrecv, fun U hU hw => ⟨rfl, pn_pre P X U hU hw⟩⟩ rfl (by rw [List.length_map]; exact hn) hlr.2.1 (by simp [rl]) (cats_room hrest) hd ⟨by have := B.2.2.1; have := B.2.2.2.2.1; show cells + 0 ≤ _; omega, by have := B.2.2.2.1; have := B.2.2.2.2.2; show slots + 0 ≤ _; omega⟩
theorem wp_callS {l : Launch} {S : Sh} {d d0 : Nat} {b : Nat × Nat} {M M' : MD} {pc : Nat} {L : Lc} {μ : Mm} {Q Qc : Option Value → Sh → Mm → Prop} {n idx : Nat} {as rest : List Value} (hM : MW M' n) (hl : Cond.methodLink M.1.cls idx M'.1 ∈ lwT) (hin : Cond.static M'.1 ∈ lwT) (hd : decode M.2.1 pc = .ok (.invokestatic idx, 3)) (hd0 : d + 1 ≤ d0) (hS : clo S)
    (hn : as.length = n) (hcat : ∀ v ∈ as, v.category = 1) (hlen : as.length ≤ M'.2.2.1) (hrest : (rest.map fun v => v.category).sum ≤ 8)
    (hW : Wp l S d (0, 0) M' 0 (ent M'.2.2.1 as) [] μ Qc) (hcl : ∀ v S' μ', Qc v S' μ' → S' = S) (kk : ∀ v μ', iv v → Qc v S μ' → Wp l S d0 b M (pc + 3) L (v.toList ++ rest) μ' Q) {st : List Value} (hst : st = as.reverse ++ rest) : Wp l S d0 b M pc L st μ Q := by
  subst hst
  intro p e R s m args below meth c H locs cells slots ls D ad ca tys A QQ mc ms C B P X hlr K
  refine call_on (Qc := Qc) hcl hS kk C B P X hlr K (rest := rest) (a := ((as.map (rl ad)).toArray)) ?_
  exact va_runS (As := as.map (rl ad)) (rest := rest.map (rl ad)) (nL := M.2.2.1) ⟨C.1, C.2.1, C.2.2.1, C.2.2.2.1, C.2.2.2.2.1⟩ (met_of hM hcat hlen hW ad ca D tys H.size P.2.2.2.2.2) ⟨callB_T C.2.2.2.2.1 hM hl B hd0, C.2.2.2.2.1 _ hin⟩ ⟨pn_blind, fun U hU hw => ⟨rfl, pn_pre P X U hU hw⟩⟩ rfl (by rw [List.length_map]; exact hn) hlr.2.1 (by simp) (cats_room hrest) hd ⟨by have := B.2.2.1; have := B.2.2.2.2.1; show cells + 0 ≤ _; omega, by have := B.2.2.2.1; have := B.2.2.2.2.2; show slots + 0 ≤ _; omega⟩
theorem wp_callSN {l : Launch} {S : Sh} {d d0 : Nat} {b : Nat × Nat} {M M' : MD} {pc : Nat} {L : Lc} {μ : Mm} {Q Qc : Option Value → Sh → Mm → Prop} {n idx : Nat} {as rest : List Value} {host : String} (hM : MW M' n) (hl : (M.1.cls, idx, M'.1, host) ∈ nestL) (hin : Cond.static M'.1 ∈ lwT) (hd : decode M.2.1 pc = .ok (.invokestatic idx, 3)) (hd0 : d + 1 ≤ d0) (hS : clo S)
    (hn : as.length = n) (hcat : ∀ v ∈ as, v.category = 1) (hlen : as.length ≤ M'.2.2.1) (hrest : (rest.map fun v => v.category).sum ≤ 8)
    (hW : Wp l S d (0, 0) M' 0 (ent M'.2.2.1 as) [] μ Qc) (hcl : ∀ v S' μ', Qc v S' μ' → S' = S) (kk : ∀ v μ', iv v → Qc v S μ' → Wp l S d0 b M (pc + 3) L (v.toList ++ rest) μ' Q) {st : List Value} (hst : st = as.reverse ++ rest) : Wp l S d0 b M pc L st μ Q := by
  subst hst
  intro p e R s m args below meth c H locs cells slots ls D ad ca tys A QQ mc ms C B P X hlr K
  refine call_on (Qc := Qc) hcl hS kk C B P X hlr K (rest := rest) (a := ((as.map (rl ad)).toArray)) ?_
  exact va_runSN (As := as.map (rl ad)) (rest := rest.map (rl ad)) (nL := M.2.2.1) (ws := Cond.code M'.1 M'.2.1 M'.2.2.1 M'.2.2.2 :: lwT) (host := host) ⟨C.1, C.2.1, C.2.2.1, C.2.2.2.1, C.2.2.2.2.1⟩ (met_of hM hcat hlen hW ad ca D tys H.size P.2.2.2.2.2) ⟨va_cnB n C.2.2.2.2.1 (lwT_good (fun w hw => by
    rcases List.mem_cons.mp hw with rfl | h
    · exact hM.1
    · exact h)) rfl rfl rfl (X.2.2.2.1.1 _ hl) (C.2.2.2.2.1 _ hM.2.1) hM.2.2.2.1 ⟨by have := B.1; show d + 1 ≤ _; omega, by have := B.2.1; have := hM.2.2.2.2; show 8 + (M'.2.2.1 + 11) + 64 * d ≤ _; omega⟩, C.2.2.2.2.1 _ hin, trivial⟩ ⟨pn_blind, fun U hU hw => ⟨rfl, pn_pre P X U hU hw⟩⟩ rfl (by rw [List.length_map]; exact hn) hlr.2.1 (by simp) (cats_room hrest) hd ⟨by have := B.2.2.1; have := B.2.2.2.2.1; show cells + 0 ≤ _; omega, by have := B.2.2.2.1; have := B.2.2.2.2.2; show slots + 0 ≤ _; omega⟩

