/-! A LAW AS DATA: steps, and what they come to -/
abbrev b01 (x : Int32) : Prop := x = nI 0 ∨ x = nI 1

def opF (c : Nat) (a b : Int32) : Option Int32 :=
  if c = 42 then some (a * b) else if c = 43 then some (a + b) else if c = 45 then some (a - b) else if c = 47 then (if b = 0 then none else some (a / b))
  else if c = 60 then some (if b ≤ a then nI 0 else nI 1) else if c = 61 then some (if a = b then nI 1 else nI 0) else if c = 62 then some (if a ≤ b then nI 0 else nI 1)
  else if c = 304 then (if (a = nI 0 ∨ a = nI 1) ∧ (b = nI 0 ∨ b = nI 1) then some (a &&& b) else none) else if c = 303 then (if (a = nI 0 ∨ a = nI 1) ∧ (b = nI 0 ∨ b = nI 1) then some (a ||| b) else none) else none
def stp (m : Nat) (nm : Nat → Int32) (s : Nat) (st : List Int32) : Option (List Int32) :=
  if s < 20000 then (if st.length < 32 then (if s < 10000 then some (nI s :: st) else if s < 10000 + m then some (nm (s - 10000) :: st) else none) else none)
  else if s = 20305 then (match st with
    | a :: r => some ((nI 1 - a) :: r)
    | [] => none)
  else (match st with
    | b :: a :: r => (opF (s - 20000) a b).map (fun v => v :: r)
    | _ => none)
def rn (m : Nat) (nm : Nat → Int32) (S : Nat → Nat) (a : Nat) : Nat → List Int32 → Option (List Int32)
  | 0, st => some st
  | k + 1, st => (rn m nm S a k st).bind (stp m nm (S (a + k)))
def opOf (s : Nat) : Nat := if s < 10000 then 0 else if s < 20000 then 1 else if s = 20043 then 2 else if s = 20045 then 3 else if s = 20042 then 4 else if s = 20047 then 5 else if s = 20060 then 6 else if s = 20061 then 7 else if s = 20062 then 8 else if s = 20305 then 9 else if s = 20304 then 10 else 11
def argOf (s : Nat) : Nat := if s < 10000 then s else if s < 20000 then s - 10000 else 0
theorem rn_add (m : Nat) (nm : Nat → Int32) (S : Nat → Nat) (a n k : Nat) (st : List Int32) : rn m nm S a (n + k) st = (rn m nm S a n st).bind (rn m nm S (a + n) k) := by
  induction k with
  | zero =>
    show rn m nm S a n st = _
    cases rn m nm S a n st <;> rfl
  | succ k ih =>
    show (rn m nm S a (n + k) st).bind (stp m nm (S (a + (n + k)))) = _
    rw [ih, Option.bind_assoc]
    congr 1
    funext z
    show _ = (rn m nm S (a + n) k z).bind (stp m nm (S (a + n + k)))
    rw [Nat.add_assoc]
theorem rn_pre {m : Nat} {nm : Nat → Int32} {S : Nat → Nat} {a n k : Nat} {st z : List Int32} (h : rn m nm S a n st = some z) (hk : k ≤ n) : ∃ y, rn m nm S a k st = some y := by
  have e : rn m nm S a (k + (n - k)) st = some z := by rw [Nat.add_sub_cancel' hk]; exact h
  rw [rn_add] at e
  cases hy : rn m nm S a k st with
  | none =>
    rw [hy] at e
    cases e
  | some y => exact ⟨y, rfl⟩
theorem stp_cong {m : Nat} {nm nm2 : Nat → Int32} (h : ∀ k, k < m → nm k = nm2 k) (s : Nat) (st : List Int32) : stp m nm s st = stp m nm2 s st := by
  unfold stp
  by_cases c : s < 20000
  · rw [if_pos c, if_pos c]
    by_cases c0 : st.length < 32
    · rw [if_pos c0, if_pos c0]
      by_cases c2 : 10000 ≤ s ∧ s < 10000 + m
      · rw [if_neg (by omega), if_pos c2.2, if_neg (by omega), if_pos c2.2, h _ (by omega)]
      · by_cases c3 : s < 10000
        · rw [if_pos c3, if_pos c3]
        · rw [if_neg c3, if_neg (by omega), if_neg c3, if_neg (by omega)]
    · rw [if_neg c0, if_neg c0]
  · rw [if_neg c, if_neg c]
theorem rn_cong {m : Nat} {nm nm2 : Nat → Int32} (h : ∀ k, k < m → nm k = nm2 k) (S : Nat → Nat) (a k : Nat) (st : List Int32) : rn m nm S a k st = rn m nm2 S a k st := by
  induction k with
  | zero => rfl
  | succ k ih =>
    show (rn m nm S a k st).bind _ = (rn m nm2 S a k st).bind _
    rw [ih]
    congr 1
    funext z
    exact stp_cong h _ z
theorem rn_S {m : Nat} {nm : Nat → Int32} {S S2 : Nat → Nat} {a k : Nat} (h : ∀ i, i < k → S2 (a + i) = S (a + i)) (st : List Int32) : rn m nm S2 a k st = rn m nm S a k st := by
  induction k with
  | zero => rfl
  | succ k ih =>
    show (rn m nm S2 a k st).bind _ = (rn m nm S a k st).bind _
    rw [ih (fun i hi => h i (by omega)), h k (Nat.lt_succ_self k)]
/-- a row of steps that comes to one number -/
def Num (m : Nat) (S : Nat → Nat) (a b d : Nat) : Prop := a < b ∧ ∀ nm st, st.length + d ≤ 32 → ∃ v, rn m nm S a (b - a) st = some (v :: st)
def Boo (m : Nat) (S : Nat → Nat) (a b d : Nat) : Prop := a < b ∧ ∀ nm st, st.length + d ≤ 32 → ∃ v, b01 v ∧ rn m nm S a (b - a) st = some (v :: st)
theorem Num.mono {m : Nat} {S : Nat → Nat} {a b d e : Nat} (h : Num m S a b d) (hd : d ≤ e) : Num m S a b e := ⟨h.1, fun nm st hs => h.2 nm st (by omega)⟩
theorem Boo.mono {m : Nat} {S : Nat → Nat} {a b d e : Nat} (h : Boo m S a b d) (hd : d ≤ e) : Boo m S a b e := ⟨h.1, fun nm st hs => h.2 nm st (by omega)⟩
theorem Num.S2 {m : Nat} {S S2 : Nat → Nat} {a b d : Nat} (h : Num m S a b d) (e : ∀ i, i < b → S2 i = S i) : Num m S2 a b d := ⟨h.1, fun nm st hs => by
  rw [rn_S (fun i hi => e _ (by omega))]
  exact h.2 nm st hs⟩
theorem Boo.S2 {m : Nat} {S S2 : Nat → Nat} {a b d : Nat} (h : Boo m S a b d) (e : ∀ i, i < b → S2 i = S i) : Boo m S2 a b d := ⟨h.1, fun nm st hs => by
  rw [rn_S (fun i hi => e _ (by omega))]
  exact h.2 nm st hs⟩
theorem rn_1 {m : Nat} {nm : Nat → Int32} {S : Nat → Nat} {a : Nat} {st : List Int32} : rn m nm S a (a + 1 - a) st = stp m nm (S a) st := by
  rw [Nat.add_sub_cancel_left]
  show (some st).bind (stp m nm (S (a + 0))) = _
  rfl
theorem Num.num {m : Nat} {S : Nat → Nat} {a : Nat} (h : S a < 10000) : Num m S a (a + 1) 1 := ⟨Nat.lt_succ_self a, fun nm st hs => ⟨nI (S a), by
  rw [rn_1]
  unfold stp
  rw [if_pos (by omega), if_pos (by omega), if_pos h]⟩⟩
theorem Num.nam {m : Nat} {S : Nat → Nat} {a : Nat} (h : 10000 ≤ S a) (h2 : S a < 10000 + m) (hm : m ≤ 11) : Num m S a (a + 1) 1 := ⟨Nat.lt_succ_self a, fun nm st hs => ⟨nm (S a - 10000), by
  rw [rn_1]
  unfold stp
  rw [if_pos (by omega), if_pos (by omega), if_neg (by omega), if_pos h2]⟩⟩
theorem rn_2 {m : Nat} {nm : Nat → Int32} {S : Nat → Nat} {a b c : Nat} {st y z : List Int32} (h1 : a < b) (h2 : b < c) (e1 : rn m nm S a (b - a) st = some y) (e2 : rn m nm S b (c - b) y = some z) : rn m nm S a (c + 1 - a) st = stp m nm (S c) z := by
  have : c + 1 - a = (b - a) + (c - b) + 1 := by omega
  rw [this]
  show (rn m nm S a (b - a + (c - b)) st).bind (stp m nm (S (a + (b - a + (c - b))))) = _
  rw [rn_add, e1]
  show (rn m nm S (a + (b - a)) (c - b) y).bind _ = _
  rw [show a + (b - a) = b by omega, e2, show a + (b - a + (c - b)) = c by omega]
  rfl
theorem Num.op {m : Nat} {S : Nat → Nat} {a b c d e D : Nat} (h : Num m S a b d) (h2 : Num m S b c e) (hd : d ≤ D) (he : e + 1 ≤ D) (hS : S c = 20042 ∨ S c = 20043 ∨ S c = 20045) : Num m S a (c + 1) D := ⟨by have := h.1; have := h2.1; omega, fun nm st hs => by
  obtain ⟨x, hx⟩ := h.2 nm st (by omega)
  obtain ⟨y, hy⟩ := h2.2 nm (x :: st) (by simp only [List.length_cons]; omega)
  rw [rn_2 h.1 h2.1 hx hy]
  rcases hS with z | z | z <;> rw [z]
  · exact ⟨x * y, rfl⟩
  · exact ⟨x + y, rfl⟩
  · exact ⟨x - y, rfl⟩⟩
theorem Num.dv {m : Nat} {S : Nat → Nat} {a b d D : Nat} (h : Num m S a b d) (hd : d ≤ D) (he : 2 ≤ D) (h1 : 1 ≤ S b) (h2 : S b < 10000) (hS : S (b + 1) = 20047) : Num m S a (b + 2) D := ⟨by have := h.1; omega, fun nm st hs => by
  obtain ⟨x, hx⟩ := h.2 nm st (by omega)
  have e : rn m nm S b (b + 1 - b) (x :: st) = some (nI (S b) :: x :: st) := by
    rw [rn_1]
    unfold stp
    rw [if_pos (by omega), if_pos (by simp only [List.length_cons]; omega), if_pos h2]
  rw [rn_2 h.1 (Nat.lt_succ_self b) hx e, hS]
  refine ⟨x / nI (S b), ?_⟩
  show (opF 47 x (nI (S b))).map (fun v => v :: st) = _
  have : ¬ nI (S b) = 0 := fun z => by have := (nI_eq (b := 0) (by omega) (by decide)).1 z; omega
  show (if nI (S b) = 0 then none else some (x / nI (S b)) : Option Int32).map _ = _
  rw [if_neg this]
  rfl⟩
theorem Boo.cmp {m : Nat} {S : Nat → Nat} {a b c d e D : Nat} (h : Num m S a b d) (h2 : Num m S b c e) (hd : d ≤ D) (he : e + 1 ≤ D) (hS : S c = 20060 ∨ S c = 20061 ∨ S c = 20062) : Boo m S a (c + 1) D := ⟨by have := h.1; have := h2.1; omega, fun nm st hs => by
  obtain ⟨x, hx⟩ := h.2 nm st (by omega)
  obtain ⟨y, hy⟩ := h2.2 nm (x :: st) (by simp only [List.length_cons]; omega)
  rw [rn_2 h.1 h2.1 hx hy]
  rcases hS with z | z | z <;> rw [z]
  · refine ⟨if y ≤ x then nI 0 else nI 1, ?_, rfl⟩
    unfold b01
    split
    · exact Or.inl rfl
    · exact Or.inr rfl
  · refine ⟨if x = y then nI 1 else nI 0, ?_, rfl⟩
    unfold b01
    split
    · exact Or.inr rfl
    · exact Or.inl rfl
  · refine ⟨if x ≤ y then nI 0 else nI 1, ?_, rfl⟩
    unfold b01
    split
    · exact Or.inl rfl
    · exact Or.inr rfl⟩
theorem b01_not {x : Int32} (h : b01 x) : b01 (nI 1 - x) := by
  rcases h with rfl | rfl
  · exact Or.inr (by decide)
  · exact Or.inl (by decide)
theorem b01_and {x y : Int32} (h : b01 x) (h2 : b01 y) : b01 (x &&& y) := by
  rcases h with rfl | rfl <;> rcases h2 with rfl | rfl <;> first | exact Or.inl (by decide) | exact Or.inr (by decide)
theorem b01_or {x y : Int32} (h : b01 x) (h2 : b01 y) : b01 (x ||| y) := by
  rcases h with rfl | rfl <;> rcases h2 with rfl | rfl <;> first | exact Or.inl (by decide) | exact Or.inr (by decide)
theorem Boo.bnot {m : Nat} {S : Nat → Nat} {a b d : Nat} (h : Boo m S a b d) (hS : S b = 20305) : Boo m S a (b + 1) d := ⟨by have := h.1; omega, fun nm st hs => by
  obtain ⟨x, hb, hx⟩ := h.2 nm st hs
  refine ⟨nI 1 - x, b01_not hb, ?_⟩
  have : b + 1 - a = (b - a) + 1 := by have := h.1; omega
  rw [this]
  show (rn m nm S a (b - a) st).bind (stp m nm (S (a + (b - a)))) = _
  rw [hx, show a + (b - a) = b by have := h.1; omega, hS]
  rfl⟩
theorem Boo.op {m : Nat} {S : Nat → Nat} {a b c d e D : Nat} (h : Boo m S a b d) (h2 : Boo m S b c e) (hd : d ≤ D) (he : e + 1 ≤ D) (hS : S c = 20304 ∨ S c = 20303) : Boo m S a (c + 1) D := ⟨by have := h.1; have := h2.1; omega, fun nm st hs => by
  obtain ⟨x, hb, hx⟩ := h.2 nm st (by omega)
  obtain ⟨y, hb2, hy⟩ := h2.2 nm (x :: st) (by simp only [List.length_cons]; omega)
  rw [rn_2 h.1 h2.1 hx hy]
  rcases hS with z | z <;> rw [z]
  · refine ⟨x &&& y, b01_and hb hb2, ?_⟩
    show (if (x = nI 0 ∨ x = nI 1) ∧ (y = nI 0 ∨ y = nI 1) then some (x &&& y) else none : Option Int32).map _ = _
    rw [if_pos ⟨hb, hb2⟩]
    rfl
  · refine ⟨x ||| y, b01_or hb hb2, ?_⟩
    show (if (x = nI 0 ∨ x = nI 1) ∧ (y = nI 0 ∨ y = nI 1) then some (x ||| y) else none : Option Int32).map _ = _
    rw [if_pos ⟨hb, hb2⟩]
    rfl⟩
/-- both machines join two alike -/
theorem joined_F {c : Nat} {a b v : Int32} (hc : c < 2 ^ 31) (h : opF c a b = some v) : Law_joined (nI c) a b = some v := by
  unfold opF at h
  unfold Law_joined
  have e : ∀ n, n < 2 ^ 31 → (nI c = nI n) = (c = n) := fun n hn => nI_eqE hc hn
  simp only [e 42 (by decide), e 43 (by decide), e 45 (by decide), e 47 (by decide), e 60 (by decide), e 61 (by decide), e 62 (by decide), e 304 (by decide)]
  by_cases h1 : c = 42
  · rw [if_pos h1] at h ⊢; exact h
  rw [if_neg h1] at h ⊢
  by_cases h2 : c = 43
  · rw [if_pos h2] at h ⊢; exact h
  rw [if_neg h2] at h ⊢
  by_cases h3 : c = 45
  · rw [if_pos h3] at h ⊢; exact h
  rw [if_neg h3] at h ⊢
  by_cases h4 : c = 47
  · rw [if_pos h4] at h ⊢
    by_cases z : b = 0
    · rw [if_pos z] at h; cases h
    · rw [if_neg z] at h ⊢
      rw [chk_ok z]
      exact h
  rw [if_neg h4] at h ⊢
  by_cases h5 : c = 60
  · rw [if_pos h5] at h ⊢
    rw [← h]
    split <;> rfl
  rw [if_neg h5] at h ⊢
  by_cases h6 : c = 61
  · rw [if_pos h6] at h ⊢
    rw [← h]
    split <;> rfl
  rw [if_neg h6] at h ⊢
  by_cases h7 : c = 62
  · rw [if_pos h7] at h ⊢
    rw [← h]
    split <;> rfl
  rw [if_neg h7] at h ⊢
  by_cases h8 : c = 304
  · rw [if_pos h8] at h ⊢
    by_cases z : b01 a ∧ b01 b
    · rw [if_pos z] at h; exact h
    · rw [if_neg z] at h; cases h
  rw [if_neg h8] at h ⊢
  by_cases h9 : c = 303
  · rw [if_pos h9] at h
    by_cases z : b01 a ∧ b01 b
    · rw [if_pos z] at h; exact h
    · rw [if_neg z] at h; cases h
  · rw [if_neg h9] at h
    cases h
theorem two_F {c : Nat} {a b v : Int32} (h : opF c a b = some v) : M_twoOf (nI (opOf (20000 + c))) a b = some v := by
  unfold opF at h
  by_cases h1 : c = 42
  · rw [if_pos h1] at h
    subst h1
    exact h
  rw [if_neg h1] at h
  by_cases h2 : c = 43
  · rw [if_pos h2] at h
    subst h2
    exact h
  rw [if_neg h2] at h
  by_cases h3 : c = 45
  · rw [if_pos h3] at h
    subst h3
    exact h
  rw [if_neg h3] at h
  by_cases h4 : c = 47
  · rw [if_pos h4] at h
    subst h4
    by_cases z : b = 0
    · rw [if_pos z] at h; cases h
    · rw [if_neg z] at h
      show chk (¬ (b : Int32) = 0) (some (a / b)) = _
      rw [chk_ok z]
      exact h
  rw [if_neg h4] at h
  by_cases h5 : c = 60
  · rw [if_pos h5] at h
    subst h5
    show (if b ≤ a then some (nI 0) else some (nI 1)) = _
    rw [← h]
    split <;> rfl
  rw [if_neg h5] at h
  by_cases h6 : c = 61
  · rw [if_pos h6] at h
    subst h6
    show (if a = b then some (nI 1) else some (nI 0)) = _
    rw [← h]
    split <;> rfl
  rw [if_neg h6] at h
  by_cases h7 : c = 62
  · rw [if_pos h7] at h
    subst h7
    show (if a ≤ b then some (nI 0) else some (nI 1)) = _
    rw [← h]
    split <;> rfl
  rw [if_neg h7] at h
  by_cases h8 : c = 304
  · rw [if_pos h8] at h
    subst h8
    by_cases z : b01 a ∧ b01 b
    · rw [if_pos z] at h
      show some (a * b) = _
      rw [← h]
      obtain ⟨z1 | z1, z2 | z2⟩ := z <;> subst z1 <;> subst z2 <;> decide
    · rw [if_neg z] at h; cases h
  rw [if_neg h8] at h
  by_cases h9 : c = 303
  · rw [if_pos h9] at h
    subst h9
    by_cases z : b01 a ∧ b01 b
    · rw [if_pos z] at h
      show (if (a + b) ≤ 0 then some (nI 0) else some (nI 1)) = _
      rw [← h]
      obtain ⟨z1 | z1, z2 | z2⟩ := z <;> subst z1 <;> subst z2 <;> decide
    · rw [if_neg z] at h; cases h
  · rw [if_neg h9] at h
    cases h
