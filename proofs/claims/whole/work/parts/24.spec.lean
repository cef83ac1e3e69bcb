/-! WHAT A STATE BECOMES: the acts and the days in plain words -/
theorem sti_e {μ : Mm} {o k o2 k2 : Nat} {v : Int32} (h : o2 = o ∧ k2 = k) : (sti μ o k v).1 o2 k2 = v := if_pos h
theorem sti_n {μ : Mm} {o k o2 k2 : Nat} {v : Int32} (h : ¬ (o2 = o ∧ k2 = k)) : (sti μ o k v).1 o2 k2 = μ.1 o2 k2 := if_neg h
theorem stl_e {μ : Mm} {o k o2 k2 : Nat} {v : Int64} (h : o2 = o ∧ k2 = k) : (stl μ o k v).2 o2 k2 = v := if_pos h
theorem stl_n {μ : Mm} {o k o2 k2 : Nat} {v : Int64} (h : ¬ (o2 = o ∧ k2 = k)) : (stl μ o k v).2 o2 k2 = μ.2 o2 k2 := if_neg h
theorem chk_T {α : Type} {_ : Decidable True} {k : Option α} : chk True k = k := if_pos trivial
theorem ix_0 : ix (0 : Int32) = 0 := rfl
def itn {α : Type} : Nat → (α → α) → α → α
  | 0, _, a => a
  | n + 1, f, a => f (itn n f a)
theorem itn_inv {α : Type} {f : α → α} {a : α} (I : Nat → α → Prop) (h0 : I 0 a) (n : Nat) (hs : ∀ k x, k < n → I k x → I (k + 1) (f x)) : I n (itn n f a) := by
  induction n with
  | zero => exact h0
  | succ n ih => exact hs n _ (Nat.lt_succ_self n) (ih (fun k x hk hI => hs k x (Nat.lt_succ_of_lt hk) hI))
/-- is the i-th in a set -/
def hb (x : Int32) (i : Nat) : Bool := decide ((x >>> (nI i &&& 31)) &&& nI 1 = nI 1)
def hadV (V : VS) (p v : Nat) : VS := if v < 20 then vset V 21 p 0 (V 21 p 0 ||| 2 ^ v) else vset V 22 p 0 (V 22 p 0 ||| 2 ^ (v - 20))
def giveV (V : VS) (p v f : Nat) : VS := hadV (vset (vset (vset (vset (vset V 7 p (V 6 p 0) v) 8 p (V 6 p 0) f) 9 p (V 6 p 0) (V 0 0 4 + V 20 0 1)) 10 p (V 6 p 0) (V 20 0 0)) 6 p 0 (V 6 p 0 + 1)) p v
def remV (V : VS) (p i : Nat) : VS := fun c2 p2 k => if (7 ≤ c2 ∧ c2 ≤ 10) ∧ p2 = p ∧ i ≤ k then V c2 p2 (k + 1) else if c2 = 6 ∧ p2 = p ∧ k = 0 then V 6 p 0 - 1 else V c2 p2 k
def bookV (V : VS) (v f t w : Nat) : VS := if V 0 0 3 < 200 then vset (vset (vset (vset (vset (vset V 23 0 (V 0 0 3) (V 0 0 4)) 24 0 (V 0 0 3) v) 25 0 (V 0 0 3) f) 26 0 (V 0 0 3) t) 27 0 (V 0 0 3) w) 0 0 3 (V 0 0 3 + 1) else V
def rcvV (V : VS) (v f t : Nat) : VS × Nat := if V 1 t 1 = 1 then (V, 1) else if hb (nI (V 5 t 0)) f then (V, 2) else if V 6 t 0 = 3 then (vset V 0 0 7 (V 0 0 7 + 1), 3) else (giveV V t v (f + 1), 0)
def rcbV (V : VS) (v f t : Nat) : VS × Nat := (bookV (rcvV V v f t).1 v f t (rcvV V v f t).2, (rcvV V v f t).2)
/-- a letter on the way comes one further ahead: to place s from place k -/
def wmvV (V : VS) (s k : Nat) : VS := fun c2 p2 j => if (15 ≤ c2 ∧ c2 ≤ 18) ∧ p2 = 0 ∧ j = s then V c2 0 k else V c2 p2 j
/-- those on the way, k of them looked at: (state, how many stay, how many came into hands) -/
def arvS (V : VS) : Nat → VS × Nat × Nat
  | 0 => (V, 0, 0)
  | k + 1 => if V 0 0 4 < V 18 0 k then (wmvV (arvS V k).1 (arvS V k).2.1 k, (arvS V k).2.1 + 1, (arvS V k).2.2)
    else ((rcbV (arvS V k).1 (V 15 0 k) (V 16 0 k) (V 17 0 k)).1, (arvS V k).2.1, (arvS V k).2.2 + (if (rcbV (arvS V k).1 (V 15 0 k) (V 16 0 k) (V 17 0 k)).2 = 0 then 1 else 0))
def brgV (V : VS) : VS × Nat := (vset (arvS V (V 0 0 2)).1 0 0 2 (arvS V (V 0 0 2)).2.1, (arvS V (V 0 0 2)).2.2)
abbrev TT : Type := ((Nat → Int32) → Nat) × ((Nat → Int32) → Nat) × (Nat → Nat → Nat)
def pcF : Nat → Nat → Nat
  | 0, _ => 0
  | k + 1, n => if n = 0 then 0 else n % 2 + pcF k (n / 2)
def popc (n : Nat) : Nat := pcF 64 n
def nmV (V : VS) (p i : Nat) : Nat → Int32 := fun k => match k with
  | 0 => nI (V 11 0 (V 7 p i))
  | 1 => nI (V 10 p i)
  | 2 => nI (V 1 p 1)
  | 3 => nI (V 1 p 2)
  | 4 => nI (V 1 p 4)
  | 5 => nI p
  | 6 => nI (V 0 0 4)
  | 7 => nI (V 9 p i) - nI (V 0 0 4)
  | 8 => nI (V 1 p 3)
  | 9 => nI (V 6 p 0)
  | _ => nI (popc (V 12 0 (V 7 p i)))
/-- the next STATE -/
def drwN (x : Nat) : Nat := (x * 1664525 + 1013904223) % 4294967296
def verV (V : VS) (cu mk pa wr : Nat) : VS := vset (vset (vset (vset (vset V 11 0 (V 0 0 1) cu) 12 0 (V 0 0 1) mk) 13 0 (V 0 0 1) pa) 14 0 (V 0 0 1) wr) 0 0 1 (V 0 0 1 + 1)
def d1V (V : VS) : VS := vset V 0 0 8 (drwN (V 0 0 8))
def copV (V : VS) (v q : Nat) : VS × Nat := if V 20 0 2 = 0 then (V, v) else if V 20 0 2 ≤ drwN (V 0 0 8) / 256 % 1000 then (d1V V, v) else
  if V 0 0 1 = 40 then (d1V (d1V V), v) else
  (verV (d1V (d1V V)) (if drwN (drwN (V 0 0 8)) / 256 % 10 = 0 then V 11 0 v - 1 else V 11 0 v) (V 12 0 v ^^^ 2 ^ (drwN (drwN (V 0 0 8)) / 256 % 10)) (v + 1) (q + 1), V 0 0 1)
def wayV (V : VS) (v f t d : Nat) : VS := vset (vset (vset (vset (vset V 15 0 (V 0 0 2) v) 16 0 (V 0 0 2) f) 17 0 (V 0 0 2) t) 18 0 (V 0 0 2) d) 0 0 2 (V 0 0 2 + 1)
/-- one is posted, or lost -/
def pstV (T : TT) (V : VS) (v f t : Nat) : VS := if V 0 0 2 = 60 then vset V 0 0 7 (V 0 0 7 + 1) else wayV V v f t (V 0 0 4 + T.2.2 (V 1 f 0) (V 1 t 0))
def orN (x i : Nat) : Nat := uN (nI x ||| (nI 1 <<< (nI i &&& 31)))
/-- behind the post of a copy: SENT, NEXT, PAPER, LEFT, who wrote -/
def sntV (V : VS) (p i t : Nat) : VS := vset (vset (vset (vset (vset V 5 p 0 (orN (V 5 p 0) t)) 4 p 0 (if V 4 p 0 + 1 < V 3 p 0 then V 4 p 0 + 1 else 0)) 1 p 3 (V 1 p 3 - 1)) 10 p i (V 10 p i - 1)) 0 0 9 (orN (V 0 0 9) p)
def sndV (T : TT) (V : VS) (p i : Nat) : VS := sntV (pstV T (copV V (V 7 p i) p).1 (copV V (V 7 p i) p).2 p (V 2 p (V 4 p 0))) p i (V 2 p (V 4 p 0))
def wriN (T : TT) (V : VS) (p i : Nat) : Nat := min (T.1 (nmV V p i)) (min (V 10 p i) (V 1 p 3))
/-- all copies of one letter -/
def wr1V (T : TT) (V : VS) (p i : Nat) : VS := itn (wriN T V p i) (fun U => sndV T U p i) V
def wr2V (T : TT) (p : Nat) (s : VS × Nat) : VS × Nat := if wr1V T s.1 p s.2 10 p s.2 = 0 then (vset (remV (wr1V T s.1 p s.2) p s.2) 0 0 5 (wr1V T s.1 p s.2 0 0 5 + 1), s.2) else (wr1V T s.1 p s.2, s.2 + 1)
def wrpV (T : TT) (V : VS) (p : Nat) : VS := (itn (V 6 p 0) (wr2V T p) (V, 0)).1
def writes (V : VS) (p : Nat) : Prop := V 1 p 1 ≠ 2 ∧ V 1 p 5 = 0 ∧ 0 < V 3 p 0
def wraV (T : TT) (V : VS) : Nat → VS
  | 0 => V
  | p + 1 => if wraV T V p 1 p 1 ≠ 2 ∧ wraV T V p 1 p 5 = 0 ∧ 0 < wraV T V p 3 p 0 then wrpV T (wraV T V p) p else wraV T V p
def cu2V (T : TT) (p : Nat) (s : VS × Nat) : VS × Nat := if s.1 0 0 4 < s.1 9 p s.2 then (s.1, s.2 + 1) else (vset (remV (vset s.1 1 p 4 (s.1 1 p 4 - T.2.1 (nmV s.1 p s.2))) p s.2) 0 0 6 (s.1 0 0 6 + 1), s.2)
def cupV (T : TT) (V : VS) (p : Nat) : VS := (itn (V 6 p 0) (cu2V T p) (V, 0)).1
def cuaV (T : TT) (V : VS) : Nat → VS
  | 0 => V
  | p + 1 => if cuaV T V p 1 p 1 ≠ 2 then cupV T (cuaV T V p) p else cuaV T V p
def dayB (V : VS) : VS × Nat := if V 20 0 3 = 0 then brgV V else (V, 0)
def dayW (T : TT) (V : VS) : VS := wraV T (dayB V).1 (V 0 0 0)
def dayV (T : TT) (V : VS) : VS := vset (cuaV T (dayW T V) (V 0 0 0)) 0 0 4 (V 0 0 4 + 1)
/-! what holds of every state; d bounds the day -/
def W5 (V : VS) : Prop := ∀ p, p < V 0 0 0 → V 1 p 0 < 6 ∧ V 1 p 1 < 3 ∧ V 1 p 2 < 100 ∧ V 1 p 3 < 100 ∧ V 1 p 4 < 10000 ∧ V 1 p 5 < 2 ∧ V 3 p 0 ≤ 9 ∧ (V 4 p 0 < V 3 p 0 ∨ V 4 p 0 = 0 ∧ V 3 p 0 = 0) ∧ V 6 p 0 ≤ 3 ∧ V 21 p 0 < 2 ^ 20 ∧ V 22 p 0 < 2 ^ 20
def W6 (V : VS) : Prop := ∀ p i, p < V 0 0 0 → i < V 3 p 0 → V 2 p i < V 0 0 0 ∧ V 2 p i ≠ p
def W7 (d : Nat) (V : VS) : Prop := ∀ p i, p < V 0 0 0 → i < V 6 p 0 → V 7 p i < V 0 0 1 ∧ V 9 p i ≤ d + 20 ∧ V 10 p i ≤ 9
def W8 (V : VS) : Prop := ∀ v, v < V 0 0 1 → V 11 0 v < 10 ∧ V 12 0 v < 1024 ∧ V 13 0 v ≤ v
def W9 (d : Nat) (V : VS) : Prop := ∀ i, i < V 0 0 2 → V 15 0 i < V 0 0 1 ∧ V 16 0 i < V 0 0 0 ∧ V 17 0 i < V 0 0 0 ∧ V 18 0 i ≤ d + 20
def W10 (V : VS) : Prop := 1 ≤ V 20 0 0 ∧ V 20 0 0 ≤ 9 ∧ 1 ≤ V 20 0 1 ∧ V 20 0 1 ≤ 20 ∧ V 20 0 2 ≤ 1000 ∧ V 20 0 3 < 2
def WF (d : Nat) (V : VS) : Prop := V 0 0 0 ≤ 16 ∧ V 0 0 1 ≤ 40 ∧ V 0 0 2 ≤ 60 ∧ V 0 0 3 ≤ 200 ∧ V 0 0 4 ≤ d ∧ W5 V ∧ W6 V ∧ W7 d V ∧ W8 V ∧ W9 d V ∧ W10 V
/-- all letters in hands have copies left -/
def LV (V : VS) : Prop := ∀ p i, p < V 0 0 0 → i < V 6 p 0 → 1 ≤ V 10 p i
