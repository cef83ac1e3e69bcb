/-! BITS COUNTED. The rows wb_ and pf_ are of the kit's laws (BITS) -/
theorem wb_tb (n : Nat) : (lN n).toBitVec = BitVec.ofNat 64 n := rfl
theorem wb_inj {a b : Int64} (h : a.toBitVec = b.toBitVec) : a = b := Int64.toBitVec_inj.mp h
theorem wb_tn {n : Nat} (h : n < 2 ^ 64) : (lN n).toBitVec.toNat = n := by rw [wb_tb, BitVec.toNat_ofNat, Nat.mod_eq_of_lt h]
theorem wb_of (x : Int64) : ∃ n, n < 2 ^ 64 ∧ x = lN n := ⟨x.toBitVec.toNat, x.toBitVec.isLt, wb_inj (by rw [wb_tb]; simp)⟩
theorem wb_of32 (x : Int32) : ∃ n, n < 2 ^ 32 ∧ x = nI n := ⟨x.toBitVec.toNat, x.toBitVec.isLt, Int32.toBitVec_inj.mp (by show _ = BitVec.ofNat 32 _; simp)⟩
theorem wb_c : ∀ k, k < 64 → ((nI k).toInt64 &&& 63) = lN k := by decide +kernel
theorem wb_cu : ∀ k, k < 64 → ((nI k).toInt64.toUInt64 &&& Int64.toUInt64 63) = UInt64.ofNat k := by decide +kernel
theorem wb_sm : ∀ k, k < 64 → (BitVec.ofNat 64 k).smod 64 = BitVec.ofNat 64 k := by decide +kernel
theorem wb_pw {a b : Nat} (h : a ≤ b) : 2 ^ b = 2 ^ a * 2 ^ (b - a) := by rw [← Nat.pow_add]; congr 1; omega
theorem wb_lt2 {a b : Nat} (h : a < b) : 2 ^ a < 2 ^ b := Nat.pow_lt_pow_right (by decide) h
theorem wb_mod (n : Nat) : lN n = lN (n % 2 ^ 64) := wb_inj (by rw [wb_tb, wb_tb]; apply BitVec.eq_of_toNat_eq; rw [BitVec.toNat_ofNat, BitVec.toNat_ofNat, Nat.mod_mod])
theorem wb_shr {n k : Nat} (hn : n < 2 ^ 64) (hk : k < 64) : ((lN n).toUInt64 >>> ((nI k).toInt64.toUInt64 &&& Int64.toUInt64 63)).toInt64 = lN (n / 2 ^ k) := by
  rw [wb_cu k hk]
  apply wb_inj
  apply BitVec.eq_of_toNat_eq
  show ((lN n).toUInt64 >>> UInt64.ofNat k).toNat = (BitVec.ofNat 64 _).toNat
  have h1 : (UInt64.ofNat k).toNat = k := by
    show (BitVec.ofNat 64 k).toNat = k
    rw [BitVec.toNat_ofNat, Nat.mod_eq_of_lt (by omega)]
  have h2 : (lN n).toUInt64.toNat = n := wb_tn hn
  rw [UInt64.toNat_shiftRight, h1, h2, Nat.mod_eq_of_lt hk, Nat.shiftRight_eq_div_pow, BitVec.toNat_ofNat, Nat.mod_eq_of_lt (Nat.lt_of_le_of_lt (Nat.div_le_self _ _) hn)]
theorem wb_shl (n : Nat) {k : Nat} (hk : k < 64) : lN n <<< ((nI k).toInt64 &&& 63) = lN (n * 2 ^ k) := by
  rw [wb_c k hk]
  apply wb_inj
  rw [Int64.toBitVec_shiftLeft, wb_tb, wb_tb, wb_tb, wb_sm k hk]
  apply BitVec.eq_of_toNat_eq
  rw [BitVec.shiftLeft_eq', BitVec.toNat_shiftLeft, BitVec.toNat_ofNat, BitVec.toNat_ofNat, BitVec.toNat_ofNat, Nat.mod_eq_of_lt (show k < 2 ^ 64 by omega), Nat.shiftLeft_eq, Nat.mul_mod, Nat.mod_mod, ← Nat.mul_mod]
theorem wb_and {a b : Nat} (ha : a < 2 ^ 64) (hb : b < 2 ^ 64) : lN a &&& lN b = lN (a &&& b) := by
  apply wb_inj
  rw [Int64.toBitVec_and, wb_tb, wb_tb, wb_tb]
  apply BitVec.eq_of_toNat_eq
  rw [BitVec.toNat_and, BitVec.toNat_ofNat, BitVec.toNat_ofNat, BitVec.toNat_ofNat, Nat.mod_eq_of_lt ha, Nat.mod_eq_of_lt hb, Nat.mod_eq_of_lt (Nat.and_lt_two_pow _ hb)]
theorem wb_or {a b : Nat} (ha : a < 2 ^ 64) (hb : b < 2 ^ 64) : lN a ||| lN b = lN (a ||| b) := by
  apply wb_inj
  rw [Int64.toBitVec_or, wb_tb, wb_tb, wb_tb]
  apply BitVec.eq_of_toNat_eq
  rw [BitVec.toNat_or, BitVec.toNat_ofNat, BitVec.toNat_ofNat, BitVec.toNat_ofNat, Nat.mod_eq_of_lt ha, Nat.mod_eq_of_lt hb, Nat.mod_eq_of_lt (Nat.or_lt_two_pow ha hb)]
theorem wb_mask {n k : Nat} (hn : n < 2 ^ 64) (hk : k < 64) : lN n &&& lN (2 ^ k - 1) = lN (n % 2 ^ k) := by
  rw [wb_and hn (by have := wb_lt2 hk; omega), Nat.and_two_pow_sub_one_eq_mod]
theorem wb_a1 {n : Nat} (hn : n < 2 ^ 64) : lN n &&& 1 = lN (n % 2) := wb_mask (k := 1) hn (by decide)
theorem wb_bit {n k : Nat} (hn : n < 2 ^ 64) (hk : k < 64) : ((lN n).toUInt64 >>> ((nI k).toInt64.toUInt64 &&& Int64.toUInt64 63)).toInt64 &&& 1 = lN (n / 2 ^ k % 2) := by
  rw [wb_shr hn hk, wb_a1 (Nat.lt_of_le_of_lt (Nat.div_le_self _ _) hn)]
theorem pf_lI {a : Nat} (h : a < 2 ^ 63) : (lN a).toInt = (a : Int) := lg_ofNat_toInt h
theorem pf_shr {a d : Nat} {D : Int64} (hD : (D.toBitVec.smod 64).toNat = d) (h : a < 2 ^ 62) : lN a >>> D = lN (a / 2 ^ d) := by
  have hd : a / 2 ^ d ≤ a := Nat.div_le_self _ _
  apply Int64.toInt_inj.mp
  have e : (lN a >>> D).toInt = (lN a).toInt >>> d := by
    rw [← hD]
    exact BitVec.toInt_sshiftRight ..
  rw [e, Int.shiftRight_eq_div_pow, pf_lI (by omega), pf_lI (by omega)]
  rfl
def mk8 (m : Nat) : Nat → Nat
  | 0 => 0
  | k + 1 => m + 256 * mk8 m k
theorem mk8_s (m k : Nat) : mk8 m (k + 1) = m + 256 * mk8 m k := rfl
def sS : Nat → Nat → Nat
  | 0, _ => 0
  | k + 1, x => popc (x % 256) + 256 * sS k (x / 256)
theorem and_256 {a m : Nat} (b n : Nat) (ha : a < 256) (hm : m < 256) : (a + 256 * b) &&& (m + 256 * n) = (a &&& m) + 256 * (b &&& n) := by
  have h1 := Nat.and_div_two_pow (a := a + 256 * b) (b := m + 256 * n) (n := 8)
  have h2 := Nat.and_mod_two_pow (a := a + 256 * b) (b := m + 256 * n) (n := 8)
  simp only [show (2 : Nat) ^ 8 = 256 from rfl] at h1 h2
  rw [show (a + 256 * b) / 256 = b by omega, show (m + 256 * n) / 256 = n by omega] at h1
  rw [show (a + 256 * b) % 256 = a by omega, show (m + 256 * n) % 256 = m by omega] at h2
  omega
def bA (k x : Nat) : Nat := x - (x / 2 &&& mk8 85 k)
def bB (k a : Nat) : Nat := (a &&& mk8 51 k) + (a / 4 &&& mk8 51 k)
def bC (k b : Nat) : Nat := (b + b / 16) &&& mk8 15 k
def bA1 (l : Nat) : Nat := l - (l / 2 &&& 85)
def bB1 (a : Nat) : Nat := (a &&& 51) + (a / 4 &&& 51)
theorem t85 : ∀ y, y < 128 → ∀ r, r < 2 → (y + 128 * r) &&& 85 = y &&& 85 := by decide +kernel
theorem t51 : ∀ y, y < 64 → ∀ r, r < 4 → (y + 64 * r) &&& 51 = y &&& 51 := by decide +kernel
theorem tA1 : ∀ l, l < 256 → bA1 l < 256 := by decide +kernel
theorem tB1 : ∀ l, l < 256 → bB1 (bA1 l) ≤ 68 ∧ bB1 (bA1 l) % 16 ≤ 4 ∧ (bB1 (bA1 l) + bB1 (bA1 l) / 16) % 16 = popc l := by decide +kernel
theorem bA_s (k : Nat) {l h : Nat} (hl : l < 256) : bA (k + 1) (l + 256 * h) = bA1 l + 256 * bA k h := by
  unfold bA bA1
  rw [mk8_s]
  have e : (l + 256 * h) / 2 = (l / 2 + 128 * (h % 2)) + 256 * (h / 2) := by omega
  rw [e, and_256 _ _ (by omega) (by decide), t85 _ (by omega) _ (by omega)]
  have h1 : l / 2 &&& 85 ≤ l / 2 := Nat.and_le_left
  have h2 : h / 2 &&& mk8 85 k ≤ h / 2 := Nat.and_le_left
  omega
theorem bB_s (k : Nat) {l h : Nat} (hl : l < 256) : bB (k + 1) (l + 256 * h) = bB1 l + 256 * bB k h := by
  unfold bB bB1
  rw [mk8_s]
  have e : (l + 256 * h) / 4 = (l / 4 + 64 * (h % 4)) + 256 * (h / 4) := by omega
  rw [e, and_256 (a := l) _ _ hl (by decide), and_256 (a := l / 4 + 64 * (h % 4)) _ _ (by omega) (by decide), t51 _ (by omega) _ (by omega)]
  omega
theorem bC_s (k : Nat) {l h : Nat} (hl : l ≤ 68) (hh : h % 16 ≤ 4) : bC (k + 1) (l + 256 * h) = (l + l / 16) % 16 + 256 * bC k h := by
  unfold bC
  rw [mk8_s]
  have e : l + 256 * h + (l + 256 * h) / 16 = (l + l / 16 + 16 * (h % 16)) + 256 * (h + h / 16) := by omega
  have e15 : ∀ y, y &&& 15 = y % 16 := fun y => Nat.and_two_pow_sub_one_eq_mod y 4
  rw [e, and_256 _ _ (by omega) (by decide), e15]
  omega
theorem bB_16 (k x : Nat) : bB k (bA k x) % 16 ≤ 4 := by
  cases k with
  | zero =>
    unfold bB mk8
    rw [Nat.and_zero, Nat.and_zero]
    decide
  | succ k =>
    have e : x = x % 256 + 256 * (x / 256) := by omega
    have hl : x % 256 < 256 := by omega
    rw [e, bA_s k hl, bB_s k (tA1 _ hl)]
    have := (tB1 _ hl).2.1
    omega
theorem swar (k : Nat) : ∀ x, bC k (bB k (bA k x)) = sS k x := by
  induction k with
  | zero =>
    intro x
    unfold bC mk8
    rw [Nat.and_zero]
    rfl
  | succ k ih =>
    intro x
    have hl : x % 256 < 256 := by omega
    obtain ⟨t1, t2, t3⟩ := tB1 _ hl
    have e : bA (k + 1) x = bA1 (x % 256) + 256 * bA k (x / 256) := by
      have e0 : x = x % 256 + 256 * (x / 256) := by omega
      rw [← bA_s k hl, ← e0]
    rw [e, bB_s k (tA1 _ hl), bC_s k t1 (bB_16 k _), ih, t3]
    rfl
theorem pcF_u (k n : Nat) : pcF (k + 1) n = n % 2 + pcF k (n / 2) := by
  rw [pcF]
  by_cases e : n = 0
  · rw [if_pos e, e, pcF_0]
  · rw [if_neg e]
theorem pcF_add (k : Nat) (j : Nat) : ∀ l h, l < 2 ^ j → pcF (k + j) (l + 2 ^ j * h) = pcF j l + pcF k h := by
  induction j with
  | zero =>
    intro l h hl
    have : l = 0 := by simpa using hl
    subst this
    rw [pcF_0]
    simp
  | succ j ih =>
    intro l h hl
    rw [Nat.pow_succ] at hl
    rw [← Nat.add_assoc, pcF_u, pcF_u j l, Nat.pow_succ]
    have e1 : (l + 2 ^ j * 2 * h) % 2 = l % 2 := by
      rw [Nat.mul_assoc, Nat.mul_left_comm]
      omega
    have e2 : (l + 2 ^ j * 2 * h) / 2 = l / 2 + 2 ^ j * h := by
      rw [Nat.mul_assoc, Nat.mul_left_comm]
      omega
    rw [e1, e2, ih (l / 2) h (by omega)]
    omega
theorem pcF_fuel (j : Nat) : ∀ k n, n < 2 ^ k → pcF (k + j) n = pcF k n := by
  intro k
  induction k with
  | zero =>
    intro n h
    have : n = 0 := by simpa using h
    rw [this, pcF_0, pcF_0]
  | succ k ih =>
    intro n h
    rw [Nat.pow_succ] at h
    rw [show k + 1 + j = k + j + 1 by omega, pcF_u, pcF_u, ih _ (by omega)]
theorem popc_256 (x : Nat) (h : x < 2 ^ 56) : popc x = popc (x % 256) + popc (x / 256) := by
  have e := pcF_add 56 8 (x % 256) (x / 256) (by omega)
  rw [show x % 256 + 2 ^ 8 * (x / 256) = x by omega] at e
  have e1 : pcF 64 (x % 256) = pcF 8 (x % 256) := pcF_fuel 56 8 _ (by omega)
  have e2 : pcF 64 (x / 256) = pcF 56 (x / 256) := pcF_fuel 8 56 _ (by omega)
  unfold popc
  rw [e1, e2]
  exact e
theorem popc_8 {x : Nat} (h : x < 256) : popc x ≤ 8 := by
  have : ∀ x, x < 256 → popc x ≤ 8 := by decide +kernel
  exact this x h
/-- Integer.bitCount -/
theorem JI_popc {n : Nat} (h : n < 2 ^ 31) : JI_bitCount (nI n) = some (nI (popc n)) := by
  have s1 : ∀ {m : Nat}, m < 2 ^ 32 → ushr (nI m) (nI 1) = nI (m / 2) := fun hm => pk_ushrN hm (nI 1) 1 (by decide)
  have s2 : ∀ {m : Nat}, m < 2 ^ 32 → ushr (nI m) (nI 2) = nI (m / 4) := fun hm => pk_ushrN hm (nI 2) 2 (by decide)
  have s4 : ∀ {m : Nat}, m < 2 ^ 32 → ushr (nI m) (nI 4) = nI (m / 16) := fun hm => pk_ushrN hm (nI 4) 4 (by decide)
  have s16 : ∀ {m : Nat}, m < 2 ^ 32 → ushr (nI m) (nI 16) = nI (m / 65536) := fun hm => pk_ushrN hm (nI 16) 16 (by decide)
  have a1 : n / 2 &&& 1431655765 ≤ n / 2 := Nat.and_le_left
  have a2 : (n - (n / 2 &&& 1431655765)) &&& 858993459 ≤ 858993459 := Nat.and_le_right
  have a3 : (n - (n / 2 &&& 1431655765)) / 4 &&& 858993459 ≤ 858993459 := Nat.and_le_right
  have eA : n - (n / 2 &&& 1431655765) = bA 4 n := rfl
  have eB : (bA 4 n &&& 858993459) + (bA 4 n / 4 &&& 858993459) = bB 4 (bA 4 n) := rfl
  have eC : (bB 4 (bA 4 n) + bB 4 (bA 4 n) / 16) &&& 252645135 = sS 4 n := swar 4 n
  have lt : sS 4 n ≤ 252645135 := by
    rw [← eC]
    exact Nat.and_le_right
  have p0 := popc_256 n (by omega)
  have p1 := popc_256 (n / 256) (by omega)
  have p2 := popc_256 (n / 256 / 256) (by omega)
  have q0 := popc_8 (x := n % 256) (by omega)
  have q1 := popc_8 (x := n / 256 % 256) (by omega)
  have q2 := popc_8 (x := n / 256 / 256 % 256) (by omega)
  have q3 := popc_8 (x := n / 256 / 256 / 256) (by omega)
  have eS : sS 4 n = popc (n % 256) + 256 * (popc (n / 256 % 256) + 256 * (popc (n / 256 / 256 % 256) + 256 * (popc (n / 256 / 256 / 256 % 256) + 256 * 0))) := rfl
  rw [show n / 256 / 256 / 256 % 256 = n / 256 / 256 / 256 by omega] at eS
  unfold JI_bitCount
  rw [eA] at a2 a3
  rw [s1 (by omega), nI_and, nI_subE (by omega), eA, lt_eq, nI_and, s2 (by omega), nI_and, nI_add, eB, lt_eq, s4 (by omega), nI_add, nI_and, eC, ushr8 (by omega), nI_add, lt_eq, s16 (by omega), nI_add, nI_and, show sS 4 n + sS 4 n / 256 + (sS 4 n + sS 4 n / 256) / 65536 &&& 63 = (sS 4 n + sS 4 n / 256 + (sS 4 n + sS 4 n / 256) / 65536) % 64 from Nat.and_two_pow_sub_one_eq_mod _ 6]
  have f1 : sS 4 n / 256 = popc (n / 256 % 256) + 256 * (popc (n / 256 / 256 % 256) + 256 * popc (n / 256 / 256 / 256)) := by omega
  have f2 : (sS 4 n + sS 4 n / 256) / 65536 = popc (n / 256 / 256 % 256) + popc (n / 256 / 256 / 256) + 256 * popc (n / 256 / 256 / 256) := by omega
  have f3 : (sS 4 n + sS 4 n / 256 + (sS 4 n + sS 4 n / 256) / 65536) % 64 = popc n := by omega
  rw [f3]
/-- Long.bitCount -/
theorem JL_popc {n : Nat} (h : n < 2 ^ 40) : JL_bitCount (Int64.ofNat n) = some (nI (popc n)) := by
  have s1 : ∀ {m : Nat}, m < 2 ^ 64 → lushr (lN m) (nI 1) = lN (m / 2) := fun hm => wb_shr (k := 1) hm (by decide)
  have s2 : ∀ {m : Nat}, m < 2 ^ 64 → lushr (lN m) (nI 2) = lN (m / 4) := fun hm => wb_shr (k := 2) hm (by decide)
  have s4 : ∀ {m : Nat}, m < 2 ^ 64 → lushr (lN m) (nI 4) = lN (m / 16) := fun hm => wb_shr (k := 4) hm (by decide)
  have s8 : ∀ {m : Nat}, m < 2 ^ 64 → lushr (lN m) (nI 8) = lN (m / 256) := fun hm => wb_shr (k := 8) hm (by decide)
  have s16 : ∀ {m : Nat}, m < 2 ^ 64 → lushr (lN m) (nI 16) = lN (m / 65536) := fun hm => wb_shr (k := 16) hm (by decide)
  have s32 : ∀ {m : Nat}, m < 2 ^ 64 → lushr (lN m) (nI 32) = lN (m / 4294967296) := fun hm => wb_shr (k := 32) hm (by decide)
  have eA : n - (n / 2 &&& 6148914691236517205) = bA 8 n := rfl
  have eB : (bA 8 n &&& 3689348814741910323) + (bA 8 n / 4 &&& 3689348814741910323) = bB 8 (bA 8 n) := rfl
  have eC : (bB 8 (bA 8 n) + bB 8 (bA 8 n) / 16) &&& 1085102592571150095 = sS 8 n := swar 8 n
  have a1 : n / 2 &&& 6148914691236517205 ≤ n / 2 := Nat.and_le_left
  have a2 : bA 8 n &&& 3689348814741910323 ≤ 3689348814741910323 := Nat.and_le_right
  have a3 : bA 8 n / 4 &&& 3689348814741910323 ≤ 3689348814741910323 := Nat.and_le_right
  have lt : sS 8 n ≤ 1085102592571150095 := by
    rw [← eC]
    exact Nat.and_le_right
  have p0 := popc_256 n (by omega)
  have p1 := popc_256 (n / 256) (by omega)
  have p2 := popc_256 (n / 256 / 256) (by omega)
  have p3 := popc_256 (n / 256 / 256 / 256) (by omega)
  have q0 := popc_8 (x := n % 256) (by omega)
  have q1 := popc_8 (x := n / 256 % 256) (by omega)
  have q2 := popc_8 (x := n / 256 / 256 % 256) (by omega)
  have q3 := popc_8 (x := n / 256 / 256 / 256 % 256) (by omega)
  have q4 := popc_8 (x := n / 256 / 256 / 256 / 256) (by omega)
  have eS : sS 8 n = popc (n % 256) + 256 * (popc (n / 256 % 256) + 256 * (popc (n / 256 / 256 % 256) + 256 * (popc (n / 256 / 256 / 256 % 256) + 256 * (popc (n / 256 / 256 / 256 / 256 % 256) + 256 * sS 3 (n / 256 / 256 / 256 / 256 / 256))))) := rfl
  have e0 : sS 3 (n / 256 / 256 / 256 / 256 / 256) = 0 := by
    rw [show n / 256 / 256 / 256 / 256 / 256 = 0 by omega]
    decide
  rw [show n / 256 / 256 / 256 / 256 % 256 = n / 256 / 256 / 256 / 256 by omega, e0] at eS
  have hl : ∀ x : Nat, Int64.ofNat x = lN x := fun _ => rfl
  have b1 : bA 8 n < 2 ^ 64 := by
    rw [← eA]
    omega
  have b2 : bB 8 (bA 8 n) < 2 ^ 63 := by
    rw [← eB]
    omega
  unfold JL_bitCount
  rw [hl, show (6148914691236517205 : Int64) = lN 6148914691236517205 from rfl, show (3689348814741910323 : Int64) = lN 3689348814741910323 from rfl, show (1085102592571150095 : Int64) = lN 1085102592571150095 from rfl, s1 (by omega), wb_and (by omega) (by decide), lN_sub (by omega), eA, lt_eq, wb_and b1 (by decide), s2 b1, wb_and (by omega) (by decide), lN_add, eB, lt_eq, s4 (by omega), lN_add, wb_and (by omega) (by decide), eC, lt_eq, s8 (by omega), lN_add, s16 (by omega), lN_add, lt_eq, s32 (by omega), lN_add, lN_i, nI_and]
  have f1 : sS 8 n / 256 = popc (n / 256 % 256) + 256 * (popc (n / 256 / 256 % 256) + 256 * (popc (n / 256 / 256 / 256 % 256) + 256 * popc (n / 256 / 256 / 256 / 256))) := by omega
  have f2 : (sS 8 n + sS 8 n / 256) / 65536 = (popc (n / 256 / 256 % 256) + popc (n / 256 / 256 / 256 % 256)) + 256 * (popc (n / 256 / 256 / 256 % 256) + popc (n / 256 / 256 / 256 / 256)) + 65536 * popc (n / 256 / 256 / 256 / 256) := by omega
  have f4 : (sS 8 n + sS 8 n / 256 + (sS 8 n + sS 8 n / 256) / 65536) / 4294967296 = popc (n / 256 / 256 / 256 / 256) := by omega
  have f3 : (sS 8 n + sS 8 n / 256 + (sS 8 n + sS 8 n / 256) / 65536 + (sS 8 n + sS 8 n / 256 + (sS 8 n + sS 8 n / 256) / 65536) / 4294967296) % 128 = popc n := by omega
  have e127 : ∀ y, y &&& 127 = y % 128 := fun y => Nat.and_two_pow_sub_one_eq_mod y 7
  rw [e127, f3]
/-- a bit of a set -/
theorem hb_test {x i : Nat} (hx : x < 2 ^ 31) (hi : i < 31) : hb (nI x) i = x.testBit i := by
  have hs : ∀ i, i < 31 → ((nI i &&& 31).toBitVec.smod 32).toNat = i := by decide +kernel
  unfold hb
  rw [pk_shrN hx _ i (hs i hi), nI_and, show (x / 2 ^ i &&& 1) = x / 2 ^ i % 2 from by rw [show (1 : Nat) = 2 ^ 1 - 1 from rfl, Nat.and_two_pow_sub_one_eq_mod], Nat.testBit_eq_decide_div_mod_eq]
  by_cases e : x / 2 ^ i % 2 = 1
  · rw [e]
    simp
  · rw [show x / 2 ^ i % 2 = 0 by omega]
    decide
theorem lb_test {x i : Nat} (hx : x < 2 ^ 62) (hi : i < 62) : (lg_cmp ((Int64.ofNat x >>> (Int32.toInt64 (nI i) &&& 63)) &&& 1) 1 = 0) ↔ x.testBit i = true := by
  have hs : ((lN i).toBitVec.smod 64).toNat = i := by
    rw [wb_tb, wb_sm i (by omega)]
    exact Nat.mod_eq_of_lt (by omega)
  rw [show Int64.ofNat x = lN x from rfl, wb_c i (by omega), pf_shr hs hx, wb_a1 (Nat.lt_of_le_of_lt (Nat.div_le_self _ _) (by omega)), lg_cmp_eq, show (1 : Int64) = lN 1 from rfl, pk_lEQ (by omega) (by decide), Nat.testBit_eq_decide_div_mod_eq]
  simp
