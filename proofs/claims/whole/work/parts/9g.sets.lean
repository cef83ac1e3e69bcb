/-! SETS OF THREE AT MOST, in their order: their number of bits first, then the number itself -/
def tb1 : List Nat := [1, 2, 4, 8, 16, 32, 64, 128, 256, 512, 1024, 2048, 4096, 8192, 16384, 32768, 65536]
def tb2 : List Nat := [3, 5, 6, 9, 10, 12, 17, 18, 20, 24, 33, 34, 36, 40, 48, 65, 66, 68, 72, 80, 96, 129, 130, 132, 136, 144, 160, 192, 257, 258, 260, 264, 272, 288, 320, 384, 513, 514, 516, 520, 528, 544, 576, 640, 768, 1025, 1026, 1028, 1032, 1040, 1056, 1088, 1152, 1280, 1536, 2049, 2050, 2052, 2056, 2064, 2080, 2112, 2176, 2304, 2560, 3072, 4097, 4098, 4100, 4104, 4112, 4128, 4160, 4224, 4352, 4608, 5120, 6144, 8193, 8194, 8196, 8200, 8208, 8224, 8256, 8320, 8448, 8704, 9216, 10240, 12288, 16385, 16386, 16388, 16392, 16400, 16416, 16448, 16512, 16640, 16896, 17408, 18432, 20480, 24576, 32769, 32770, 32772, 32776, 32784, 32800, 32832, 32896, 33024, 33280, 33792, 34816, 36864, 40960, 49152, 65537]
def tb3 : List Nat := [7, 11, 13, 14, 19, 21, 22, 25, 26, 28, 35, 37, 38, 41, 42, 44, 49, 50, 52, 56, 67, 69, 70, 73, 74, 76, 81, 82, 84, 88, 97, 98, 100, 104, 112, 131, 133, 134, 137, 138, 140, 145, 146, 148, 152, 161, 162, 164, 168, 176, 193, 194, 196, 200, 208, 224, 259, 261, 262, 265, 266, 268, 273, 274, 276, 280, 289, 290, 292, 296, 304, 321, 322, 324, 328, 336, 352, 385, 386, 388, 392, 400, 416, 448, 515, 517, 518, 521, 522, 524, 529, 530, 532, 536, 545, 546, 548, 552, 560, 577, 578, 580, 584, 592, 608, 641, 642, 644, 648, 656, 672, 704, 769, 770, 772, 776, 784, 800, 832, 896, 1027, 1029, 1030, 1033, 1034, 1036, 1041, 1042, 1044, 1048, 1057, 1058, 1060, 1064, 1072, 1089, 1090, 1092, 1096, 1104, 1120, 1153, 1154, 1156, 1160, 1168, 1184, 1216, 1281, 1282, 1284, 1288, 1296, 1312, 1344, 1408, 1537, 1538, 1540, 1544, 1552, 1568, 1600, 1664, 1792, 2051, 2053, 2054, 2057, 2058, 2060, 2065, 2066, 2068, 2072, 2081, 2082, 2084, 2088, 2096, 2113, 2114, 2116, 2120, 2128, 2144, 2177, 2178, 2180, 2184, 2192, 2208, 2240, 2305, 2306, 2308, 2312, 2320, 2336, 2368, 2432, 2561, 2562, 2564, 2568, 2576, 2592, 2624, 2688, 2816, 3073, 3074, 3076, 3080, 3088, 3104, 3136, 3200, 3328, 3584, 4099, 4101, 4102, 4105, 4106, 4108, 4113, 4114, 4116, 4120, 4129, 4130, 4132, 4136, 4144, 4161, 4162, 4164, 4168, 4176, 4192, 4225, 4226, 4228, 4232, 4240, 4256, 4288, 4353, 4354, 4356, 4360, 4368, 4384, 4416, 4480, 4609, 4610, 4612, 4616, 4624, 4640, 4672, 4736, 4864, 5121, 5122, 5124, 5128, 5136, 5152, 5184, 5248, 5376, 5632, 6145, 6146, 6148, 6152, 6160, 6176, 6208, 6272, 6400, 6656, 7168, 8195, 8197, 8198, 8201, 8202, 8204, 8209, 8210, 8212, 8216, 8225, 8226, 8228, 8232, 8240, 8257, 8258, 8260, 8264, 8272, 8288, 8321, 8322, 8324, 8328, 8336, 8352, 8384, 8449, 8450, 8452, 8456, 8464, 8480, 8512, 8576, 8705, 8706, 8708, 8712, 8720, 8736, 8768, 8832, 8960, 9217, 9218, 9220, 9224, 9232, 9248, 9280, 9344, 9472, 9728, 10241, 10242, 10244, 10248, 10256, 10272, 10304, 10368, 10496, 10752, 11264, 12289, 12290, 12292, 12296, 12304, 12320, 12352, 12416, 12544, 12800, 13312, 14336, 16387, 16389, 16390, 16393, 16394, 16396, 16401, 16402, 16404, 16408, 16417, 16418, 16420, 16424, 16432, 16449, 16450, 16452, 16456, 16464, 16480, 16513, 16514, 16516, 16520, 16528, 16544, 16576, 16641, 16642, 16644, 16648, 16656, 16672, 16704, 16768, 16897, 16898, 16900, 16904, 16912, 16928, 16960, 17024, 17152, 17409, 17410, 17412, 17416, 17424, 17440, 17472, 17536, 17664, 17920, 18433, 18434, 18436, 18440, 18448, 18464, 18496, 18560, 18688, 18944, 19456, 20481, 20482, 20484, 20488, 20496, 20512, 20544, 20608, 20736, 20992, 21504, 22528, 24577, 24578, 24580, 24584, 24592, 24608, 24640, 24704, 24832, 25088, 25600, 26624, 28672, 32771, 32773, 32774, 32777, 32778, 32780, 32785, 32786, 32788, 32792, 32801, 32802, 32804, 32808, 32816, 32833, 32834, 32836, 32840, 32848, 32864, 32897, 32898, 32900, 32904, 32912, 32928, 32960, 33025, 33026, 33028, 33032, 33040, 33056, 33088, 33152, 33281, 33282, 33284, 33288, 33296, 33312, 33344, 33408, 33536, 33793, 33794, 33796, 33800, 33808, 33824, 33856, 33920, 34048, 34304, 34817, 34818, 34820, 34824, 34832, 34848, 34880, 34944, 35072, 35328, 35840, 36865, 36866, 36868, 36872, 36880, 36896, 36928, 36992, 37120, 37376, 37888, 38912, 40961, 40962, 40964, 40968, 40976, 40992, 41024, 41088, 41216, 41472, 41984, 43008, 45056, 49153, 49154, 49156, 49160, 49168, 49184, 49216, 49280, 49408, 49664, 50176, 51200, 53248, 57344, 65539]
def tb (k i : Nat) : Nat := match k with
  | 0 => 0
  | 1 => tb1.getD i 0
  | 2 => tb2.getD i 0
  | _ => tb3.getD i 0
/-- how many of k there are of P -/
def cn (k P : Nat) : Nat := match k with
  | 0 => 1
  | 1 => P
  | 2 => P * (P - 1) / 2
  | _ => P * (P - 1) * (P - 2) / 6
theorem cn_16 : ∀ k, k < 4 → ∀ P, P < 17 → cn k P ≤ cn k 16 ∧ cn k 16 ≤ 560 := by decide +kernel
theorem tb_1 : ∀ i, i < 16 → popc (tb 1 i) = 1 ∧ tb 1 i < 65536 ∧ tb 1 i < tb 1 (i + 1) := by decide +kernel
theorem tb_2 : ∀ i, i < 120 → popc (tb 2 i) = 2 ∧ tb 2 i < 65536 ∧ tb 2 i < tb 2 (i + 1) := by decide +kernel
theorem tb_3 : ∀ i, i < 560 → popc (tb 3 i) = 3 ∧ tb 3 i < 65536 ∧ tb 3 i < tb 3 (i + 1) := by decide +kernel
theorem tb_p {k i : Nat} (hk : k < 4) (hi : i < cn k 16) : popc (tb k i) = k ∧ tb k i < 65536 := by
  have : k = 0 ∨ k = 1 ∨ k = 2 ∨ k = 3 := by omega
  rcases this with rfl | rfl | rfl | rfl
  · exact ⟨rfl, (show (0 : Nat) < 65536 by decide)⟩
  · exact ⟨(tb_1 i hi).1, (tb_1 i hi).2.1⟩
  · exact ⟨(tb_2 i hi).1, (tb_2 i hi).2.1⟩
  · exact ⟨(tb_3 i hi).1, (tb_3 i hi).2.1⟩
theorem tb_s {k i : Nat} (hk : k < 4) (h1 : 1 ≤ k) (hi : i < cn k 16) : tb k i < tb k (i + 1) := by
  have : k = 1 ∨ k = 2 ∨ k = 3 := by omega
  rcases this with rfl | rfl | rfl
  · exact (tb_1 i hi).2.2
  · exact (tb_2 i hi).2.2
  · exact (tb_3 i hi).2.2
theorem tb_mono {k : Nat} (hk : k < 4) (h1 : 1 ≤ k) (j : Nat) : j ≤ cn k 16 → ∀ i, i < j → tb k i < tb k j := by
  induction j with
  | zero => exact fun _ i hi => absurd hi (Nat.not_lt_zero i)
  | succ j ih =>
    intro hj i hi
    have := tb_s hk h1 (show j < cn k 16 by omega)
    by_cases e : i = j
    · rw [e]
      exact this
    · exact Nat.lt_trans (ih (by omega) i (by omega)) this
theorem tb_b : ∀ k, k < 4 → 1 ≤ k → ∀ P, P < 17 → 2 ^ P ≤ tb k (cn k P) ∧ (0 < cn k P → tb k (cn k P - 1) < 2 ^ P) := by decide +kernel
/-- those below 2^P -/
theorem tb_lt {k i P : Nat} (hk : k < 4) (hP : P < 17) (hi : i < cn k 16) : tb k i < 2 ^ P ↔ i < cn k P := by
  by_cases h1 : 1 ≤ k
  · obtain ⟨b1, b2⟩ := tb_b k hk h1 P hP
    have c1 := (cn_16 k hk P hP).1
    refine ⟨fun h => ?_, fun h => ?_⟩
    · by_cases e : i < cn k P
      · exact e
      · by_cases e2 : i = cn k P
        · rw [← e2] at b1
          omega
        · have := tb_mono hk h1 i (by omega) (cn k P) (by omega)
          omega
    · have b2 := b2 (by omega)
      by_cases e : i = cn k P - 1
      · rw [e]
        exact b2
      · have := tb_mono hk h1 (cn k P - 1) (by omega) i (by omega)
        omega
  · have : k = 0 := by omega
    subst this
    have hi : i < 1 := hi
    have : i = 0 := by omega
    subst this
    exact ⟨fun _ => Nat.zero_lt_one, fun _ => Nat.two_pow_pos P⟩
/-- the highest one -/
theorem top_bit (m : Nat) : ∀ s, s < 2 ^ m → 0 < s → ∃ c r, c < m ∧ r < 2 ^ c ∧ s = r + 2 ^ c := by
  induction m with
  | zero =>
    intro s h h0
    rw [Nat.pow_zero] at h
    omega
  | succ m ih =>
    intro s h h0
    rw [Nat.pow_succ] at h
    by_cases e : s < 2 ^ m
    · obtain ⟨c, r, a, b, d⟩ := ih s e h0
      exact ⟨c, r, by omega, b, d⟩
    · exact ⟨m, s - 2 ^ m, Nat.lt_succ_self m, by omega, by omega⟩
theorem popc_top {c r : Nat} (hc : c < 17) (hr : r < 2 ^ c) : popc (r + 2 ^ c) = popc r + 1 := by
  have h := pcF_add (64 - c) c r 1 hr
  have h2 := pcF_fuel (64 - c) c r hr
  rw [Nat.mul_one, Nat.sub_add_cancel (by omega)] at h
  rw [Nat.add_sub_cancel' (by omega)] at h2
  have h3 : pcF (64 - c) 1 = 1 := by
    obtain ⟨q, hq⟩ : ∃ q, 64 - c = q + 1 := ⟨63 - c, by omega⟩
    rw [hq, pcF_u]
    show 1 + pcF q 0 = 1
    cases q <;> rfl
  unfold popc
  rw [h, h2, h3]
theorem popc_0 {m s : Nat} (hm : m ≤ 16) (h : s < 2 ^ m) (h2 : popc s = 0) : s = 0 := by
  by_cases e : 0 < s
  · obtain ⟨c, r, a, b, rfl⟩ := top_bit m s h e
    rw [popc_top (by omega) b] at h2
    omega
  · omega
theorem popc_1 {m s k : Nat} (hm : m ≤ 16) (h : s < 2 ^ m) (h2 : popc s = k + 1) : ∃ c r, c < m ∧ r < 2 ^ c ∧ s = r + 2 ^ c ∧ popc r = k := by
  by_cases e : 0 < s
  · obtain ⟨c, r, a, b, rfl⟩ := top_bit m s h e
    rw [popc_top (by omega) b] at h2
    exact ⟨c, r, a, b, rfl, by omega⟩
  · have : s = 0 := by omega
    rw [this] at h2
    exact absurd h2 (by show ¬ 0 = k + 1; omega)
theorem tb_e1 : ∀ a, a < 16 → tb 1 a = 2 ^ a := by decide +kernel
theorem tb_e2 : ∀ b, b < 16 → ∀ a, a < b → b * (b - 1) / 2 + a < 120 ∧ tb 2 (b * (b - 1) / 2 + a) = 2 ^ a + 2 ^ b := by decide +kernel
theorem tb_e3 : ∀ c, c < 16 → ∀ b, b < c → ∀ a, a < b → c * (c - 1) * (c - 2) / 6 + b * (b - 1) / 2 + a < 560 ∧ tb 3 (c * (c - 1) * (c - 2) / 6 + b * (b - 1) / 2 + a) = 2 ^ a + 2 ^ b + 2 ^ c := by decide +kernel
/-- all of them -/
theorem tb_all {s k : Nat} (hs : s < 2 ^ 16) (hk : k < 4) (h : popc s = k) : ∃ i, i < cn k 16 ∧ tb k i = s := by
  have : k = 0 ∨ k = 1 ∨ k = 2 ∨ k = 3 := by omega
  rcases this with rfl | rfl | rfl | rfl
  · exact ⟨0, by decide, (popc_0 (Nat.le_refl _) hs h).symm⟩
  · obtain ⟨c, r, h1, h2, rfl, h3⟩ := popc_1 (Nat.le_refl _) hs h
    have := popc_0 (show c ≤ 16 by omega) h2 h3
    subst this
    exact ⟨c, h1, by rw [tb_e1 c h1, Nat.zero_add]⟩
  · obtain ⟨c, r, h1, h2, rfl, h3⟩ := popc_1 (Nat.le_refl _) hs h
    obtain ⟨b, r2, h4, h5, rfl, h6⟩ := popc_1 (show c ≤ 16 by omega) h2 h3
    have := popc_0 (show b ≤ 16 by omega) h5 h6
    subst this
    obtain ⟨e1, e2⟩ := tb_e2 c h1 b h4
    exact ⟨_, e1, by rw [e2, Nat.zero_add]⟩
  · obtain ⟨c, r, h1, h2, rfl, h3⟩ := popc_1 (Nat.le_refl _) hs h
    obtain ⟨b, r2, h4, h5, rfl, h6⟩ := popc_1 (show c ≤ 16 by omega) h2 h3
    obtain ⟨a, r3, h7, h8, rfl, h9⟩ := popc_1 (show b ≤ 16 by omega) h5 h6
    have := popc_0 (show a ≤ 16 by omega) h8 h9
    subst this
    obtain ⟨e1, e2⟩ := tb_e3 c h1 b h4 a h7
    exact ⟨_, e1, by rw [e2, Nat.zero_add]⟩
/-- the next one of as many, as the class finds it -/
def gsp (v : Int32) : Int32 := (v + (v &&& (-v))) ||| (ushr ((v ^^^ (v + (v &&& (-v)))) / (v &&& (-v))) (nI 2))
theorem gs_1 : ∀ i, i < 16 → ¬ (nI (tb 1 i) &&& (-nI (tb 1 i))) = 0 ∧ gsp (nI (tb 1 i)) = nI (tb 1 (i + 1)) := by decide +kernel
theorem gs_2 : ∀ i, i < 120 → ¬ (nI (tb 2 i) &&& (-nI (tb 2 i))) = 0 ∧ gsp (nI (tb 2 i)) = nI (tb 2 (i + 1)) := by decide +kernel
theorem gs_3 : ∀ i, i < 560 → ¬ (nI (tb 3 i) &&& (-nI (tb 3 i))) = 0 ∧ gsp (nI (tb 3 i)) = nI (tb 3 (i + 1)) := by decide +kernel
theorem gs_k {k i : Nat} (hk : k < 4) (h1 : 1 ≤ k) (hi : i < cn k 16) : ¬ (nI (tb k i) &&& (-nI (tb k i))) = 0 ∧ gsp (nI (tb k i)) = nI (tb k (i + 1)) := by
  have : k = 1 ∨ k = 2 ∨ k = 3 := by omega
  rcases this with rfl | rfl | rfl
  · exact gs_1 i hi
  · exact gs_2 i hi
  · exact gs_3 i hi
theorem tb_00 : ∀ k, k < 4 → tb k 0 = 2 ^ k - 1 ∧ nI 1 <<< ((nI k) &&& 31) - nI 1 = nI (tb k 0) := by decide +kernel
theorem tb_hi : ∀ k, k < 4 → tb k (cn k 16) < 2 ^ 31 := by decide +kernel
theorem tb_31 {k i : Nat} (hk : k < 4) (hi : i ≤ cn k 16) : tb k i < 2 ^ 31 := by
  by_cases e : i = cn k 16
  · rw [e]
    exact tb_hi k hk
  · have := (tb_p hk (show i < cn k 16 by omega)).2
    omega
/-! where it is kept who wrote -/
def slN (s : Nat) : Nat → Nat
  | 0 => 0
  | p + 1 => if s.testBit p = true then slN s p * 17 + p + 1 else slN s p
def slt (s : Nat) : Nat := if popc s < 3 then slN s 16 else 289
def unS (v : Nat) : Nat := if v = 0 then 0 else if v < 17 then 2 ^ (v - 1) else 2 ^ (v / 17 - 1) + 2 ^ (v % 17 - 1)
theorem sl_1 : ∀ i, i < 16 → slN (tb 1 i) 16 < 289 ∧ unS (slN (tb 1 i) 16) = tb 1 i := by decide +kernel
theorem sl_2 : ∀ i, i < 120 → slN (tb 2 i) 16 < 289 ∧ unS (slN (tb 2 i) 16) = tb 2 i := by decide +kernel
theorem sb_1 : ∀ i, i < 16 → ∀ p, p < 16 → (tb 1 i).testBit p = true → popc (tb 1 i ^^^ 2 ^ p) = 0 ∧ tb 1 i ^^^ 2 ^ p < tb 1 i := by decide +kernel
theorem sb_2 : ∀ i, i < 120 → ∀ p, p < 16 → (tb 2 i).testBit p = true → popc (tb 2 i ^^^ 2 ^ p) = 1 ∧ tb 2 i ^^^ 2 ^ p < tb 2 i := by decide +kernel
theorem sb_3 : ∀ i, i < 560 → ∀ p, p < 16 → (tb 3 i).testBit p = true → popc (tb 3 i ^^^ 2 ^ p) = 2 ∧ tb 3 i ^^^ 2 ^ p < tb 3 i := by decide +kernel
theorem lt_trip : ∀ k, k < 4 → ∀ P, P < 17 → (if 1 ≤ k then cn 0 P else 0) + (if 2 ≤ k then cn 1 P else 0) + (if 3 ≤ k then cn 2 P else 0) + cn k P ≤ 697 := by decide +kernel
