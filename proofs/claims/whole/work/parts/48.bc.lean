/-! Integer.bitCount: the numbers below 65536 -/
def bcA (n : Nat) : Nat := n - (n / 2 &&& 1431655765)
def bcB (n : Nat) : Nat := (n &&& 858993459) + (n / 4 &&& 858993459)
def bcC (n : Nat) : Nat := (n + n / 16) &&& 252645135
def bcD (n : Nat) : Nat := n + n / 256
def bcE (n : Nat) : Nat := n + n / 65536
def bcN (n : Nat) : Nat := bcE (bcD (bcC (bcB (bcA n)))) &&& 63
def cnN (n : Nat) : Nat → Nat
  | 0 => 0
  | k + 1 => cnN n k + n / 2 ^ k % 2
theorem bcq_0 : ∀ a, a < 8 → ∀ b, b < 256 → bcN (0 + (256 * a + b)) = cnN (0 + (256 * a + b)) 16 := by decide +kernel
theorem bcq_1 : ∀ a, a < 8 → ∀ b, b < 256 → bcN (2048 + (256 * a + b)) = cnN (2048 + (256 * a + b)) 16 := by decide +kernel
theorem bcq_2 : ∀ a, a < 8 → ∀ b, b < 256 → bcN (4096 + (256 * a + b)) = cnN (4096 + (256 * a + b)) 16 := by decide +kernel
theorem bcq_3 : ∀ a, a < 8 → ∀ b, b < 256 → bcN (6144 + (256 * a + b)) = cnN (6144 + (256 * a + b)) 16 := by decide +kernel
theorem bcq_4 : ∀ a, a < 8 → ∀ b, b < 256 → bcN (8192 + (256 * a + b)) = cnN (8192 + (256 * a + b)) 16 := by decide +kernel
theorem bcq_5 : ∀ a, a < 8 → ∀ b, b < 256 → bcN (10240 + (256 * a + b)) = cnN (10240 + (256 * a + b)) 16 := by decide +kernel
theorem bcq_6 : ∀ a, a < 8 → ∀ b, b < 256 → bcN (12288 + (256 * a + b)) = cnN (12288 + (256 * a + b)) 16 := by decide +kernel
theorem bcq_7 : ∀ a, a < 8 → ∀ b, b < 256 → bcN (14336 + (256 * a + b)) = cnN (14336 + (256 * a + b)) 16 := by decide +kernel
theorem bcq_8 : ∀ a, a < 8 → ∀ b, b < 256 → bcN (16384 + (256 * a + b)) = cnN (16384 + (256 * a + b)) 16 := by decide +kernel
theorem bcq_9 : ∀ a, a < 8 → ∀ b, b < 256 → bcN (18432 + (256 * a + b)) = cnN (18432 + (256 * a + b)) 16 := by decide +kernel
theorem bcq_10 : ∀ a, a < 8 → ∀ b, b < 256 → bcN (20480 + (256 * a + b)) = cnN (20480 + (256 * a + b)) 16 := by decide +kernel
theorem bcq_11 : ∀ a, a < 8 → ∀ b, b < 256 → bcN (22528 + (256 * a + b)) = cnN (22528 + (256 * a + b)) 16 := by decide +kernel
theorem bcq_12 : ∀ a, a < 8 → ∀ b, b < 256 → bcN (24576 + (256 * a + b)) = cnN (24576 + (256 * a + b)) 16 := by decide +kernel
theorem bcq_13 : ∀ a, a < 8 → ∀ b, b < 256 → bcN (26624 + (256 * a + b)) = cnN (26624 + (256 * a + b)) 16 := by decide +kernel
theorem bcq_14 : ∀ a, a < 8 → ∀ b, b < 256 → bcN (28672 + (256 * a + b)) = cnN (28672 + (256 * a + b)) 16 := by decide +kernel
theorem bcq_15 : ∀ a, a < 8 → ∀ b, b < 256 → bcN (30720 + (256 * a + b)) = cnN (30720 + (256 * a + b)) 16 := by decide +kernel
theorem bcq_16 : ∀ a, a < 8 → ∀ b, b < 256 → bcN (32768 + (256 * a + b)) = cnN (32768 + (256 * a + b)) 16 := by decide +kernel
theorem bcq_17 : ∀ a, a < 8 → ∀ b, b < 256 → bcN (34816 + (256 * a + b)) = cnN (34816 + (256 * a + b)) 16 := by decide +kernel
theorem bcq_18 : ∀ a, a < 8 → ∀ b, b < 256 → bcN (36864 + (256 * a + b)) = cnN (36864 + (256 * a + b)) 16 := by decide +kernel
theorem bcq_19 : ∀ a, a < 8 → ∀ b, b < 256 → bcN (38912 + (256 * a + b)) = cnN (38912 + (256 * a + b)) 16 := by decide +kernel
theorem bcq_20 : ∀ a, a < 8 → ∀ b, b < 256 → bcN (40960 + (256 * a + b)) = cnN (40960 + (256 * a + b)) 16 := by decide +kernel
theorem bcq_21 : ∀ a, a < 8 → ∀ b, b < 256 → bcN (43008 + (256 * a + b)) = cnN (43008 + (256 * a + b)) 16 := by decide +kernel
theorem bcq_22 : ∀ a, a < 8 → ∀ b, b < 256 → bcN (45056 + (256 * a + b)) = cnN (45056 + (256 * a + b)) 16 := by decide +kernel
theorem bcq_23 : ∀ a, a < 8 → ∀ b, b < 256 → bcN (47104 + (256 * a + b)) = cnN (47104 + (256 * a + b)) 16 := by decide +kernel
theorem bcq_24 : ∀ a, a < 8 → ∀ b, b < 256 → bcN (49152 + (256 * a + b)) = cnN (49152 + (256 * a + b)) 16 := by decide +kernel
theorem bcq_25 : ∀ a, a < 8 → ∀ b, b < 256 → bcN (51200 + (256 * a + b)) = cnN (51200 + (256 * a + b)) 16 := by decide +kernel
theorem bcq_26 : ∀ a, a < 8 → ∀ b, b < 256 → bcN (53248 + (256 * a + b)) = cnN (53248 + (256 * a + b)) 16 := by decide +kernel
theorem bcq_27 : ∀ a, a < 8 → ∀ b, b < 256 → bcN (55296 + (256 * a + b)) = cnN (55296 + (256 * a + b)) 16 := by decide +kernel
theorem bcq_28 : ∀ a, a < 8 → ∀ b, b < 256 → bcN (57344 + (256 * a + b)) = cnN (57344 + (256 * a + b)) 16 := by decide +kernel
theorem bcq_29 : ∀ a, a < 8 → ∀ b, b < 256 → bcN (59392 + (256 * a + b)) = cnN (59392 + (256 * a + b)) 16 := by decide +kernel
theorem bcq_30 : ∀ a, a < 8 → ∀ b, b < 256 → bcN (61440 + (256 * a + b)) = cnN (61440 + (256 * a + b)) 16 := by decide +kernel
theorem bcq_31 : ∀ a, a < 8 → ∀ b, b < 256 → bcN (63488 + (256 * a + b)) = cnN (63488 + (256 * a + b)) 16 := by decide +kernel
theorem bc_eq {n : Nat} (h : n < 65536) : bcN n = cnN n 16 := by
  have hj : n / 2048 < 32 := by omega
  have e : n = 2048 * (n / 2048) + (256 * (n % 2048 / 256) + n % 256) := by omega
  have ha : n % 2048 / 256 < 8 := by omega
  have hb : n % 256 < 256 := by omega
  rw [e]
  generalize n % 2048 / 256 = a at ha
  generalize n % 256 = b at hb
  generalize n / 2048 = j at hj
  match j, hj with
  | 0, _ => exact bcq_0 a ha b hb
  | 1, _ => exact bcq_1 a ha b hb
  | 2, _ => exact bcq_2 a ha b hb
  | 3, _ => exact bcq_3 a ha b hb
  | 4, _ => exact bcq_4 a ha b hb
  | 5, _ => exact bcq_5 a ha b hb
  | 6, _ => exact bcq_6 a ha b hb
  | 7, _ => exact bcq_7 a ha b hb
  | 8, _ => exact bcq_8 a ha b hb
  | 9, _ => exact bcq_9 a ha b hb
  | 10, _ => exact bcq_10 a ha b hb
  | 11, _ => exact bcq_11 a ha b hb
  | 12, _ => exact bcq_12 a ha b hb
  | 13, _ => exact bcq_13 a ha b hb
  | 14, _ => exact bcq_14 a ha b hb
  | 15, _ => exact bcq_15 a ha b hb
  | 16, _ => exact bcq_16 a ha b hb
  | 17, _ => exact bcq_17 a ha b hb
  | 18, _ => exact bcq_18 a ha b hb
  | 19, _ => exact bcq_19 a ha b hb
  | 20, _ => exact bcq_20 a ha b hb
  | 21, _ => exact bcq_21 a ha b hb
  | 22, _ => exact bcq_22 a ha b hb
  | 23, _ => exact bcq_23 a ha b hb
  | 24, _ => exact bcq_24 a ha b hb
  | 25, _ => exact bcq_25 a ha b hb
  | 26, _ => exact bcq_26 a ha b hb
  | 27, _ => exact bcq_27 a ha b hb
  | 28, _ => exact bcq_28 a ha b hb
  | 29, _ => exact bcq_29 a ha b hb
  | 30, _ => exact bcq_30 a ha b hb
  | 31, _ => exact bcq_31 a ha b hb
  | j + 32, hj => omega
