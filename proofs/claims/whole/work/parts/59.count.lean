/-! how many bits are set -/
def pcN : Nat → Nat → Nat
  | 0, _ => 0
  | n + 1, x => pcN n x + (if x.testBit n then 1 else 0)
theorem pcN_le (x : Nat) : ∀ n, pcN n x ≤ n
  | 0 => Nat.le_refl _
  | n + 1 => by
    have := pcN_le x n
    show pcN n x + (if x.testBit n then 1 else 0) ≤ n + 1
    split <;> omega
theorem pcN_congr {x y : Nat} : ∀ {n : Nat}, (∀ j, j < n → x.testBit j = y.testBit j) → pcN n x = pcN n y
  | 0, _ => rfl
  | n + 1, h => by
    show pcN n x + _ = pcN n y + _
    rw [pcN_congr (fun j hj => h j (by omega)), h n (by omega)]
theorem pcN_add (m x : Nat) : ∀ n, pcN (m + n) x = pcN m x + pcN n (x / 2 ^ m)
  | 0 => rfl
  | n + 1 => by
    show pcN (m + n) x + (if x.testBit (m + n) then 1 else 0) = pcN m x + (pcN n (x / 2 ^ m) + (if (x / 2 ^ m).testBit n then 1 else 0))
    rw [pcN_add m x n, Nat.testBit_div_two_pow, Nat.add_comm n m]
    omega
theorem pcN_mod (n x : Nat) : pcN n (x % 2 ^ n) = pcN n x := pcN_congr (fun j hj => by rw [Nat.testBit_mod_two_pow, decide_eq_true hj]; rfl)
theorem pcN_hi {x m : Nat} (h : x < 2 ^ m) : ∀ n, pcN (m + n) x = pcN m x
  | n => by
    rw [pcN_add, Nat.div_eq_of_lt h]
    have : ∀ k, pcN k 0 = 0 := fun k => by
      induction k with
      | zero => rfl
      | succ k ih => show pcN k 0 + (if Nat.testBit 0 k then 1 else 0) = 0; rw [ih, Nat.zero_testBit]; rfl
    rw [this]
    rfl
theorem and_split {p q m c : Nat} (hq : q < 256) (hc : c < 256) : (256 * p + q) &&& (256 * m + c) = 256 * (p &&& m) + (q &&& c) := by
  apply Nat.eq_of_testBit_eq
  intro j
  rw [Nat.testBit_and, show 256 = 2 ^ 8 from rfl, Nat.testBit_two_pow_mul_add _ hq, Nat.testBit_two_pow_mul_add _ hc, Nat.testBit_two_pow_mul_add _ (Nat.lt_of_le_of_lt Nat.and_le_left hq)]
  split
  · rw [Nat.testBit_and]
  · rw [Nat.testBit_and]
def M5 : Nat → Nat
  | 0 => 0
  | k + 1 => 256 * M5 k + 85
def M3 : Nat → Nat
  | 0 => 0
  | k + 1 => 256 * M3 k + 51
def MF : Nat → Nat
  | 0 => 0
  | k + 1 => 256 * MF k + 15
def sw1 (k x : Nat) : Nat := x - ((x / 2) &&& M5 k)
def sw2 (k y : Nat) : Nat := (y &&& M3 k) + ((y / 4) &&& M3 k)
def sw3 (k z : Nat) : Nat := (z + z / 16) &&& MF k
theorem sw1_b : ∀ b, b < 256 → ∀ e, e < 2 → (128 * e + b / 2) &&& 85 = (b / 2) &&& 85 ∧ (b / 2) &&& 85 ≤ b := by decide +kernel
theorem sw2_b : ∀ q, q < 256 → ∀ e, e < 4 → (64 * e + q / 4) &&& 51 = (q / 4) &&& 51 ∧ (q &&& 51) + ((q / 4) &&& 51) < 256 := by decide +kernel
/-- a byte through the first two steps -/
def sB (b : Nat) : Nat := ((b - ((b / 2) &&& 85)) &&& 51) + (((b - ((b / 2) &&& 85)) / 4) &&& 51)
theorem sB_b : ∀ b, b < 256 → sB b ≤ 68 ∧ sB b % 16 ≤ 4 ∧ (sB b + sB b / 16) % 16 = pcN 8 b := by decide +kernel
def wG : Nat → Nat → Nat
  | 0, _ => 0
  | k + 1, x => 256 * wG k (x / 256) + sB (x % 256)
theorem sw1_s (k a b : Nat) (hb : b < 256) : sw1 (k + 1) (256 * a + b) = 256 * sw1 k a + (b - ((b / 2) &&& 85)) := by
  unfold sw1
  have h1 := sw1_b b hb (a % 2) (Nat.mod_lt _ (by decide))
  have e1 : (256 * a + b) / 2 = 256 * (a / 2) + (128 * (a % 2) + b / 2) := by omega
  show 256 * a + b - ((256 * a + b) / 2 &&& (256 * M5 k + 85)) = _
  rw [e1, and_split (by omega) (by decide), h1.1]
  have h2 : (a / 2) &&& M5 k ≤ a := Nat.le_trans Nat.and_le_left (Nat.div_le_self _ _)
  omega
theorem sw2_s (k p q : Nat) (hq : q < 256) : sw2 (k + 1) (256 * p + q) = 256 * sw2 k p + ((q &&& 51) + ((q / 4) &&& 51)) := by
  unfold sw2
  have h1 := sw2_b q hq (p % 4) (Nat.mod_lt _ (by decide))
  have e1 : (256 * p + q) / 4 = 256 * (p / 4) + (64 * (p % 4) + q / 4) := by omega
  show ((256 * p + q) &&& (256 * M3 k + 51)) + ((256 * p + q) / 4 &&& (256 * M3 k + 51)) = _
  rw [e1, and_split hq (by decide), and_split (by omega) (by decide), h1.1]
  omega
theorem sw12 : ∀ (k x : Nat), x < 256 ^ k → sw2 k (sw1 k x) = wG k x
  | 0, x, h => by
    rw [Nat.pow_zero] at h
    rw [show x = 0 by omega]
    rfl
  | k + 1, x, h => by
    have e : x = 256 * (x / 256) + x % 256 := by omega
    have hb : x % 256 < 256 := Nat.mod_lt _ (by decide)
    have ih := sw12 k (x / 256) (by rw [Nat.pow_succ] at h; exact Nat.div_lt_of_lt_mul (by rw [Nat.mul_comm]; exact h))
    show sw2 (k + 1) (sw1 (k + 1) x) = 256 * wG k (x / 256) + sB (x % 256)
    rw [← ih]
    generalize x / 256 = a at *
    generalize x % 256 = b at *
    rw [e, sw1_s k a b hb, sw2_s k _ _ (by omega)]
    rfl
theorem wG_lo (k x : Nat) : wG k x % 16 ≤ 4 := by
  cases k with
  | zero => show 0 % 16 ≤ 4; decide
  | succ k =>
    show (256 * wG k (x / 256) + sB (x % 256)) % 16 ≤ 4
    have := (sB_b (x % 256) (Nat.mod_lt _ (by decide))).2.1
    omega
def wP : Nat → Nat → Nat
  | 0, _ => 0
  | k + 1, x => 256 * wP k (x / 256) + pcN 8 (x % 256)
theorem sw3_all : ∀ (k x : Nat), x < 256 ^ k → sw3 k (wG k x) = wP k x
  | 0, x, h => by show (0 + 0 / 16) &&& 0 = 0; decide
  | k + 1, x, h => by
    have hb : x % 256 < 256 := Nat.mod_lt _ (by decide)
    have hx : x / 256 < 256 ^ k := by rw [Nat.pow_succ] at h; exact Nat.div_lt_of_lt_mul (by rw [Nat.mul_comm]; exact h)
    have ih := sw3_all k (x / 256) hx
    have hl := wG_lo k (x / 256)
    have hs := sB_b (x % 256) hb
    show sw3 (k + 1) (256 * wG k (x / 256) + sB (x % 256)) = 256 * wP k (x / 256) + pcN 8 (x % 256)
    rw [← ih, ← hs.2.2]
    unfold sw3
    generalize wG k (x / 256) = p at *
    generalize sB (x % 256) = q at *
    have e1 : 256 * p + q + (256 * p + q) / 16 = 256 * (p + p / 16) + (q + q / 16 + 16 * (p % 16)) := by omega
    show (256 * p + q + (256 * p + q) / 16) &&& (256 * MF k + 15) = _
    rw [e1, and_split (by omega) (by decide)]
    have e2 : (q + q / 16 + 16 * (p % 16)) &&& 15 = (q + q / 16 + 16 * (p % 16)) % 16 := Nat.and_two_pow_sub_one_eq_mod _ 4
    rw [e2]
    omega
theorem pc32 (x : Nat) : pcN 32 x = pcN 8 (x % 256) + pcN 8 (x / 256 % 256) + pcN 8 (x / 65536 % 256) + pcN 8 (x / 16777216 % 256) := by
  have e := pcN_mod 8
  rw [show (2 : Nat) ^ 8 = 256 from rfl] at e
  rw [e, e, e, e, show 32 = 8 + 24 from rfl, pcN_add, show 24 = 8 + 16 from rfl, pcN_add, show 16 = 8 + 8 from rfl, pcN_add, show (2 : Nat) ^ 8 = 256 from rfl]
  have a1 : x / 256 / 256 = x / 65536 := by omega
  have a2 : x / 65536 / 256 = x / 16777216 := by omega
  rw [a1, a2]
  omega
theorem M4v : M5 4 = 1431655765 ∧ M3 4 = 858993459 ∧ MF 4 = 252645135 := by decide
theorem sw32 {x : Nat} (h : x < 2 ^ 32) : sw3 4 (sw2 4 (sw1 4 x)) = pcN 8 (x % 256) + 256 * pcN 8 (x / 256 % 256) + 65536 * pcN 8 (x / 65536 % 256) + 16777216 * pcN 8 (x / 16777216 % 256) := by
  rw [sw12 4 x (by omega), sw3_all 4 x (by omega)]
  show 256 * (256 * (256 * (256 * 0 + pcN 8 (x / 256 / 256 / 256 % 256)) + pcN 8 (x / 256 / 256 % 256)) + pcN 8 (x / 256 % 256)) + pcN 8 (x % 256) = _
  have a1 : x / 256 / 256 = x / 65536 := by omega
  have a2 : x / 65536 / 256 = x / 16777216 := by omega
  rw [a1, a2]
  omega
/-- the masks of 64 bits do the same to what is below 2^32 -/
theorem and_lo {x m k : Nat} (hx : x < 2 ^ k) : x &&& m = x &&& (m % 2 ^ k) := by
  apply Nat.eq_of_testBit_eq
  intro j
  rw [Nat.testBit_and, Nat.testBit_and, Nat.testBit_mod_two_pow]
  by_cases hj : j < k
  · rw [decide_eq_true hj]; rfl
  · have hp : 2 ^ k ≤ 2 ^ j := Nat.pow_le_pow_right (by decide) (by omega)
    rw [Nat.testBit_lt_two_pow (by omega)]
    rfl
theorem bcJ (h : AH) {x : Nat} (hx : x < 2 ^ 32) : zs_J13_bitCount_95d88 h (lN x) = some (nI (pcN 32 x)) := by
  unfold zs_J13_bitCount_95d88
  simp only [lt_]
  have c1 : (6148914691236517205 : Int64) = lN 6148914691236517205 := rfl
  have c3 : (3689348814741910323 : Int64) = lN 3689348814741910323 := rfl
  have cF : (1085102592571150095 : Int64) = lN 1085102592571150095 := rfl
  have s1 : ∀ y, y < 2 ^ 64 → ((lN y).toUInt64 >>> (((1 : Int32)).toInt64.toUInt64 &&& Int64.toUInt64 63)).toInt64 = lN (y / 2) := fun y hy => wb_shr (k := 1) hy (by decide)
  have s2 : ∀ y, y < 2 ^ 64 → ((lN y).toUInt64 >>> (((2 : Int32)).toInt64.toUInt64 &&& Int64.toUInt64 63)).toInt64 = lN (y / 4) := fun y hy => wb_shr (k := 2) hy (by decide)
  have s4 : ∀ y, y < 2 ^ 64 → ((lN y).toUInt64 >>> (((4 : Int32)).toInt64.toUInt64 &&& Int64.toUInt64 63)).toInt64 = lN (y / 16) := fun y hy => wb_shr (k := 4) hy (by decide)
  have s8 : ∀ y, y < 2 ^ 64 → ((lN y).toUInt64 >>> (((8 : Int32)).toInt64.toUInt64 &&& Int64.toUInt64 63)).toInt64 = lN (y / 256) := fun y hy => wb_shr (k := 8) hy (by decide)
  have s16 : ∀ y, y < 2 ^ 64 → ((lN y).toUInt64 >>> (((16 : Int32)).toInt64.toUInt64 &&& Int64.toUInt64 63)).toInt64 = lN (y / 65536) := fun y hy => wb_shr (k := 16) hy (by decide)
  have s32 : ∀ y, y < 2 ^ 64 → ((lN y).toUInt64 >>> (((32 : Int32)).toInt64.toUInt64 &&& Int64.toUInt64 63)).toInt64 = lN (y / 4294967296) := fun y hy => wb_shr (k := 32) hy (by decide)
  have hm := M4v
  rw [s1 x (by omega), c1, c3, cF, wb_and (by omega) (by decide)]
  have e1 : x / 2 &&& 6148914691236517205 = x / 2 &&& M5 4 := by rw [and_lo (k := 32) (by omega), hm.1]
  have hle : x / 2 &&& M5 4 ≤ x := Nat.le_trans Nat.and_le_left (Nat.div_le_self _ _)
  rw [e1, lN_sub hle]
  have d1 : x - (x / 2 &&& M5 4) = sw1 4 x := rfl
  rw [d1]
  have h1 : sw1 4 x < 2 ^ 32 := by rw [← d1]; omega
  have hsw := sw32 hx
  generalize sw1 4 x = y at h1 hsw
  rw [s2 y (by omega), wb_and (by omega) (by decide), wb_and (by omega) (by decide), lN_add]
  have e2 : (y &&& 3689348814741910323) + (y / 4 &&& 3689348814741910323) = sw2 4 y := by
    unfold sw2
    rw [and_lo (x := y) (k := 32) (by omega), and_lo (x := y / 4) (k := 32) (by omega), hm.2.1]
  rw [e2]
  have h2 : sw2 4 y < 2 ^ 33 := by
    unfold sw2
    have a1 : y &&& M3 4 ≤ y := Nat.and_le_left
    have a2 : y / 4 &&& M3 4 ≤ y / 4 := Nat.and_le_left
    omega
  have h2' : sw2 4 y ≤ 2 * M3 4 := by
    unfold sw2
    have a1 : y &&& M3 4 ≤ M3 4 := Nat.and_le_right
    have a2 : y / 4 &&& M3 4 ≤ M3 4 := Nat.and_le_right
    omega
  rw [hm.2.1] at h2'
  generalize sw2 4 y = z at h2 h2' hsw
  rw [s4 z (by omega), lN_add, wb_and (by omega) (by decide)]
  have e3 : (z + z / 16) &&& 1085102592571150095 = sw3 4 z := by
    unfold sw3
    rw [and_lo (k := 32) (by omega), hm.2.2]
  rw [e3, hsw]
  have p1 := pcN_le (x % 256) 8
  have p2 := pcN_le (x / 256 % 256) 8
  have p3 := pcN_le (x / 65536 % 256) 8
  have p4 := pcN_le (x / 16777216 % 256) 8
  rw [pc32 x]
  generalize pcN 8 (x % 256) = b0 at *
  generalize pcN 8 (x / 256 % 256) = b1 at *
  generalize pcN 8 (x / 65536 % 256) = b2 at *
  generalize pcN 8 (x / 16777216 % 256) = b3 at *
  have q8 : (b0 + 256 * b1 + 65536 * b2 + 16777216 * b3) / 256 = b1 + 256 * b2 + 65536 * b3 := by omega
  have q16 : (b0 + 256 * b1 + 65536 * b2 + 16777216 * b3 + (b1 + 256 * b2 + 65536 * b3)) / 65536 = b2 + b3 + 256 * b3 := by omega
  have q32 : (b0 + 256 * b1 + 65536 * b2 + 16777216 * b3 + (b1 + 256 * b2 + 65536 * b3) + (b2 + b3 + 256 * b3)) / 4294967296 = 0 := by omega
  rw [s8 _ (by omega), q8, lN_add, s16 _ (by omega), q16, lN_add, s32 _ (by omega), q32, lN_add, lN_i, pk_andN (by omega) 7 (by decide)]
  congr 2
  show _ % 128 = _
  omega
