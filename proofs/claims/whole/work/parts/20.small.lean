theorem uN_shl1 (x : Int64) : uN (x <<< (((1 : Int32)).toInt64 &&& 63)) = 2 * uN x % 18446744073709551616 := uN_shl x
theorem uN_shr1 (x : Int64) : uN ((x.toUInt64 >>> (((1 : Int32)).toInt64.toUInt64 &&& Int64.toUInt64 63)).toInt64) = uN x / 2 := by
  have := uN_sk x (k := 1) (by omega)
  exact this
theorem shl32 {x : Int64} (hx : uN x < B32) : uN (x <<< (((32 : Int32)).toInt64 &&& 63)) = uN x * B32 := by
  have h1 := wb_shl (uN x) (k := 32) (by omega)
  rw [lN_uN] at h1
  have h2 : x <<< (((32 : Int32)).toInt64 &&& 63) = lN (uN x * 2 ^ 32) := h1
  rw [h2, uN_lN (by unfold B32 at hx; omega)]
  rfl
theorem or32 {x y : Int64} (hx : uN x < B32) (hy : uN y < B32) : uN ((x <<< (((32 : Int32)).toInt64 &&& 63)) ||| y) = uN x * B32 + uN y := by
  have h1 : x <<< (((32 : Int32)).toInt64 &&& 63) = lN (uN x * 4294967296) := by
    rw [← lN_uN (x <<< _), shl32 hx]; rfl
  have h2 := g_or (k := 32) (p := 4294967296) (a := uN y) (b := uN x) (by decide) hy (by unfold B32 at hx hy; omega)
  rw [lN_uN] at h2
  rw [h1, h2, uN_lN (by unfold B32 at hx hy; omega)]
  rfl
theorem uN_mulE {x y : Int64} (h : uN x * uN y < 18446744073709551616) : uN (x * y) = uN x * uN y := by
  rw [uN_mul, Nat.mod_eq_of_lt h]
theorem uN_addE {x y : Int64} (h : uN x + uN y < 18446744073709551616) : uN (x + y) = uN x + uN y := by
  rw [uN_add, Nat.mod_eq_of_lt h]
theorem uN_subE {x y : Int64} (h : uN y ≤ uN x) : uN (x - y) = uN x - uN y := by
  have h1 : uN (x - y + y) = uN x := by rw [Int64.sub_add_cancel]
  rw [uN_add] at h1
  have := uN_lt (x - y)
  have := uN_lt x
  have := uN_lt y
  omega
theorem uN_pos {x : Int64} (h : 2 * uN x < 18446744073709551616) : x.toInt = uN x := by
  rw [uN_int, if_pos h]
theorem uN_ltP {x y : Int64} (hx : 2 * uN x < 18446744073709551616) (hy : 2 * uN y < 18446744073709551616) : x < y ↔ uN x < uN y := by
  rw [Int64.lt_iff_toInt_lt, uN_pos hx, uN_pos hy]; omega
theorem uN_leP {x y : Int64} (hx : 2 * uN x < 18446744073709551616) (hy : 2 * uN y < 18446744073709551616) : x ≤ y ↔ uN x ≤ uN y := by
  rw [Int64.le_iff_toInt_le, uN_pos hx, uN_pos hy]; omega
/-- a quotient of 64 bits without a sign -/
theorem p_qob (h : AH) (x d : Int64) (h0 : 0 < uN d) (hd : uN d < B32) : zs_X8_quotientOfBits h x d = some (lN (uN x / uN d)) := by
  unfold zs_X8_quotientOfBits
  have hd2 : 2 * uN d < 18446744073709551616 := by unfold B32 at hd; omega
  have hd' : uN d < 4294967296 := hd
  have hdn : ¬ d = 0 := fun e => by rw [e, uN_0] at h0; omega
  rw [if_pos ((uN_ltP (by rw [uN_0]; omega) hd2).mpr (by rw [uN_0]; exact h0))]
  rw [show nzl d = some () by unfold nzl; rw [if_neg hdn]]
  simp only [Option.bind_some, lt_]
  have hx := uN_lt x
  obtain ⟨y, hy⟩ : ∃ y, y = (x.toUInt64 >>> (((1 : Int32)).toInt64.toUInt64 &&& Int64.toUInt64 63)).toInt64 / d := ⟨_, rfl⟩
  rw [← hy]
  have e1 : uN y = uN x / 2 / uN d := by
    have h1 := uN_shr1 x
    generalize (x.toUInt64 >>> (((1 : Int32)).toInt64.toUInt64 &&& Int64.toUInt64 63)).toInt64 = w at h1 hy
    have h2 := pk_lDiv (a := uN w) (b := uN d) (by omega) h0 (by omega)
    rw [lN_uN, lN_uN] at h2
    rw [hy, h2, uN_lN (by rw [h1]; have := Nat.div_le_self (uN x / 2) (uN d); omega), h1]
  have hm := Nat.div_add_mod (uN x / 2) (uN d)
  have hr := Nat.mod_lt (uN x / 2) h0
  rw [← e1] at hm
  have hyle : uN y ≤ uN x / 2 := by rw [e1]; exact Nat.div_le_self _ _
  obtain ⟨z, hz⟩ : ∃ z, z = y <<< (((1 : Int32)).toInt64 &&& 63) := ⟨_, rfl⟩
  rw [← hz]
  have e2 : uN z = 2 * uN y := by rw [hz, uN_shl1, Nat.mod_eq_of_lt (by omega)]
  have hzd : uN z * uN d = 2 * (uN d * uN y) := by rw [e2, Nat.mul_assoc, Nat.mul_comm (uN y)]
  have e3 : uN (z * d) = 2 * (uN d * uN y) := by rw [uN_mulE (by rw [hzd]; omega), hzd]
  have e4 : uN (x - z * d) = uN x - 2 * (uN d * uN y) := by rw [uN_subE (by rw [e3]; omega), e3]
  have hu : uN x - 2 * (uN d * uN y) < 2 * uN d := by omega
  by_cases hlt : x - z * d < d
  · rw [if_pos hlt]
    have h5 := (uN_ltP (by rw [e4]; omega) hd2).mp hlt
    rw [e4] at h5
    refine congrArg some (uN_inj ?_)
    rw [uN_lN (by have := Nat.div_le_self (uN x) (uN d); omega), e2]
    refine (Nat.div_eq_of_lt_le ?_ ?_).symm
    · rw [Nat.mul_comm, ← Nat.mul_assoc, Nat.mul_comm (uN d), Nat.mul_assoc]; omega
    · rw [Nat.add_mul, Nat.mul_assoc, Nat.mul_comm (uN y)]; omega
  · rw [if_neg hlt]
    have h5 : ¬ uN x - 2 * (uN d * uN y) < uN d := fun e => hlt ((uN_ltP (by rw [e4]; omega) hd2).mpr (by rw [e4]; exact e))
    refine congrArg some (uN_inj ?_)
    rw [uN_lN (by have := Nat.div_le_self (uN x) (uN d); omega), uN_addE (by rw [uN_1, e2]; omega), uN_1, e2]
    refine (Nat.div_eq_of_lt_le ?_ ?_).symm
    · rw [Nat.add_mul, Nat.mul_assoc, Nat.mul_comm (uN y)]; omega
    · rw [Nat.add_mul, Nat.add_mul, Nat.mul_assoc, Nat.mul_comm (uN y)]; omega
