theorem uN_orN (x y : Int64) : uN (x ||| y) = uN x ||| uN y := by
  show (x.toUInt64 ||| y.toUInt64).toNat = _
  exact UInt64.toNat_or _ _
/-- how many bits a number needs -/
def bl (m : Nat) : Nat := if m = 0 then 0 else Nat.log2 m + 1
theorem bl_lt (m : Nat) : m < 2 ^ bl m := by
  unfold bl
  split
  · rename_i e; rw [e]; decide
  · exact Nat.lt_log2_self
theorem bl_ge {m : Nat} (h : m ≠ 0) : 2 ^ (bl m - 1) ≤ m := by
  unfold bl
  rw [if_neg h, Nat.add_sub_cancel]
  exact Nat.log2_self_le h
theorem bl_of {m n : Nat} (h1 : 2 ^ n ≤ m) (h2 : m < 2 ^ (n + 1)) : bl m = n + 1 := by
  have hm : m ≠ 0 := by have := Nat.pow_pos (n := n) (show 0 < 2 by decide); omega
  have h3 := bl_lt m
  have h4 := bl_ge hm
  have hb : 0 < bl m := by unfold bl; rw [if_neg hm]; omega
  rcases Nat.lt_trichotomy (bl m) (n + 1) with h | h | h
  · have : 2 ^ bl m ≤ 2 ^ n := Nat.pow_le_pow_right (by decide) (by omega)
    omega
  · exact h
  · have : 2 ^ (n + 1) ≤ 2 ^ (bl m - 1) := Nat.pow_le_pow_right (by decide) (by omega)
    omega
theorem bl_le {m n : Nat} (h : m < 2 ^ n) : bl m ≤ n := by
  by_cases hm : m = 0
  · rw [hm]; exact Nat.zero_le _
  · have h4 := bl_ge hm
    rcases Nat.lt_or_ge n (bl m) with hk | hk
    · have : 2 ^ n ≤ 2 ^ (bl m - 1) := Nat.pow_le_pow_right (by decide) (by omega)
      omega
    · exact hk
def smr (x s : Nat) (y : Nat) : Prop := ∀ i, y.testBit i = true ↔ ∃ j, j < s ∧ x.testBit (i + j) = true
theorem smr_0 (x : Nat) : smr x 1 x := fun i => ⟨fun h => ⟨0, by omega, h⟩, fun ⟨j, h1, h2⟩ => by rw [show j = 0 by omega] at h2; exact h2⟩
theorem smr_s {x s y : Nat} (h : smr x s y) : smr x (2 * s) (y ||| y >>> s) := by
  intro i
  rw [Nat.testBit_or, Bool.or_eq_true, Nat.testBit_shiftRight, h i, h (s + i)]
  constructor
  · rintro (⟨j, h1, h2⟩ | ⟨j, h1, h2⟩)
    · exact ⟨j, by omega, h2⟩
    · exact ⟨s + j, by omega, by rw [show i + (s + j) = s + i + j by omega]; exact h2⟩
  · rintro ⟨j, h1, h2⟩
    by_cases hj : j < s
    · exact Or.inl ⟨j, hj, h2⟩
    · exact Or.inr ⟨j - s, by omega, by rw [show s + i + (j - s) = i + j by omega]; exact h2⟩
theorem smr_end {x y : Nat} (hx : x < 2 ^ 32) (h : smr x 32 y) : y = 2 ^ bl x - 1 := by
  apply Nat.eq_of_testBit_eq
  intro i
  rw [Nat.testBit_two_pow_sub_one]
  have hb : bl x ≤ 32 := bl_le hx
  by_cases hi : i < bl x
  · rw [decide_eq_true hi]
    rw [h i]
    refine ⟨bl x - 1 - i, by omega, ?_⟩
    have hm : x ≠ 0 := fun e => by rw [e] at hi; exact absurd hi (show ¬ i < bl 0 from Nat.not_lt_zero i)
    have h1 := bl_lt x
    have h2 := bl_ge hm
    rw [show i + (bl x - 1 - i) = bl x - 1 by omega, Nat.testBit_eq_decide_div_mod_eq, decide_eq_true_eq]
    have h3 : x / 2 ^ (bl x - 1) = 1 := by
      refine Nat.div_eq_of_lt_le (by omega) ?_
      rw [show (1 + 1) * 2 ^ (bl x - 1) = 2 ^ (bl x - 1 + 1) by rw [Nat.pow_succ]; omega, show bl x - 1 + 1 = bl x by omega]
      exact h1
    rw [h3]
  · rw [decide_eq_false hi]
    rcases hb2 : y.testBit i with _ | _
    · rfl
    · obtain ⟨j, h1, h2⟩ := (h i).mp hb2
      have h3 : x < 2 ^ (i + j) := Nat.lt_of_lt_of_le (bl_lt x) (Nat.pow_le_pow_right (by decide) (by omega))
      rw [Nat.testBit_lt_two_pow h3] at h2
      cases h2
theorem bc_all : ∀ n, n < 33 → ∀ h : AH, zs_J13_bitCount_95d88 h (lN (2 ^ n - 1)) = some (nI n) := by
  intro n hn h
  unfold zs_J13_bitCount_95d88
  revert n
  decide +kernel
theorem uN_sk' (x : Int64) {k : Nat} (hk : k < 64) : uN (x.toUInt64 >>> ((nI k).toInt64.toUInt64 &&& Int64.toUInt64 63)).toInt64 = uN x >>> k := by
  rw [uN_sk x hk, Nat.shiftRight_eq_div_pow]
theorem sm_st (x : Int64) {c : Int32} {k : Nat} (hc : c = nI k) (hk : k < 64) : uN (x ||| ((x.toUInt64 >>> (c.toInt64.toUInt64 &&& Int64.toUInt64 63)).toInt64)) = uN x ||| uN x >>> k := by
  rw [uN_orN, hc, uN_sk' x hk]
theorem p_bitsOf (h : AH) {x : Int64} (hx : uN x < B32) : zs_X8_bitsOf h x = some (nI (bl (uN x))) := by
  unfold zs_X8_bitsOf
  simp only [lt_]
  obtain ⟨y1, e1⟩ : ∃ y, y = x ||| ((x.toUInt64 >>> (((1 : Int32)).toInt64.toUInt64 &&& Int64.toUInt64 63)).toInt64) := ⟨_, rfl⟩
  rw [← e1]
  obtain ⟨y2, e2⟩ : ∃ y, y = y1 ||| ((y1.toUInt64 >>> (((2 : Int32)).toInt64.toUInt64 &&& Int64.toUInt64 63)).toInt64) := ⟨_, rfl⟩
  rw [← e2]
  obtain ⟨y3, e3⟩ : ∃ y, y = y2 ||| ((y2.toUInt64 >>> (((4 : Int32)).toInt64.toUInt64 &&& Int64.toUInt64 63)).toInt64) := ⟨_, rfl⟩
  rw [← e3]
  obtain ⟨y4, e4⟩ : ∃ y, y = y3 ||| ((y3.toUInt64 >>> (((8 : Int32)).toInt64.toUInt64 &&& Int64.toUInt64 63)).toInt64) := ⟨_, rfl⟩
  rw [← e4]
  obtain ⟨y5, e5⟩ : ∃ y, y = y4 ||| ((y4.toUInt64 >>> (((16 : Int32)).toInt64.toUInt64 &&& Int64.toUInt64 63)).toInt64) := ⟨_, rfl⟩
  rw [← e5]
  have s0 := smr_0 (uN x)
  have s1 : smr (uN x) 2 (uN y1) := by rw [e1, sm_st x (c := 1) (k := 1) rfl (by omega)]; exact smr_s s0
  have s2 : smr (uN x) 4 (uN y2) := by rw [e2, sm_st y1 (c := 2) (k := 2) rfl (by omega)]; exact smr_s s1
  have s3 : smr (uN x) 8 (uN y3) := by rw [e3, sm_st y2 (c := 4) (k := 4) rfl (by omega)]; exact smr_s s2
  have s4 : smr (uN x) 16 (uN y4) := by rw [e4, sm_st y3 (c := 8) (k := 8) rfl (by omega)]; exact smr_s s3
  have s5 : smr (uN x) 32 (uN y5) := by rw [e5, sm_st y4 (c := 16) (k := 16) rfl (by omega)]; exact smr_s s4
  have h5 := smr_end (show uN x < 2 ^ 32 from hx) s5
  have hb : bl (uN x) ≤ 32 := bl_le (show uN x < 2 ^ 32 from hx)
  have h6 : y5 = lN (2 ^ bl (uN x) - 1) := by rw [← h5, lN_uN]
  rw [h6, bc_all _ (by omega) h]
  rfl
