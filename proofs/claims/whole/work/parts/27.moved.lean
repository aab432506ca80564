/-- part z of a size, none below 0 -/
def PZ (M : Nat) (z : Int) : Nat := if z < 0 then 0 else M / B32 ^ z.toNat % B32
theorem PZ_lt (M : Nat) (z : Int) : PZ M z < B32 := by
  unfold PZ
  split
  · decide
  · exact Nat.mod_lt _ (by decide)
/-- a size moved n places up, or down -/
def mvN (M : Nat) (n : Int) : Nat := if 0 ≤ n then M * 2 ^ n.toNat else M / 2 ^ (-n).toNat
theorem i32_nn {x : Int32} (h : 0 ≤ x.toInt) : x = nI x.toInt.toNat := by
  apply Int32.toInt_inj.mp
  have h2 := Int32.toInt_lt x
  rw [nI_toInt (by omega)]
  omega
theorem i32_neg {x : Int32} (h : x.toInt < 0) : x < 0 := by
  rw [Int32.lt_iff_toInt_lt]
  exact h
theorem i32_and31 (x : Int32) : x &&& (31 : Int32) = nI (x.toInt % 32).toNat := by
  rw [pk_and x 5 (by decide)]
  congr 1
  have h1 : x.toInt = x.toBitVec.toInt := rfl
  rw [h1, BitVec.toInt_eq_toNat_cond]
  have h2 := x.toBitVec.isLt
  split <;> omega
theorem i32_shr5 (x : Int32) : (x >>> ((5 : Int32) &&& 31)).toInt = x.toInt / 32 := by
  rw [pk_shr x ((5 : Int32) &&& 31) 5 (by decide), Int.shiftRight_eq_div_pow]
  rfl
theorem or_mul {a b u : Nat} (hb : b < 2 ^ u) : a * 2 ^ u ||| b = a * 2 ^ u + b := by
  rw [Nat.mul_comm]
  exact (Nat.two_pow_add_eq_or_of_lt hb a).symm
theorem mv_arith {M f u : Nat} (hu : u < 32) : (M / B32 ^ (f + 1) % B32 * 2 ^ u + M / B32 ^ f % B32 / 2 ^ (32 - u)) % B32 = M * 2 ^ u / B32 ^ (f + 1) % B32 := by
  have hB : B32 = 2 ^ (32 - u) * 2 ^ u := by rw [← Nat.pow_add, show 32 - u + u = 32 by omega]; rfl
  have h1 : M * 2 ^ u / B32 ^ (f + 1) = M / B32 ^ f / 2 ^ (32 - u) := by
    rw [Nat.pow_succ]
    have : B32 ^ f * B32 = B32 ^ f * 2 ^ (32 - u) * 2 ^ u := by rw [Nat.mul_assoc, ← hB]
    rw [this, Nat.mul_div_mul_right _ _ (Nat.pow_pos (by decide)), Nat.div_div_eq_div_mul]
  have h2 : M / B32 ^ (f + 1) = M / B32 ^ f / B32 := by rw [Nat.div_div_eq_div_mul, Nat.pow_succ]
  rw [h1, h2]
  generalize M / B32 ^ f = X
  have h3 : X / 2 ^ (32 - u) = X / B32 * 2 ^ u + X % B32 / 2 ^ (32 - u) := by
    have h4 := Nat.div_add_mod X B32
    have h5 : B32 * (X / B32) = X / B32 * 2 ^ u * 2 ^ (32 - u) := by
      generalize X / B32 = Y
      rw [hB, Nat.mul_assoc Y, Nat.mul_comm (2 ^ u), Nat.mul_comm _ Y]
    conv => lhs; rw [← h4, h5]
    rw [Nat.mul_comm _ (2 ^ (32 - u)), Nat.mul_add_div (Nat.pow_pos (by decide))]
  rw [h3, Nat.add_mod, Nat.mul_mod, Nat.mod_mod, ← Nat.mul_mod, ← Nat.add_mod]
section Mvd
variable {L : Nat → Prop} {q : Nat → Nat} {h h' h'' : AH} {σ : Nat → WR} {V : Nat → Int} {a b c o : Nat}
theorem v_part (W : WS L q h V) (ho : L o) (x : Int32) : zs_X8_partAt h o x = some (lN (PZ (V o).natAbs x.toInt)) := by
  unfold PZ
  by_cases hx : x.toInt < 0
  · rw [if_pos hx, p_partNeg h (i32_neg hx)]
    rfl
  · rw [if_neg hx]
    have h2 := Int32.toInt_lt x
    have e := i32_nn (x := x) (by omega)
    have h3 := v_partAt W ho (i := x.toInt.toNat) (by omega)
    rw [← e] at h3
    exact h3
theorem v_movedPart (W : WS L q h V) (ho : L o) {i : Nat} (hi : i < 1000) {n : Int32} (h1 : -2000 ≤ n.toInt) (h2 : n.toInt ≤ 2000) : zs_X8_movedPart h o (nI i) n = some (lN (mvN (V o).natAbs n.toInt / B32 ^ i % B32)) := by
  unfold zs_X8_movedPart
  simp only [lt_]
  rw [v_chk W ho]
  simp only [Option.bind_some]
  have hw := i32_shr5 n
  obtain ⟨w, hwe⟩ : ∃ w, w = n >>> ((5 : Int32) &&& 31) := ⟨_, rfl⟩
  rw [← hwe] at hw ⊢
  have hf : (nI i - w).toInt = (i : Int) - n.toInt / 32 := by
    rw [Int32.toInt_sub, nI_toInt (by omega), hw]
    exact Int.bmod_eq_of_le (by omega) (by omega)
  have hf1 : (nI i - w - 1).toInt = (i : Int) - n.toInt / 32 - 1 := by
    rw [Int32.toInt_sub, hf]
    exact Int.bmod_eq_of_le (by have : (1 : Int32).toInt = 1 := rfl; omega) (by have : (1 : Int32).toInt = 1 := rfl; omega)
  rw [v_part W ho, v_part W ho, hf, hf1, i32_and31 n]
  simp only [Option.bind_some]
  obtain ⟨u, hu⟩ : ∃ u, u = (n.toInt % 32).toNat := ⟨_, rfl⟩
  have hu32 : u < 32 := by omega
  rw [← hu]
  have hp := PZ_lt (V o).natAbs ((i : Int) - n.toInt / 32)
  have hp1 := PZ_lt (V o).natAbs ((i : Int) - n.toInt / 32 - 1)
  generalize hz : (i : Int) - n.toInt / 32 = z at hp hp1 ⊢
  have e1 : lN (PZ (V o).natAbs z) <<< ((nI u).toInt64 &&& 63) = lN (PZ (V o).natAbs z * 2 ^ u) := wb_shl _ (by omega)
  have hpu : PZ (V o).natAbs z * 2 ^ u < 4294967296 * 2147483648 := by
    have : 2 ^ u ≤ 2 ^ 31 := Nat.pow_le_pow_right (by decide) (by omega)
    exact Nat.lt_of_le_of_lt (Nat.mul_le_mul_left _ this) (Nat.mul_lt_mul_of_pos_right hp (by decide))
  have e2 : (32 : Int32) - nI u = nI (32 - u) := by
    rw [show (32 : Int32) = nI 32 from rfl]
    exact pk_sub (by omega)
  have e3 : ((lN (PZ (V o).natAbs (z - 1))).toUInt64 >>> ((nI (32 - u)).toInt64.toUInt64 &&& Int64.toUInt64 63)).toInt64 = lN (PZ (V o).natAbs (z - 1) / 2 ^ (32 - u)) := wb_shr (Nat.lt_trans hp1 (by decide)) (by omega)
  have hq : PZ (V o).natAbs (z - 1) / 2 ^ (32 - u) < 2 ^ u := by
    rw [Nat.div_lt_iff_lt_mul (Nat.pow_pos (by decide)), ← Nat.pow_add, show u + (32 - u) = 32 by omega]
    exact hp1
  have hq2 : PZ (V o).natAbs (z - 1) / 2 ^ (32 - u) < 4294967296 := Nat.lt_of_le_of_lt (Nat.div_le_self _ _) hp1
  rw [e1, e2, e3, wb_or (by omega) (by omega), or_mul hq]
  have e4 : lN (PZ (V o).natAbs z * 2 ^ u + PZ (V o).natAbs (z - 1) / 2 ^ (32 - u)) &&& (4294967295 : Int64) = lN ((PZ (V o).natAbs z * 2 ^ u + PZ (V o).natAbs (z - 1) / 2 ^ (32 - u)) % B32) := wb_mask (k := 32) (by omega) (by omega)
  rw [e4]
  congr 2
  have hmn : n.toInt = 32 * (n.toInt / 32) + u := by omega
  unfold PZ mvN
  by_cases hz0 : z < 0
  · rw [if_pos hz0, if_pos (by omega), if_pos (by omega), Nat.zero_mul, Nat.zero_div, Nat.zero_add]
    have hexp : n.toInt.toNat = u + 32 * (i + (-z).toNat) := by omega
    rw [hexp, Nat.pow_add, ← Nat.mul_assoc, ← B32_two, Nat.pow_add, Nat.mul_comm (B32 ^ i), ← Nat.mul_assoc, Nat.mul_div_cancel _ (B32_pos i)]
    rw [show (-z).toNat = ((-z).toNat - 1) + 1 by omega, Nat.pow_succ, ← Nat.mul_assoc, Nat.mul_mod_left]
    rfl
  · by_cases hz1 : z = 0
    · subst hz1
      rw [if_neg (by omega), if_pos (by omega), Nat.zero_div, Nat.add_zero, if_pos (by omega)]
      have hexp : n.toInt.toNat = u + 32 * i := by omega
      rw [hexp, Nat.pow_add, ← Nat.mul_assoc, ← B32_two, Nat.mul_div_cancel _ (B32_pos i)]
      show ((V o).natAbs / B32 ^ 0 % B32 * 2 ^ u) % B32 = _
      rw [Nat.pow_zero, Nat.div_one, Nat.mul_mod, Nat.mod_mod, ← Nat.mul_mod]
    · rw [if_neg hz0, if_neg (by omega)]
      obtain ⟨f, hf9⟩ : ∃ f : Nat, z = (f : Int) + 1 := ⟨(z - 1).toNat, by omega⟩
      subst hf9
      rw [show ((f : Int) + 1).toNat = f + 1 by omega, show ((f : Int) + 1 - 1).toNat = f by omega, mv_arith hu32]
      congr 1
      by_cases hn0 : 0 ≤ n.toInt
      · rw [if_pos hn0]
        have hexp : n.toInt.toNat = u + 32 * (n.toInt / 32).toNat := by omega
        rw [hexp, Nat.pow_add 2 u, ← Nat.mul_assoc, ← B32_two]
        have hi2 : i = (f + 1) + (n.toInt / 32).toNat := by omega
        rw [hi2, Nat.pow_add B32 (f + 1), Nat.mul_div_mul_right _ _ (B32_pos _)]
      · rw [if_neg hn0]
        have hs2 : f + 1 = i + (-(n.toInt / 32)).toNat := by omega
        have hexp : 32 * (-(n.toInt / 32)).toNat = (-n.toInt).toNat + u := by omega
        rw [hs2, Nat.pow_add, Nat.mul_comm (B32 ^ i), B32_two (-(n.toInt / 32)).toNat, hexp, Nat.pow_add]
        rw [show 2 ^ (-n.toInt).toNat * 2 ^ u * B32 ^ i = 2 ^ (-n.toInt).toNat * B32 ^ i * 2 ^ u by rw [Nat.mul_assoc, Nat.mul_comm (2 ^ u), ← Nat.mul_assoc], Nat.mul_div_mul_right _ _ (Nat.pow_pos (by decide)), Nat.div_div_eq_div_mul]
end Mvd
