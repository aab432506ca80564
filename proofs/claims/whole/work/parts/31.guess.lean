theorem u_cmp (a b : Int64) : a + (-9223372036854775808 : Int64) < b + (-9223372036854775808 : Int64) ↔ uN a < uN b := by
  rw [Int64.lt_iff_toInt_lt, uN_int, uN_int, uN_add, uN_add, show uN (-9223372036854775808 : Int64) = 9223372036854775808 by decide]
  have := uN_lt a
  have := uN_lt b
  split <;> split <;> omega
/-- the guess from three parts by two -/
def q3 (g1 g2 u0 u1 u2 : Nat) : Nat := ((u0 * B32 + u1) * B32 + u2) / (g1 * B32 + g2)
def gm (g1 g2 u0 u1 u2 : Nat) : Nat := if q3 g1 g2 u0 u1 u2 < 4294967295 then q3 g1 g2 u0 u1 u2 else 4294967295
section Kn
variable {g1 g2 u0 u1 u2 q r : Nat}
theorem gm_le3 : gm g1 g2 u0 u1 u2 ≤ q3 g1 g2 u0 u1 u2 := by unfold gm; split <;> omega
theorem gm_leB : gm g1 g2 u0 u1 u2 ≤ 4294967295 := by unfold gm; split <;> omega
theorem gm_ge (h1 : q ≤ q3 g1 g2 u0 u1 u2) (h2 : q ≤ 4294967295) : q ≤ gm g1 g2 u0 u1 u2 := by unfold gm; split <;> omega
theorem q3_iff (hg : 0 < g1) (hr : q * g1 + r = u0 * B32 + u1) : q * g2 ≤ r * B32 + u2 ↔ q ≤ q3 g1 g2 u0 u1 u2 := by
  unfold q3
  have hp : 0 < g1 * B32 + g2 := by have : 1 * B32 ≤ g1 * B32 := Nat.mul_le_mul_right _ hg; unfold B32 at *; omega
  rw [Nat.le_div_iff_mul_le hp, ← hr, Nat.mul_add, Nat.add_mul, ← Nat.mul_assoc]
  omega
theorem q0_le (hn : 4294967296 ≤ 2 * g1) (hu : u0 ≤ g1) (h1 : u1 < B32) : (u0 * B32 + u1) / g1 ≤ 4294967297 := by
  have hg : 0 < g1 := by omega
  have : (u0 * B32 + u1) / g1 < 4294967298 := by
    rw [Nat.div_lt_iff_lt_mul hg]
    have h3 : u0 * B32 ≤ g1 * B32 := Nat.mul_le_mul_right _ hu
    unfold B32 at *
    omega
  omega
theorem gm_q0 (hn : 4294967296 ≤ 2 * g1) : gm g1 g2 u0 u1 u2 ≤ (u0 * B32 + u1) / g1 ∨ ¬ u2 < B32 := by
  by_cases h2 : u2 < B32
  · left
    have hg : 0 < g1 := by omega
    rw [Nat.le_div_iff_mul_le hg]
    have h3 := gm_le3 (g1 := g1) (g2 := g2) (u0 := u0) (u1 := u1) (u2 := u2)
    have hp : 0 < g1 * B32 + g2 := by have : 1 * B32 ≤ g1 * B32 := Nat.mul_le_mul_right _ hg; unfold B32 at *; omega
    unfold q3 at h3
    rw [Nat.le_div_iff_mul_le hp, Nat.mul_add, ← Nat.mul_assoc] at h3
    generalize gm g1 g2 u0 u1 u2 * g1 = a at h3 ⊢
    generalize u0 * B32 + u1 = b at h3 ⊢
    unfold B32 at *
    omega
  · exact Or.inr h2
/-- two steps are enough -/
theorem q0_two (hn : 4294967296 ≤ 2 * g1) (hu : u0 ≤ g1) (h1 : u1 < B32) (hg2 : g2 < B32) : (u0 * B32 + u1) / g1 ≤ gm g1 g2 u0 u1 u2 + 2 := by
  have hg : 0 < g1 := by omega
  have h0 := q0_le hn hu h1
  rcases Nat.lt_or_ge (gm g1 g2 u0 u1 u2 + 2) ((u0 * B32 + u1) / g1) with hc | hc
  · exfalso
    have hm : gm g1 g2 u0 u1 u2 < 4294967295 := by omega
    have hq : gm g1 g2 u0 u1 u2 = q3 g1 g2 u0 u1 u2 := by
      unfold gm at hm ⊢
      split at hm
      · rename_i hh; rw [if_pos hh]
      · omega
    have h3 : q3 g1 g2 u0 u1 u2 + 3 ≤ (u0 * B32 + u1) / g1 := by omega
    rw [Nat.le_div_iff_mul_le hg] at h3
    have hp : 0 < g1 * B32 + g2 := by have : 1 * B32 ≤ g1 * B32 := Nat.mul_le_mul_right _ hg; unfold B32 at *; omega
    have h4 : (u0 * B32 + u1) * B32 + u2 < (q3 g1 g2 u0 u1 u2 + 1) * (g1 * B32 + g2) := by
      unfold q3
      rw [Nat.mul_comm _ (g1 * B32 + g2)]
      exact Nat.lt_mul_div_succ _ hp
    have hq3 : q3 g1 g2 u0 u1 u2 + 1 ≤ 4294967295 := by omega
    generalize q3 g1 g2 u0 u1 u2 = k at h3 h4 hq3
    generalize u0 * B32 + u1 = b at h3 h4
    have h5 : (k + 1) * g2 ≤ 4294967295 * 4294967295 := Nat.mul_le_mul hq3 (by unfold B32 at hg2; omega)
    rw [Nat.mul_add, ← Nat.mul_assoc] at h4
    rw [Nat.add_mul] at h3
    rw [Nat.add_mul k 1 g1, Nat.one_mul] at h4
    generalize k * g1 = a at h3 h4
    unfold B32 at *
    omega
  · exact hc
end Kn
