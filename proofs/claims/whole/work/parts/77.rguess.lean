/-! the guess of a digit, base 65536 -/
/-- the guess from three parts by two -/
def q3C (g1 g2 u0 u1 u2 : Nat) : Nat := ((u0 * C16 + u1) * C16 + u2) / (g1 * C16 + g2)
def gmC (g1 g2 u0 u1 u2 : Nat) : Nat := if q3C g1 g2 u0 u1 u2 < 65535 then q3C g1 g2 u0 u1 u2 else 65535
section KnC
variable {g1 g2 u0 u1 u2 q r : Nat}
theorem gm_le3C : gmC g1 g2 u0 u1 u2 ≤ q3C g1 g2 u0 u1 u2 := by unfold gmC; split <;> omega
theorem gm_leBC : gmC g1 g2 u0 u1 u2 ≤ 65535 := by unfold gmC; split <;> omega
theorem gm_geC (h1 : q ≤ q3C g1 g2 u0 u1 u2) (h2 : q ≤ 65535) : q ≤ gmC g1 g2 u0 u1 u2 := by unfold gmC; split <;> omega
theorem q3_iffC (hg : 0 < g1) (hr : q * g1 + r = u0 * C16 + u1) : q * g2 ≤ r * C16 + u2 ↔ q ≤ q3C g1 g2 u0 u1 u2 := by
  unfold q3C
  have hp : 0 < g1 * C16 + g2 := by have : 1 * C16 ≤ g1 * C16 := Nat.mul_le_mul_right _ hg; unfold C16 at *; omega
  rw [Nat.le_div_iff_mul_le hp, ← hr, Nat.mul_add, Nat.add_mul, ← Nat.mul_assoc]
  omega
theorem q0_leC (hn : 65536 ≤ 2 * g1) (hu : u0 ≤ g1) (h1 : u1 < C16) : (u0 * C16 + u1) / g1 ≤ 65537 := by
  have hg : 0 < g1 := by omega
  have : (u0 * C16 + u1) / g1 < 65538 := by
    rw [Nat.div_lt_iff_lt_mul hg]
    have h3 : u0 * C16 ≤ g1 * C16 := Nat.mul_le_mul_right _ hu
    unfold C16 at *
    omega
  omega
theorem gm_q0C (hn : 65536 ≤ 2 * g1) : gmC g1 g2 u0 u1 u2 ≤ (u0 * C16 + u1) / g1 ∨ ¬ u2 < C16 := by
  by_cases h2 : u2 < C16
  · left
    have hg : 0 < g1 := by omega
    rw [Nat.le_div_iff_mul_le hg]
    have h3 := gm_le3C (g1 := g1) (g2 := g2) (u0 := u0) (u1 := u1) (u2 := u2)
    have hp : 0 < g1 * C16 + g2 := by have : 1 * C16 ≤ g1 * C16 := Nat.mul_le_mul_right _ hg; unfold C16 at *; omega
    unfold q3C at h3
    rw [Nat.le_div_iff_mul_le hp, Nat.mul_add, ← Nat.mul_assoc] at h3
    generalize gmC g1 g2 u0 u1 u2 * g1 = a at h3 ⊢
    generalize u0 * C16 + u1 = b at h3 ⊢
    unfold C16 at *
    omega
  · exact Or.inr h2
/-- two steps are enough -/
theorem q0_twoC (hn : 65536 ≤ 2 * g1) (hu : u0 ≤ g1) (h1 : u1 < C16) (hg2 : g2 < C16) : (u0 * C16 + u1) / g1 ≤ gmC g1 g2 u0 u1 u2 + 2 := by
  have hg : 0 < g1 := by omega
  have h0 := q0_leC hn hu h1
  rcases Nat.lt_or_ge (gmC g1 g2 u0 u1 u2 + 2) ((u0 * C16 + u1) / g1) with hc | hc
  · exfalso
    have hm : gmC g1 g2 u0 u1 u2 < 65535 := by omega
    have hq : gmC g1 g2 u0 u1 u2 = q3C g1 g2 u0 u1 u2 := by
      unfold gmC at hm ⊢
      split at hm
      · rename_i hh; rw [if_pos hh]
      · omega
    have h3 : q3C g1 g2 u0 u1 u2 + 3 ≤ (u0 * C16 + u1) / g1 := by omega
    rw [Nat.le_div_iff_mul_le hg] at h3
    have hp : 0 < g1 * C16 + g2 := by have : 1 * C16 ≤ g1 * C16 := Nat.mul_le_mul_right _ hg; unfold C16 at *; omega
    have h4 : (u0 * C16 + u1) * C16 + u2 < (q3C g1 g2 u0 u1 u2 + 1) * (g1 * C16 + g2) := by
      unfold q3C
      rw [Nat.mul_comm _ (g1 * C16 + g2)]
      exact Nat.lt_mul_div_succ _ hp
    have hq3 : q3C g1 g2 u0 u1 u2 + 1 ≤ 65535 := by omega
    generalize q3C g1 g2 u0 u1 u2 = k at h3 h4 hq3
    generalize u0 * C16 + u1 = b at h3 h4
    have h5 : (k + 1) * g2 ≤ 65535 * 65535 := Nat.mul_le_mul hq3 (by unfold C16 at hg2; omega)
    rw [Nat.mul_add, ← Nat.mul_assoc] at h4
    rw [Nat.add_mul] at h3
    rw [Nat.add_mul k 1 g1, Nat.one_mul] at h4
    generalize k * g1 = a at h3 h4
    unfold C16 at *
    omega
  · exact hc
end KnC
section KnC2
variable {g1 g2 u0 u1 u2 U D P lu ld : Nat}
/-- the guess is the quotient or one more. P = B^(n-2), lu and ld what stands below -/
theorem gm_quotC (hn : 65536 ≤ 2 * g1) (hg2 : g2 < C16) (hU : U = ((u0 * C16 + u1) * C16 + u2) * P + lu) (hlu : lu < P) (hD : D = (g1 * C16 + g2) * P + ld) (hld : ld < P) (hQ : U / D < C16) :
    U / D ≤ gmC g1 g2 u0 u1 u2 ∧ gmC g1 g2 u0 u1 u2 ≤ U / D + 1 := by
  have hg : 0 < g1 := by omega
  have hB : C16 = 65536 := rfl
  have hd2 : C16 ≤ g1 * C16 + g2 := by have : 1 * C16 ≤ g1 * C16 := Nat.mul_le_mul_right _ hg; omega
  have hp : 0 < g1 * C16 + g2 := by omega
  have hDp : 0 < D := by
    rw [hD]
    have : 1 * P ≤ (g1 * C16 + g2) * P := Nat.mul_le_mul_right _ hp
    omega
  generalize hT : (u0 * C16 + u1) * C16 + u2 = T at hU
  have hq3 : q3C g1 g2 u0 u1 u2 = T / (g1 * C16 + g2) := by unfold q3C; rw [hT]
  generalize hd : g1 * C16 + g2 = d at *
  refine ⟨gm_geC ?_ (by omega), ?_⟩
  · rw [hq3, Nat.le_div_iff_mul_le hp]
    have h1 : U / D * D ≤ U := Nat.div_mul_le_self _ _
    have h2 : U / D * (d * P) ≤ U / D * D := Nat.mul_le_mul_left _ (by omega)
    have h3 : U < (T + 1) * P := by rw [hU, Nat.add_mul, Nat.one_mul]; omega
    have h4 : U / D * d * P < (T + 1) * P := by rw [Nat.mul_assoc]; omega
    exact Nat.le_of_lt_succ (Nat.lt_of_mul_lt_mul_right h4)
  · rcases Nat.eq_zero_or_pos (gmC g1 g2 u0 u1 u2) with e | e
    · rw [e]; exact Nat.zero_le _
    · obtain ⟨m, hm⟩ : ∃ m, gmC g1 g2 u0 u1 u2 = m + 1 := ⟨gmC g1 g2 u0 u1 u2 - 1, by omega⟩
      have h1 := gm_le3C (g1 := g1) (g2 := g2) (u0 := u0) (u1 := u1) (u2 := u2)
      have h2 := gm_leBC (g1 := g1) (g2 := g2) (u0 := u0) (u1 := u1) (u2 := u2)
      rw [hq3, Nat.le_div_iff_mul_le hp, hm] at h1
      rw [hm] at h2 ⊢
      refine Nat.succ_le_succ ?_
      rw [Nat.le_div_iff_mul_le hDp]
      have h3 : m * D ≤ m * ((d + 1) * P) := Nat.mul_le_mul_left _ (by rw [hD, Nat.add_mul, Nat.one_mul]; omega)
      have h4 : m * (d + 1) ≤ T := by
        rw [Nat.mul_add, Nat.mul_one]
        rw [Nat.add_mul, Nat.one_mul] at h1
        omega
      have h5 : m * (d + 1) * P ≤ T * P := Nat.mul_le_mul_right _ h4
      rw [Nat.mul_assoc] at h5
      omega
end KnC2
/-! stretches of digits -/
def sC (F : Nat → Nat) (j n : Nat) : Nat := vC (fun i => F (j + i)) n
theorem sC_s (F : Nat → Nat) (j n : Nat) : sC F j (n + 1) = sC F j n + F (j + n) * C16 ^ n := rfl
theorem sC_congr {F G : Nat → Nat} {j n : Nat} (h : ∀ i, i < n → F (j + i) = G (j + i)) : sC F j n = sC G j n := vC_congr h
theorem sC_lt {F : Nat → Nat} {j n : Nat} (h : ∀ i, i < n → F (j + i) < C16) : sC F j n < C16 ^ n := vC_lt h
theorem sC_0 (F : Nat → Nat) (k : Nat) : sC F 0 k = vC F k := vC_congr (fun i _ => by rw [Nat.zero_add])
theorem sC_lo (F : Nat → Nat) (j k : Nat) : sC F j (k + 1) = F j + C16 * sC F (j + 1) k := by
  unfold sC
  rw [vC_lo]
  congr 2
  exact vC_congr (fun i _ => by rw [show j + (i + 1) = j + 1 + i by omega])
theorem sC_cat (F : Nat → Nat) (j : Nat) : ∀ k, sC F 0 (j + k) = sC F 0 j + sC F j k * C16 ^ j
  | 0 => by show sC F 0 j = sC F 0 j + 0 * _; omega
  | k + 1 => by
    rw [show j + (k + 1) = j + k + 1 by omega, sC_s, sC_cat F j k, sC_s, Nat.add_mul, Nat.mul_assoc, ← Nat.pow_add, Nat.zero_add, Nat.add_comm k j]
    omega
theorem top_leC {d e : Nat → Nat} {k : Nat} (he : ∀ i, i < k → e i < C16) (h : vC d (k + 1) < vC e (k + 1)) : d k ≤ e k := by
  rcases Nat.lt_or_ge (e k) (d k) with hc | hc
  · exfalso
    have h1 := vC_lt (d := e) (k := k) he
    have h2 : (e k + 1) * C16 ^ k ≤ d k * C16 ^ k := Nat.mul_le_mul_right _ hc
    rw [Nat.add_mul, Nat.one_mul] at h2
    have h3 : vC d (k + 1) = vC d k + d k * C16 ^ k := rfl
    have h4 : vC e (k + 1) = vC e k + e k * C16 ^ k := rfl
    omega
  · exact hc
def vHC (d : Nat → Nat) (j k : Nat) : Nat := vC (fun i => d (j + i)) (k - j)
theorem vHC_k (d : Nat → Nat) (k : Nat) : vHC d k k = 0 := by
  unfold vHC
  rw [Nat.sub_self]
  rfl
theorem vHC_0 (d : Nat → Nat) (k : Nat) : vHC d 0 k = vC d k := vC_congr (fun i _ => by rw [Nat.zero_add])
theorem vHC_s (d : Nat → Nat) {j k : Nat} (h : j < k) : vHC d j k = d j + C16 * vHC d (j + 1) k := by
  unfold vHC
  rw [show k - j = (k - (j + 1)) + 1 by omega, vC_lo]
  congr 2
  exact vC_congr (fun i _ => by rw [show j + (i + 1) = j + 1 + i by omega])
theorem vHC_congr {d e : Nat → Nat} {j k : Nat} (h : ∀ i, j ≤ i → i < k → d i = e i) : vHC d j k = vHC e j k := vC_congr (fun i hi => h _ (by omega) (by omega))
theorem lcat {a b : Nat} (ha : a < 2 ^ 46) (hb : b < 65536) : (lN a <<< (((16 : Int32)).toInt64 &&& 63)) ||| lN b = lN (a * 65536 + b) := by
  rw [show (16 : Int32) = nI 16 from rfl, wb_shl a (by decide)]
  exact g_or (k := 16) (p := 65536) rfl hb (by omega)
