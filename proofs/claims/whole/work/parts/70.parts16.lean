/-! numbers in base 65536: the reference's parts -/
def C16 : Nat := 65536
def vC (d : Nat → Nat) : Nat → Nat
  | 0 => 0
  | k + 1 => vC d k + d k * C16 ^ k
theorem vC_congr {d e : Nat → Nat} : ∀ {k : Nat}, (∀ i, i < k → d i = e i) → vC d k = vC e k
  | 0, _ => rfl
  | k + 1, h => by
    show vC d k + d k * C16 ^ k = vC e k + e k * C16 ^ k
    rw [vC_congr (fun i hi => h i (by omega)), h k (by omega)]
theorem C16_pos (k : Nat) : 0 < C16 ^ k := Nat.pow_pos (by decide)
theorem C16_s (k : Nat) : C16 ^ (k + 1) = 65536 * C16 ^ k := by rw [Nat.pow_succ, Nat.mul_comm]; rfl
theorem vC_lt {d : Nat → Nat} : ∀ {k : Nat}, (∀ i, i < k → d i < C16) → vC d k < C16 ^ k
  | 0, _ => by show 0 < C16 ^ 0; decide
  | k + 1, h => by
    have h1 := vC_lt (d := d) (k := k) (fun i hi => h i (by omega))
    have h2 := h k (by omega)
    show vC d k + d k * C16 ^ k < C16 ^ (k + 1)
    rw [C16_s]
    have h3 : (d k + 1) * C16 ^ k ≤ 65536 * C16 ^ k := Nat.mul_le_mul_right _ (by unfold C16 at h2; omega)
    rw [Nat.add_mul, Nat.one_mul] at h3
    omega
theorem vC_ge {d : Nat → Nat} {k : Nat} (h : d k ≠ 0) : C16 ^ k ≤ vC d (k + 1) := by
  show C16 ^ k ≤ vC d k + d k * C16 ^ k
  have : 1 * C16 ^ k ≤ d k * C16 ^ k := Nat.mul_le_mul_right _ (by omega)
  omega
theorem vC_0 {d : Nat → Nat} : ∀ {j k : Nat}, k ≤ j → (∀ i, k ≤ i → i < j → d i = 0) → vC d j = vC d k
  | 0, k, h, _ => by rw [show k = 0 by omega]
  | j + 1, k, h, hz => by
    by_cases e : k = j + 1
    · rw [e]
    · show vC d j + d j * C16 ^ j = vC d k
      rw [hz j (by omega) (by omega), vC_0 (j := j) (k := k) (by omega) (fun i a b => hz i a (by omega))]
      omega
theorem vC_pos {d : Nat → Nat} {k : Nat} (h : 0 < k) (ht : d (k - 1) ≠ 0) : 0 < vC d k := by
  obtain ⟨n, rfl⟩ : ∃ n, k = n + 1 := ⟨k - 1, by omega⟩
  have := vC_ge (d := d) (k := n) ht
  have := C16_pos n
  omega
theorem vC_kle {d : Nat → Nat} {k n : Nat} (ht : 0 < k → d (k - 1) ≠ 0) (h : vC d k < C16 ^ n) : k ≤ n := by
  rcases Nat.lt_or_ge n k with hk | hk
  · exfalso
    obtain ⟨j, rfl⟩ : ∃ j, k = j + 1 := ⟨k - 1, by omega⟩
    have h1 := vC_ge (d := d) (k := j) (ht (by omega))
    have h2 : C16 ^ n ≤ C16 ^ j := Nat.pow_le_pow_right (by decide) (by omega)
    omega
  · exact hk
theorem vC_up {d e : Nat → Nat} {j : Nat} : ∀ {k : Nat}, j ≤ k → (∀ i, j ≤ i → i < k → d i = e i) → vC d j < vC e j → vC d k < vC e k
  | 0, h, _, hl => by rw [show j = 0 by omega] at hl; exact hl
  | k + 1, h, hq, hl => by
    by_cases e1 : j = k + 1
    · rw [← e1]; exact hl
    · have := vC_up (d := d) (e := e) (k := k) (by omega) (fun i a b => hq i a (by omega)) hl
      show vC d k + d k * C16 ^ k < vC e k + e k * C16 ^ k
      rw [hq k (by omega) (by omega)]
      omega
theorem vC_cmp {d e : Nat → Nat} {j k : Nat} (hj : j < k) (hd : ∀ i, i < k → d i < C16) (hq : ∀ i, j < i → i < k → d i = e i) (hl : d j < e j) : vC d k < vC e k := by
  refine vC_up (j := j + 1) hj (fun i a b => hq i a b) ?_
  have h1 := vC_lt (d := d) (k := j) (fun i hi => hd i (by omega))
  have h2 : (d j + 1) * C16 ^ j ≤ e j * C16 ^ j := Nat.mul_le_mul_right _ hl
  rw [Nat.add_mul, Nat.one_mul] at h2
  show vC d j + d j * C16 ^ j < vC e j + e j * C16 ^ j
  omega
theorem vC_len {d e : Nat → Nat} {j k : Nat} (hjk : j < k) (hd : ∀ i, i < j → d i < C16) (ht : e (k - 1) ≠ 0) : vC d j < vC e k := by
  obtain ⟨n, rfl⟩ : ∃ n, k = n + 1 := ⟨k - 1, by omega⟩
  have h1 := vC_lt (d := d) (k := j) hd
  have h2 := vC_ge (d := e) (k := n) ht
  have h3 : C16 ^ j ≤ C16 ^ n := Nat.pow_le_pow_right (by decide) (by omega)
  omega
theorem vC_split {d : Nat → Nat} {i : Nat} : ∀ {k : Nat}, i < k → ∃ t, vC d k = vC d i + (d i + t * C16) * C16 ^ i
  | 0, h => absurd h (by omega)
  | k + 1, h => by
    by_cases e : i = k
    · subst e
      exact ⟨0, by show vC d i + d i * C16 ^ i = _; rw [Nat.zero_mul, Nat.add_zero]⟩
    · obtain ⟨t, ht⟩ := vC_split (d := d) (i := i) (k := k) (by omega)
      refine ⟨t + d k * C16 ^ (k - i - 1), ?_⟩
      show vC d k + d k * C16 ^ k = _
      have e1 : C16 ^ k = C16 ^ (k - i - 1) * C16 * C16 ^ i := by
        rw [← Nat.pow_succ, ← Nat.pow_add]
        congr 1
        omega
      rw [ht, e1]
      rw [Nat.add_mul, Nat.add_mul, Nat.add_mul, Nat.add_mul]
      have e2 : d k * (C16 ^ (k - i - 1) * C16 * C16 ^ i) = d k * C16 ^ (k - i - 1) * C16 * C16 ^ i := by simp only [Nat.mul_assoc]
      rw [e2]
      omega
theorem vC_dig {d : Nat → Nat} {k i : Nat} (hd : ∀ j, j < k → d j < C16) (hi : i < k) : vC d k / C16 ^ i % C16 = d i := by
  obtain ⟨t, ht⟩ := vC_split (d := d) hi
  have h1 := vC_lt (d := d) (k := i) (fun j hj => hd j (by omega))
  rw [ht, Nat.add_mul_div_right _ _ (C16_pos i), Nat.div_eq_of_lt h1, Nat.zero_add, Nat.add_mul_mod_self_right]
  exact Nat.mod_eq_of_lt (hd i hi)
theorem vC_digh {d : Nat → Nat} {k i : Nat} (hd : ∀ j, j < k → d j < C16) (hi : k ≤ i) : vC d k / C16 ^ i % C16 = 0 := by
  have h1 := vC_lt (d := d) (k := k) hd
  have h2 : C16 ^ k ≤ C16 ^ i := Nat.pow_le_pow_right (by decide) hi
  rw [Nat.div_eq_of_lt (by omega)]
  rfl
theorem vC_lo (d : Nat → Nat) : ∀ n, vC d (n + 1) = d 0 + C16 * vC (fun i => d (i + 1)) n
  | 0 => by show 0 + d 0 * C16 ^ 0 = d 0 + C16 * 0; rw [Nat.pow_zero]; omega
  | n + 1 => by
    show vC d (n + 1) + d (n + 1) * C16 ^ (n + 1) = d 0 + C16 * (vC (fun i => d (i + 1)) n + d (n + 1) * C16 ^ n)
    rw [vC_lo d n, Nat.mul_add, Nat.pow_succ]
    have : d (n + 1) * (C16 ^ n * C16) = C16 * (d (n + 1) * C16 ^ n) := by rw [← Nat.mul_assoc, Nat.mul_comm]
    omega
theorem C16_two (k : Nat) : C16 ^ k = 2 ^ (16 * k) := by
  show (2 ^ 16) ^ k = _
  rw [← Nat.pow_mul]
theorem C16_B (k : Nat) : C16 ^ (2 * k) = B32 ^ k := by rw [C16_two, B32_two]; congr 1; omega
theorem vC_of {d : Nat → Nat} {m N : Nat} (hN : N < C16 ^ m) (hd : ∀ j, j < m → d j = N / C16 ^ j % C16) : vC d m = N := by
  induction m generalizing N d with
  | zero =>
    rw [Nat.pow_zero] at hN
    show 0 = N
    omega
  | succ m ih =>
    rw [vC_lo]
    have h0 := hd 0 (by omega)
    rw [Nat.pow_zero, Nat.div_one] at h0
    have h1 := ih (N := N / C16) (d := fun i => d (i + 1)) (Nat.div_lt_of_lt_mul (by rw [Nat.mul_comm, ← Nat.pow_succ]; exact hN)) (fun j hj => by
      show d (j + 1) = _
      rw [hd (j + 1) (by omega), Nat.pow_succ, Nat.mul_comm (C16 ^ j), ← Nat.div_div_eq_div_mul])
    rw [h1, h0]
    have := Nat.div_add_mod N C16
    omega
