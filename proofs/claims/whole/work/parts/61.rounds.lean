/-! how the digits of a ratio go on -/
def rmS (t b q i : Nat) : Nat := t * q ^ i % b
/-- A ahead, then m again and again -/
def isExp (r : Nat → Nat) (A m : Nat) : Prop := (∀ i j, i < j → j < A + m → r i ≠ r j) ∧ (∀ i, i < A + m → r i ≠ 0) ∧ ((m = 0 ∧ r A = 0) ∨ (0 < m ∧ r (A + m) = r A ∧ r (A + m) ≠ 0))
def noExp (r : Nat → Nat) : Prop := (∀ i j, i < j → j ≤ 200 → r i ≠ r j) ∧ ∀ i, i ≤ 200 → r i ≠ 0
theorem isExp_le {r : Nat → Nat} {A m A' m' : Nat} (h1 : isExp r A m) (h2 : isExp r A' m') : ¬ A + m < A' + m' := by
  intro h
  rcases h1.2.2 with ⟨e, hz⟩ | ⟨e, he, -⟩
  · subst e
    exact h2.2.1 A (by omega) hz
  · exact h2.1 A (A + m) (by omega) h he.symm
theorem isExp_uniq {r : Nat → Nat} {A m A' m' : Nat} (h1 : isExp r A m) (h2 : isExp r A' m') : A = A' ∧ m = m' := by
  have a1 := isExp_le h1 h2
  have a2 := isExp_le h2 h1
  have e : A + m = A' + m' := by omega
  rcases h1.2.2 with ⟨z1, hz⟩ | ⟨p1, he, hn⟩
  · rcases h2.2.2 with ⟨z2, -⟩ | ⟨p2, -, hn2⟩
    · omega
    · exfalso
      apply hn2
      rw [← e, z1, Nat.add_zero]
      exact hz
  · rcases h2.2.2 with ⟨z2, hz2⟩ | ⟨p2, he2, -⟩
    · exfalso
      apply hn
      rw [e, z2, Nat.add_zero]
      exact hz2
    · rcases Nat.lt_trichotomy A A' with h | h | h
      · exact absurd (he.symm.trans ((congrArg r e).trans he2)) (h1.1 A A' h (by omega))
      · omega
      · exact absurd (he2.symm.trans ((congrArg r e.symm).trans he)) (h1.1 A' A h (by omega))
theorem isExp_no {r : Nat → Nat} {A m : Nat} (h1 : isExp r A m) (h : A + m ≤ 200) (h2 : noExp r) : False := by
  rcases h1.2.2 with ⟨e, hz⟩ | ⟨e, he, -⟩
  · exact h2.2 A (by omega) hz
  · exact h2.1 A (A + m) (by omega) h he.symm
/-- what is left of the bottom when i times all that it shares with the base was taken out -/
def udS (b q : Nat) : Nat → Nat
  | 0 => b
  | i + 1 => udS b q i / Nat.gcd q (udS b q i)
theorem ud_inv {b q : Nat} (hb : 0 < b) (hq : 0 < q) : ∀ i, ∃ G w, 0 < G ∧ 0 < udS b q i ∧ b = udS b q i * G ∧ q ^ i = G * w ∧ Nat.Coprime (udS b q i) w
  | 0 => ⟨1, 1, by decide, hb, by show b = b * 1; omega, by rw [Nat.pow_zero], Nat.coprime_one_right _⟩
  | i + 1 => by
    obtain ⟨G, w, h1, h2, h3, h4, h5⟩ := ud_inv (b := b) (q := q) hb hq i
    have d1 := Nat.gcd_dvd_left q (udS b q i)
    have d2 := Nat.gcd_dvd_right q (udS b q i)
    have c0 : 0 < Nat.gcd q (udS b q i) := Nat.gcd_pos_of_pos_left _ hq
    have c1 := Nat.coprime_div_gcd_div_gcd c0
    refine ⟨G * Nat.gcd q (udS b q i), w * (q / Nat.gcd q (udS b q i)), Nat.mul_pos h1 c0, Nat.div_pos (Nat.le_of_dvd h2 d2) c0, ?_, ?_, ?_⟩
    · show b = udS b q i / Nat.gcd q (udS b q i) * (G * Nat.gcd q (udS b q i))
      rw [Nat.mul_comm G, ← Nat.mul_assoc, Nat.div_mul_cancel d2]
      exact h3
    · rw [Nat.pow_succ, h4]
      have e := Nat.div_mul_cancel d1
      generalize q / Nat.gcd q (udS b q i) = y at e ⊢
      generalize Nat.gcd q (udS b q i) = x at e ⊢
      rw [← e]
      simp only [Nat.mul_assoc, Nat.mul_comm, Nat.mul_left_comm]
    · show Nat.Coprime (udS b q i / Nat.gcd q (udS b q i)) _
      exact Nat.Coprime.mul_right (h5.coprime_div_left d2) c1.symm
theorem mod_iff {x y b : Nat} (h : y ≤ x) : x % b = y % b ↔ b ∣ x - y := by
  constructor
  · intro e
    exact Nat.dvd_of_mod_eq_zero (Nat.sub_mod_eq_zero_of_mod_eq e)
  · rintro ⟨c, hc⟩
    have : x = y + b * c := by omega
    rw [this, Nat.add_mul_mod_self_left]
theorem rm_eq {t b q : Nat} (hb : 0 < b) (hq : 0 < q) (ht : Nat.Coprime t b) (i m : Nat) : rmS t b q (i + m) = rmS t b q i ↔ udS b q i ∣ q ^ m - 1 := by
  obtain ⟨G, w, h1, h2, h3, h4, h5⟩ := ud_inv (b := b) (q := q) hb hq i
  have hm : 1 ≤ q ^ m := Nat.pow_pos hq
  have e1 : t * q ^ (i + m) - t * q ^ i = t * (G * (w * (q ^ m - 1))) := by
    rw [Nat.pow_add, h4, ← Nat.mul_assoc G w, Nat.mul_sub (G * w) (q ^ m) 1, Nat.mul_one, Nat.mul_sub t]
  have hle : t * q ^ i ≤ t * q ^ (i + m) := Nat.mul_le_mul_left _ (Nat.pow_le_pow_right hq (by omega))
  unfold rmS
  rw [mod_iff hle, e1]
  constructor
  · intro hd
    have hd2 : b ∣ G * (w * (q ^ m - 1)) := ht.symm.dvd_of_dvd_mul_left hd
    rw [h3, Nat.mul_comm (udS b q i) G] at hd2
    have hd3 : udS b q i ∣ w * (q ^ m - 1) := Nat.dvd_of_mul_dvd_mul_left h1 hd2
    exact h5.dvd_of_dvd_mul_left hd3
  · intro hd
    refine Nat.dvd_trans ?_ (Nat.dvd_mul_left _ _)
    have h6 : G * udS b q i ∣ G * (w * (q ^ m - 1)) := Nat.mul_dvd_mul_left _ (Nat.dvd_trans hd (Nat.dvd_mul_left _ _))
    rw [Nat.mul_comm, ← h3] at h6
    exact h6
theorem rm_zero {t b q : Nat} (hb : 0 < b) (hq : 0 < q) (ht : Nat.Coprime t b) (i : Nat) : rmS t b q i = 0 ↔ udS b q i = 1 := by
  obtain ⟨G, w, h1, h2, h3, h4, h5⟩ := ud_inv (b := b) (q := q) hb hq i
  unfold rmS
  constructor
  · intro hz
    have hd2 : b ∣ q ^ i := ht.symm.dvd_of_dvd_mul_left (Nat.dvd_of_mod_eq_zero hz)
    rw [h3, h4, Nat.mul_comm (udS b q i) G] at hd2
    have hd3 : udS b q i ∣ w := Nat.dvd_of_mul_dvd_mul_left h1 hd2
    exact h5.eq_one_of_dvd hd3
  · intro h1'
    rw [h1', Nat.one_mul] at h3
    rw [h4, ← h3]
    exact Nat.mod_eq_zero_of_dvd (Nat.dvd_trans (Nat.dvd_mul_right b w) (Nat.dvd_mul_left _ _))
theorem rm_early {t b q : Nat} (hb : 0 < b) (hq : 0 < q) (ht : Nat.Coprime t b) {i : Nat} (hg : 1 < Nat.gcd q (udS b q i)) : rmS t b q i ≠ 0 ∧ ∀ j, i < j → rmS t b q i ≠ rmS t b q j := by
  have d1 := Nat.gcd_dvd_left q (udS b q i)
  have d2 := Nat.gcd_dvd_right q (udS b q i)
  constructor
  · intro hz
    rw [(rm_zero hb hq ht i).mp hz, Nat.gcd_one_right] at hg
    omega
  · intro j hj he
    obtain ⟨m, rfl⟩ : ∃ m, j = i + (m + 1) := ⟨j - i - 1, by omega⟩
    have h1 := (rm_eq hb hq ht i (m + 1)).mp he.symm
    have h2 : Nat.gcd q (udS b q i) ∣ q ^ (m + 1) - 1 := Nat.dvd_trans d2 h1
    have h3 : Nat.gcd q (udS b q i) ∣ q ^ (m + 1) := Nat.dvd_trans d1 (by rw [Nat.pow_succ]; exact Nat.dvd_mul_left _ _)
    have hm : 1 ≤ q ^ (m + 1) := Nat.pow_pos hq
    have h4 : Nat.gcd q (udS b q i) ∣ 1 := by
      have := (Nat.dvd_sub h3 h2)
      rw [show q ^ (m + 1) - (q ^ (m + 1) - 1) = 1 by omega] at this
      exact this
    have := Nat.le_of_dvd (by decide) h4
    omega
theorem ud_late {b q A : Nat} (hg : Nat.gcd q (udS b q A) = 1) : ∀ k, udS b q (A + k) = udS b q A
  | 0 => rfl
  | k + 1 => by
    show udS b q (A + k) / Nat.gcd q (udS b q (A + k)) = _
    rw [ud_late hg k, hg, Nat.div_one]
theorem rm_late {t b q A : Nat} (hb : 0 < b) (hq : 0 < q) (ht : Nat.Coprime t b) (hg : Nat.gcd q (udS b q A) = 1) {i j : Nat} (hi : A ≤ i) (hj : i < j) (he : rmS t b q i = rmS t b q j) : rmS t b q (A + (j - i)) = rmS t b q A := by
  obtain ⟨m, rfl⟩ : ∃ m, j = i + m := ⟨j - i, by omega⟩
  obtain ⟨k, rfl⟩ : ∃ k, i = A + k := ⟨i - A, by omega⟩
  have h1 := (rm_eq hb hq ht (A + k) m).mp he.symm
  rw [ud_late hg] at h1
  rw [show A + k + m - (A + k) = m by omega]
  exact (rm_eq hb hq ht A m).mpr h1
section Exs
variable {t b q A : Nat}
theorem exp_none (hb : 0 < b) (hq : 0 < q) (ht : Nat.Coprime t b) (h : ∀ i, i ≤ 200 → 1 < Nat.gcd q (udS b q i)) : noExp (rmS t b q) :=
  ⟨fun i j h1 h2 => (rm_early hb hq ht (h i (by omega))).2 j h1, fun i h1 => (rm_early hb hq ht (h i h1)).1⟩
theorem exp_ends (hb : 0 < b) (hq : 0 < q) (ht : Nat.Coprime t b) (h : ∀ i, i < A → 1 < Nat.gcd q (udS b q i)) (h0 : rmS t b q A = 0) : isExp (rmS t b q) A 0 :=
  ⟨fun i j h1 h2 => (rm_early hb hq ht (h i (by omega))).2 j h1, fun i h1 => (rm_early hb hq ht (h i (by omega))).1, Or.inl ⟨rfl, h0⟩⟩
theorem rm_nz (hb : 0 < b) (hq : 0 < q) (ht : Nat.Coprime t b) (h : ∀ i, i < A → 1 < Nat.gcd q (udS b q i)) (hg : Nat.gcd q (udS b q A) = 1) (h0 : rmS t b q A ≠ 0) (i : Nat) : rmS t b q i ≠ 0 := by
  rcases Nat.lt_or_ge i A with hi | hi
  · exact (rm_early hb hq ht (h i hi)).1
  · intro hz
    apply h0
    rw [rm_zero hb hq ht] at hz ⊢
    obtain ⟨k, rfl⟩ : ∃ k, i = A + k := ⟨i - A, by omega⟩
    rw [ud_late hg] at hz
    exact hz
theorem exp_round (hb : 0 < b) (hq : 0 < q) (ht : Nat.Coprime t b) (h : ∀ i, i < A → 1 < Nat.gcd q (udS b q i)) (hg : Nat.gcd q (udS b q A) = 1) (h0 : rmS t b q A ≠ 0) {m : Nat} (hm : 0 < m) (he : rmS t b q (A + m) = rmS t b q A) (hn : ∀ k, 0 < k → k < m → rmS t b q (A + k) ≠ rmS t b q A) : isExp (rmS t b q) A m := by
  refine ⟨fun i j h1 h2 hij => ?_, fun i _ => rm_nz hb hq ht h hg h0 i, Or.inr ⟨hm, he, rm_nz hb hq ht h hg h0 _⟩⟩
  rcases Nat.lt_or_ge i A with hi | hi
  · exact (rm_early hb hq ht (h i hi)).2 j h1 hij
  · exact hn (j - i) (by omega) (by omega) (rm_late hb hq ht hg hi h1 hij)
theorem exp_long (hb : 0 < b) (hq : 0 < q) (ht : Nat.Coprime t b) (h : ∀ i, i < A → 1 < Nat.gcd q (udS b q i)) (hg : Nat.gcd q (udS b q A) = 1) (h0 : rmS t b q A ≠ 0) (hn : ∀ k, 0 < k → A + k ≤ 200 → rmS t b q (A + k) ≠ rmS t b q A) : noExp (rmS t b q) := by
  refine ⟨fun i j h1 h2 hij => ?_, fun i _ => rm_nz hb hq ht h hg h0 i⟩
  rcases Nat.lt_or_ge i A with hi | hi
  · exact (rm_early hb hq ht (h i hi)).2 j h1 hij
  · exact hn (j - i) (by omega) (by omega) (rm_late hb hq ht hg hi h1 hij)
end Exs
