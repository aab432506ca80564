/-! Euclid's way ends -/
theorem eu_half {a b : Nat} (h : b ≤ a) (h0 : 0 < b) : b * (a % b) * 2 ≤ a * b := by
  have h1 := Nat.div_add_mod a b
  have h2 := Nat.mod_lt a h0
  have h3 : 1 ≤ a / b := (Nat.le_div_iff_mul_le h0).mpr (by omega)
  have h4 : b * 1 ≤ b * (a / b) := Nat.mul_le_mul_left _ h3
  have h5 : (a % b) * 2 ≤ a := by omega
  rw [Nat.mul_assoc, Nat.mul_comm a b]
  exact Nat.mul_le_mul_left _ h5
/-- after t steps -/
def euB (t a b : Nat) : Prop := (t = 0 ∧ a < B32 ^ 26 ∧ b < B32 ^ 26) ∨ (0 < t ∧ b ≤ a ∧ a * b * 2 ^ (t - 1) < 2 ^ 1664)
theorem B26 : B32 ^ 26 = 2 ^ 832 := by rw [B32_two]
theorem euB_s {t a b : Nat} (h : euB t a b) (h0 : 0 < b) : euB (t + 1) b (a % b) := by
  have hl := Nat.mod_lt a h0
  right
  refine ⟨by omega, by omega, ?_⟩
  rw [Nat.add_sub_cancel]
  rcases h with ⟨rfl, h1, h2⟩ | ⟨h1, h2, h3⟩
  · rw [Nat.pow_zero, Nat.mul_one]
    rw [B26] at h2
    have h4 : b * (a % b) ≤ b * b := Nat.mul_le_mul_left _ (by omega)
    have h5 : b * b < 2 ^ 832 * 2 ^ 832 := Nat.mul_lt_mul_of_lt_of_lt h2 h2
    rw [← Nat.pow_add] at h5
    exact Nat.lt_of_le_of_lt h4 h5
  · obtain ⟨t', rfl⟩ : ∃ t', t = t' + 1 := ⟨t - 1, by omega⟩
    rw [Nat.add_sub_cancel] at h3
    rw [Nat.pow_succ, Nat.mul_comm (2 ^ t') 2, ← Nat.mul_assoc]
    exact Nat.lt_of_le_of_lt (Nat.mul_le_mul_right _ (eu_half h2 h0)) h3
theorem euB_e {t a b : Nat} (h : euB t a b) (ht : 1665 ≤ t) : b = 0 := by
  rcases h with ⟨h1, -⟩ | ⟨h1, h2, h3⟩
  · omega
  · rcases Nat.eq_zero_or_pos b with h0 | h0
    · exact h0
    · exfalso
      have h4 : 1 ≤ a * b := Nat.mul_pos (by omega) h0
      have h5 : 1 * 2 ^ (t - 1) ≤ a * b * 2 ^ (t - 1) := Nat.mul_le_mul_right _ h4
      have h6 : 2 ^ 1664 ≤ 2 ^ (t - 1) := Nat.pow_le_pow_right (by decide) (by omega)
      omega
section Euc
variable {B h : AH} {n : Nat} {d : DS} {M : Nat → Int} {i j k : Nat}
theorem CW.lt26 (c : CW B n d h M) (hi : i < 70) : (M i).natAbs < B32 ^ 26 := by
  obtain ⟨k, -, h1, h2, -⟩ := c.look hi
  exact Nat.lt_of_lt_of_le h2 (Nat.pow_le_pow_right (by decide) h1)
theorem CW.commonDivisor (c : CW B n d h M) (hi : i < 70) (hj : j < 70) (hk : okI k) (j1 : j ≠ 55) :
    ∃ h' M', zs_X3_commonDivisor h (n + 126) (aw n i) (aw n j) (aw n k) = some h' ∧ CW B n d h' M' ∧ (∀ x, x ≠ 49 → x ≠ 50 → x ≠ 55 → x ≠ 56 → x ≠ k → M' x = M x) ∧ M' k = (Nat.gcd (M i).natAbs (M j).natAbs : Nat) := by
  unfold zs_X3_commonDivisor
  have x55 := c.lt26 hi
  have x56 := c.lt26 hj
  simp only [c.rd3, Option.bind_some, c.chk8 (show 55 < 70 by decide)]
  obtain ⟨g1, e1, c1⟩ := c.copy (k := 55) (i := i) (by decide) hi
  rw [e1]
  simp only [c1.rd3, Option.bind_some, c1.chk8 (show 55 < 70 by decide)]
  obtain ⟨g2, e2, c2⟩ := c1.takeSign (k := 55) (by decide) 0
  rw [va_us, va_uu] at c2
  rw [e2]
  simp only [c2.rd3, Option.bind_some, c2.chk8 (show 56 < 70 by decide)]
  obtain ⟨g3, e3, c3⟩ := c2.copy (k := 56) (i := j) (by decide) hj
  rw [va_un j1] at c3
  rw [e3]
  simp only [c3.rd3, Option.bind_some, c3.chk8 (show 56 < 70 by decide)]
  obtain ⟨g4, e4, c4⟩ := c3.takeSign (k := 56) (by decide) 0
  rw [va_us, va_uu] at c4
  rw [e4]
  simp only [Option.bind_some]
  have sg0 : ∀ x : Nat, sgv 0 x = (x : Int) := fun _ => rfl
  rw [sg0, sg0] at c4
  generalize (M i).natAbs = A at x55 c4 ⊢
  generalize (M j).natAbs = C at x56 c4 ⊢
  obtain ⟨r, hr, M5, c5, f5, v5⟩ := iter_FU (B := fun q : AH × Int32 => zb_X3_commonDivisor_35 (n + 126) (aw n k) q.1 q.2)
    (fun t s => s.2 = nI t ∧ ∃ (M' : Nat → Int) (a b : Nat), CW B n d s.1 M' ∧ (∀ x, x ≠ 49 → x ≠ 50 → x ≠ 55 → x ≠ 56 → M' x = M x) ∧ M' 55 = (a : Int) ∧ M' 56 = (b : Int) ∧ euB t a b ∧ Nat.gcd a b = Nat.gcd A C)
    (fun r => ∃ (M' : Nat → Int), CW B n d r M' ∧ (∀ x, x ≠ 49 → x ≠ 50 → x ≠ 55 → x ≠ 56 → M' x = M x) ∧ M' 55 = (Nat.gcd A C : Nat))
    2000 (by omega) (s := (g4, (0 : Int32))) ⟨rfl, _, A, C, c4, fun x _ _ h1 h2 => by rw [va_un h2, va_un h1], by rw [va_un (by decide), va_us], va_us _ _ _, Or.inl ⟨rfl, x55, x56⟩, rfl⟩ (by
    rintro t ⟨g, w⟩ ht ⟨hw, M1, a, b, k1, f1, m1, m2, eu, gg⟩
    dsimp only at hw k1 ⊢
    subst hw
    unfold zb_X3_commonDivisor_35
    have hend : b = 0 → a = Nat.gcd A C := fun hb => by rw [← gg, hb, Nat.gcd_zero_right]
    by_cases h2 : t = 2000
    · rw [if_pos (show (2000 : Int32) ≤ nI t from nI_le (a := 2000) (by omega) (by omega))]
      refine ⟨_, rfl, fun s' hs => by (cases hs), fun r hr => ?_⟩
      obtain rfl := Sum.inr.inj hr
      exact ⟨M1, k1, f1, by rw [m1, hend (euB_e eu (by omega))]⟩
    · rw [if_neg (show ¬ (2000 : Int32) ≤ nI t from nI_ge (b := 2000) (by omega) (by omega))]
      simp only [k1.rd3, Option.bind_some, k1.chk8 (show 56 < 70 by decide), k1.isZero (show 56 < 70 by decide), m2]
      by_cases hb : b = 0
      · rw [if_pos (show ((b : Nat) : Int) = 0 by omega), if_neg (by decide)]
        refine ⟨_, rfl, fun s' hs => by (cases hs), fun r hr => ?_⟩
        obtain rfl := Sum.inr.inj hr
        exact ⟨M1, k1, f1, by rw [m1, hend hb]⟩
      · rw [if_neg (show ¬ ((b : Nat) : Int) = 0 by omega), if_pos rfl]
        simp only [k1.rd0, Option.bind_some]
        obtain ⟨g2, e2, k2⟩ := k1.divideSizes (i := 55) (j := 56) (by decide) (by decide) (by decide) (by decide) (by decide) (by decide) (by rw [m2]; omega)
        rw [m1, m2, Int.natAbs_natCast, Int.natAbs_natCast] at k2
        rw [e2]
        simp only [k2.rd3, Option.bind_some, k2.chk8 (show 55 < 70 by decide)]
        obtain ⟨g3, e3, k3⟩ := k2.copy (k := 55) (i := 56) (by decide) (by decide)
        rw [e3]
        simp only [k3.rd3, k3.rd0, Option.bind_some, k3.chk8 (show 56 < 70 by decide)]
        obtain ⟨g4, e4, k4⟩ := k3.copy (k := 56) (i := 50) (by decide) (by decide)
        rw [e4]
        simp only [Option.bind_some]
        refine ⟨_, rfl, fun s' hs' => ?_, fun r hr => by (cases hr)⟩
        obtain rfl := Sum.inl.inj hs'
        refine ⟨by omega, by dsimp only; exact nI_1 t, _, b, a % b, k4, ?_, ?_, ?_, euB_s eu (by omega), ?_⟩
        · intro x h1 h2 h3 h4
          rw [va_un h4, va_un h3, va_un h2, va_un h1]
          exact f1 x h1 h2 h3 h4
        · rw [va_un (by decide), va_us, va_un (by decide), va_un (by decide)]
          exact m2
        · rw [va_us, va_un (by decide), va_us]
        · rw [← gg, Nat.gcd_comm, ← Nat.gcd_rec b a, Nat.gcd_comm])
  rw [hr]
  simp only [c5.rd3, Option.bind_some, c5.chk8 hk.1]
  obtain ⟨g6, e6, c6⟩ := c5.copy (k := k) (i := 55) hk (by decide)
  rw [e6]
  refine ⟨g6, _, rfl, c6, fun x h1 h2 h3 h4 h5 => by rw [va_un h5]; exact f5 x h1 h2 h3 h4, ?_⟩
  rw [va_us, v5]
end Euc
