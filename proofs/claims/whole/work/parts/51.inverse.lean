/-! Powers: invert -/
def isInv (a m R : Int) : Prop := 0 ≤ R ∧ R < m ∧ (R * a) % m = 1 % m
theorem isInv_uniq {a m R S : Int} (h1 : isInv a m R) (h2 : isInv a m S) : R = S := by
  have e1 : (R * (S * a)) % m = R := by
    rw [Int.mul_emod, h2.2.2, ← Int.mul_emod, Int.mul_one, Int.emod_eq_of_lt h1.1 h1.2.1]
  have e2 : (S * (R * a)) % m = S := by
    rw [Int.mul_emod, h1.2.2, ← Int.mul_emod, Int.mul_one, Int.emod_eq_of_lt h2.1 h2.2.1]
  have e3 : R * (S * a) = S * (R * a) := by rw [← Int.mul_assoc, ← Int.mul_assoc, Int.mul_comm R S]
  rw [e3] at e1
  exact e1.symm.trans e2
/-- where the extended way of Euclid stands: first a, second b, their shares s and u -/
def exE (A : Int) (Y a b : Nat) (s u : Int) : Prop := 0 < a ∧ a ≤ Y ∧ s.natAbs ≤ Y ∧ u.natAbs ≤ Y ∧ (∃ S U : Nat, S * b + U * a = Y ∧ ((s = -(S : Int) ∧ u = U) ∨ (s = S ∧ u = -(U : Int)))) ∧ (∃ p : Int, (a : Int) = s * A + p * Y) ∧ (∃ p : Int, (b : Int) = u * A + p * Y)
theorem exE_0 {A : Int} {Y X : Nat} (hY : 0 < Y) (hX : A % Y = (X : Int)) : exE A Y Y X 0 1 := by
  refine ⟨hY, Nat.le_refl _, by omega, by omega, ⟨0, 1, by omega, Or.inl ⟨rfl, rfl⟩⟩, ⟨1, by omega⟩, ⟨-(A / Y), ?_⟩⟩
  have := Int.mul_ediv_add_emod A Y
  rw [Int.neg_mul, Int.mul_comm (A / Y)]
  omega
theorem exE_s {A : Int} {Y a b : Nat} {s u : Int} (h : exE A Y a b s u) (hb : 0 < b) (hba : b ≤ Y) : exE A Y b (a % b) u (s - ((a / b : Nat) : Int) * u) := by
  obtain ⟨h1, h2, h3, h4, ⟨S, U, h5, h6⟩, ⟨p, h7⟩, ⟨p', h8⟩⟩ := h
  have hd := Nat.div_add_mod a b
  have hq : S * b + U * a = U * (a % b) + (S + a / b * U) * b := by
    have e1 : U * a = U * (b * (a / b)) + U * (a % b) := by rw [← Nat.mul_add, hd]
    have e2 : (S + a / b * U) * b = S * b + U * (b * (a / b)) := by
      rw [Nat.add_mul, Nat.mul_comm (a / b) U, Nat.mul_assoc, Nat.mul_comm (a / b) b]
    omega
  have hU : S + a / b * U ≤ Y := by
    have : (S + a / b * U) * 1 ≤ (S + a / b * U) * b := Nat.mul_le_mul_left _ hb
    omega
  refine ⟨hb, hba, h4, ?_, ⟨U, S + a / b * U, by omega, ?_⟩, ⟨p', h8⟩, ⟨p - ((a / b : Nat) : Int) * p', ?_⟩⟩
  · rcases h6 with ⟨rfl, rfl⟩ | ⟨rfl, rfl⟩
    · rw [← Int.natCast_mul]; omega
    · rw [Int.mul_neg, ← Int.natCast_mul]; omega
  · rcases h6 with ⟨rfl, rfl⟩ | ⟨rfl, rfl⟩
    · right
      refine ⟨rfl, ?_⟩
      rw [← Int.natCast_mul]; omega
    · left
      refine ⟨rfl, ?_⟩
      rw [Int.mul_neg, ← Int.natCast_mul]; omega
  · have e1 : ((a % b : Nat) : Int) = (a : Int) - ((a / b : Nat) : Int) * (b : Int) := by
      have : ((b * (a / b) + a % b : Nat) : Int) = (a : Int) := congrArg Nat.cast hd
      rw [Int.natCast_add, Int.natCast_mul, Int.mul_comm] at this
      omega
    rw [e1, h7, h8, Int.sub_mul, Int.sub_mul, Int.mul_add, Int.mul_assoc, Int.mul_assoc]
    omega
theorem exE_end {A : Int} {Y b : Nat} {s u : Int} (h : exE A Y 1 b s u) : isInv A Y (s % Y) := by
  obtain ⟨-, h2, -, -, -, ⟨p, h7⟩, -⟩ := h
  refine ⟨Int.emod_nonneg _ (by omega), Int.emod_lt_of_pos _ (by omega), ?_⟩
  rw [Int.mul_emod, Int.emod_emod, ← Int.mul_emod]
  have e : (1 : Int) = s * A + Y * p := by rw [Int.mul_comm (Y : Int) p]; exact h7
  rw [e, Int.add_mul_emod_self_left]
section Ivt
variable {B h : AH} {n : Nat} {d : DS} {M : Nat → Int} {i m : Nat}
theorem CW.invert (c : CW B n d h M) (hi : i < 48) (hm : m < 48) (xa : (M i).natAbs < B32 ^ 12) (xm : (M m).natAbs < B32 ^ 12) (m0 : 0 < M m) :
    ∃ h' M' r, zs_X3_invert h (n + 126) (aw n i) (aw n m) = some (r, h') ∧ CW B n d h' M' ∧ (∀ j, j < 48 → M' j = M j) ∧ ((r = 1 ∧ Nat.gcd (M m).natAbs (M i % M m).natAbs = 1 ∧ isInv (M i) (M m) (M' 52)) ∨ (r = 0 ∧ Nat.gcd (M m).natAbs (M i % M m).natAbs ≠ 1)) := by
  unfold zs_X3_invert
  have hlt : B32 ^ 12 < B32 ^ 25 := by decide
  have hlt6 : B32 ^ 12 < B32 ^ 26 := by decide
  simp only [c.rd3, c.rd0, Option.bind_some]
  obtain ⟨g1, e1, c1⟩ := c.divide (i := i) (j := m) (by omega) (by omega) (by omega) (by omega) (by omega) (by omega) (by omega) (by omega) (by omega) 2
  rw [dvR2 m0] at c1
  rw [e1]
  simp only [c1.rd3, c1.rd0, Option.bind_some, c1.chk8 (show 55 < 70 by decide)]
  obtain ⟨g2, e2, c2⟩ := c1.copy (k := 55) (i := m) (by decide) (by omega)
  rw [va_un (show m ≠ 50 by omega), va_un (show m ≠ 49 by omega)] at c2
  rw [e2]
  simp only [c2.rd3, c2.rd0, Option.bind_some, c2.chk8 (show 56 < 70 by decide)]
  obtain ⟨g3, e3, c3⟩ := c2.copy (k := 56) (i := 50) (by decide) (by decide)
  rw [va_un (show 50 ≠ 55 by decide), va_us] at c3
  rw [e3]
  simp only [c3.rd3, Option.bind_some, c3.chk8 (show 57 < 70 by decide)]
  obtain ⟨g4, e4, c4⟩ := c3.become (k := 57) (by decide) 0
  rw [e4]
  simp only [c4.rd3, Option.bind_some, c4.chk8 (show 58 < 70 by decide)]
  obtain ⟨g5, e5, c5⟩ := c4.become (k := 58) (by decide) 1
  rw [e5]
  simp only [Option.bind_some]
  obtain ⟨Y, hY⟩ := Int.eq_ofNat_of_zero_le (show 0 ≤ M m by omega)
  obtain ⟨X, hX⟩ := Int.eq_ofNat_of_zero_le (Int.emod_nonneg (M i) (show M m ≠ 0 by omega))
  have hXl : X < Y := by
    have := Int.emod_lt_of_pos (M i) m0
    omega
  have hXY : M i % (Y : Int) = (X : Int) := by rw [← hY]; exact hX
  rw [hX, Int.natAbs_natCast]
  rw [hX] at c5
  rw [hY, Int.natAbs_natCast] at xm ⊢
  rw [hY] at c5
  have hY0 : 0 < Y := by omega
  generalize hAm : M i = A at hXY xa
  obtain ⟨r, hr, M6, s, u, a, c6, f6, m55, m57, x6, g6⟩ := iter_FU (B := fun q : AH × Int32 => zb_X3_invert_50 (n + 126) (aw n m) q.1 q.2)
    (fun t z => z.2 = nI t ∧ ∃ (M' : Nat → Int) (a b : Nat) (s u : Int), CW B n d z.1 M' ∧ (∀ j, j < 48 → M' j = M j) ∧ M' 55 = (a : Int) ∧ M' 56 = (b : Int) ∧ M' 57 = s ∧ M' 58 = u ∧ b < Y ∧ euB t a b ∧ Nat.gcd a b = Nat.gcd Y X ∧ exE A Y a b s u)
    (fun r => ∃ (M' : Nat → Int) (s u : Int) (a : Nat), CW B n d r M' ∧ (∀ j, j < 48 → M' j = M j) ∧ M' 55 = (a : Int) ∧ M' 57 = s ∧ exE A Y a 0 s u ∧ a = Nat.gcd Y X)
    2000 (by omega) (s := (g5, (0 : Int32))) ⟨rfl, _, Y, X, 0, 1, c5, fun j hj => by rw [va_un (by omega), va_un (by omega), va_un (by omega), va_un (by omega), va_un (by omega), va_un (by omega)], by rw [va_un (by decide), va_un (by decide), va_un (by decide), va_us], by rw [va_un (by decide), va_un (by decide), va_us], by rw [va_un (by decide), va_us]; rfl, by rw [va_us]; rfl, hXl, Or.inl ⟨rfl, by omega, by omega⟩, rfl, exE_0 hY0 hXY⟩ (by
    rintro t ⟨g, w⟩ ht ⟨hw, M1, a, b, s, u, k1, f1, m1, m2, m3, m4, hbY, eu, gg, ex⟩
    dsimp only at hw k1 ⊢
    subst hw
    unfold zb_X3_invert_50
    have hend : b = 0 → ∃ (M' : Nat → Int) (s u : Int) (a : Nat), CW B n d g M' ∧ (∀ j, j < 48 → M' j = M j) ∧ M' 55 = (a : Int) ∧ M' 57 = s ∧ exE A Y a 0 s u ∧ a = Nat.gcd Y X := fun hb => by
      subst hb
      exact ⟨M1, s, u, a, k1, f1, m1, m3, ex, by rw [← gg, Nat.gcd_zero_right]⟩
    by_cases h2 : t = 2000
    · rw [if_pos (show (2000 : Int32) ≤ nI t from nI_le (a := 2000) (by omega) (by omega))]
      refine ⟨_, rfl, fun s' hs => by (cases hs), fun r hr => ?_⟩
      obtain rfl := Sum.inr.inj hr
      exact hend (euB_e eu (by omega))
    · rw [if_neg (show ¬ (2000 : Int32) ≤ nI t from nI_ge (b := 2000) (by omega) (by omega))]
      simp only [k1.rd3, Option.bind_some, k1.chk8 (show 56 < 70 by decide), k1.isZero (show 56 < 70 by decide), m2]
      by_cases hb : b = 0
      · rw [if_pos (show ((b : Nat) : Int) = 0 by omega), if_neg (by decide)]
        refine ⟨_, rfl, fun s' hs => by (cases hs), fun r hr => ?_⟩
        obtain rfl := Sum.inr.inj hr
        exact hend hb
      · rw [if_neg (show ¬ ((b : Nat) : Int) = 0 by omega), if_pos rfl]
        simp only [k1.rd0, Option.bind_some]
        obtain ⟨g2, e2, k2⟩ := k1.divideSizes (i := 55) (j := 56) (by decide) (by decide) (by decide) (by decide) (by decide) (by decide) (by rw [m2]; omega)
        rw [m1, m2, Int.natAbs_natCast, Int.natAbs_natCast] at k2
        rw [e2]
        simp only [k2.rd3, k2.rd0, Option.bind_some]
        have hq : a / b ≤ a := Nat.div_le_self _ _
        have ha := ex.2.1
        have hs := ex.2.2.1
        have hu := ex.2.2.2.1
        obtain ⟨g3, e3, k3⟩ := k2.product (i := 49) (j := 58) (k := 53) (na := 12) (nb := 12) (by decide) (by decide) (by decide) (by decide) (by decide) (by rw [va_un (by decide), va_us, Int.natAbs_natCast]; omega) (by rw [va_un (by decide), va_un (by decide), m4]; omega) (by decide)
        rw [va_un (show 49 ≠ 50 by decide), va_us, va_un (show 58 ≠ 50 by decide), va_un (show 58 ≠ 49 by decide), m4] at k3
        rw [e3]
        simp only [k3.rd3, Option.bind_some]
        obtain ⟨g4, e4, k4⟩ := k3.difference (i := 57) (j := 53) (k := 53) (by decide) (by decide) (by decide) (by rw [va_un (by decide), va_un (by decide), va_un (by decide), m3]; omega) (by
          rw [va_us, Int.natAbs_mul, Int.natAbs_natCast]
          have h5 : a / b * u.natAbs ≤ Y * Y := Nat.mul_le_mul (by omega) hu
          have h6 : Y * Y < B32 ^ 12 * B32 ^ 12 := Nat.mul_lt_mul_of_lt_of_lt xm xm
          have h7 : B32 ^ 12 * B32 ^ 12 < B32 ^ 25 := by decide
          omega)
        rw [va_us, va_un (show 57 ≠ 53 by decide), va_un (show 57 ≠ 50 by decide), va_un (show 57 ≠ 49 by decide), m3, va_uu] at k4
        rw [e4]
        simp only [k4.rd3, Option.bind_some, k4.chk8 (show 57 < 70 by decide)]
        obtain ⟨g5, e5, k5⟩ := k4.copy (k := 57) (i := 58) (by decide) (by decide)
        rw [va_un (show 58 ≠ 53 by decide), va_un (show 58 ≠ 50 by decide), va_un (show 58 ≠ 49 by decide), m4] at k5
        rw [e5]
        simp only [k5.rd3, Option.bind_some, k5.chk8 (show 58 < 70 by decide)]
        obtain ⟨g6, e6, k6⟩ := k5.copy (k := 58) (i := 53) (by decide) (by decide)
        rw [va_un (show 53 ≠ 57 by decide), va_us] at k6
        rw [e6]
        simp only [k6.rd3, Option.bind_some, k6.chk8 (show 55 < 70 by decide)]
        obtain ⟨g7, e7, k7⟩ := k6.copy (k := 55) (i := 56) (by decide) (by decide)
        rw [va_un (show 56 ≠ 58 by decide), va_un (show 56 ≠ 57 by decide), va_un (show 56 ≠ 53 by decide), va_un (show 56 ≠ 50 by decide), va_un (show 56 ≠ 49 by decide), m2] at k7
        rw [e7]
        simp only [k7.rd3, k7.rd0, Option.bind_some, k7.chk8 (show 56 < 70 by decide)]
        obtain ⟨g8, e8, k8⟩ := k7.copy (k := 56) (i := 50) (by decide) (by decide)
        rw [va_un (show 50 ≠ 55 by decide), va_un (show 50 ≠ 58 by decide), va_un (show 50 ≠ 57 by decide), va_un (show 50 ≠ 53 by decide), va_us] at k8
        rw [e8]
        simp only [Option.bind_some]
        refine ⟨_, rfl, fun s' hs' => ?_, fun r hr => by (cases hr)⟩
        obtain rfl := Sum.inl.inj hs'
        have hml := Nat.mod_lt a (show 0 < b by omega)
        refine ⟨by omega, by dsimp only; exact nI_1 t, _, b, a % b, u, _, k8, ?_, ?_, va_us _ _ _, ?_, ?_, by omega, euB_s eu (by omega), ?_, exE_s ex (by omega) (by omega)⟩
        · intro x hx
          rw [va_un (by omega), va_un (by omega), va_un (by omega), va_un (by omega), va_un (by omega), va_un (by omega), va_un (by omega)]
          exact f1 x hx
        · rw [va_un (by decide), va_us]
        · rw [va_un (by decide), va_un (by decide), va_un (by decide), va_us]
        · rw [va_un (by decide), va_un (by decide), va_us]
        · rw [← gg, Nat.gcd_comm, ← Nat.gcd_rec b a, Nat.gcd_comm])
  rw [hr]
  simp only [c6.rd3, c6.rd0, Option.bind_some, c6.chk8 (show 55 < 70 by decide), c6.isOne (show 55 < 70 by decide), m55]
  by_cases h1 : a = 1
  · rw [if_pos (show ((a : Nat) : Int) = 1 by omega), if_neg (by decide)]
    subst h1
    have hmm : M6 m = (Y : Int) := (f6 m hm).trans hY
    have hs := x6.2.2.1
    obtain ⟨g7, e7, c7⟩ := c6.divide (i := 57) (j := m) (by decide) (by omega) (by decide) (by decide) (by omega) (by omega) (by rw [hmm]; omega) (by rw [m57]; omega) (by rw [hmm, Int.natAbs_natCast]; omega) 2
    rw [dvR2 (by rw [hmm]; omega), hmm, m57] at c7
    rw [e7]
    simp only [c7.rd3, c7.rd0, Option.bind_some, c7.chk8 (show 52 < 70 by decide)]
    obtain ⟨g8, e8, c8⟩ := c7.copy (k := 52) (i := 50) (by decide) (by decide)
    rw [va_us] at c8
    rw [e8]
    refine ⟨g8, _, 1, rfl, c8, fun j hj => ?_, Or.inl ⟨rfl, g6.symm, ?_⟩⟩
    · rw [va_un (by omega), va_un (by omega), va_un (by omega)]; exact f6 j hj
    · rw [va_us]
      exact exE_end x6
  · rw [if_neg (show ¬ ((a : Nat) : Int) = 1 by omega), if_pos rfl]
    exact ⟨r, M6, 0, rfl, c6, f6, Or.inr ⟨rfl, by rw [← g6]; exact h1⟩⟩
end Ivt
