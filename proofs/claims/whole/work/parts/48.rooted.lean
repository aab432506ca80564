/-! Powers: extract -/
/-- R is the whole part of the N-th root of a -/
def isRoot (a : Int) (N : Nat) (R : Int) : Prop := 0 ≤ R ∧ R ^ N ≤ a ∧ a < (R + 1) ^ N
theorem ipow_mono {x y : Int} (h0 : 0 ≤ x) (h : x ≤ y) (N : Nat) : x ^ N ≤ y ^ N := by
  obtain ⟨a, rfl⟩ := Int.eq_ofNat_of_zero_le h0
  obtain ⟨b, rfl⟩ := Int.eq_ofNat_of_zero_le (Int.le_trans h0 h)
  have h1 : a ≤ b := Int.ofNat_le.mp h
  have h2 := Nat.pow_le_pow_left h1 N
  rw [← Int.natCast_pow, ← Int.natCast_pow]
  exact Int.ofNat_le.mpr h2
theorem isRoot_uniq {a R S : Int} {N : Nat} (h1 : isRoot a N R) (h2 : isRoot a N S) : R = S := by
  rcases Int.lt_trichotomy R S with h | h | h
  · exfalso
    have := ipow_mono (x := R + 1) (y := S) (by have := h1.1; omega) (by omega) N
    have := h1.2.2
    have := h2.2.1
    omega
  · exact h
  · exfalso
    have := ipow_mono (x := S + 1) (y := R) (by have := h2.1; omega) (by omega) N
    have := h2.2.2
    have := h1.2.1
    omega
theorem root_small {R a N : Nat} (hN : 2 ≤ N) (h : R ^ N ≤ a) (ha : a < B32 ^ 12) : R < 2 ^ 192 := by
  rcases Nat.lt_or_ge R (2 ^ 192) with h1 | h1
  · exact h1
  · exfalso
    have h2 : (2 ^ 192) ^ N ≤ R ^ N := Nat.pow_le_pow_left h1 N
    have h3 : (2 ^ 192) ^ 2 ≤ (2 ^ 192) ^ N := Nat.pow_le_pow_right (Nat.two_pow_pos _) hN
    have h4 : B32 ^ 12 = (2 ^ 192) ^ 2 := by decide
    omega
section Ext
variable {B h : AH} {n : Nat} {d : DS} {M : Nat → Int} {i : Nat}
theorem CW.extract (c : CW B n d h M) (hi : i < 24) (a0 : 0 ≤ M i) (xa : (M i).natAbs < B32 ^ 12) {N : Nat} (hN : 2 ≤ N) (hN9 : N ≤ 9) :
    ∃ h' M' R, zs_X3_extract h (n + 126) (aw n i) (nI N) (aw n 68) = some (if R ^ N = M i then 1 else 0, h') ∧ CW B n d h' M' ∧ (∀ j, j < 48 → M' j = M j) ∧ M' 68 = R ∧ isRoot (M i) N R := by
  unfold zs_X3_extract
  simp only [c.chk8 (show 68 < 70 by decide), Option.bind_some]
  obtain ⟨g1, e1, c1⟩ := c.become (k := 68) (by decide) 0
  rw [e1]
  have hi70 : i < 70 := by omega
  simp only [Option.bind_some]
  rw [if_pos (show (1 : Int32) ≤ nI N from nI_le (a := 1) (by omega) (by omega)), c1.chk8 hi70, c1.isZero hi70, c1.sizeBits hi70, va_un (show i ≠ 68 by omega)]
  simp only [Option.bind_some]
  have hnz : nz (nI N) = some () := by unfold nz; rw [if_neg (nI_ne0 (by omega) (by omega))]
  obtain ⟨A, hA⟩ := Int.eq_ofNat_of_zero_le a0
  rw [hA, Int.natAbs_natCast] at xa
  have hbl : bl A ≤ 384 := bl_le (n := 384) (by rw [B32_two] at xa; exact xa)
  rw [hnz, hA, Int.natAbs_natCast, pk_div (by omega) (by omega) (by omega)]
  simp only [Option.bind_some, lt_]
  have hAl := bl_lt A
  generalize hb : bl A = b at hbl hAl ⊢
  have hK : b / N ≤ 192 := by
    have h1 : b / N ≤ b / 2 := Nat.div_le_div_left hN (by decide)
    omega
  have hbN : b < N * (b / N + 1) := by rw [Nat.mul_add, Nat.mul_one]; have := Nat.div_add_mod b N; have := Nat.mod_lt b (show 0 < N by omega); omega
  generalize b / N = K at hK hbN ⊢
  have hA0 : A < (2 ^ (K + 1)) ^ N := by
    rw [← Nat.pow_mul, Nat.mul_comm]
    exact Nat.lt_of_lt_of_le hAl (Nat.pow_le_pow_right (by decide) (by omega))
  obtain ⟨r, hr, R, M', hZ⟩ := iter_FU (B := fun q : AH × Int32 × Int32 => zb_X3_extract_26 (n + 126) (aw n i) (nI N) (aw n 68) q.1 q.2.1 q.2.2)
    (fun t s => s.2.2 = nI (K + 1 - t) - 1 ∧ ∃ (M' : Nat → Int) (R m : Nat), CW B n d s.1 M' ∧ (∀ j, j < 48 → M' j = M j) ∧ M' 68 = (R : Int) ∧ R = m * 2 ^ (K + 1 - t) ∧ R ^ N ≤ A ∧ A < (R + 2 ^ (K + 1 - t)) ^ N ∧ s.2.1 = (if R ^ N = A then 1 else 0))
    (fun r => ∃ (R : Nat) (M' : Nat → Int), CW B n d r.1 M' ∧ (∀ j, j < 48 → M' j = M j) ∧ M' 68 = (R : Int) ∧ R ^ N ≤ A ∧ A < (R + 1) ^ N ∧ r.2 = (if R ^ N = A then 1 else 0))
    (K + 1) (by omega) (s := (g1, (if (A : Int) = 0 then 1 else 0), nI K)) ⟨by rw [Nat.sub_zero]; exact (nI_pred K).symm, _, 0, 0, c1, fun j hj => va_un (by omega), by rw [va_us]; rfl, by rw [Nat.zero_mul], by rw [Nat.zero_pow (by omega)]; omega, by rw [Nat.zero_add, Nat.sub_zero]; exact hA0, by
      dsimp only
      rw [Nat.zero_pow (by omega)]
      by_cases hz : A = 0
      · rw [if_pos (by omega), if_pos hz.symm]
      · rw [if_neg (by omega), if_neg (fun z => hz z.symm)]⟩ (by
    rintro t ⟨g, w4, w5⟩ ht ⟨hw, M1, R, m, k1, f1, m1, hm, p1, p2, p3⟩
    dsimp only at hw k1 p3 ⊢
    subst hw p3
    unfold zb_X3_extract_26
    by_cases hz : K + 1 - t = 0
    · rw [hz] at p2 hm ⊢
      rw [if_pos (by decide)]
      refine ⟨_, rfl, fun s' hs => by (cases hs), fun r hr => ?_⟩
      obtain rfl := Sum.inr.inj hr
      exact ⟨R, M1, k1, f1, m1, p1, p2, rfl⟩
    · obtain ⟨k, hk⟩ : ∃ k, K + 1 - t = k + 1 := ⟨K + 1 - t - 1, by omega⟩
      rw [hk] at p2 hm ⊢
      have hkt : K + 1 - (t + 1) = k := by omega
      rw [nI_pred k, if_neg (nI_pos (by omega))]
      simp only [k1.rd3, Option.bind_some, k1.chk8 (show 54 < 70 by decide)]
      obtain ⟨g2, e2, k2⟩ := k1.copy (k := 54) (i := 68) (by decide) (by decide)
      rw [e2]
      rw [m1] at k2
      simp only [k2.rd3, Option.bind_some, k2.chk8 (show 54 < 70 by decide)]
      obtain ⟨g3, e3, k3⟩ := k2.raiseBit (k := 54) (K := k) (t := m) (by decide) (by omega) (by rw [va_us]; omega) (by rw [va_us, Int.natAbs_natCast]; exact hm)
      rw [va_us, Int.natAbs_natCast, va_uu] at k3
      rw [e3]
      simp only [k3.rd3, Option.bind_some]
      have hR : R < 2 ^ 192 := root_small hN p1 xa
      have hk2 : 2 ^ k ≤ 2 ^ 192 := Nat.pow_le_pow_right (by decide) (by omega)
      have hbs : R + 2 ^ k < B32 ^ 12 := by
        have : 2 ^ 192 + 2 ^ 192 < B32 ^ 12 := by decide
        omega
      obtain ⟨g4, M4, r4, e4, k4, f4, h4⟩ := k3.raise (i := 54) (by decide) (by decide) (by decide) (by rw [va_us, Int.natAbs_natCast]; exact hbs) (N := N) (by omega)
      rw [va_us] at h4
      rw [e4]
      simp only [Option.bind_some]
      have hcp : (((R + 2 ^ k : Nat) : Int) ^ N).natAbs = (R + 2 ^ k) ^ N := by rw [Int.natAbs_pow, Int.natAbs_natCast]
      rw [hcp] at h4
      have m4 : ∀ j, j < 48 → M4 j = M j := fun j hj => by rw [f4 j (by omega) (by omega), va_un (by omega)]; exact f1 j hj
      have h68 : M4 68 = (R : Int) := by rw [f4 68 (by decide) (by decide), va_un (by decide)]; exact m1
      have h54 : M4 54 = ((R + 2 ^ k : Nat) : Int) := by rw [f4 54 (by decide) (by decide), va_us]
      have hRm : R = 2 * m * 2 ^ k := by rw [hm, Nat.pow_succ, Nat.mul_comm 2 m, Nat.mul_assoc m 2, Nat.mul_comm 2]
      rcases h4 with ⟨rfl, q1, q2⟩ | ⟨rfl, q1⟩
      · rw [if_neg (by decide)]
        simp only [k4.rd3, Option.bind_some]
        rw [k4.orderSizes (by decide) hi70, m4 i (by omega), hA, q1, hcp, Int.natAbs_natCast]
        simp only [Option.bind_some]
        rcases Nat.lt_trichotomy ((R + 2 ^ k) ^ N) A with hlt | heq | hgt
        · rw [cmpI_lt hlt, if_neg (by decide), k4.chk8 (by decide)]
          simp only [Option.bind_some]
          obtain ⟨g5, e5, k5⟩ := k4.copy (k := 68) (i := 54) (by decide) (by decide)
          rw [e5]
          rw [h54] at k5
          simp only [k5.rd3, Option.bind_some]
          rw [k5.orderSizes (by decide) hi70, va_un (show 52 ≠ 68 by decide), va_un (show i ≠ 68 by omega), m4 i (by omega), hA, q1, hcp, Int.natAbs_natCast, cmpI_lt hlt]
          simp only [Option.bind_some]
          rw [if_neg (by decide)]
          refine ⟨_, rfl, fun s' hs' => ?_, fun r hr => by (cases hr)⟩
          obtain rfl := Sum.inl.inj hs'
          refine ⟨by omega, by dsimp only; rw [hkt, Int32.sub_eq_add_neg], _, R + 2 ^ k, 2 * m + 1, k5, fun j hj => by rw [va_un (by omega)]; exact m4 j hj, by rw [va_us], ?_, by omega, ?_, ?_⟩
          · rw [hkt, Nat.add_mul, Nat.one_mul, ← hRm]
          · rw [hkt]
            rw [Nat.pow_succ] at p2
            rw [show R + 2 ^ k + 2 ^ k = R + 2 ^ k * 2 by omega]
            exact p2
          · dsimp only; rw [if_neg (by omega)]
        · rw [cmpI_eq heq, if_neg (by decide), k4.chk8 (by decide)]
          simp only [Option.bind_some]
          obtain ⟨g5, e5, k5⟩ := k4.copy (k := 68) (i := 54) (by decide) (by decide)
          rw [e5]
          rw [h54] at k5
          simp only [k5.rd3, Option.bind_some]
          rw [k5.orderSizes (by decide) hi70, va_un (show 52 ≠ 68 by decide), va_un (show i ≠ 68 by omega), m4 i (by omega), hA, q1, hcp, Int.natAbs_natCast, cmpI_eq heq]
          simp only [Option.bind_some]
          rw [if_pos trivial]
          refine ⟨_, rfl, fun s' hs' => ?_, fun r hr => by (cases hr)⟩
          obtain rfl := Sum.inl.inj hs'
          refine ⟨by omega, by dsimp only; rw [hkt, Int32.sub_eq_add_neg], _, R + 2 ^ k, 2 * m + 1, k5, fun j hj => by rw [va_un (by omega)]; exact m4 j hj, by rw [va_us], ?_, by omega, ?_, ?_⟩
          · rw [hkt, Nat.add_mul, Nat.one_mul, ← hRm]
          · rw [hkt]
            rw [Nat.pow_succ] at p2
            rw [show R + 2 ^ k + 2 ^ k = R + 2 ^ k * 2 by omega]
            exact p2
          · dsimp only; rw [if_pos heq]
        · rw [cmpI_gt hgt, if_pos (by decide)]
          refine ⟨_, rfl, fun s' hs' => ?_, fun r hr => by (cases hr)⟩
          obtain rfl := Sum.inl.inj hs'
          refine ⟨by omega, by dsimp only; rw [hkt, Int32.sub_eq_add_neg], _, R, 2 * m, k4, m4, h68, by rw [hkt]; exact hRm, p1, by rw [hkt]; exact hgt, rfl⟩
      · rw [if_pos rfl]
        refine ⟨_, rfl, fun s' hs' => ?_, fun r hr => by (cases hr)⟩
        obtain rfl := Sum.inl.inj hs'
        refine ⟨by omega, by dsimp only; rw [hkt, Int32.sub_eq_add_neg], _, R, 2 * m, k4, m4, h68, by rw [hkt]; exact hRm, p1, by rw [hkt]; omega, rfl⟩)
  rw [hr]
  simp only [Option.bind_some]
  obtain ⟨k1, f1, m1, p1, p2, p3⟩ := hZ
  have hzk : zk r.2 = some () := by
    rw [p3]
    unfold zk
    split
    · rfl
    · rfl
  rw [hzk, p3]
  simp only [Option.bind_some]
  refine ⟨r.1, M', (R : Int), ?_, k1, f1, m1, by omega, ?_, ?_⟩
  · by_cases hz : R ^ N = A
    · rw [if_pos hz, if_pos (by rw [← Int.natCast_pow, hz])]
    · rw [if_neg hz, if_neg (fun z => hz (by rw [← Int.natCast_pow] at z; exact Int.ofNat.inj z))]
  · rw [← Int.natCast_pow]; exact Int.ofNat_le.mpr p1
  · rw [show (R : Int) + 1 = ((R + 1 : Nat) : Int) from rfl, ← Int.natCast_pow]; exact Int.ofNat_lt.mpr p2
end Ext
