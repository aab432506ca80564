/-! Powers: raiseBy, invert -/
theorem dlo2_0 {r y : Int} (h : ¬ r < 0) : dlo 2 r y = 0 := if_neg (by
  rintro (⟨a, -⟩ | ⟨-, a, -⟩)
  · exact absurd a (by decide)
  · exact h a)
theorem dlo2_1 {r y : Int} (h : r < 0) (hy : ¬ y < 0) : dlo 2 r y = 1 := if_pos (Or.inr ⟨rfl, h, hy⟩)
theorem dhi2_0 {r y : Int} (h : ¬ r < 0) : dhi 2 r y = 0 := if_neg (by
  rintro ⟨-, a, -⟩
  exact h a)
theorem dvR2 {x y : Int} (hy : 0 < y) : dvR 2 x y = x % y := by
  obtain ⟨Y, rfl⟩ := Int.eq_ofNat_of_zero_le (show 0 ≤ y by omega)
  have hY : 0 < Y := by omega
  unfold dvR
  by_cases hx : x < 0
  · obtain ⟨X, hX⟩ : ∃ X : Nat, x = -(X : Int) := ⟨x.natAbs, by omega⟩
    subst hX
    have hm := Nat.mod_lt X hY
    have hd := Nat.div_add_mod X Y
    have hs : rt (-(X : Int)) Y = -((X % Y : Nat) : Int) := by
      unfold rt
      rw [if_pos hx, Int.natAbs_neg, Int.natAbs_natCast, Int.natAbs_natCast]
      rfl
    rw [hs]
    by_cases h0 : X % Y = 0
    · rw [dlo2_0 (by omega), if_pos rfl, dhi2_0 (by omega), if_pos rfl, h0]
      rw [h0, Nat.add_zero] at hd
      have : -(X : Int) = (Y : Int) * -((X / Y : Nat) : Int) := by rw [Int.mul_neg, ← Int.natCast_mul, hd]
      rw [this, Int.mul_emod_right]
      rfl
    · rw [dlo2_1 (by omega) (by omega), if_neg (by decide)]
      have h1 : -(X : Int) = (-((X % Y : Nat) : Int) + Y) + (Y : Int) * (-((X / Y : Nat) : Int) - 1) := by
        rw [Int.mul_sub, Int.mul_neg, ← Int.natCast_mul, Int.mul_one]
        omega
      rw [h1, Int.add_mul_emod_self_left, Int.emod_eq_of_lt (by omega) (by omega)]
  · obtain ⟨X, rfl⟩ := Int.eq_ofNat_of_zero_le (show 0 ≤ x by omega)
    have hs : rt (X : Int) Y = ((X % Y : Nat) : Int) := by
      unfold rt
      rw [if_neg hx, Int.natAbs_natCast, Int.natAbs_natCast]
      rfl
    rw [hs, dlo2_0 (by omega), if_pos rfl, dhi2_0 (by omega), if_pos rfl, Int.natCast_emod]
theorem mm_congr {a b c e Y : Nat} (h1 : a % Y = b % Y) (h2 : c % Y = e % Y) : (a * c) % Y = (b * e) % Y := by rw [Nat.mul_mod, h1, h2, ← Nat.mul_mod]
def N_half (N k : Nat) : Prop := N / 2 ^ k = 2 * (N / 2 ^ (k + 1)) + N / 2 ^ k % 2
theorem N_half_all (N k : Nat) : N_half N k := by
  unfold N_half
  rw [Nat.pow_succ, ← Nat.div_div_eq_div_mul]
  omega
section Mdl
variable {B h : AH} {n : Nat} {d : DS} {M : Nat → Int} {i m : Nat}
theorem CW.multiplyLeft (c : CW B n d h M) (hi : i < 70) (i3 : i ≠ 53) (hm : m < 48) (xr : (M 52).natAbs < B32 ^ 12) (xa : (M i).natAbs < B32 ^ 12) (m0 : M m ≠ 0) :
    ∃ h' M', zs_X3_multiplyLeft h (n + 126) (aw n i) (aw n m) = some h' ∧ CW B n d h' M' ∧ (∀ j, j ≠ 49 → j ≠ 50 → j ≠ 52 → j ≠ 53 → M' j = M j) ∧ M' 52 = (((M 52).natAbs * (M i).natAbs % (M m).natAbs : Nat) : Int) := by
  unfold zs_X3_multiplyLeft
  simp only [c.rd3, Option.bind_some]
  obtain ⟨g1, e1, c1⟩ := c.product (i := 52) (j := i) (k := 53) (by decide) hi (by decide) (by decide) i3 xr xa (by decide)
  rw [e1]
  simp only [c1.rd3, c1.rd0, Option.bind_some]
  obtain ⟨g2, e2, c2⟩ := c1.divideSizes (i := 53) (j := m) (by decide) (by omega) (by decide) (by decide) (by omega) (by omega) (by rw [va_un (by omega)]; exact m0)
  rw [e2]
  rw [va_us, va_un (show m ≠ 53 by omega), Int.natAbs_mul] at c2
  simp only [c2.rd3, c2.rd0, Option.bind_some, c2.chk8 (show 52 < 70 by decide)]
  obtain ⟨g3, e3, c3⟩ := c2.copy (k := 52) (i := 50) (by decide) (by decide)
  rw [e3]
  rw [va_us] at c3
  refine ⟨g3, _, rfl, c3, fun j h1 h2 h3 h4 => ?_, va_us _ _ _⟩
  rw [va_un h3, va_un h2, va_un h1, va_un h4]
theorem CW.raiseBy (c : CW B n d h M) (hi : i < 48) (hm : m < 48) (xa : (M i).natAbs < B32 ^ 12) (xm : (M m).natAbs < B32 ^ 12) (m0 : 0 < M m) {E : Nat} (hE : E < 2 ^ 20) :
    ∃ h' M', zs_X3_raiseBy h (n + 126) (aw n i) (nI E) (aw n m) = some h' ∧ CW B n d h' M' ∧ (∀ j, j < 48 → M' j = M j) ∧ M' 52 = (M i % M m) ^ E % M m := by
  unfold zs_X3_raiseBy
  have hlt : B32 ^ 12 < B32 ^ 25 := by decide
  simp only [c.rd3, c.rd0, Option.bind_some]
  obtain ⟨g1, e1, c1⟩ := c.divide (i := i) (j := m) (by omega) (by omega) (by omega) (by omega) (by omega) (by omega) (by omega) (by omega) (by omega) 2
  rw [dvR2 m0] at c1
  rw [e1]
  simp only [c1.rd3, c1.rd0, Option.bind_some, c1.chk8 (show 54 < 70 by decide)]
  obtain ⟨g2, e2, c2⟩ := c1.copy (k := 54) (i := 50) (by decide) (by decide)
  rw [va_us] at c2
  rw [e2]
  simp only [c2.rd3, Option.bind_some, c2.chk8 (show 52 < 70 by decide)]
  obtain ⟨g3, e3, c3⟩ := c2.become (k := 52) (by decide) 1
  rw [e3]
  simp only [Option.bind_some]
  obtain ⟨Y, hY⟩ := Int.eq_ofNat_of_zero_le (show 0 ≤ M m by omega)
  obtain ⟨X, hX⟩ := Int.eq_ofNat_of_zero_le (Int.emod_nonneg (M i) (show M m ≠ 0 by omega))
  have hXl : X < Y := by
    have := Int.emod_lt_of_pos (M i) m0
    omega
  rw [hX] at c3 ⊢
  rw [hY] at xm ⊢
  rw [Int.natAbs_natCast] at xm
  obtain ⟨r, hr, M5, c5, f5, v5⟩ := iter_FU (B := fun q : AH × Int32 => zb_X3_raiseBy_36 (n + 126) (nI E) (aw n m) q.1 q.2)
    (fun t s => s.2 = nI (20 - t) - 1 ∧ ∃ (M' : Nat → Int) (R : Nat), CW B n d s.1 M' ∧ (∀ j, j < 48 → M' j = M j) ∧ M' 54 = (X : Int) ∧ M' 52 = (R : Int) ∧ R < B32 ^ 12 ∧ (0 < t → R < Y) ∧ R % Y = X ^ (E / 2 ^ (20 - t)) % Y)
    (fun r => ∃ (M' : Nat → Int), CW B n d r M' ∧ (∀ j, j < 48 → M' j = M j) ∧ M' 52 = ((X ^ E % Y : Nat) : Int))
    20 (by omega) (s := (g3, (19 : Int32))) ⟨by dsimp only; decide, _, 1, c3, fun j hj => by rw [va_un (by omega), va_un (by omega), va_un (by omega), va_un (by omega)], by rw [va_un (by decide), va_us], by rw [va_us]; rfl, by decide, fun z => by omega, by rw [Nat.sub_zero, Nat.div_eq_of_lt hE, Nat.pow_zero]⟩ (by
    rintro t ⟨g, w⟩ ht ⟨hw, M1, R, k1, f1, m1, m2, b1, b2, p1⟩
    dsimp only at hw k1 ⊢
    subst hw
    unfold zb_X3_raiseBy_36
    by_cases hz : 20 - t = 0
    · rw [hz] at p1 ⊢
      rw [if_pos (by decide)]
      refine ⟨_, rfl, fun s' hs => by (cases hs), fun r hr => ?_⟩
      obtain rfl := Sum.inr.inj hr
      rw [Nat.pow_zero, Nat.div_one] at p1
      exact ⟨M1, k1, f1, by rw [m2, ← p1, Nat.mod_eq_of_lt (b2 (by omega))]⟩
    · obtain ⟨k, hk⟩ : ∃ k, 20 - t = k + 1 := ⟨20 - t - 1, by omega⟩
      rw [hk] at p1 ⊢
      have hkt : 20 - (t + 1) = k := by omega
      rw [nI_pred k, if_neg (nI_pos (by omega))]
      simp only [k1.rd3, Option.bind_some]
      have mm : M1 m = (Y : Int) := (f1 m hm).trans hY
      have hY0 : 0 < Y := by omega
      obtain ⟨g2, M2, e2, k2, f2, v2⟩ := k1.multiplyLeft (i := 52) (by decide) (by decide) hm (by rw [m2, Int.natAbs_natCast]; exact b1) (by rw [m2, Int.natAbs_natCast]; exact b1) (by rw [mm]; omega)
      rw [m2, mm, Int.natAbs_natCast, Int.natAbs_natCast] at v2
      rw [e2]
      simp only [Option.bind_some]
      have hdd : N_half E k := N_half_all E k
      have h2l := Nat.mod_lt (R * R) hY0
      have h2m : (R * R % Y) % Y = X ^ (2 * (E / 2 ^ (k + 1))) % Y := by
        rw [Nat.mod_mod, mm_congr p1 p1, ← Nat.pow_add]
        congr 2
        omega
      have h54 : M2 54 = (X : Int) := (f2 54 (by decide) (by decide) (by decide) (by decide)).trans m1
      have f48 : ∀ j, j < 48 → M2 j = M j := fun j hj => (f2 j (by omega) (by omega) (by omega) (by omega)).trans (f1 j hj)
      by_cases hbit : E / 2 ^ k % 2 = 1
      · rw [if_pos ((bitI1 (by omega) (by omega)).mpr hbit)]
        simp only [k2.rd3, Option.bind_some]
        obtain ⟨g3, M3, e3, k3, f3, v3⟩ := k2.multiplyLeft (i := 54) (by decide) (by decide) hm (by rw [v2, Int.natAbs_natCast]; omega) (by rw [h54, Int.natAbs_natCast]; omega) (by rw [f48 m hm, hY]; omega)
        rw [v2, h54, f48 m hm, hY, Int.natAbs_natCast, Int.natAbs_natCast, Int.natAbs_natCast] at v3
        rw [e3]
        simp only [Option.bind_some]
        refine ⟨_, rfl, fun s' hs' => ?_, fun r hr => by (cases hr)⟩
        obtain rfl := Sum.inl.inj hs'
        have h3l := Nat.mod_lt (R * R % Y * X) hY0
        refine ⟨by omega, by dsimp only; rw [hkt, Int32.sub_eq_add_neg], M3, _, k3, fun j hj => (f3 j (by omega) (by omega) (by omega) (by omega)).trans (f48 j hj), (f3 54 (by decide) (by decide) (by decide) (by decide)).trans h54, v3, by omega, fun _ => h3l, ?_⟩
        rw [hkt, Nat.mod_mod, mm_congr h2m (rfl : X % Y = X % Y), ← Nat.pow_succ]
        congr 2
        unfold N_half at hdd
        omega
      · rw [if_neg (fun z => hbit ((bitI1 (by omega) (by omega)).mp z))]
        refine ⟨_, rfl, fun s' hs' => ?_, fun r hr => by (cases hr)⟩
        obtain rfl := Sum.inl.inj hs'
        refine ⟨by omega, by dsimp only; rw [hkt, Int32.sub_eq_add_neg], M2, _, k2, f48, h54, v2, by omega, fun _ => h2l, ?_⟩
        rw [hkt, h2m]
        congr 2
        unfold N_half at hdd
        have : E / 2 ^ k % 2 < 2 := Nat.mod_lt _ (by decide)
        omega)
  rw [hr]
  exact ⟨r, M5, rfl, c5, f5, by rw [v5, Int.natCast_emod, Int.natCast_pow]⟩
end Mdl
