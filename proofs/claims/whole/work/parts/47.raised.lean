/-! Powers: raise, extract -/
theorem bitI {N k : Nat} (hN : N < 2 ^ 31) (hk : k < 32) : (nI N >>> (nI k &&& 31)) &&& (1 : Int32) = nI (N / 2 ^ k % 2) := by
  rw [pk_shrN hN _ k (s_l k hk), pk_andN (by have := Nat.div_le_self N (2 ^ k); omega) 1 (by decide), Nat.pow_one]
theorem bitI1 {N k : Nat} (hN : N < 2 ^ 31) (hk : k < 32) : ((nI N >>> (nI k &&& 31)) &&& (1 : Int32) = (1 : Int32)) ↔ N / 2 ^ k % 2 = 1 := by
  rw [bitI hN hk]
  have h1 : N / 2 ^ k % 2 < 2 := Nat.mod_lt _ (by decide)
  exact nI_eq (b := 1) (by omega) (by decide)
theorem C12 : 2 ≤ B32 ^ 12 := by decide
theorem pow_big {a e N : Nat} (he : e ≤ N) (h : B32 ^ 12 ≤ a ^ e) : B32 ^ 12 ≤ a ^ N := by
  rcases Nat.lt_or_ge a 2 with h2 | h2
  · exfalso
    have h3 : a ^ e ≤ 1 ^ e := Nat.pow_le_pow_left (by omega) e
    rw [Nat.one_pow] at h3
    have := C12
    omega
  · exact Nat.le_trans h (Nat.pow_le_pow_right (by omega) he)
section Rai
variable {B h : AH} {n : Nat} {d : DS} {M : Nat → Int} {i : Nat}
theorem CW.multiplyBy (c : CW B n d h M) (hi : i < 70) (i3 : i ≠ 53) (xr : (M 52).natAbs < B32 ^ 12) (xa : (M i).natAbs < B32 ^ 12) : ∃ h', zs_X3_multiplyBy h (n + 126) (aw n i) = some (if (M 52 * M i).natAbs < B32 ^ 12 then 1 else 0, h') ∧ CW B n d h' (va_up (va_up M 53 (M 52 * M i)) 52 (M 52 * M i)) := by
  unfold zs_X3_multiplyBy
  simp only [c.rd3, Option.bind_some]
  obtain ⟨g1, e1, c1⟩ := c.product (i := 52) (j := i) (k := 53) (by decide) hi (by decide) (by decide) i3 xr xa (by decide)
  rw [e1]
  simp only [c1.rd3, Option.bind_some, c1.chk8 (show 52 < 70 by decide)]
  obtain ⟨g2, e2, c2⟩ := c1.copy (k := 52) (i := 53) (by decide) (by decide)
  rw [va_us] at c2
  rw [e2]
  simp only [c2.rd3, Option.bind_some, c2.chk8 (show 52 < 70 by decide), c2.isWithin (show 52 < 70 by decide)]
  rw [va_us]
  refine ⟨g2, ?_, c2⟩
  split
  · rfl
  · rfl
theorem CW.raise (c : CW B n d h M) (hi : i < 70) (i2 : i ≠ 52) (i3 : i ≠ 53) (xa : (M i).natAbs < B32 ^ 12) {N : Nat} (hN : N ≤ 2000) :
    ∃ h' M' r, zs_X3_raise h (n + 126) (aw n i) (nI N) = some (r, h') ∧ CW B n d h' M' ∧ (∀ j, j ≠ 52 → j ≠ 53 → M' j = M j) ∧ ((r = 1 ∧ M' 52 = M i ^ N ∧ (M i ^ N).natAbs < B32 ^ 12) ∨ (r = 0 ∧ B32 ^ 12 ≤ (M i ^ N).natAbs)) := by
  unfold zs_X3_raise
  simp only [c.rd3, Option.bind_some, c.chk8 (show 52 < 70 by decide)]
  obtain ⟨g1, e1, c1⟩ := c.become (k := 52) (by decide) 1
  rw [e1]
  simp only [Option.bind_some]
  have hl : uN ((nI N).toInt64) = N := by rw [nI_l (by omega)]; exact uN_lN (by omega)
  rw [p_bitsOf g1 (x := (nI N).toInt64) (by rw [hl]; unfold B32; omega), hl]
  simp only [Option.bind_some, lt_]
  have hb : bl N ≤ 11 := bl_le (n := 11) (by omega)
  generalize hbb : bl N = b at hb ⊢
  have hbl : N < 2 ^ b := by rw [← hbb]; exact bl_lt N
  obtain ⟨r, hr, hZ⟩ := iter_FU (B := fun q : AH × Int32 => zb_X3_raise_16 (n + 126) (aw n i) (nI N) q.1 q.2)
    (fun t s => s.2 = nI (b - t) - 1 ∧ ∃ M', CW B n d s.1 M' ∧ (∀ j, j ≠ 52 → j ≠ 53 → M' j = M j) ∧ M' 52 = M i ^ (N / 2 ^ (b - t)) ∧ (M' 52).natAbs < B32 ^ 12)
    (fun r => match r with
      | .inl g => ∃ M', CW B n d g M' ∧ (∀ j, j ≠ 52 → j ≠ 53 → M' j = M j) ∧ B32 ^ 12 ≤ (M i ^ N).natAbs
      | .inr (.inl g) => ∃ M', CW B n d g M' ∧ (∀ j, j ≠ 52 → j ≠ 53 → M' j = M j) ∧ B32 ^ 12 ≤ (M i ^ N).natAbs
      | .inr (.inr g) => ∃ M', CW B n d g M' ∧ (∀ j, j ≠ 52 → j ≠ 53 → M' j = M j) ∧ M' 52 = M i ^ N ∧ (M i ^ N).natAbs < B32 ^ 12)
    b (by omega) (s := (g1, nI b - 1)) ⟨by rw [Nat.sub_zero], _, c1, fun j h1 _ => va_un h1, by rw [va_us, Nat.sub_zero, Nat.div_eq_of_lt hbl, Int.pow_zero]; rfl, by rw [va_us]; decide⟩ (by
    rintro t ⟨g, w⟩ ht ⟨hw, M1, k1, f1, p1, q1⟩
    dsimp only at hw k1 ⊢
    subst hw
    unfold zb_X3_raise_16
    by_cases hz : b - t = 0
    · rw [hz] at p1 ⊢
      rw [if_pos (by decide)]
      refine ⟨_, rfl, fun s' hs => by (cases hs), fun r hr => ?_⟩
      obtain rfl := Sum.inr.inj hr
      rw [Nat.pow_zero, Nat.div_one] at p1
      exact ⟨M1, k1, f1, p1, by rw [← p1]; exact q1⟩
    · obtain ⟨k, hk⟩ : ∃ k, b - t = k + 1 := ⟨b - t - 1, by omega⟩
      rw [hk] at p1 ⊢
      have hkt : b - (t + 1) = k := by omega
      rw [nI_pred k, if_neg (nI_pos (by omega))]
      simp only [k1.rd3, Option.bind_some]
      obtain ⟨g2, e2, k2⟩ := k1.multiplyBy (i := 52) (by decide) (by decide) q1 q1
      rw [e2]
      simp only [Option.bind_some]
      have f2 : ∀ j, j ≠ 52 → j ≠ 53 → va_up (va_up M1 53 (M1 52 * M1 52)) 52 (M1 52 * M1 52) j = M j := fun j h1 h2 => by rw [va_un h1, va_un h2]; exact f1 j h1 h2
      have hdd : N / 2 ^ k = 2 * (N / 2 ^ (k + 1)) + N / 2 ^ k % 2 := by
        rw [Nat.pow_succ, ← Nat.div_div_eq_div_mul]
        omega
      have hsq : M1 52 * M1 52 = M i ^ (2 * (N / 2 ^ (k + 1))) := by rw [p1, ← Int.pow_add]; congr 1; omega
      have hNk : N / 2 ^ k ≤ N := Nat.div_le_self _ _
      rw [hsq] at e2 k2 f2 ⊢
      by_cases hs : (M i ^ (2 * (N / 2 ^ (k + 1)))).natAbs < B32 ^ 12
      · rw [if_pos hs, if_neg (by decide)]
        by_cases hbit : N / 2 ^ k % 2 = 1
        · rw [if_pos ((bitI1 (by omega) (by omega)).mpr hbit)]
          simp only [k2.rd3, Option.bind_some]
          have hMi : va_up (va_up M1 53 (M i ^ (2 * (N / 2 ^ (k + 1))))) 52 (M i ^ (2 * (N / 2 ^ (k + 1)))) i = M i := f2 i i2 i3
          obtain ⟨g3, e3, k3⟩ := k2.multiplyBy (i := i) hi i3 (by rw [va_us]; exact hs) (by rw [hMi]; exact xa)
          rw [va_us, hMi] at e3 k3
          rw [e3]
          simp only [Option.bind_some]
          have hp3 : M i ^ (2 * (N / 2 ^ (k + 1))) * M i = M i ^ (N / 2 ^ k) := by rw [← Int.pow_succ]; congr 1; omega
          rw [hp3] at k3 ⊢
          by_cases hs3 : (M i ^ (N / 2 ^ k)).natAbs < B32 ^ 12
          · rw [if_pos hs3, if_neg (by decide)]
            refine ⟨_, rfl, fun s' hs' => ?_, fun r hr => by (cases hr)⟩
            obtain rfl := Sum.inl.inj hs'
            refine ⟨by omega, ?_, _, k3, ?_, ?_, ?_⟩
            · dsimp only
              rw [hkt, Int32.sub_eq_add_neg]
            · intro j h1 h2
              rw [va_un h1, va_un h2]
              exact f2 j h1 h2
            · rw [va_us, hkt]
            · rw [va_us]; exact hs3
          · rw [if_neg hs3, if_pos rfl]
            refine ⟨_, rfl, fun s' hs' => by (cases hs'), fun r hr => ?_⟩
            obtain rfl := Sum.inr.inj hr
            refine ⟨_, k3, fun j h1 h2 => by rw [va_un h1, va_un h2]; exact f2 j h1 h2, ?_⟩
            rw [Int.natAbs_pow] at hs3 ⊢
            exact pow_big hNk (by omega)
        · rw [if_neg (fun z => hbit ((bitI1 (by omega) (by omega)).mp z))]
          refine ⟨_, rfl, fun s' hs' => ?_, fun r hr => by (cases hr)⟩
          obtain rfl := Sum.inl.inj hs'
          refine ⟨by omega, ?_, _, k2, f2, ?_, ?_⟩
          · dsimp only
            rw [hkt, Int32.sub_eq_add_neg]
          · rw [va_us, hkt]
            congr 1
            have : N / 2 ^ k % 2 < 2 := Nat.mod_lt _ (by decide)
            omega
          · rw [va_us]; exact hs
      · rw [if_neg hs, if_pos rfl]
        refine ⟨_, rfl, fun s' hs' => by (cases hs'), fun r hr => ?_⟩
        obtain rfl := Sum.inr.inj hr
        refine ⟨_, k2, f2, ?_⟩
        rw [Int.natAbs_pow] at hs ⊢
        exact pow_big (e := 2 * (N / 2 ^ (k + 1))) (by omega) (by omega))
  rw [hr]
  simp only [Option.bind_some]
  rcases r with g | g | g
  · obtain ⟨M', a1, a2, a3⟩ := hZ
    exact ⟨g, M', 0, rfl, a1, a2, Or.inr ⟨rfl, a3⟩⟩
  · obtain ⟨M', a1, a2, a3⟩ := hZ
    exact ⟨g, M', 0, rfl, a1, a2, Or.inr ⟨rfl, a3⟩⟩
  · obtain ⟨M', a1, a2, a3, a4⟩ := hZ
    exact ⟨g, M', 1, rfl, a1, a2, Or.inl ⟨rfl, a3, a4⟩⟩
end Rai
