theorem lN_ofInt (n : Nat) : lN n = Int64.ofInt (n : Int) := by
  apply wb_inj
  show BitVec.ofNat 64 n = BitVec.ofInt 64 (n : Int)
  rw [BitVec.ofInt_natCast]
section Low
variable {L : Nat → Prop} {q : Nat → Nat} {h : AH} {V : Nat → Int} {o : Nat}
theorem v_low2 (W : WS L q h V) (ho : L o) : ∃ x4 x6 : Int64, zs_X8_partAt h o (1 : Int32) = some x4 ∧ zs_X8_partAt h o (0 : Int32) = some x6 ∧ ((x4 <<< (((32 : Int32)).toInt64 &&& 63)) ||| x6) = lN ((V o).natAbs % 18446744073709551616) := by
  have p1 := v_partAt W ho (i := 1) (by omega)
  have p0 := v_partAt W ho (i := 0) (by omega)
  refine ⟨_, _, p1, p0, ?_⟩
  have l1 : (V o).natAbs / B32 ^ 1 % B32 < B32 := Nat.mod_lt _ (by decide)
  have l0 : (V o).natAbs / B32 ^ 0 % B32 < B32 := Nat.mod_lt _ (by decide)
  apply uN_inj
  have u1 : uN (lN ((V o).natAbs / B32 ^ 1 % B32)) = (V o).natAbs / B32 ^ 1 % B32 := uN_lN (Nat.lt_trans l1 (by decide))
  have u0 : uN (lN ((V o).natAbs / B32 ^ 0 % B32)) = (V o).natAbs / B32 ^ 0 % B32 := uN_lN (Nat.lt_trans l0 (by decide))
  rw [or32 (by rw [u1]; exact l1) (by rw [u0]; exact l0), u1, u0, uN_lN (Nat.mod_lt _ (by decide)), Nat.pow_one, Nat.pow_zero, Nat.div_one]
  unfold B32
  omega
theorem v_lowest64 (W : WS L q h V) (ho : L o) : zs_X8_lowest64 h o = some (Int64.ofInt (V o)) := by
  obtain ⟨x4, x6, e1, e0, e2⟩ := v_low2 W ho
  unfold zs_X8_lowest64
  rw [v_chk W ho, e1, e0, v_below W ho]
  simp only [Option.bind_some, lt_]
  rw [e2]
  have e3 : lN ((V o).natAbs % 18446744073709551616) = Int64.ofInt ((V o).natAbs : Int) := by
    rw [← lN_ofInt]
    exact (wb_mod _).symm
  rw [e3]
  by_cases hn : V o < 0
  · rw [if_pos hn, if_neg i10, Int64.neg_ofInt]
    congr 2
    omega
  · rw [if_neg hn, if_pos rfl]
    congr 2
    omega
theorem v_isShort (W : WS L q h V) (ho : L o) : zs_X8_isShort h o = some (if -9223372036854775808 ≤ V o ∧ V o ≤ 9223372036854775807 then 1 else 0) := by
  obtain ⟨x4, x6, e1, e0, e2⟩ := v_low2 W ho
  obtain ⟨k, ek, k26, hl, hg, hb⟩ := v_look W ho
  unfold zs_X8_isShort
  rw [ek]
  simp only [Option.bind_some]
  rw [show (2 : Int32) = nI 2 from rfl]
  by_cases hk : k ≤ 2
  · rw [if_pos (nI_le hk (by omega)), v_chk W ho, e1, e0, hb]
    simp only [Option.bind_some, lt_]
    rw [e2]
    have hM : (V o).natAbs < 18446744073709551616 := Nat.lt_of_lt_of_le hl (Nat.le_trans (Nat.pow_le_pow_right (by decide) hk) (by decide))
    rw [Nat.mod_eq_of_lt hM]
    have hu : uN (lN (V o).natAbs) = (V o).natAbs := uN_lN hM
    have c0 : ((0 : Int64) ≤ lN (V o).natAbs) ↔ 2 * (V o).natAbs < 18446744073709551616 := by
      rw [i64_nn, uN_int, hu]
      split <;> omega
    by_cases h0 : 2 * (V o).natAbs < 18446744073709551616
    · rw [if_pos (c0.mpr h0), if_pos (by omega)]
    · rw [if_neg (fun e => h0 (c0.mp e))]
      by_cases hn : V o < 0
      · rw [if_pos hn, if_neg i10]
        have c1 : (lN (V o).natAbs = (-9223372036854775808 : Int64)) ↔ (V o).natAbs = 9223372036854775808 := by
          refine ⟨fun e => ?_, fun e => ?_⟩
          · have := congrArg uN e
            rw [hu, show uN (-9223372036854775808 : Int64) = 9223372036854775808 by decide] at this
            exact this
          · apply uN_inj
            rw [hu, e]
            decide
        by_cases hm : (V o).natAbs = 9223372036854775808
        · rw [if_pos (c1.mpr hm), if_pos (by omega)]
        · rw [if_neg (fun e => hm (c1.mp e)), if_neg (by omega)]
      · rw [if_neg hn, if_pos rfl, if_neg (by omega)]
  · rw [if_neg (fun e => hk ((nI_leI (by omega) (by omega)).mp e))]
    have h1 := hg (by omega)
    have h2 : B32 ^ 2 ≤ B32 ^ (k - 1) := Nat.pow_le_pow_right (by decide) (by omega)
    have h3 : B32 ^ 2 = 18446744073709551616 := by decide
    rw [if_neg (by omega)]
end Low
