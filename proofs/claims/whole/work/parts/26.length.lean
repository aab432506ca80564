theorem B32_two (k : Nat) : B32 ^ k = 2 ^ (32 * k) := by
  show (2 ^ 32) ^ k = 2 ^ (32 * k)
  rw [← Nat.pow_mul]
theorem bl_top {t l k : Nat} (ht : 0 < t) (hl : l < B32 ^ k) : bl (l + t * B32 ^ k) = 32 * k + bl t := by
  have h1 := bl_lt t
  have h2 := bl_ge (show t ≠ 0 by omega)
  have hb : 0 < bl t := by unfold bl; rw [if_neg (by omega)]; omega
  rw [B32_two] at hl ⊢
  have h3 : 2 ^ (32 * k + (bl t - 1)) ≤ t * 2 ^ (32 * k) := by
    rw [Nat.pow_add, Nat.mul_comm]
    exact Nat.mul_le_mul_right _ h2
  have h4 : (t + 1) * 2 ^ (32 * k) ≤ 2 ^ (32 * k + bl t) := by
    rw [Nat.pow_add, Nat.mul_comm]
    exact Nat.mul_le_mul_left _ h1
  rw [Nat.add_mul, Nat.one_mul] at h4
  have := bl_of (m := l + t * 2 ^ (32 * k)) (n := 32 * k + (bl t - 1)) (by omega) (by rw [show 32 * k + (bl t - 1) + 1 = 32 * k + bl t by omega]; omega)
  omega
section Len
variable {L : Nat → Prop} {q : Nat → Nat} {h h' h'' : AH} {σ : Nat → WR} {V : Nat → Int} {a b c o : Nat}
theorem v_sizeBits (W : WS L q h V) (ho : L o) : zs_X8_sizeBits h o = some (nI (bl (V o).natAbs)) := by
  obtain ⟨σ, H, hV⟩ := id W
  obtain ⟨k, a1, a2, a3, a4, a5, a6, a7⟩ := okW_sg (hV o ho)
  unfold zs_X8_sizeBits
  rw [H.gI1 ho, a1]
  simp only [Option.bind_some]
  by_cases h0 : k = 0
  · subst h0
    rw [if_pos nI_0, a7]
    rfl
  · rw [if_neg (nI_ne0 (by omega) (by omega)), H.chk ho]
    simp only [Option.bind_some]
    obtain ⟨n, rfl⟩ : ∃ n, k = n + 1 := ⟨k - 1, by omega⟩
    rw [nI_pred, p_partAt H ho a1 a2 (by omega), if_pos (by omega)]
    simp only [Option.bind_some]
    have ht := a3 n (by omega)
    have hz := a4 (by omega)
    rw [Nat.add_sub_cancel] at hz
    rw [p_bitsOf h ht]
    simp only [Option.bind_some]
    have hb : bl (uN ((σ o).1 n)) ≤ 32 := bl_le (show _ < 2 ^ 32 from ht)
    have e1 : bl (V o).natAbs = 32 * n + bl (uN ((σ o).1 n)) := by
      rw [a7]
      exact bl_top (t := uN ((σ o).1 n)) (Nat.pos_of_ne_zero (nz_uN hz)) (vN_lt (d := dgs (σ o).1) (k := n) (fun i hi => a3 i (by omega)))
    rw [e1, show (32 : Int32) = nI 32 from rfl, pk_mul, nI_add, Nat.mul_comm n]
theorem v_isOdd (W : WS L q h V) (ho : L o) : zs_X8_isOdd h o = some (if (V o).natAbs % 2 = 1 then 1 else 0) := by
  unfold zs_X8_isOdd
  rw [v_chk W ho]
  simp only [Option.bind_some]
  rw [show (0 : Int32) = nI 0 from rfl, v_partAt W ho (by omega)]
  simp only [Option.bind_some]
  have hl : (V o).natAbs / B32 ^ 0 % B32 < 2 ^ 64 := Nat.lt_trans (Nat.mod_lt _ (by decide)) (by decide)
  rw [g_and1 hl]
  have e1 : (V o).natAbs / B32 ^ 0 % B32 % 2 = (V o).natAbs % 2 := by
    rw [Nat.pow_zero, Nat.div_one]
    unfold B32
    omega
  rw [e1]
  have e2 : (lN ((V o).natAbs % 2) = 1) ↔ (V o).natAbs % 2 = 1 := by
    have := pk_lEQ (a := (V o).natAbs % 2) (b := 1) (by omega) (by omega)
    exact this
  by_cases h1 : (V o).natAbs % 2 = 1
  · rw [if_pos h1, if_pos (e2.mpr h1)]
  · rw [if_neg h1, if_neg (fun e => h1 (e2.mp e))]
theorem v_isOne (W : WS L q h V) (ho : L o) : zs_X8_isOne h o = some (if V o = 1 then 1 else 0) := by
  obtain ⟨σ, H, hV⟩ := id W
  obtain ⟨k, a1, a2, a3, a4, a5, a6, a7⟩ := okW_sg (hV o ho)
  have hb := v_below W ho
  unfold zs_X8_isOne
  rw [H.gI1 ho, a1, show (1 : Int32) = nI 1 from rfl]
  simp only [Option.bind_some]
  by_cases hk : k = 1
  · subst hk
    rw [if_pos rfl, H.gR0 ho]
    simp only [Option.bind_some]
    rw [show (0 : Int32) = nI 0 from rfl, H.aJ ho (k := 0) (by omega)]
    simp only [Option.bind_some]
    have e7 : (V o).natAbs = uN ((σ o).1 0) := by
      rw [a7]
      show 0 + uN ((σ o).1 0) * B32 ^ 0 = _
      rw [Nat.pow_zero]; omega
    by_cases h1 : (σ o).1 0 = 1
    · rw [if_pos h1, hb]
      simp only [Option.bind_some]
      rw [h1, uN_1] at e7
      by_cases hn : V o < 0
      · rw [if_pos hn, if_neg (by decide), if_neg (by omega)]
      · rw [if_neg hn, if_pos (show (0 : Int32) = nI 0 from rfl), if_pos (by omega)]
    · rw [if_neg h1, if_neg]
      intro e
      rw [e] at e7
      exact h1 (uN_inj (by rw [← e7, uN_1]; rfl))
  · rw [if_neg (fun e => hk ((nI_eq (by omega) (by omega)).mp e)), if_neg]
    intro e
    rw [e] at a7
    have h1 : vN (dgs (σ o).1) k < B32 ^ 1 := by rw [← a7]; decide
    have h2 := vN_kle (d := dgs (σ o).1) (fun h0 => nz_uN (a4 h0)) h1
    have h3 : k = 0 := by omega
    subst h3
    exact absurd a7 (show ¬ (1 : Int).natAbs = 0 by decide)
end Len
