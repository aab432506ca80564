theorem vN_split {d : Nat → Nat} {i : Nat} : ∀ {k : Nat}, i < k → ∃ t, vN d k = vN d i + (d i + t * B32) * B32 ^ i
  | 0, h => absurd h (by omega)
  | k + 1, h => by
    by_cases e : i = k
    · subst e
      exact ⟨0, by show vN d i + d i * B32 ^ i = _; rw [Nat.zero_mul, Nat.add_zero]⟩
    · obtain ⟨t, ht⟩ := vN_split (d := d) (i := i) (k := k) (by omega)
      refine ⟨t + d k * B32 ^ (k - i - 1), ?_⟩
      show vN d k + d k * B32 ^ k = _
      have e1 : B32 ^ k = B32 ^ (k - i - 1) * B32 * B32 ^ i := by
        rw [← Nat.pow_succ, ← Nat.pow_add]
        congr 1
        omega
      rw [ht, e1]
      rw [Nat.add_mul, Nat.add_mul, Nat.add_mul, Nat.add_mul]
      have e2 : d k * (B32 ^ (k - i - 1) * B32 * B32 ^ i) = d k * B32 ^ (k - i - 1) * B32 * B32 ^ i := by simp only [Nat.mul_assoc]
      rw [e2]
      omega
theorem vN_dig {d : Nat → Nat} {k i : Nat} (hd : ∀ j, j < k → d j < B32) (hi : i < k) : vN d k / B32 ^ i % B32 = d i := by
  obtain ⟨t, ht⟩ := vN_split (d := d) hi
  have h1 := vN_lt (d := d) (k := i) (fun j hj => hd j (by omega))
  rw [ht, Nat.add_mul_div_right _ _ (B32_pos i), Nat.div_eq_of_lt h1, Nat.zero_add, Nat.add_mul_mod_self_right]
  exact Nat.mod_eq_of_lt (hd i hi)
theorem vN_digh {d : Nat → Nat} {k i : Nat} (hd : ∀ j, j < k → d j < B32) (hi : k ≤ i) : vN d k / B32 ^ i % B32 = 0 := by
  have h1 := vN_lt (d := d) (k := k) hd
  have h2 : B32 ^ k ≤ B32 ^ i := Nat.pow_le_pow_right (by decide) hi
  rw [Nat.div_eq_of_lt (by omega)]
  rfl
theorem uN_neg (x : Int64) : (uN (-x) + uN x) % 18446744073709551616 = 0 := by
  rw [← uN_add, Int64.add_left_neg]
  exact uN_0
theorem i64_nn (x : Int64) : (0 : Int64) ≤ x ↔ 0 ≤ x.toInt := by rw [Int64.le_iff_toInt_le]; exact Iff.rfl
section Vals3
variable {L : Nat → Prop} {q : Nat → Nat} {h h' h'' : AH} {σ : Nat → WR} {V : Nat → Int} {a b c o : Nat}
/-- what a whole's cells say of its value -/
theorem v_look (W : WS L q h V) (ho : L o) : ∃ k, gI h o 8 1 = some (nI k) ∧ k ≤ 26 ∧ (V o).natAbs < B32 ^ k ∧ (0 < k → B32 ^ (k - 1) ≤ (V o).natAbs) ∧ gI h o 8 2 = some (if V o < 0 then 1 else 0) := by
  obtain ⟨σ, H, hV⟩ := W
  obtain ⟨k, a1, a2, a3, a4, a5, a6, a7⟩ := okW_sg (hV o ho)
  obtain ⟨k', c1, c2, -, -, c5⟩ := hV o ho
  have ek : k' = k := (nI_eq (by omega) (by omega)).mp (c1.symm.trans a1)
  subst ek
  refine ⟨k', by rw [H.gI1 ho, a1], a2, by rw [a7]; exact vN_lt a3, fun h0 => ?_, ?_⟩
  · obtain ⟨n, rfl⟩ : ∃ n, k' = n + 1 := ⟨k' - 1, by omega⟩
    rw [a7]
    exact vN_ge (nz_uN (a4 h0))
  · rw [H.gI2 ho]
    rcases c5 with ⟨e, hx⟩ | ⟨e, h0, hx⟩
    · rw [e, if_neg (by omega)]
    · have := vN_pos (d := dgs (σ o).1) h0 (nz_uN (a4 h0))
      rw [e, if_pos (by omega)]
theorem v_chk (W : WS L q h V) (ho : L o) : chk h o 8 = some () := by
  obtain ⟨σ, H, hV⟩ := W
  exact H.chk ho
theorem v_below (W : WS L q h V) (ho : L o) : gI h o 8 2 = some (if V o < 0 then 1 else 0) := by
  obtain ⟨k, -, -, -, -, e⟩ := v_look W ho
  exact e
theorem v_partAt (W : WS L q h V) (ho : L o) {i : Nat} (hi : i < 2 ^ 31) : zs_X8_partAt h o (nI i) = some (lN ((V o).natAbs / B32 ^ i % B32)) := by
  obtain ⟨σ, H, hV⟩ := W
  obtain ⟨k, a1, a2, a3, a4, a5, a6, a7⟩ := okW_sg (hV o ho)
  rw [p_partAt H ho a1 a2 hi, a7]
  by_cases hik : i < k
  · rw [if_pos hik, vN_dig (d := dgs (σ o).1) a3 hik]
    exact congrArg some (lN_uN _).symm
  · rw [if_neg hik, vN_digh (d := dgs (σ o).1) a3 (by omega)]
    rfl
theorem v_isZero (W : WS L q h V) (ho : L o) : zs_X8_isZero h o = some (if V o = 0 then 1 else 0) := by
  obtain ⟨k, e1, k26, hl, hg, -⟩ := v_look W ho
  unfold zs_X8_isZero
  rw [e1]
  simp only [Option.bind_some]
  by_cases h0 : k = 0
  · subst h0
    rw [if_pos nI_0, if_pos (by rw [Nat.pow_zero] at hl; omega)]
  · have := hg (by omega)
    have := B32_pos (k - 1)
    rw [if_neg (nI_ne0 (by omega) (by omega)), if_neg (by omega)]
theorem v_isWithin (W : WS L q h V) (ho : L o) : zs_X8_isWithin h o = some (if (V o).natAbs < B32 ^ 12 then 1 else 0) := by
  obtain ⟨k, e1, k26, hl, hg, -⟩ := v_look W ho
  unfold zs_X8_isWithin
  rw [e1]
  simp only [Option.bind_some]
  have e12 : (12 : Int32) = nI 12 := rfl
  rw [e12]
  by_cases hk : 12 < k
  · have h1 := hg (by omega)
    have h2 : B32 ^ 12 ≤ B32 ^ (k - 1) := Nat.pow_le_pow_right (by decide) (by omega)
    rw [if_pos (nI_lt hk (by omega)), if_neg (by omega)]
  · have h2 : B32 ^ k ≤ B32 ^ 12 := Nat.pow_le_pow_right (by decide) (by omega)
    rw [if_neg (nI_nlt (by omega) (by omega)), if_pos (by omega)]
def cmpZ (x y : Int) : Int32 := if x < y then -1 else if x = y then 0 else 1
theorem v_orderSizes (W : WS L q h V) (ha : L a) (hb : L b) : zs_X8_orderSizes h a b = some (cmpI (V a).natAbs (V b).natAbs) := by
  obtain ⟨σ, H, hV⟩ := W
  obtain ⟨ka, a1, a2, a3, a4, a5, a6, a7⟩ := okW_sg (hV a ha)
  obtain ⟨kb, b1, b2, b3, b4, b5, b6, b7⟩ := okW_sg (hV b hb)
  rw [p_orderSizes H ha hb a1 b1 a2 b2 a3 b3 a4 b4, a7, b7]
theorem v_order (W : WS L q h V) (ha : L a) (hb : L b) : zs_X8_order h a b = some (cmpZ (V a) (V b)) := by
  unfold zs_X8_order
  rw [v_below W ha, v_below W hb, v_orderSizes W ha hb, v_orderSizes W hb ha]
  simp only [Option.bind_some]
  unfold cmpZ cmpI
  by_cases h1 : V a < 0 <;> by_cases h2 : V b < 0
  · rw [if_pos h1, if_pos h2, if_pos rfl, if_neg i10]
    by_cases h3 : V a < V b
    · rw [if_pos h3, if_pos (by omega)]
    · by_cases h4 : V a = V b
      · rw [if_neg h3, if_pos h4, if_neg (by omega), if_pos (by omega)]
      · rw [if_neg h3, if_neg h4, if_neg (by omega), if_neg (by omega)]
  · rw [if_pos h1, if_neg h2, if_neg i10, if_neg i10, if_pos (by omega)]
  · rw [if_neg h1, if_pos h2, if_neg (by decide), if_pos rfl, if_neg (by omega), if_neg (by omega)]
  · rw [if_neg h1, if_neg h2, if_pos rfl, if_pos rfl]
    by_cases h3 : V a < V b
    · rw [if_pos h3, if_pos (by omega)]
    · by_cases h4 : V a = V b
      · rw [if_neg h3, if_pos h4, if_neg (by omega), if_pos (by omega)]
      · rw [if_neg h3, if_neg h4, if_neg (by omega), if_neg (by omega)]
theorem v_takeSign (W : WS L q h V) (ho : L o) (b : Int32) : ∃ h', zs_X8_takeSign h o b = some h' ∧ WS L q h' (va_up V o (sgv b (V o).natAbs)) ∧ Fr L q h h' := by
  obtain ⟨σ, H, hV⟩ := W
  obtain ⟨k, a1, a2, a3, a4, a5, a6, a7⟩ := okW_sg (hV o ho)
  obtain ⟨g, e1, Hg, Fg⟩ := p_takeSign H ho a1 a2 b
  refine ⟨g, e1, WS.up Hg hV ?_, Fg⟩
  refine ⟨k, rfl, a2, a3, a4, ?_⟩
  dsimp only
  rw [a7]
  by_cases hb : b = 0
  · left
    rw [if_pos (Or.inl hb)]
    exact ⟨rfl, by unfold sgv; rw [if_pos hb]⟩
  · by_cases h0 : k = 0
    · left
      rw [if_pos (Or.inr h0)]
      refine ⟨rfl, ?_⟩
      unfold sgv
      rw [if_neg hb, h0]
      rfl
    · right
      rw [if_neg (by rintro (x | x) <;> contradiction)]
      exact ⟨rfl, by omega, by unfold sgv; rw [if_neg hb]⟩
theorem v_become (W : WS L q h V) (ho : L o) (v : Int64) : ∃ h', zs_X8_become h o v = some h' ∧ WS L q h' (va_up V o v.toInt) ∧ Fr L q h h' := by
  obtain ⟨σ, H, hV⟩ := W
  have key : ∀ (t : Int64) (s2 : Int32), (s2 = if (0 : Int64) ≤ v then 0 else 1) → uN t = v.toInt.natAbs → ∃ h', zj_X8_become_12 h o v t = some h' ∧ WS L q h' (va_up V o v.toInt) ∧ Fr L q h h' := by
    intro t s2 hs2 ht
    unfold zj_X8_become_12 zj_X8_become_51
    rw [H.gR0 ho]
    simp only [Option.bind_some]
    obtain ⟨g1, e1, H1, F1⟩ := H.sJ ho (k := 0) (by omega) (t &&& (4294967295 : Int64))
    rw [show (0 : Int32) = nI 0 from rfl, e1]
    simp only [Option.bind_some]
    rw [H1.gR0 ho]
    simp only [Option.bind_some]
    obtain ⟨g2, e2, H2, F2⟩ := H1.sJ ho (k := 1) (by omega) ((t.toUInt64 >>> (((32 : Int32)).toInt64.toUInt64 &&& Int64.toUInt64 63)).toInt64)
    rw [show (1 : Int32) = nI 1 from rfl, e2]
    simp only [Option.bind_some]
    rw [H2.chk ho]
    simp only [Option.bind_some]
    rw [va_us, va_uu] at H2
    dsimp only at H2
    obtain ⟨f, hf⟩ : ∃ f, f = vp_updL (vp_updL (σ o).1 0 (t &&& (4294967295 : Int64))) 1 ((t.toUInt64 >>> (((32 : Int32)).toInt64.toUInt64 &&& Int64.toUInt64 63)).toInt64) := ⟨_, rfl⟩
    rw [← hf] at H2
    have f0 : uN (f 0) = uN t % B32 := by rw [hf, pk_uLn (by omega), pk_uLs, uN_mk]
    have f1 : uN (f 1) = uN t / B32 := by rw [hf, pk_uLs, uN_sh]
    have hlt := uN_lt t
    have fd : ∀ i, i < 2 → uN (f i) < B32 := by
      intro i hi
      rcases (show i = 0 ∨ i = 1 by omega) with rfl | rfl
      · rw [f0]; exact Nat.mod_lt _ (by decide)
      · rw [f1]; unfold B32; omega
    have fv : vN (dgs f) 2 = uN t := by
      show 0 + uN (f 0) * B32 ^ 0 + uN (f 1) * B32 ^ 1 = uN t
      rw [f0, f1, Nat.pow_zero, Nat.pow_one]
      unfold B32
      omega
    obtain ⟨g3, e3, H3, F3⟩ := p_trim H2 ho (c := 2) (by omega)
    rw [show (2 : Int32) = nI 2 from rfl, e3]
    simp only [Option.bind_some]
    rw [va_us, va_uu] at H3
    dsimp only at H3
    rw [H3.chk ho]
    simp only [Option.bind_some]
    obtain ⟨g4, e4, H4, F4⟩ := p_takeSign H3 ho (k := tl f 2) (by rw [va_us]) (by have := tl_le f 2; omega) s2
    rw [va_us, va_uu] at H4
    dsimp only at H4
    have h9 := WS.up H4 hV (okW_fin (by omega) fd s2)
    have hval : (if s2 = 0 then (vN (dgs f) 2 : Int) else -(vN (dgs f) 2 : Int)) = v.toInt := by
      rw [fv, ht, hs2]
      by_cases hv0 : (0 : Int64) ≤ v
      · rw [if_pos hv0, if_pos rfl]
        have := (i64_nn v).mp hv0
        omega
      · rw [if_neg hv0, if_neg i10]
        have : ¬ 0 ≤ v.toInt := fun e => hv0 ((i64_nn v).mpr e)
        omega
    rw [hval] at h9
    refine ⟨g4, ?_, h9, F1.tr (F2.tr (F3.tr F4))⟩
    by_cases hv0 : (0 : Int64) ≤ v
    · rw [if_pos hv0] at hs2 ⊢
      rw [hs2] at e4
      rw [show nI 0 = (0 : Int32) from rfl, e4]
      rfl
    · rw [if_neg hv0] at hs2 ⊢
      rw [hs2] at e4
      rw [show nI 1 = (1 : Int32) from rfl, e4]
      rfl
  unfold zs_X8_become
  have hi := uN_int v
  by_cases hv0 : (0 : Int64) ≤ v
  · rw [if_pos hv0]
    refine key v 0 (by rw [if_pos hv0]) ?_
    have := (i64_nn v).mp hv0
    rw [hi] at this ⊢
    split at this <;> rename_i hh
    · rw [if_pos hh]; omega
    · have := uN_lt v; omega
  · rw [if_neg hv0]
    refine key (-v) 1 (by rw [if_neg hv0]) ?_
    have h0 : ¬ 0 ≤ v.toInt := fun e => hv0 ((i64_nn v).mpr e)
    have h1 := uN_neg v
    have h2 := uN_lt v
    have h3 := uN_lt (-v)
    rw [hi] at h0 ⊢
    split at h0 <;> rename_i hh
    · omega
    · rw [if_neg hh]; omega
end Vals3
