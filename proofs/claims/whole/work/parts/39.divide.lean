section Dvd
variable {L : Nat → Prop} {q : Nat → Nat} {h h' h'' : AH} {σ : Nat → WR} {V : Nat → Int} {a b u0 aq al ao ad av : Nat}
theorem e_dz108 (W : WS L q h V) (x : DX h u0 aq al ao ad av) (hl : L al) (hb : L b) (way lo : Int32) : zj_X0_divide_108 h u0 way b lo = zj_X0_divide_137 h u0 b lo (if way = 2 ∧ V al < 0 ∧ V b < 0 then 1 else 0) := by
  unfold zj_X0_divide_108
  by_cases h2 : way = 2
  · rw [if_pos h2, x.1.g1]
    simp only [Option.bind_some]
    rw [v_below W hl, v_below W hb]
    simp only [Option.bind_some]
    by_cases h3 : V al < 0
    · rw [if_pos h3, if_neg i10]
      by_cases h4 : V b < 0
      · rw [if_pos h4, if_neg i10, if_pos ⟨h2, h3, h4⟩]
      · rw [if_neg h4, if_pos rfl, if_neg (fun e => h4 e.2.2)]
    · rw [if_neg h3, if_pos rfl, if_neg (fun e => h3 e.2.1)]
  · rw [if_neg h2, if_neg (fun e => h2 e.1)]
theorem e_dz81 (W : WS L q h V) (x : DX h u0 aq al ao ad av) (hl : L al) (hb : L b) (way : Int32) : zj_X0_divide_81 h u0 way b = zj_X0_divide_137 h u0 b (if way = 2 ∧ V al < 0 ∧ ¬ V b < 0 then 1 else 0) (if way = 2 ∧ V al < 0 ∧ V b < 0 then 1 else 0) := by
  unfold zj_X0_divide_81
  simp only [e_dz108 W x hl hb]
  generalize (if way = 2 ∧ V al < 0 ∧ V b < 0 then (1 : Int32) else 0) = hi9
  by_cases h2 : way = 2
  · rw [if_pos h2, x.1.g1]
    simp only [Option.bind_some]
    rw [v_below W hl, v_below W hb]
    simp only [Option.bind_some]
    by_cases h3 : V al < 0
    · rw [if_pos h3, if_neg i10]
      by_cases h4 : V b < 0
      · rw [if_pos h4, if_neg i10, if_neg (fun e => e.2.2 h4)]
      · rw [if_neg h4, if_pos rfl, if_pos ⟨h2, h3, h4⟩]
    · rw [if_neg h3, if_pos rfl, if_neg (fun e => h3 e.2.1)]
  · rw [if_neg h2, if_neg (fun e => h2 e.1)]
theorem v_dz137 (W : WS L q h V) (x : DX h u0 aq al ao ad av) (hb : L b) (hq : L aq) (hl : L al) (ho : L ao) (hql : aq ≠ al) (hoq : ao ≠ aq) (hbq : b ≠ aq) (lo hi : Int32) (hone : V ao = 1) (bq : (V aq).natAbs < B32 ^ 25) (bl9 : (V al).natAbs < B32 ^ 25) (bb : (V b).natAbs < B32 ^ 25) :
    ∃ h', zj_X0_divide_137 h u0 b lo hi = some h' ∧ WS L q h' (va_up (va_up V aq (if lo = 0 then (if hi = 0 then V aq else V aq + 1) else V aq - 1)) al (if lo = 0 then (if hi = 0 then V al else V al - V b) else V al + V b)) ∧ DX h' u0 aq al ao ad av ∧ Fr L q h h' := by
  have b1 : (V ao).natAbs < B32 ^ 25 := by rw [hone]; exact Nat.one_lt_pow (by decide) (by decide)
  unfold zj_X0_divide_137
  by_cases h1 : lo = 0
  · rw [if_pos h1]
    by_cases h2 : hi = 0
    · rw [if_pos h2]
      refine ⟨h, rfl, ?_, x, Fr.rf⟩
      rw [if_pos h1, if_pos h1, if_pos h2, if_pos h2, va_ue, va_ue]
      exact W
    · rw [if_neg h2, x.1.g0, x.1.g2]
      simp only [Option.bind_some]
      obtain ⟨g1, e1, W1, F1⟩ := v_sum W hq ho hq bq b1
      rw [e1]
      simp only [Option.bind_some]
      have x1 := x.fr W F1
      rw [x1.1.g1]
      simp only [Option.bind_some]
      obtain ⟨g2, e2, W2, F2⟩ := v_difference W1 hl hb hl (by rw [va_un (Ne.symm hql)]; exact bl9) (by rw [va_un hbq]; exact bb)
      rw [e2]
      rw [va_un (Ne.symm hql), va_un hbq, hone] at W2
      refine ⟨g2, rfl, ?_, x1.fr W1 F2, F1.tr F2⟩
      rw [if_pos h1, if_pos h1, if_neg h2, if_neg h2]
      exact W2
  · rw [if_neg h1, x.1.g0, x.1.g2]
    simp only [Option.bind_some]
    obtain ⟨g1, e1, W1, F1⟩ := v_difference W hq ho hq bq b1
    rw [e1]
    simp only [Option.bind_some]
    have x1 := x.fr W F1
    rw [x1.1.g1]
    simp only [Option.bind_some]
    obtain ⟨g2, e2, W2, F2⟩ := v_sum W1 hl hb hl (by rw [va_un (Ne.symm hql)]; exact bl9) (by rw [va_un hbq]; exact bb)
    rw [e2]
    rw [va_un (Ne.symm hql), va_un hbq, hone] at W2
    refine ⟨g2, rfl, ?_, x1.fr W1 F2, F1.tr F2⟩
    rw [if_neg h1, if_neg h1]
    exact W2
end Dvd
