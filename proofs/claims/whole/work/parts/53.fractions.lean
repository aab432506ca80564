/-! Fractions -/
section Frc
variable {B h : AH} {n : Nat} {d : DS} {M : Nat → Int} {i j k r s : Nat}
theorem CW.cut (c : CW B n d h M) (hi : i < 70) (hj : j < 70) (hk : okI k) (i1 : i ≠ 49) (i2 : i ≠ 50) (j1 : j ≠ 49) (j2 : j ≠ 50) (k1 : k ≠ 49) {g : Nat} (hg : M j = (g : Int)) (g0 : 0 < g) :
    ∃ h' M', zs_X2_cut h (n + 141) (aw n i) (aw n j) (aw n k) = some h' ∧ CW B n d h' M' ∧ (∀ x, x ≠ 49 → x ≠ 50 → x ≠ k → M' x = M x) ∧ M' k = cu (M i) g := by
  unfold zs_X2_cut
  simp only [c.rd2, c.rd0, c.below hi, Option.bind_some]
  obtain ⟨g1, e1, c1⟩ := c.divideSizes (i := i) (j := j) hi hj i1 i2 j1 j2 (by rw [hg]; omega)
  rw [e1]
  simp only [c1.rd2, c1.rd0, Option.bind_some, c1.chk8 hk.1]
  obtain ⟨g2, e2, c2⟩ := c1.copy (k := k) (i := 49) hk (by decide)
  rw [va_un (show 49 ≠ 50 by decide), va_us] at c2
  rw [e2]
  simp only [Option.bind_some, c2.chk8 hk.1]
  obtain ⟨g3, e3, c3⟩ := c2.takeSign (k := k) hk (if M i < 0 then 1 else 0)
  rw [e3]
  rw [va_us, va_uu] at c3
  refine ⟨g3, _, rfl, c3, fun x h1 h2 h3 => by rw [va_un h3, va_un h2, va_un h1], ?_⟩
  rw [va_us, hg, Int.natAbs_natCast, Int.natAbs_natCast]
  rfl
theorem CW.raiseBottom (c : CW B n d h M) :
    ∃ h' M', zs_X2_raiseBottom h (n + 141) = some h' ∧ CW B n d h' M' ∧ (∀ x, x ≠ 59 → x ≠ 60 → M' x = M x) ∧ M' 59 = upT (M 59) (M 60) ∧ M' 60 = upB (M 60) := by
  unfold zs_X2_raiseBottom
  simp only [c.rd2, c.below (show 60 < 70 by decide), Option.bind_some]
  by_cases hb : M 60 < 0
  · rw [if_pos hb, if_neg (by decide)]
    simp only [c.chk8 (show 60 < 70 by decide), Option.bind_some]
    obtain ⟨g1, e1, c1⟩ := c.takeSign (k := 60) (by decide) 0
    rw [e1]
    simp only [c1.rd2, c1.below (show 59 < 70 by decide), Option.bind_some]
    rw [va_un (show 59 ≠ 60 by decide)]
    have hs0 : sgv 0 (M 60).natAbs = -(M 60) := by
      show (((M 60).natAbs : Nat) : Int) = _
      omega
    rw [hs0] at c1
    have hU : upT (M 59) (M 60) = -(M 59) ∧ upB (M 60) = -(M 60) := by unfold upT upB; rw [if_pos hb, if_pos hb]; exact ⟨rfl, rfl⟩
    rw [hU.1, hU.2]
    by_cases ht : M 59 < 0
    · rw [if_pos ht, if_neg (by decide)]
      unfold zj_X2_raiseBottom_37
      simp only [c1.chk8 (show 59 < 70 by decide), Option.bind_some]
      obtain ⟨g2, e2, c2⟩ := c1.takeSign (k := 59) (by decide) 0
      rw [e2]
      rw [va_un (show 59 ≠ 60 by decide)] at c2
      refine ⟨g2, _, rfl, c2, fun x h1 h2 => by rw [va_un h1, va_un h2], ?_, by rw [va_un (by decide), va_us]⟩
      rw [va_us]
      show (((M 59).natAbs : Nat) : Int) = _
      omega
    · rw [if_neg ht, if_pos rfl]
      unfold zj_X2_raiseBottom_37
      simp only [c1.chk8 (show 59 < 70 by decide), Option.bind_some]
      obtain ⟨g2, e2, c2⟩ := c1.takeSign (k := 59) (by decide) 1
      rw [e2]
      rw [va_un (show 59 ≠ 60 by decide)] at c2
      refine ⟨g2, _, rfl, c2, fun x h1 h2 => by rw [va_un h1, va_un h2], ?_, by rw [va_un (by decide), va_us]⟩
      rw [va_us]
      show -(((M 59).natAbs : Nat) : Int) = _
      omega
  · rw [if_neg hb, if_pos rfl]
    refine ⟨h, M, rfl, c, fun _ _ _ => rfl, ?_, ?_⟩
    · unfold upT; rw [if_neg hb]
    · unfold upB; rw [if_neg hb]
theorem CW.reduce (c : CW B n d h M) (hi : i < 48) (hj : j < 48) (hb : M j ≠ 0) :
    ∃ h' M', zs_X2_reduce h (n + 141) (aw n i) (aw n j) = some h' ∧ CW B n d h' M' ∧ (∀ x, x < 48 → M' x = M x) ∧ isRat (M i) (M j) (M' 59) (M' 60) := by
  unfold zs_X2_reduce
  simp only [c.rd2, c.rd3, Option.bind_some]
  obtain ⟨g1, M1, e1, c1, f1, v1⟩ := c.commonDivisor (i := i) (j := j) (k := 61) (by omega) (by omega) (by decide) (by omega)
  rw [e1]
  simp only [c1.rd2, Option.bind_some]
  have hg : 0 < Nat.gcd (M i).natAbs (M j).natAbs := Nat.gcd_pos_of_pos_right _ (by omega)
  have hR := rat_reduce (a := M i) hb
  generalize Nat.gcd (M i).natAbs (M j).natAbs = g at hg v1 hR
  obtain ⟨g2, M2, e2, c2, f2, v2⟩ := c1.cut (i := i) (j := 61) (k := 59) (by omega) (by decide) (by decide) (by omega) (by omega) (by decide) (by decide) (by decide) v1 hg
  rw [f1 i (by omega) (by omega) (by omega) (by omega) (by omega)] at v2
  rw [e2]
  simp only [c2.rd2, Option.bind_some]
  obtain ⟨g3, M3, e3, c3, f3, v3⟩ := c2.cut (i := j) (j := 61) (k := 60) (by omega) (by decide) (by decide) (by omega) (by omega) (by decide) (by decide) (by decide) ((f2 61 (by decide) (by decide) (by decide)).trans v1) hg
  rw [f2 j (by omega) (by omega) (by omega), f1 j (by omega) (by omega) (by omega) (by omega) (by omega)] at v3
  rw [e3]
  simp only [c3.rd2, Option.bind_some]
  obtain ⟨g4, M4, e4, c4, f4, v4, w4⟩ := c3.raiseBottom
  rw [e4]
  refine ⟨g4, M4, rfl, c4, fun x hx => ?_, ?_⟩
  · rw [f4 x (by omega) (by omega), f3 x (by omega) (by omega) (by omega), f2 x (by omega) (by omega) (by omega), f1 x (by omega) (by omega) (by omega) (by omega) (by omega)]
  · rw [v4, w4, v3, f3 59 (by decide) (by decide) (by decide), v2]
    exact hR
theorem cu_lt {a : Int} {g N : Nat} (h : a.natAbs < N) : (cu a g).natAbs < N := by
  rw [cu_abs]
  exact Nat.lt_of_le_of_lt (Nat.div_le_self _ _) h
/-- what stands of a ratio -/
def ratOk (M : Nat → Int) (r : Nat) : Prop := 0 < M (36 + r) ∧ Nat.Coprime (M (24 + r)).natAbs (M (36 + r)).natAbs ∧ (M (24 + r)).natAbs < B32 ^ 12 ∧ (M (36 + r)).natAbs < B32 ^ 12
theorem CW.addTail (c : CW B n d h M) (hs : s < 12) (sp : 0 < M (36 + s)) (b62 : (M 62).natAbs < B32 ^ 12) (sb : (M (36 + s)).natAbs < B32 ^ 12) {g : Nat} (hg : M 61 = (g : Int)) (g0 : 0 < g) :
    ∃ h' M', zj_X2_addUp_118 h (n + 141) (n + (51 + 5 * s)) = some h' ∧ CW B n d h' M' ∧ (∀ x, x < 48 → M' x = M x) ∧ M' 59 = cu (M 59) (Nat.gcd (M 59).natAbs g) ∧ M' 60 = M 62 * cu (M (36 + s)) (Nat.gcd (M 59).natAbs g) := by
  unfold zj_X2_addUp_118
  simp only [c.rd2, c.rd3, Option.bind_some]
  obtain ⟨g1, M1, e1, c1, f1, v1⟩ := c.commonDivisor (i := 59) (j := 61) (k := 61) (by decide) (by decide) (by decide) (by decide)
  rw [hg, Int.natAbs_natCast] at v1
  rw [e1]
  simp only [c1.rd2, Option.bind_some]
  have hd : 0 < Nat.gcd (M 59).natAbs g := Nat.gcd_pos_of_pos_right _ g0
  generalize Nat.gcd (M 59).natAbs g = k at hd v1 ⊢
  obtain ⟨g2, M2, e2, c2, f2, v2⟩ := c1.cut (i := 59) (j := 61) (k := 59) (by decide) (by decide) (by decide) (by decide) (by decide) (by decide) (by decide) (by decide) v1 hd
  rw [f1 59 (by decide) (by decide) (by decide) (by decide) (by decide)] at v2
  rw [e2]
  simp only [c2.rd2, c2.rd4 hs, Option.bind_some]
  obtain ⟨g3, M3, e3, c3, f3, v3⟩ := c2.cut (i := 36 + s) (j := 61) (k := 63) (by omega) (by decide) (by decide) (by omega) (by omega) (by decide) (by decide) (by decide) ((f2 61 (by decide) (by decide) (by decide)).trans v1) hd
  rw [f2 (36 + s) (by omega) (by omega) (by omega), f1 (36 + s) (by omega) (by omega) (by omega) (by omega) (by omega)] at v3
  rw [e3]
  simp only [c3.rd2, Option.bind_some]
  have m62 : M3 62 = M 62 := by rw [f3 62 (by decide) (by decide) (by decide), f2 62 (by decide) (by decide) (by decide), f1 62 (by decide) (by decide) (by decide) (by decide) (by decide)]
  obtain ⟨g4, e4, c4⟩ := c3.product (i := 62) (j := 63) (k := 60) (na := 12) (nb := 12) (by decide) (by decide) (by decide) (by decide) (by decide) (by rw [m62]; exact b62) (by rw [v3]; exact cu_lt sb) (by decide)
  rw [e4]
  refine ⟨g4, _, rfl, c4, fun x hx => ?_, ?_, ?_⟩
  · rw [va_un (by omega), f3 x (by omega) (by omega) (by omega), f2 x (by omega) (by omega) (by omega), f1 x (by omega) (by omega) (by omega) (by omega) (by omega)]
  · rw [va_un (by decide), f3 59 (by decide) (by decide) (by decide), v2]
  · rw [va_us, m62, v3]
theorem CW.addUp (c : CW B n d h M) (hr : r < 12) (hs : s < 12) (pr : ratOk M r) (ps : ratOk M s) {u : Int32} {sg : Int} (hu : (u = 0 ∧ sg = 1) ∨ (u = 1 ∧ sg = -1)) :
    ∃ h' M', zs_X2_addUp h (n + 141) (n + (51 + 5 * r)) (n + (51 + 5 * s)) u = some h' ∧ CW B n d h' M' ∧ (∀ x, x < 48 → M' x = M x) ∧ isRat (M (24 + r) * M (36 + s) + sg * (M (24 + s) * M (36 + r))) (M (36 + r) * M (36 + s)) (M' 59) (M' 60) := by
  unfold zs_X2_addUp
  simp only [c.rd2, c.rd3, c.rd4 hr, c.rd4 hs, Option.bind_some]
  obtain ⟨g1, M1, e1, c1, f1, v1⟩ := c.commonDivisor (i := 36 + r) (j := 36 + s) (k := 61) (by omega) (by omega) (by decide) (by omega)
  rw [e1]
  simp only [c1.rd2, c1.rd4 hr, Option.bind_some]
  have F1 : ∀ x, x < 48 → M1 x = M x := fun x hx => f1 x (by omega) (by omega) (by omega) (by omega) (by omega)
  obtain ⟨p0, p1, p2, p3⟩ := pr
  obtain ⟨q0, q1, q2, q3⟩ := ps
  have hg : 0 < Nat.gcd (M (36 + r)).natAbs (M (36 + s)).natAbs := Nat.gcd_pos_of_pos_right _ (by omega)
  generalize hgg : Nat.gcd (M (36 + r)).natAbs (M (36 + s)).natAbs = g at hg v1
  obtain ⟨g2, M2, e2, c2, f2, v2⟩ := c1.cut (i := 36 + r) (j := 61) (k := 62) (by omega) (by decide) (by decide) (by omega) (by omega) (by decide) (by decide) (by decide) v1 hg
  rw [F1 (36 + r) (by omega)] at v2
  rw [e2]
  simp only [c2.rd2, c2.rd4 hs, Option.bind_some]
  have F2 : ∀ x, x < 48 → M2 x = M x := fun x hx => by rw [f2 x (by omega) (by omega) (by omega), F1 x hx]
  obtain ⟨g3, M3, e3, c3, f3, v3⟩ := c2.cut (i := 36 + s) (j := 61) (k := 63) (by omega) (by decide) (by decide) (by omega) (by omega) (by decide) (by decide) (by decide) ((f2 61 (by decide) (by decide) (by decide)).trans v1) hg
  rw [F2 (36 + s) (by omega)] at v3
  rw [e3]
  simp only [c3.rd2, c3.rd4 hr, Option.bind_some]
  have F3 : ∀ x, x < 48 → M3 x = M x := fun x hx => by rw [f3 x (by omega) (by omega) (by omega), F2 x hx]
  have w62 : M3 62 = cu (M (36 + r)) g := by rw [f3 62 (by decide) (by decide) (by decide), v2]
  have w61 : M3 61 = (g : Int) := by rw [f3 61 (by decide) (by decide) (by decide), f2 61 (by decide) (by decide) (by decide), v1]
  obtain ⟨g4, e4, c4⟩ := c3.product (i := 24 + r) (j := 63) (k := 59) (na := 12) (nb := 12) (by omega) (by decide) (by decide) (by omega) (by decide) (by rw [F3 (24 + r) (by omega)]; exact p2) (by rw [v3]; exact cu_lt q3) (by decide)
  rw [F3 (24 + r) (by omega), v3] at c4
  rw [e4]
  simp only [c4.rd2, c4.rd4 hs, Option.bind_some]
  obtain ⟨g5, e5, c5⟩ := c4.product (i := 24 + s) (j := 62) (k := 64) (na := 12) (nb := 12) (by omega) (by decide) (by decide) (by omega) (by decide) (by rw [va_un (by omega), F3 (24 + s) (by omega)]; exact q2) (by rw [va_un (by decide), w62]; exact cu_lt p3) (by decide)
  rw [va_un (show 24 + s ≠ 59 by omega), va_un (show 62 ≠ 59 by decide), F3 (24 + s) (by omega), w62] at c5
  rw [e5]
  simp only [c5.rd2, Option.bind_some]
  have b1 : (M (24 + r) * cu (M (36 + s)) g).natAbs < B32 ^ 25 := by
    rw [Int.natAbs_mul]
    exact Nat.lt_trans (Nat.mul_lt_mul_of_lt_of_lt p2 (cu_lt q3)) (by decide)
  have b2 : (M (24 + s) * cu (M (36 + r)) g).natAbs < B32 ^ 25 := by
    rw [Int.natAbs_mul]
    exact Nat.lt_trans (Nat.mul_lt_mul_of_lt_of_lt q2 (cu_lt p3)) (by decide)
  have hsg : sg = 1 ∨ sg = -1 := by omega
  have hfin : ∀ (h6 : AH) (M6 : Nat → Int), CW B n d h6 M6 → (∀ x, x ≠ 59 → x ≠ 64 → M6 x = M3 x) → M6 59 = M (24 + r) * cu (M (36 + s)) g + sg * (M (24 + s) * cu (M (36 + r)) g) →
      ∃ h' M', zj_X2_addUp_118 h6 (n + 141) (n + (51 + 5 * s)) = some h' ∧ CW B n d h' M' ∧ (∀ x, x < 48 → M' x = M x) ∧ isRat (M (24 + r) * M (36 + s) + sg * (M (24 + s) * M (36 + r))) (M (36 + r) * M (36 + s)) (M' 59) (M' 60) := by
    intro h6 M6 c6 f6 v6
    have y36 : M6 (36 + s) = M (36 + s) := by rw [f6 (36 + s) (by omega) (by omega), F3 (36 + s) (by omega)]
    have y62 : M6 62 = cu (M (36 + r)) g := by rw [f6 62 (by decide) (by decide), w62]
    obtain ⟨h7, M7, e7, c7, f7, v7, w7⟩ := c6.addTail hs (by rw [y36]; exact q0) (by rw [y62]; exact cu_lt p3) (by rw [y36]; exact q3) ((f6 61 (by decide) (by decide)).trans w61) hg
    refine ⟨h7, M7, e7, c7, fun x hx => by rw [f7 x hx, f6 x (by omega) (by omega), F3 x hx], ?_⟩
    rw [v7, w7, y36, y62]
    exact rat_sum hsg p0 q0 p1 q1 hgg.symm v6 rfl
  rcases hu with ⟨rfl, rfl⟩ | ⟨rfl, rfl⟩
  · rw [if_pos rfl]
    obtain ⟨g6, e6, c6⟩ := c5.sum (i := 59) (j := 64) (k := 59) (by decide) (by decide) (by decide) (by rw [va_un (by decide), va_us]; exact b1) (by rw [va_us]; exact b2)
    rw [va_un (show 59 ≠ 64 by decide), va_us, va_us] at c6
    rw [e6]
    simp only [Option.bind_some]
    exact hfin g6 _ c6 (fun x h1 h2 => by rw [va_un h1, va_un h2, va_un h1]) (by rw [va_us, Int.one_mul])
  · rw [if_neg (by decide)]
    obtain ⟨g6, e6, c6⟩ := c5.difference (i := 59) (j := 64) (k := 59) (by decide) (by decide) (by decide) (by rw [va_un (by decide), va_us]; exact b1) (by rw [va_us]; exact b2)
    rw [va_un (show 59 ≠ 64 by decide), va_us, va_us] at c6
    rw [e6]
    simp only [Option.bind_some]
    exact hfin g6 _ c6 (fun x h1 h2 => by rw [va_un h1, va_un h2, va_un h1]) (by rw [va_us, Int.neg_mul, Int.one_mul]; rfl)
theorem CW.multiply (c : CW B n d h M) (hr : r < 12) (pr : ratOk M r) (hi : i < 48) (hj : j < 48) (hb : M j ≠ 0) (cq : Nat.Coprime (M i).natAbs (M j).natAbs) (bi : (M i).natAbs < B32 ^ 12) (bj : (M j).natAbs < B32 ^ 12) :
    ∃ h' M', zs_X2_multiply h (n + 141) (n + (51 + 5 * r)) (aw n i) (aw n j) = some h' ∧ CW B n d h' M' ∧ (∀ x, x < 48 → M' x = M x) ∧ isRat (M (24 + r) * M i) (M (36 + r) * M j) (M' 59) (M' 60) := by
  unfold zs_X2_multiply
  simp only [c.rd2, c.rd3, c.rd4 hr, Option.bind_some]
  obtain ⟨p0, p1, p2, p3⟩ := pr
  obtain ⟨g1, M1, e1, c1, f1, v1⟩ := c.commonDivisor (i := 24 + r) (j := j) (k := 61) (by omega) (by omega) (by decide) (by omega)
  rw [e1]
  simp only [c1.rd2, c1.rd4 hr, Option.bind_some]
  have F1 : ∀ x, x < 48 → M1 x = M x := fun x hx => f1 x (by omega) (by omega) (by omega) (by omega) (by omega)
  have hg : 0 < Nat.gcd (M (24 + r)).natAbs (M j).natAbs := Nat.gcd_pos_of_pos_right _ (by omega)
  have hk : 0 < Nat.gcd (M (36 + r)).natAbs (M i).natAbs := Nat.gcd_pos_of_pos_left _ (by omega)
  have hR := rat_prod (pt := M (24 + r)) (a := M i) p0 hb p1 cq rfl rfl
  generalize Nat.gcd (M (24 + r)).natAbs (M j).natAbs = g at hg v1 hR
  obtain ⟨g2, M2, e2, c2, f2, v2⟩ := c1.cut (i := 24 + r) (j := 61) (k := 62) (by omega) (by decide) (by decide) (by omega) (by omega) (by decide) (by decide) (by decide) v1 hg
  rw [F1 (24 + r) (by omega)] at v2
  rw [e2]
  simp only [c2.rd2, Option.bind_some]
  have F2 : ∀ x, x < 48 → M2 x = M x := fun x hx => by rw [f2 x (by omega) (by omega) (by omega), F1 x hx]
  obtain ⟨g3, M3, e3, c3, f3, v3⟩ := c2.cut (i := j) (j := 61) (k := 63) (by omega) (by decide) (by decide) (by omega) (by omega) (by decide) (by decide) (by decide) ((f2 61 (by decide) (by decide) (by decide)).trans v1) hg
  rw [F2 j hj] at v3
  rw [e3]
  simp only [c3.rd2, c3.rd3, c3.rd4 hr, Option.bind_some]
  have F3 : ∀ x, x < 48 → M3 x = M x := fun x hx => by rw [f3 x (by omega) (by omega) (by omega), F2 x hx]
  obtain ⟨g4, M4, e4, c4, f4, v4⟩ := c3.commonDivisor (i := 36 + r) (j := i) (k := 61) (by omega) (by omega) (by decide) (by omega)
  rw [F3 (36 + r) (by omega), F3 i hi] at v4
  rw [e4]
  simp only [c4.rd2, Option.bind_some]
  have F4 : ∀ x, x < 48 → M4 x = M x := fun x hx => by rw [f4 x (by omega) (by omega) (by omega) (by omega) (by omega), F3 x hx]
  generalize Nat.gcd (M (36 + r)).natAbs (M i).natAbs = k at hk v4 hR
  obtain ⟨g5, M5, e5, c5, f5, v5⟩ := c4.cut (i := i) (j := 61) (k := 64) (by omega) (by decide) (by decide) (by omega) (by omega) (by decide) (by decide) (by decide) v4 hk
  rw [F4 i hi] at v5
  rw [e5]
  simp only [c5.rd2, Option.bind_some]
  have F5 : ∀ x, x < 48 → M5 x = M x := fun x hx => by rw [f5 x (by omega) (by omega) (by omega), F4 x hx]
  have w62 : M5 62 = cu (M (24 + r)) g := by rw [f5 62 (by decide) (by decide) (by decide), f4 62 (by decide) (by decide) (by decide) (by decide) (by decide), f3 62 (by decide) (by decide) (by decide), v2]
  have w63 : M5 63 = cu (M j) g := by rw [f5 63 (by decide) (by decide) (by decide), f4 63 (by decide) (by decide) (by decide) (by decide) (by decide), v3]
  obtain ⟨g6, e6, c6⟩ := c5.product (i := 62) (j := 64) (k := 59) (na := 12) (nb := 12) (by decide) (by decide) (by decide) (by decide) (by decide) (by rw [w62]; exact cu_lt p2) (by rw [v5]; exact cu_lt bi) (by decide)
  rw [w62, v5] at c6
  rw [e6]
  simp only [c6.rd2, c6.rd4 hr, Option.bind_some]
  obtain ⟨g7, M7, e7, c7, f7, v7⟩ := c6.cut (i := 36 + r) (j := 61) (k := 64) (by omega) (by decide) (by decide) (by omega) (by omega) (by decide) (by decide) (by decide) (by rw [va_un (by decide), f5 61 (by decide) (by decide) (by decide), v4]) hk
  rw [va_un (show 36 + r ≠ 59 by omega), F5 (36 + r) (by omega)] at v7
  rw [e7]
  simp only [c7.rd2, Option.bind_some]
  have x63 : M7 63 = cu (M j) g := by rw [f7 63 (by decide) (by decide) (by decide), va_un (by decide), w63]
  obtain ⟨g8, e8, c8⟩ := c7.product (i := 63) (j := 64) (k := 60) (na := 12) (nb := 12) (by decide) (by decide) (by decide) (by decide) (by decide) (by rw [x63]; exact cu_lt bj) (by rw [v7]; exact cu_lt p3) (by decide)
  rw [x63, v7] at c8
  rw [e8]
  simp only [c8.rd2, Option.bind_some]
  obtain ⟨g9, M9, e9, c9, f9, v9, w9⟩ := c8.raiseBottom
  rw [va_us, va_un (show 59 ≠ 60 by decide), f7 59 (by decide) (by decide) (by decide), va_us] at v9
  rw [va_us] at w9
  rw [e9]
  refine ⟨g9, M9, rfl, c9, fun x hx => ?_, ?_⟩
  · rw [f9 x (by omega) (by omega), va_un (by omega), f7 x (by omega) (by omega) (by omega), va_un (by omega), F5 x hx]
  · rw [v9, w9]
    exact hR
theorem CW.orderR (c : CW B n d h M) (hr : r < 12) (hs : s < 12) (pr : ratOk M r) (ps : ratOk M s) :
    ∃ h' M', zs_X2_order h (n + 141) (n + (51 + 5 * r)) (n + (51 + 5 * s)) = some (cmpZ (M (24 + r) * M (36 + s)) (M (24 + s) * M (36 + r)), h') ∧ CW B n d h' M' ∧ (∀ x, x < 48 → M' x = M x) := by
  unfold zs_X2_order
  obtain ⟨p0, p1, p2, p3⟩ := pr
  obtain ⟨q0, q1, q2, q3⟩ := ps
  simp only [c.rd2, c.rd4 hr, c.rd4 hs, Option.bind_some]
  obtain ⟨g1, e1, c1⟩ := c.product (i := 24 + r) (j := 36 + s) (k := 62) (na := 12) (nb := 12) (by omega) (by omega) (by decide) (by omega) (by omega) p2 q3 (by decide)
  rw [e1]
  simp only [c1.rd2, c1.rd4 hr, c1.rd4 hs, Option.bind_some]
  obtain ⟨g2, e2, c2⟩ := c1.product (i := 24 + s) (j := 36 + r) (k := 63) (na := 12) (nb := 12) (by omega) (by omega) (by decide) (by omega) (by omega) (by rw [va_un (by omega)]; exact q2) (by rw [va_un (by omega)]; exact p3) (by decide)
  rw [va_un (show 24 + s ≠ 62 by omega), va_un (show 36 + r ≠ 62 by omega)] at c2
  rw [e2]
  simp only [c2.rd2, Option.bind_some, c2.order (show 62 < 70 by decide) (show 63 < 70 by decide)]
  rw [va_us, va_un (show 62 ≠ 63 by decide), va_us]
  exact ⟨g2, _, rfl, c2, fun x hx => by rw [va_un (by omega), va_un (by omega)]⟩
/-- after a division, way 1, by what stands at j -/
theorem CW.nearerAbove (c : CW B n d h M) (hj : j < 48) (bl : (M 50).natAbs < B32 ^ 25) :
    ∃ h' M', zs_X2_nearerAbove h (n + 141) (aw n j) = some (if M j < M 50 + M 50 ∨ (M 50 + M 50 = M j ∧ (M 49).natAbs % 2 = 1) then 1 else 0, h') ∧ CW B n d h' M' ∧ (∀ x, x ≠ 64 → M' x = M x) := by
  unfold zs_X2_nearerAbove
  simp only [c.rd2, c.rd0, Option.bind_some]
  obtain ⟨g1, e1, c1⟩ := c.sum (i := 50) (j := 50) (k := 64) (by decide) (by decide) (by decide) bl bl
  rw [e1]
  have hj70 : j < 70 := by omega
  simp only [c1.rd2, Option.bind_some, c1.order (show 64 < 70 by decide) hj70]
  rw [va_us, va_un (show j ≠ 64 by omega)]
  generalize M 50 + M 50 = L at c1 ⊢
  have hfr : ∀ x, x ≠ 64 → va_up M 64 L x = M x := fun x hx => va_un hx
  refine ⟨g1, _, ?_, c1, hfr⟩
  rcases Int.lt_trichotomy L (M j) with hl | he | hg
  · rw [show cmpZ L (M j) = -1 from if_pos hl, if_neg (by decide), if_neg (by decide), if_neg (by omega)]
  · rw [show cmpZ L (M j) = 0 by unfold cmpZ; rw [if_neg (by omega), if_pos he], if_neg (by decide), if_pos rfl]
    simp only [c1.rd0, Option.bind_some, c1.chk8 (show 49 < 70 by decide), c1.isOdd (show 49 < 70 by decide)]
    rw [va_un (show 49 ≠ 64 by decide)]
    by_cases ho : (M 49).natAbs % 2 = 1
    · rw [if_pos ho, if_neg (by decide), if_pos (Or.inr ⟨he, ho⟩)]
    · rw [if_neg ho, if_pos rfl, if_neg (by rintro (a | ⟨-, a⟩) <;> omega)]
  · rw [show cmpZ L (M j) = 1 by unfold cmpZ; rw [if_neg (by omega), if_neg (by omega)], if_pos (by decide), if_pos (Or.inl hg)]
end Frc
