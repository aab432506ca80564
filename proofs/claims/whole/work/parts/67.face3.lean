/-! the class's methods keep to the calls: ratios and digits -/
section Fc3
variable {B h : AH} {n : Nat} {S : AS}
theorem c_ratio (I : CI B n h S) (a b q : Int32) : ∃ r h' S', zs_X9_ratio h n a b q = some (r, h') ∧ CI B n h' S' ∧ Sp_ratio S a b q r S' := by
  unfold zs_X9_ratio Sp_ratio
  cases h1 : ix2 a b with
  | none =>
    rcases ix2_none h1 with h2 | ⟨i, hi, rfl, h2⟩
    · rw [isSlot_n h h2]; exact ⟨-1, h, S, rfl, I, rfl, rfl⟩
    · rw [isSlot_y h hi, isSlot_n h h2]; exact ⟨-1, h, S, rfl, I, rfl, rfl⟩
  | some p =>
    obtain ⟨i, j⟩ := p
    obtain ⟨⟨rfl, hi⟩, rfl, hj⟩ := ix2_some h1
    rw [isSlot_y h hi, isSlot_y h hj]
    simp only [Option.bind_some]
    rw [if_neg (by decide), if_neg (by decide)]
    cases h2 : ixI 12 q with
    | none => rw [isRatio_n h h2]; exact ⟨-1, h, S, rfl, I, rfl, rfl⟩
    | some k =>
      obtain ⟨rfl, hk⟩ := ixI_some h2
      obtain ⟨d, M, c, m, dd, si⟩ := I
      rw [isRatio_y h hk]
      have hj70 : j < 70 := by omega
      simp only [Option.bind_some]
      rw [if_neg (by decide)]
      simp only [c.rd9, c.rd2, c.slot hi, c.slot hj, c.chk8 hj70, c.isZero hj70, Option.bind_some]
      rw [m.1 j hj]
      by_cases hz : S.sl j = 0
      · rw [if_pos hz, if_neg (by decide)]
        exact ⟨-2, h, S, rfl, ⟨d, M, c, m, dd, si⟩, by rw [if_pos hz]; exact ⟨rfl, rfl⟩⟩
      · rw [if_neg hz, if_pos rfl]
        obtain ⟨g1, M1, e1, c1, f1, v1⟩ := c.reduce (i := i) (j := j) (by omega) (by omega) (by rw [m.1 j hj]; exact hz)
        rw [m.1 i hi, m.1 j hj] at v1
        rw [e1]
        simp only [c1.rd9, Option.bind_some]
        obtain ⟨r, h', S', e3, I3, k3⟩ := keepRatioC c1 (m.fr f1) dd si hk v1.1 v1.2.1
        rw [e3]
        exact ⟨r, h', S', rfl, I3, by rw [if_neg hz]; exact ⟨_, _, v1, k3⟩⟩
theorem c_actRatio (I : CI B n h S) (how p q z : Int32) : ∃ r h' S', zs_X9_actRatio h n how p q z = some (r, h') ∧ CI B n h' S' ∧ Sp_actRatio S how p q z r S' := by
  unfold zs_X9_actRatio Sp_actRatio
  cases h1 : ixI 4 how with
  | none =>
    rcases ixI_rng (N := 3) (by decide) h1 with h2 | ⟨h2, h3, h4⟩
    · rw [if_pos h2]; exact ⟨-1, h, S, rfl, I, rfl, rfl⟩
    · rw [if_neg h2, if_pos (show (3 : Int32) < how from h3)]; exact ⟨-1, h, S, rfl, I, rfl, rfl⟩
  | some w =>
    obtain ⟨rfl, hw⟩ := ixI_some h1
    rw [if_neg (nI_pos (by omega)), if_neg (show ¬ (3 : Int32) < nI w from nI_nlt (a := 3) (by omega) (by decide))]
    cases h2 : ixI 12 p with
    | none => rw [isRatio_n h h2]; exact ⟨-1, h, S, rfl, I, rfl, rfl⟩
    | some i =>
      obtain ⟨rfl, hi⟩ := ixI_some h2
      rw [isRatio_y h hi]
      simp only [Option.bind_some]
      rw [if_neg (by decide)]
      cases h3 : ixI 12 q with
      | none => rw [isRatio_n h h3]; exact ⟨-1, h, S, rfl, I, rfl, rfl⟩
      | some j =>
        obtain ⟨rfl, hj⟩ := ixI_some h3
        rw [isRatio_y h hj]
        simp only [Option.bind_some]
        rw [if_neg (by decide)]
        cases h4 : ixI 12 z with
        | none => rw [isRatio_n h h4]; exact ⟨-1, h, S, rfl, I, rfl, rfl⟩
        | some k =>
          obtain ⟨rfl, hk⟩ := ixI_some h4
          obtain ⟨d, M, c, m, dd, si⟩ := I
          rw [isRatio_y h hk]
          simp only [Option.bind_some]
          rw [if_neg (by decide)]
          have mi := m.2 i hi
          have mj := m.2 j hj
          have oi := m.ratOk si hi
          have oj := m.ratOk si hj
          have ni := si.2.1 i hi
          have nj := si.2.1 j hj
          simp only [c.rd9, c.ratio hi, c.ratio hj, c.rd4 hj, Option.bind_some]
          have fin : ∀ (g1 : AH) (M1 : Nat → Int), CW B n d g1 M1 → (∀ x, x < 48 → M1 x = M x) → isRat (arP w (S.tp i) (S.bt i) (S.tp j) (S.bt j)) (arQ w (S.bt i) (S.tp j) (S.bt j)) (M1 59) (M1 60) → ¬ (w = 3 ∧ S.tp j = 0) → ∃ r h' S', zj_X9_actRatio_143 g1 n (nI k) = some (r, h') ∧ CI B n h' S' ∧ (if w = 3 ∧ S.tp j = 0 then errC S (-2) r S' else ∃ t u, isRat (arP w (S.tp i) (S.bt i) (S.tp j) (S.bt j)) (arQ w (S.bt i) (S.tp j) (S.bt j)) t u ∧ kpR S k t u r S') := by
            intro g1 M1 c1 f1 v1 hz
            unfold zj_X9_actRatio_143
            simp only [c1.rd9, Option.bind_some]
            obtain ⟨r, h', S', e3, I3, k3⟩ := keepRatioC c1 (m.fr f1) dd si hk v1.1 v1.2.1
            rw [e3]
            exact ⟨r, h', S', rfl, I3, by rw [if_neg hz]; exact ⟨_, _, v1, k3⟩⟩
          rcases (show w = 0 ∨ w = 1 ∨ w = 2 ∨ w = 3 by omega) with rfl | rfl | rfl | rfl
          · rw [if_neg (by decide)]
            unfold zj_X9_actRatio_68
            rw [if_neg (by decide)]
            simp only [c.rd9, Option.bind_some]
            rw [if_neg (by decide)]
            unfold zj_X9_actRatio_91
            simp only [c.rd2, Option.bind_some]
            obtain ⟨g1, M1, e1, c1, f1, v1⟩ := c.addUp hi hj oi oj (u := 0) (sg := 1) (Or.inl ⟨rfl, rfl⟩)
            rw [e1]
            rw [mi.1, mi.2, mj.1, mj.2, Int.one_mul] at v1
            exact fin g1 M1 c1 f1 v1 (by omega)
          · rw [if_neg (by decide)]
            unfold zj_X9_actRatio_68
            rw [if_neg (by decide)]
            simp only [c.rd9, Option.bind_some]
            rw [if_pos (by decide)]
            unfold zj_X9_actRatio_91
            simp only [c.rd2, Option.bind_some]
            obtain ⟨g1, M1, e1, c1, f1, v1⟩ := c.addUp hi hj oi oj (u := 1) (sg := -1) (Or.inr ⟨rfl, rfl⟩)
            rw [e1]
            rw [mi.1, mi.2, mj.1, mj.2, Int.neg_mul, Int.one_mul] at v1
            exact fin g1 M1 c1 f1 v1 (by omega)
          · rw [if_neg (by decide)]
            unfold zj_X9_actRatio_68
            rw [if_pos (by decide), if_pos (by decide)]
            simp only [c.rd9, c.rd2, c.rd4 hj, Option.bind_some]
            obtain ⟨g1, M1, e1, c1, f1, v1⟩ := c.multiply hi oi (i := 24 + j) (j := 36 + j) (by omega) (by omega) (by have := oj.1; omega) oj.2.1 oj.2.2.1 oj.2.2.2
            rw [e1]
            rw [mi.1, mi.2, mj.1, mj.2] at v1
            exact fin g1 M1 c1 f1 v1 (by omega)
          · rw [if_pos (by decide)]
            simp only [c.chk8 (show 24 + j < 70 by omega), c.isZero (show 24 + j < 70 by omega), Option.bind_some]
            rw [mj.1]
            by_cases hz : S.tp j = 0
            · rw [if_pos hz, if_neg (by decide)]
              exact ⟨-2, h, S, rfl, ⟨d, M, c, m, dd, si⟩, by rw [if_pos ⟨trivial, hz⟩]; exact ⟨rfl, rfl⟩⟩
            · rw [if_neg hz, if_pos rfl]
              unfold zj_X9_actRatio_68
              rw [if_pos (by decide), if_neg (by decide)]
              simp only [c.rd9, c.rd2, c.rd4 hj, Option.bind_some]
              obtain ⟨g1, M1, e1, c1, f1, v1⟩ := c.multiply hi oi (i := 36 + j) (j := 24 + j) (by omega) (by omega) (by rw [mj.1]; exact hz) oj.2.1.symm oj.2.2.2 oj.2.2.1
              rw [e1]
              rw [mi.1, mi.2, mj.1, mj.2] at v1
              obtain ⟨r, h', S', e5, I5, k5⟩ := fin g1 M1 c1 f1 v1 (fun z => hz z.2)
              rw [if_neg (fun z => hz z.2)] at k5
              exact ⟨r, h', S', e5, I5, by rw [if_neg (fun z => hz z.2)]; exact k5⟩
theorem c_compareRatio (I : CI B n h S) (p q : Int32) : ∃ r h', zs_X9_compareRatio h n p q = some (r, h') ∧ CI B n h' S ∧ Sp_compareRatio S p q r := by
  unfold zs_X9_compareRatio Sp_compareRatio
  cases h2 : ixI 12 p with
  | none => rw [isRatio_n h h2]; exact ⟨-1, h, rfl, I, rfl⟩
  | some i =>
    obtain ⟨rfl, hi⟩ := ixI_some h2
    rw [isRatio_y h hi]
    simp only [Option.bind_some]
    rw [if_neg (by decide)]
    cases h3 : ixI 12 q with
    | none => rw [isRatio_n h h3]; exact ⟨-1, h, rfl, I, rfl⟩
    | some j =>
      obtain ⟨rfl, hj⟩ := ixI_some h3
      obtain ⟨d, M, c, m, dd, si⟩ := I
      rw [isRatio_y h hj]
      simp only [Option.bind_some]
      rw [if_neg (by decide)]
      simp only [c.rd9, c.rd2, c.ratio hi, c.ratio hj, Option.bind_some]
      obtain ⟨g1, M1, e1, c1, f1⟩ := c.orderR hi hj (m.ratOk si hi) (m.ratOk si hj)
      rw [(m.2 i hi).1, (m.2 i hi).2, (m.2 j hj).1, (m.2 j hj).2] at e1
      rw [e1]
      exact ⟨_, g1, rfl, ⟨d, M1, c1, m.fr f1, dd, si⟩, rfl⟩
theorem sgv_abs (s : Int32) (x : Nat) : (sgv s x).natAbs = x := by
  unfold sgv
  split
  · rw [Int.natAbs_natCast]
  · rw [Int.natAbs_neg, Int.natAbs_natCast]
theorem dvR_lt {way : Int32} {t b : Int} (hb : b ≠ 0) : (dvR way t b).natAbs ≤ 2 * b.natAbs := by
  have h1 : (rt t b).natAbs < b.natAbs := by
    unfold rt
    rw [sgv_abs]
    exact Nat.mod_lt t.natAbs (show 0 < b.natAbs by omega)
  unfold dvR
  split
  · split <;> omega
  · omega
theorem dvQ_lt {way : Int32} {t b : Int} : (dvQ way t b).natAbs ≤ t.natAbs + 1 := by
  have h1 : (qt t b).natAbs ≤ t.natAbs := by
    unfold qt
    rw [sgv_abs]
    exact Nat.div_le_self t.natAbs b.natAbs
  unfold dvQ
  split
  · split <;> omega
  · omega
theorem c_part (I : CI B n h S) (q which s : Int32) : ∃ r h' S', zs_X9_part h n q which s = some (r, h') ∧ CI B n h' S' ∧ Sp_part S q which s r S' := by
  unfold zs_X9_part Sp_part
  cases h2 : ixI 12 q with
  | none => rw [isRatio_n h h2]; exact ⟨-1, h, S, rfl, I, rfl, rfl⟩
  | some i =>
    obtain ⟨rfl, hi⟩ := ixI_some h2
    rw [isRatio_y h hi]
    simp only [Option.bind_some]
    rw [if_neg (by decide)]
    cases h1 : ixI 4 which with
    | none =>
      rcases ixI_rng (N := 3) (by decide) h1 with h2 | ⟨h2, h3, h4⟩
      · rw [if_pos h2]; exact ⟨-1, h, S, rfl, I, rfl, rfl⟩
      · rw [if_neg h2, if_pos (show (3 : Int32) < which from h3)]; exact ⟨-1, h, S, rfl, I, rfl, rfl⟩
    | some w =>
      obtain ⟨rfl, hw⟩ := ixI_some h1
      rw [if_neg (nI_pos (by omega)), if_neg (show ¬ (3 : Int32) < nI w from nI_nlt (a := 3) (by omega) (by decide))]
      cases h3 : ixI 24 s with
      | none => rw [isSlot_n h h3]; exact ⟨-1, h, S, rfl, I, rfl, rfl⟩
      | some k =>
        obtain ⟨rfl, hk⟩ := ixI_some h3
        obtain ⟨d, M, c, m, dd, si⟩ := I
        rw [isSlot_y h hk]
        simp only [Option.bind_some]
        rw [if_neg (by decide)]
        simp only [c.rd9, c.ratio hi, c.rd4 hi, Option.bind_some]
        have mi := m.2 i hi
        have ni := si.2.1 i hi
        by_cases w0 : w = 0
        · subst w0
          rw [if_pos (by decide)]
          obtain ⟨r, h', S', e3, I3, k3⟩ := keepC c m dd si (k := 24 + i) (by omega) hk
          rw [mi.1] at k3
          rw [e3]
          exact ⟨r, h', S', rfl, I3, k3⟩
        · rw [if_neg (show ¬ nI w = (0 : Int32) from fun z => w0 ((nI_eq (b := 0) (by omega) (by decide)).mp z))]
          by_cases w1 : w = 1
          · subst w1
            rw [if_pos (by decide)]
            obtain ⟨r, h', S', e3, I3, k3⟩ := keepC c m dd si (k := 36 + i) (by omega) hk
            rw [mi.2] at k3
            rw [e3]
            exact ⟨r, h', S', rfl, I3, k3⟩
          · rw [if_neg (show ¬ nI w = (1 : Int32) from fun z => w1 ((nI_eq (b := 1) (by omega) (by decide)).mp z))]
            simp only [c.rd0, Option.bind_some]
            have hlt : B32 ^ 12 < B32 ^ 25 := by decide
            have bz : S.bt i ≠ 0 := by have := ni.1; omega
            obtain ⟨g1, e1, c1⟩ := c.divide (i := 24 + i) (j := 36 + i) (by omega) (by omega) (by omega) (by omega) (by omega) (by omega) (by rw [mi.2]; exact bz) (by rw [mi.1]; have := ni.2.2.1; omega) (by rw [mi.2]; have := ni.2.2.2; omega) 1
            rw [mi.1, mi.2] at c1
            rw [e1]
            simp only [c1.rd9, c1.rd0, c1.chk8 (show 68 < 70 by decide), Option.bind_some]
            obtain ⟨g2, e2, c2⟩ := c1.copy (k := 68) (i := 49) (by decide) (by decide)
            rw [va_un (show 49 ≠ 50 by decide), va_us] at c2
            rw [e2]
            simp only [Option.bind_some]
            have fin : ∀ (g3 : AH) (M3 : Nat → Int) (x : Int), CW B n d g3 M3 → (∀ y, y < 48 → M3 y = M y) → M3 68 = x → ∃ r h' S', zj_X9_part_131 g3 n (nI k) = some (r, h') ∧ CI B n h' S' ∧ kp S k x r S' := by
              intro g3 M3 x c3 f3 v3
              unfold zj_X9_part_131
              simp only [c3.rd9, Option.bind_some]
              obtain ⟨r, h', S', e5, I5, k5⟩ := keepC c3 (m.fr f3) dd si (k := 68) (by decide) hk
              rw [v3] at k5
              rw [e5]
              exact ⟨r, h', S', rfl, I5, k5⟩
            have f2 : ∀ y, y < 48 → va_up (va_up (va_up M 49 (dvQ 1 (S.tp i) (S.bt i))) 50 (dvR 1 (S.tp i) (S.bt i))) 68 (dvQ 1 (S.tp i) (S.bt i)) y = M y := fun y hy => by rw [va_un (by omega), va_un (by omega), va_un (by omega)]
            simp only [if_neg w0, if_neg w1]
            by_cases w3 : w = 3
            · subst w3
              rw [if_pos (by decide), if_neg (by decide)]
              simp only [c2.rd9, c2.rd2, c2.rd4 hi, Option.bind_some]
              have hRl := dvR_lt (way := 1) (t := S.tp i) bz
              have hQl := dvQ_lt (way := 1) (t := S.tp i) (b := S.bt i)
              have hbl := ni.2.2.2
              have htl := ni.2.2.1
              have h2lt : 2 * B32 ^ 12 < B32 ^ 25 := by decide
              obtain ⟨g3, M3, e3, c3, f3⟩ := c2.nearerAbove (j := 36 + i) (by omega) (by rw [va_un (by decide), va_us]; omega)
              rw [va_un (show 36 + i ≠ 68 by omega), va_un (show 36 + i ≠ 50 by omega), va_un (show 36 + i ≠ 49 by omega), mi.2, va_un (show 50 ≠ 68 by decide), va_us, va_un (show 49 ≠ 68 by decide), va_un (show 49 ≠ 50 by decide), va_us] at e3
              rw [e3]
              simp only [Option.bind_some]
              have v68 : M3 68 = dvQ 1 (S.tp i) (S.bt i) := by rw [f3 68 (by decide), va_us]
              unfold nrV
              by_cases hn : S.bt i < dvR 1 (S.tp i) (S.bt i) + dvR 1 (S.tp i) (S.bt i) ∨ (dvR 1 (S.tp i) (S.bt i) + dvR 1 (S.tp i) (S.bt i) = S.bt i ∧ (dvQ 1 (S.tp i) (S.bt i)).natAbs % 2 = 1)
              · simp only [if_pos hn]
                rw [if_neg (by decide)]
                simp only [c3.rd9, Option.bind_some]
                obtain ⟨g4, e4, c4⟩ := c3.sum (i := 68) (j := 69) (k := 68) (by decide) (by decide) (by decide) (by rw [v68]; omega) (by rw [c3.o1.2]; decide)
                rw [v68, c3.o1.2] at c4
                rw [e4]
                simp only [Option.bind_some]
                exact fin g4 _ _ c4 (fun y hy => by rw [va_un (by omega), f3 y (by omega)]; exact f2 y hy) (va_us _ _ _)
              · simp only [if_neg hn]
                rw [if_pos trivial]
                exact fin g3 M3 _ c3 (fun y hy => by rw [f3 y (by omega)]; exact f2 y hy) v68
            · have w2 : w = 2 := by omega
              subst w2
              rw [if_neg (by decide), if_pos rfl]
              exact fin g2 _ _ c2 f2 (va_us _ _ _)
theorem c_digits (I : CI B n h S) (q base : Int32) : ∃ r h' S', zs_X9_digits h n q base = some (r, h') ∧ CI B n h' S' ∧ Sp_digits S q base r S' := by
  unfold zs_X9_digits Sp_digits
  cases h2 : ixI 12 q with
  | none => rw [isRatio_n h h2]; exact ⟨-1, h, S, rfl, I, rfl, rfl⟩
  | some i =>
    obtain ⟨rfl, hi⟩ := ixI_some h2
    rw [isRatio_y h hi]
    simp only [Option.bind_some]
    rw [if_neg (by decide)]
    cases h3 : bsI base with
    | none => rw [isBase_n h h3]; exact ⟨-1, h, S, rfl, I, rfl, rfl⟩
    | some g =>
      obtain ⟨rfl, hg2, hg⟩ := bsI_some h3
      obtain ⟨d, M, c, m, dd, si⟩ := I
      rw [isBase_y h hg2 hg]
      simp only [Option.bind_some]
      rw [if_neg (by decide)]
      simp only [c.rd9, c.rd1, c.ratio hi, Option.bind_some]
      have mi := m.2 i hi
      have ni := si.2.1 i hi
      obtain ⟨g1, d1, M1, z, e1, c1, f1, p1, p2, p3, hz⟩ := c.reckon hi (m.ratOk si hi) (q := g) hg2 hg
      rw [mi.1, mi.2] at hz
      rw [e1]
      simp only [Option.bind_some]
      have t1 : tpe d1 S.tC S.tB := by
        have := dd.1
        unfold tpe DS.tc DS.tb at this ⊢
        rw [p1]; exact this
      have t2 : d1.xc = nI S.oN ∧ ∀ k, k < S.oN → d1.xb k = nI (S.oB k) := by
        have := dd.2.1
        unfold DS.xc DS.xb at this ⊢
        rw [p2]; exact this
      rcases hz with ⟨rfl, A, mm, z1, z2, z3, z4, z5⟩ | ⟨rfl, z1, z2, z3, z4⟩
      · rw [if_neg (by decide)]
        simp only [c1.rd9, c1.rd1, Option.bind_some]
        rw [z3, z4, nI_add]
        refine ⟨_, g1, setEx S A mm (dgS (S.tp i).natAbs (S.bt i).natAbs g), rfl, ⟨d1, M1, c1, m.fr f1, ⟨t1, t2, z3, z4, z5⟩, si.1, si.2.1, si.2.2.1, si.2.2.2.1, z2, fun j _ => ?_⟩, Or.inl ⟨A, mm, z1, z2, rfl, rfl⟩⟩
        exact Nat.lt_of_lt_of_le (dgS_lt (by have := ni.1; omega) (by omega)) hg
      · rw [if_pos rfl]
        exact ⟨-4, g1, S, rfl, ⟨d1, M1, c1, m.fr f1, ⟨t1, t2, by rw [z2, z3, z4]; exact dd.2.2⟩, si⟩, Or.inr ⟨z1, rfl, rfl⟩⟩
theorem c_digit (I : CI B n h S) (x : Int32) : ∃ r, zs_X9_digit h n x = some r ∧ Sp_digit S x r := by
  unfold zs_X9_digit Sp_digit
  obtain ⟨d, M, c, m, dd, si⟩ := I
  obtain ⟨x1, x2, x3⟩ := dd.2.2
  have hl := si.2.2.2.2.1
  simp only [c.rd9, c.rd1, Option.bind_some]
  by_cases h1 : x = -1
  · rw [if_pos h1]
    exact ⟨_, rfl, by rw [if_pos h1]; exact x1⟩
  · rw [if_neg h1]
    by_cases h2 : x = -2
    · rw [if_pos h2]
      exact ⟨_, rfl, by rw [if_neg h1, if_pos h2]; exact x2⟩
    · rw [if_neg h2]
      cases h3 : ixI (S.eA + S.eM) x with
      | none =>
        refine ⟨-1, ?_, by rw [if_neg h1, if_neg h2]⟩
        rcases ixI_none h3 with h4 | h4
        · rw [if_pos (i32_lt0.mpr h4)]
        · rw [if_neg (fun z => by have := i32_lt0.mp z; omega), x1, x2, nI_add, if_neg]
          intro z
          have := i32_lt.mp z
          rw [nI_toInt (by omega)] at this
          omega
      | some j =>
        obtain ⟨rfl, hj⟩ := ixI_some h3
        rw [if_neg (nI_pos (by omega)), x1, x2, nI_add, if_pos (nI_lt hj (by omega)), c.getK (k := j) (by omega)]
        exact ⟨_, rfl, by rw [if_neg h1, if_neg h2]; exact x3 j hj⟩
end Fc3
