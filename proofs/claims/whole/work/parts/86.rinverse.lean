/-! the reference: inverse, shift, bits as of two's form -/
theorem dlo0 (r y : Int) : dlo 0 r y = 0 := by
  unfold dlo
  exact if_neg (fun q => q.elim (fun u => absurd u.1 (by decide)) (fun u => absurd u.1 (by decide)))
theorem dhi0 (r y : Int) : dhi 0 r y = 0 := by
  unfold dhi
  exact if_neg (fun u => absurd u.1 (by decide))
theorem dvQ0 (x y : Int) : dvQ 0 x y = qt x y := by
  unfold dvQ
  rw [dlo0, dhi0, if_pos rfl, if_pos rfl]
theorem dvR0 (x y : Int) : dvR 0 x y = rt x y := by
  unfold dvR
  rw [dlo0, dhi0, if_pos rfl, if_pos rfl]
theorem qt_nat (a b : Nat) : qt (a : Int) (b : Int) = ((a / b : Nat) : Int) := by
  unfold qt
  rw [if_neg (show ¬ (a : Int) < 0 by omega), if_neg (show ¬ (b : Int) < 0 by omega), if_pos rfl]
  rfl
theorem rt_nat (a b : Nat) : rt (a : Int) (b : Int) = ((a % b : Nat) : Int) := by
  unfold rt
  rw [if_neg (show ¬ (a : Int) < 0 by omega)]
  rfl
theorem dvQ1 {x y : Int} (hy : 0 < y) : dvQ 1 x y = x / y := by
  have hq := qt_rt (x := x) (y := y)
  have hr : (rt x y).natAbs < y.natAbs := by rw [rt_abs]; exact Nat.mod_lt _ (by omega)
  have key : ∀ Q R : Int, x = R + y * Q → 0 ≤ R → R < y → Q = x / y := by
    intro Q R h1 h2 h3
    rw [h1, Int.add_mul_ediv_left _ _ (by omega), Int.ediv_eq_zero_of_lt h2 h3, Int.zero_add]
  have d0 : dhi 1 (rt x y) y = 0 := by
    unfold dhi
    rw [if_neg (fun z => absurd z.1 (by decide))]
  by_cases h : rt x y < 0
  · have h1 : dlo 1 (rt x y) y = 1 := by
      unfold dlo
      rw [if_pos (Or.inl ⟨rfl, by omega, by rw [if_pos h, if_neg (by omega)]; decide⟩)]
    unfold dvQ
    rw [h1, if_neg (by decide)]
    refine key _ (rt x y + y) ?_ (by omega) (by omega)
    rw [Int.mul_sub, Int.mul_one]
    omega
  · have h1 : dlo 1 (rt x y) y = 0 := by
      unfold dlo
      rw [if_neg]
      rintro (z | z)
      · exact z.2.2 (by rw [if_neg h, if_neg (by omega)])
      · exact absurd z.1 (by decide)
    unfold dvQ
    rw [h1, if_pos rfl, d0, if_pos rfl]
    exact key _ (rt x y) (by omega) (by omega) (by omega)
section Riv
variable {B h : AH} {n : Nat} {d : RD} {M : Nat → Int} {S : AS} {i j k T : Nat}
theorem spb_inverse {a b z : Int32} (hb : ix3 a b z = none) : Sp_inverse S a b z (-1) S := by
  unfold Sp_inverse
  rw [hb]
  exact ⟨rfl, rfl⟩
theorem r_inverse (I : RI B n h S) (a b z : Int32) : ∃ r h', zs_X11_inverse h n a b z = some (r, h') ∧ ∃ S', RI B n h' S' ∧ Sp_inverse S a b z r S' := by
  obtain ⟨d, M, c, m, dd, si⟩ := I
  unfold zs_X11_inverse
  refine c.slot1 (fun g h1 c1 => ⟨S, ⟨_, M, c1, m, dd, si⟩, spb_inverse (ix3_n (Or.inl h1))⟩) (fun i g h1 hi ha c1 => ?_)
  dsimp only
  refine c1.slot1 (fun g h2 c2 => ⟨S, ⟨_, M, c2, m, dd, si⟩, spb_inverse (ix3_n (Or.inr (Or.inl h2)))⟩) (fun j g h2 hj hb c2 => ?_)
  dsimp only
  refine c2.slot1 (fun g h3 c3 => ⟨S, ⟨_, M, c3, m, dd, si⟩, spb_inverse (ix3_n (Or.inr (Or.inr h3)))⟩) (fun k g h3 hk hc c3 => ?_)
  subst ha
  subst hb
  subst hc
  dsimp only
  have I3 : RI B n g S := ⟨_, M, c3, m, dd, si⟩
  have hsp : ∀ r S', (if mdE (S.sl j) = 1 then (if Nat.gcd (S.sl j).natAbs (S.sl i % S.sl j).natAbs = 1 then ∃ R, isInv (S.sl i) (S.sl j) R ∧ r = 1 ∧ S' = setS S k R else errC S (-4) r S') else errC S (mdE (S.sl j)) r S') → Sp_inverse S (nI i) (nI j) (nI k) r S' := by
    intro r S' hh
    unfold Sp_inverse
    rw [ix3_y h1 h2 h3]
    exact hh
  have hi3 : 68 + i < 317 := by omega
  have hj3 : 68 + j < 317 := by omega
  simp only [c3.rm, c3.slot hj, c3.wrongRest hj3, m.2.1 j hj, Option.bind_some]
  by_cases hm : mdE (S.sl j) = 1
  · simp only [if_pos hm] at hsp
    rw [if_pos (by rw [hm]; decide)]
    obtain ⟨hy0, hyb⟩ := mdE_128 hm
    obtain ⟨Y, hY⟩ := Int.eq_ofNat_of_zero_le (show 0 ≤ S.sl j by omega)
    rw [hY, Int.natAbs_natCast] at hyb
    have hY0 : 0 < Y := by omega
    obtain ⟨X, hX⟩ := Int.eq_ofNat_of_zero_le (Int.emod_nonneg (S.sl i) (show S.sl j ≠ 0 by omega))
    have hXl : X < Y := by
      have := Int.emod_lt_of_pos (S.sl i) hy0
      omega
    have hXY : S.sl i % (Y : Int) = (X : Int) := by
      have h9 := hX
      rw [hY] at h9
      exact h9
    have h826 : C16 ^ 8 ≤ B32 ^ 26 := by rw [← C52]; exact Nat.pow_le_pow_right (by decide) (by decide)
    obtain ⟨g4, e4, c4⟩ := c3.copy (T := 0) rfl (by decide) hj3
    rw [m.2.1 j hj, hY] at c4
    rw [e4]
    simp only [c4.rm, c4.slot hi, Option.bind_some]
    have m4i : va_up M 0 (Y : Int) (68 + i) = S.sl i := by rw [va_un (by omega)]; exact m.2.1 i hi
    have m4j : va_up M 0 (Y : Int) (68 + j) = (Y : Int) := by rw [va_un (by omega), m.2.1 j hj]; exact hY
    obtain ⟨g5, e5, M5, Q5, R5, T5, c5, hQ5, hR5, hT5, mQ5, mR5, f5⟩ := c4.over (T := 1) (i := 68 + i) (j := 68 + j) rfl (by decide) hi3 hj3 (by omega) (by omega) (by rw [m4j]; omega) (na := 24) (nb := 8) (by rw [m4i, C24]; exact si.1 i hi) (by rw [m4j, Int.natAbs_natCast]; exact hyb) (by decide) (by decide) (by rw [va_un (by decide)]; exact m.1.1) (by rw [va_un (by decide)]; exact m.1.2) 2
    rw [m4i, m4j, dvR2 (by omega), hXY] at mR5
    have f5' : ∀ x, 64 ≤ x → M5 x = M x := fun x hx => by rw [f5 x (Or.inr hx), va_un (by omega)]
    have m50 : M5 0 = (Y : Int) := by rw [f5 0 (by omega), va_us]
    rw [e5]
    simp only [c5.qr, c5.rm, Option.bind_some]
    obtain ⟨g6, e6, c6⟩ := c5.copy (T := T5) (i := R5) rfl (by omega) (by omega)
    rw [mR5] at c6
    rw [e6]
    simp only [c6.rm, Option.bind_some]
    obtain ⟨g7, e7, c7⟩ := c6.copy (T := T5 + 1) (i := 64) rfl (by omega) (by decide)
    rw [va_un (show 64 ≠ T5 by omega), f5' 64 (by omega), m.1.1] at c7
    rw [e7]
    simp only [c7.rm, Option.bind_some]
    obtain ⟨g8, e8, c8⟩ := c7.copy (T := T5 + 2) (i := 65) rfl (by omega) (by decide)
    rw [va_un (show 65 ≠ T5 + 1 by omega), va_un (show 65 ≠ T5 by omega), f5' 65 (by omega), m.1.2] at c8
    rw [e8]
    simp only [c8.rm, Option.bind_some]
    have etop : ∀ d : RD, (d.tt (T5 + 2 + 1)).top = nI (T5 + 3) := fun _ => rfl
    rw [etop]
    obtain ⟨r, hr, d9, M9, s9, u9, a9, c9, t9, dd9, f9, v9, w9, x9, g9⟩ := iter_FU (B := fun q : AH => zb_X11_inverse_107 n (nI k) (ar n (68 + j)) (ar n 0) (ar n T5) (ar n (T5 + 1)) (ar n (T5 + 2)) (nI (T5 + 3)) q)
      (fun t z => ∃ (d' : RD) (M' : Nat → Int) (a b : Nat) (s u : Int), RV B n d' z M' ∧ d'.top = nI (T5 + 3) ∧ RDD d' S ∧ (∀ x, 64 ≤ x → M' x = M x) ∧ M' 0 = (a : Int) ∧ M' T5 = (b : Int) ∧ M' (T5 + 1) = s ∧ M' (T5 + 2) = u ∧ b < Y ∧ euB t a b ∧ Nat.gcd a b = Nat.gcd Y X ∧ exE (S.sl i) Y a b s u)
      (fun r => ∃ (d' : RD) (M' : Nat → Int) (s u : Int) (a : Nat), RV B n d' r M' ∧ d'.top = nI (T5 + 3) ∧ RDD d' S ∧ (∀ x, 64 ≤ x → M' x = M x) ∧ M' 0 = (a : Int) ∧ M' (T5 + 1) = s ∧ exE (S.sl i) Y a 0 s u ∧ a = Nat.gcd Y X)
      2000 (by omega) (s := g8) ⟨_, _, Y, X, 0, 1, c8, rfl, dd, fun x hx => by rw [va_un (by omega), va_un (by omega), va_un (by omega)]; exact f5' x hx, by rw [va_un (by omega), va_un (by omega), va_un (by omega)]; exact m50, by rw [va_un (by omega), va_un (by omega), va_us], by rw [va_un (by omega), va_us], va_us _ _ _, hXl, Or.inl ⟨rfl, by omega, by omega⟩, rfl, exE_0 hY0 hXY⟩ (by
      rintro t g9 ht ⟨d9, M9, a, b, s, u, k9, t9, dd9, f9, m1, m2, m3, m4, hbY, eu, gg, ex⟩
      unfold zb_X11_inverse_107
      simp only [k9.ck (show T5 < 317 by omega), k9.isZero (show T5 < 317 by omega), m2, Option.bind_some]
      by_cases hb : b = 0
      · rw [if_pos (show ((b : Nat) : Int) = 0 by omega), if_neg (by decide)]
        refine ⟨_, rfl, fun s' hs => by (cases hs), fun r hr => ?_⟩
        obtain rfl := Sum.inr.inj hr
        subst hb
        exact ⟨d9, M9, s, u, a, k9, t9, dd9, f9, m1, m3, ex, by rw [← gg, Nat.gcd_zero_right]⟩
      · rw [if_neg (show ¬ ((b : Nat) : Int) = 0 by omega), if_pos (by decide)]
        have ht2 : t < 2000 := by
          rcases Nat.lt_or_ge t 2000 with z | z
          · exact z
          · exact absurd (euB_e eu (by omega)) hb
        have ha := ex.2.1
        have hs := ex.2.2.1
        have hu := ex.2.2.2.1
        simp only [k9.rm, Option.bind_some]
        obtain ⟨g10, e10, M10, Q, R, T1, k10, hQ, hR, hT1, mQ, mR, f10⟩ := k9.over (T := T5 + 3) (i := 0) (j := T5) t9 (by omega) (by decide) (by omega) (by omega) (by omega) (by rw [m2]; omega) (na := 8) (nb := 8) (by rw [m1, Int.natAbs_natCast]; omega) (by rw [m2, Int.natAbs_natCast]; omega) (by decide) (by decide) ((f9 64 (by omega)).trans m.1.1) ((f9 65 (by omega)).trans m.1.2) 0
        rw [m1, m2, dvQ0, qt_nat] at mQ
        rw [m1, m2, dvR0, rt_nat] at mR
        rw [e10]
        simp only [k10.qr, k10.rm, Option.bind_some]
        have hq : a / b ≤ a := Nat.div_le_self _ _
        have m10u : M10 (T5 + 2) = u := by rw [f10 _ (by omega)]; exact m4
        have m10s : M10 (T5 + 1) = s := by rw [f10 _ (by omega)]; exact m3
        obtain ⟨g11, e11, k11⟩ := k10.times (T := T1) (i := Q) (j := T5 + 2) rfl (by omega) (by omega) (by omega) (by omega) (by omega) (na := 8) (nb := 8) (by rw [mQ, Int.natAbs_natCast]; omega) (by rw [m10u]; omega) (by decide)
        rw [mQ, m10u] at k11
        rw [e11]
        simp only [k11.rm, Option.bind_some]
        have h899 : C16 ^ 8 ≤ C16 ^ 99 := Nat.pow_le_pow_right (by decide) (by decide)
        obtain ⟨g12, e12, k12⟩ := k11.less (T := T1 + 1) (i := T5 + 1) (j := T1) rfl (by omega) (by omega) (by omega) (by omega) (by omega) (by rw [va_un (by omega), m10s]; omega) (by
          rw [va_us, Int.natAbs_mul, Int.natAbs_natCast]
          have h5 : a / b * u.natAbs ≤ Y * Y := Nat.mul_le_mul (by omega) hu
          have h6 : Y * Y < C16 ^ 8 * C16 ^ 8 := Nat.mul_lt_mul_of_lt_of_lt hyb hyb
          rw [← Nat.pow_add] at h6
          have h7 : C16 ^ (8 + 8) ≤ C16 ^ 99 := Nat.pow_le_pow_right (by decide) (by decide)
          omega)
        rw [va_us, va_un (show T5 + 1 ≠ T1 by omega), m10s] at k12
        rw [e12]
        simp only [k12.ck (show 0 < 317 by decide), Option.bind_some]
        obtain ⟨g13, e13, k13⟩ := k12.become (i := 0) (j := T5) (by decide) (by omega)
        rw [va_un (show T5 ≠ T1 + 1 by omega), va_un (show T5 ≠ T1 by omega), f10 T5 (by omega), m2] at k13
        rw [e13]
        have eq6 : gR g13 n 11 6 = some (ar n R) := k13.mR rfl
        simp only [eq6, k13.ck (show T5 < 317 by omega), Option.bind_some]
        obtain ⟨g14, e14, k14⟩ := k13.become (i := T5) (j := R) (by omega) (by omega)
        rw [va_un (show R ≠ 0 by omega), va_un (show R ≠ T1 + 1 by omega), va_un (show R ≠ T1 by omega), mR] at k14
        rw [e14]
        simp only [k14.ck (show T5 + 1 < 317 by omega), Option.bind_some]
        obtain ⟨g15, e15, k15⟩ := k14.become (i := T5 + 1) (j := T5 + 2) (by omega) (by omega)
        rw [va_un (show T5 + 2 ≠ T5 by omega), va_un (show T5 + 2 ≠ 0 by omega), va_un (show T5 + 2 ≠ T1 + 1 by omega), va_un (show T5 + 2 ≠ T1 by omega), m10u] at k15
        rw [e15]
        simp only [k15.ck (show T5 + 2 < 317 by omega), Option.bind_some]
        obtain ⟨g16, e16, k16⟩ := k15.become (i := T5 + 2) (j := T1 + 1) (by omega) (by omega)
        rw [va_un (show T1 + 1 ≠ T5 + 1 by omega), va_un (show T1 + 1 ≠ T5 by omega), va_un (show T1 + 1 ≠ 0 by omega), va_us] at k16
        rw [e16]
        simp only [Option.bind_some]
        obtain ⟨g17, e17, k17⟩ := k16.top_ (T5 + 3)
        rw [e17]
        refine ⟨_, rfl, fun s' hs' => ?_, fun r hr => by (cases hr)⟩
        obtain rfl := Sum.inl.inj hs'
        have hml := Nat.mod_lt a (show 0 < b by omega)
        refine ⟨ht2, _, _, b, a % b, u, _, k17, rfl, dd9, fun x hx => ?_, ?_, ?_, ?_, va_us _ _ _, by omega, euB_s eu (by omega), ?_, exE_s ex (by omega) (by omega)⟩
        · rw [va_un (by omega), va_un (by omega), va_un (by omega), va_un (by omega), va_un (by omega), va_un (by omega), f10 x (Or.inr hx)]
          exact f9 x hx
        · rw [va_un (by omega), va_un (by omega), va_un (by omega), va_us]
        · rw [va_un (by omega), va_un (by omega), va_us]
        · rw [va_un (by omega), va_us]
        · rw [← gg, Nat.gcd_comm, ← Nat.gcd_rec b a, Nat.gcd_comm])
    rw [hr]
    have m965 : M9 65 = 1 := (f9 65 (by omega)).trans m.1.2
    simp only [c9.rm, c9.cmp (show 0 < 317 by decide) (show 65 < 317 by decide), v9, m965, Option.bind_some]
    have hgcd : Nat.gcd (S.sl j).natAbs (S.sl i % S.sl j).natAbs = Nat.gcd Y X := by rw [hX, hY]; rfl
    have m9 : RM M9 S := m.fr (fun x hx _ _ => f9 x hx)
    by_cases ha1 : a9 = 1
    · subst ha1
      have hc : cmpZ ((1 : Nat) : Int) 1 = 0 := by decide
      rw [hc, if_pos (by decide)]
      have hs := x9.2.2.1
      have m9j : M9 (68 + j) = (Y : Int) := by rw [f9 _ (by omega), m.2.1 j hj]; exact hY
      obtain ⟨g10, e10, M10, Q, R, T1, k10, hQ, hR, hT1, mQ, mR, f10⟩ := c9.over (T := T5 + 3) (i := T5 + 1) (j := 68 + j) t9 (by omega) (by omega) hj3 (by omega) (by omega) (by rw [m9j]; omega) (na := 9) (nb := 8) (by
        rw [w9, C16_s]
        omega) (by rw [m9j, Int.natAbs_natCast]; exact hyb) (by decide) (by decide) ((f9 64 (by omega)).trans m.1.1) m965 2
      rw [w9, m9j, dvR2 (by omega)] at mR
      rw [e10]
      simp only [k10.qr, k10.rm, k10.slot hk, k10.ck (show 68 + k < 317 by omega), Option.bind_some]
      obtain ⟨g11, e11, k11⟩ := k10.become (i := 68 + k) (j := R) (by omega) (by omega)
      rw [mR] at k11
      rw [e11]
      have hinv := exE_end x9
      have m10 : RM M10 S := m9.fr (fun x hx _ _ => f10 x (Or.inr hx))
      have hbd : (s9 % (Y : Int)).natAbs < B32 ^ 12 := by
        have p1 := hinv.1
        have p2 := hinv.2.1
        have h24 : C16 ^ 8 ≤ C16 ^ 24 := Nat.pow_le_pow_right (by decide) (by decide)
        rw [← C24]
        omega
      refine ⟨1, g11, rfl, _, ⟨_, _, k11, m10.set hk _, dd9, si.set hk hbd⟩, hsp _ _ ?_⟩
      rw [if_pos (hgcd.trans g9.symm)]
      exact ⟨_, by rw [hY]; exact hinv, rfl, rfl⟩
    · have hc : ¬ cmpZ ((a9 : Nat) : Int) 1 = 0 := by
        unfold cmpZ
        by_cases hl : ((a9 : Nat) : Int) < 1
        · rw [if_pos hl]; decide
        · rw [if_neg hl, if_neg (by omega)]; decide
      rw [if_neg hc]
      exact ⟨-4, r, rfl, S, ⟨_, M9, c9, m9, dd9, si⟩, hsp _ _ (by rw [if_neg (fun q => ha1 (g9.trans (hgcd.symm.trans q)))]; exact ⟨rfl, rfl⟩)⟩
  · simp only [if_neg hm] at hsp
    rw [if_neg (mdE_neg hm)]
    exact ⟨_, g, rfl, S, I3, hsp _ _ ⟨rfl, rfl⟩⟩
theorem spb_shift {a e z : Int32} (hb : ix2 a z = none) : Sp_shift S a e z (-1) S := by
  unfold Sp_shift
  rw [hb]
  exact ⟨rfl, rfl⟩
theorem r_shift (I : RI B n h S) (a e z : Int32) : ∃ r h', zs_X11_shift h n a e z = some (r, h') ∧ ∃ S', RI B n h' S' ∧ Sp_shift S a e z r S' := by
  obtain ⟨d, M, c, m, dd, si⟩ := I
  unfold zs_X11_shift
  refine c.slot1 (fun g h1 c1 => ⟨S, ⟨_, M, c1, m, dd, si⟩, spb_shift (ix2_n (Or.inl h1))⟩) (fun i g h1 hi ha c1 => ?_)
  dsimp only
  refine c1.slot1 (fun g h2 c2 => ⟨S, ⟨_, M, c2, m, dd, si⟩, spb_shift (ix2_n (Or.inr h2))⟩) (fun k g h2 hk hb c2 => ?_)
  subst ha
  subst hb
  dsimp only
  have I2 : RI B n g S := ⟨_, M, c2, m, dd, si⟩
  have hsp : ∀ r S', (if -1000 ≤ e.toInt ∧ e.toInt ≤ 1000 then kp S k (shV (S.sl i) e.toInt) r S' else badC S r S') → Sp_shift S (nI i) e (nI k) r S' := by
    intro r S' hh
    unfold Sp_shift
    rw [ix2_y h1 h2]
    exact hh
  have hi3 : 68 + i < 317 := by omega
  have hcs := cs_le (m.lt si hi)
  have hlo : e < (-1000 : Int32) ↔ e.toInt < -1000 := i32_lt
  have hhi : e ≤ (1000 : Int32) ↔ e.toInt ≤ 1000 := i32_le
  by_cases h3 : e.toInt < -1000
  · rw [if_pos (hlo.mpr h3)]
    exact ⟨-1, g, rfl, S, I2, hsp _ _ (by rw [if_neg (by omega)]; exact ⟨rfl, rfl⟩)⟩
  · rw [if_neg (fun z => h3 (hlo.mp z))]
    by_cases h4 : e.toInt ≤ 1000
    · rw [if_pos (hhi.mpr h4)]
      simp only [if_pos (show -1000 ≤ e.toInt ∧ e.toInt ≤ 1000 by omega)] at hsp
      by_cases h0 : e.toInt < 0
      · rw [if_pos (i32_lt0.mpr h0)]
        have hneg : (-e).toInt = -e.toInt := by
          rw [Int32.toInt_neg]
          exact Int.bmod_eq_of_le (by omega) (by omega)
        simp only [c2.rm, c2.slot hi, Option.bind_some]
        have hcs1 : cs (1 : Int).natAbs ≤ 1 := cs_le (show 1 < C16 ^ 1 by decide)
        obtain ⟨g3, e3, c3⟩ := c2.moved (T := 0) (i := 65) rfl (by decide) (by decide) (by decide) (x := -e) (by rw [hneg]; omega) (by rw [hneg]; omega) (by rw [hneg, m.1.2]; omega)
        obtain ⟨s, hs⟩ : ∃ s : Nat, s = (-e.toInt).toNat := ⟨_, rfl⟩
        have hmv : sgv (if M 65 < 0 then 1 else 0) (mvN (M 65).natAbs (-e).toInt) = ((2 ^ s : Nat) : Int) := by
          rw [m.1.2, hneg]
          unfold mvN
          rw [if_neg (by decide), if_pos (by omega), ← hs]
          show ((1 * 2 ^ s : Nat) : Int) = _
          rw [Nat.one_mul]
        rw [hmv] at c3
        rw [e3]
        simp only [c3.rm, Option.bind_some]
        have h2s := Nat.two_pow_pos s
        have h2b : 2 ^ s < C16 ^ 63 := by
          rw [C16_two]
          exact Nat.pow_lt_pow_right (by decide) (by omega)
        have m3i : va_up M 0 ((2 ^ s : Nat) : Int) (68 + i) = S.sl i := by rw [va_un (by omega)]; exact m.2.1 i hi
        obtain ⟨g4, e4, M4, Q, R, T1, c4, hQ, hR, hT1, mQ, mR, f4⟩ := c3.over (T := 1) (i := 68 + i) (j := 0) rfl (by decide) hi3 (by decide) (by omega) (by decide) (by rw [va_us]; omega) (na := 24) (nb := 63) (by rw [m3i, C24]; exact si.1 i hi) (by rw [va_us, Int.natAbs_natCast]; exact h2b) (by decide) (by decide) (by rw [va_un (by decide)]; exact m.1.1) (by rw [va_un (by decide)]; exact m.1.2) 1
        rw [m3i, va_us, dvQ1 (by omega)] at mQ
        rw [e4]
        simp only [c4.qr, c4.rm, Option.bind_some]
        obtain ⟨r, h', S', e6, I6, k6⟩ := c4.keep (m.fr (fun x hx _ _ => by rw [f4 x (Or.inr hx), va_un (by omega)])) dd si (k := Q) (by omega) hk
        rw [e6]
        refine ⟨r, h', rfl, S', I6, hsp _ _ ?_⟩
        have hv : shV (S.sl i) e.toInt = M4 Q := by
          rw [mQ]
          unfold shV
          rw [if_neg (by omega), ← hs, Int.natCast_pow]
          rfl
        rw [hv]
        exact k6
      · rw [if_neg (fun z => h0 (i32_lt0.mp z))]
        simp only [c2.rm, c2.slot hi, Option.bind_some]
        obtain ⟨g3, e3, c3⟩ := c2.moved (T := 0) (i := 68 + i) rfl (by decide) hi3 (by omega) (x := e) (by omega) h4 (by omega)
        rw [e3]
        simp only [c3.rm, Option.bind_some]
        obtain ⟨r, h', S', e6, I6, k6⟩ := c3.keep (m.up (by decide) _) dd si (k := 0) (by decide) hk
        rw [e6]
        refine ⟨r, h', rfl, S', I6, hsp _ _ ?_⟩
        rw [va_us, m.2.1 i hi] at k6
        have hv : shV (S.sl i) e.toInt = sgv (if S.sl i < 0 then 1 else 0) (mvN (S.sl i).natAbs e.toInt) := by
          unfold shV mvN
          rw [if_pos (show 0 ≤ e.toInt by omega), if_pos (show 0 ≤ e.toInt by omega)]
          have e7 : ((S.sl i).natAbs * 2 ^ e.toInt.toNat : Nat) = ((S.sl i).natAbs * 2 ^ e.toInt.toNat) := rfl
          have e8 := sgv_self (S.sl i)
          unfold sgv at e8 ⊢
          by_cases hn : S.sl i < 0
          · rw [if_pos hn, if_neg (by decide)] at e8 ⊢
            rw [Int.natCast_mul, Int.natCast_pow, ← Int.neg_mul, e8]
            rfl
          · rw [if_neg hn, if_pos (by decide)] at e8 ⊢
            rw [Int.natCast_mul, Int.natCast_pow, e8]
            rfl
        rw [hv]
        exact k6
    · rw [if_neg (fun z => h4 (hhi.mp z))]
      exact ⟨-1, g, rfl, S, I2, hsp _ _ (by rw [if_neg (by omega)]; exact ⟨rfl, rfl⟩)⟩
end Riv
