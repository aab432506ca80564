/-! the class's methods keep to the calls: second part -/
theorem rtI_some {x : Int32} {q : Nat} (h : rtI x = some q) : x = nI q ∧ 2 ≤ q ∧ q ≤ 9 := by
  unfold rtI at h
  split at h
  · rename_i hh
    obtain rfl := Option.some.inj h
    exact ⟨i32_nn (by omega), by omega⟩
  · cases h
theorem rtI_none {x : Int32} (h : rtI x = none) : x < (2 : Int32) ∨ (¬ x < (2 : Int32) ∧ ¬ x ≤ (9 : Int32)) := by
  unfold rtI at h
  split at h
  · cases h
  · rename_i hh
    by_cases h2 : x < (2 : Int32)
    · exact Or.inl h2
    · right
      refine ⟨h2, fun z => ?_⟩
      have a : ¬ x.toInt < 2 := fun q => h2 (i32_lt.mpr q)
      have b : x.toInt ≤ 9 := i32_le.mp z
      omega
theorem fdiv_neg {y P : Nat} (hP : 0 < P) : (-((y : Int) + 1)) / (P : Int) = -((y / P : Nat) : Int) - 1 := by
  have hd := Nat.div_add_mod y P
  have hm := Nat.mod_lt y hP
  have e : -((y : Int) + 1) = ((P - 1 - y % P : Nat) : Int) + (P : Int) * (-((y / P : Nat) : Int) - 1) := by
    rw [Int.mul_sub, Int.mul_neg, ← Int.natCast_mul, Int.mul_one]
    omega
  rw [e, Int.add_mul_ediv_left _ _ (by omega), Int.ediv_eq_zero_of_lt (by omega) (by omega)]
  omega
section Fc2
variable {B h : AH} {n : Nat} {S : AS}
theorem c_root (I : CI B n h S) (a e z : Int32) : ∃ r h' S', zs_X9_root h n a e z = some (r, h') ∧ CI B n h' S' ∧ Sp_root S a e z r S' := by
  unfold zs_X9_root Sp_root
  cases h1 : ix2 a z with
  | none =>
    rcases ix2_none h1 with h2 | ⟨i, hi, rfl, h2⟩
    · rw [isSlot_n h h2]; exact ⟨-1, h, S, rfl, I, rfl, rfl⟩
    · rw [isSlot_y h hi, isSlot_n h h2]; exact ⟨-1, h, S, rfl, I, rfl, rfl⟩
  | some p =>
    obtain ⟨i, k⟩ := p
    obtain ⟨⟨rfl, hi⟩, rfl, hk⟩ := ix2_some h1
    rw [isSlot_y h hi, isSlot_y h hk]
    simp only [Option.bind_some]
    rw [if_neg (by decide), if_neg (by decide)]
    cases h2 : rtI e with
    | none =>
      rcases rtI_none h2 with h3 | ⟨h3, h4⟩
      · rw [if_pos h3]; exact ⟨-1, h, S, rfl, I, rfl, rfl⟩
      · rw [if_neg h3, if_neg h4]; exact ⟨-1, h, S, rfl, I, rfl, rfl⟩
    | some N =>
      obtain ⟨rfl, hN2, hN9⟩ := rtI_some h2
      obtain ⟨d, M, c, m, dd, si⟩ := I
      have hi70 : i < 70 := by omega
      rw [if_neg (show ¬ nI N < (2 : Int32) from nI_nlt (b := 2) hN2 (by omega)), if_pos (show nI N ≤ (9 : Int32) from nI_le (b := 9) hN9 (by decide))]
      simp only [c.rd9, c.rd3, c.slot hi, c.below hi70, Option.bind_some]
      rw [m.1 i hi]
      by_cases hn : S.sl i < 0
      · rw [if_pos hn, if_neg (by decide)]
        exact ⟨-3, h, S, rfl, ⟨d, M, c, m, dd, si⟩, by rw [if_pos hn]; exact ⟨rfl, rfl⟩⟩
      · rw [if_neg hn, if_pos rfl]
        obtain ⟨g1, M1, R, e1, c1, f1, v1, hR⟩ := c.extract hi (by rw [m.1 i hi]; omega) (by rw [m.1 i hi]; exact si.1 i hi) hN2 hN9
        rw [m.1 i hi] at e1 hR
        rw [e1]
        simp only [c1.rd9, c1.slot hk, c1.chk8 (show k < 70 by omega), Option.bind_some]
        obtain ⟨g2, e2, c2⟩ := c1.copy (k := k) (i := 68) (by omega) (by decide)
        rw [v1] at c2
        rw [e2]
        simp only [Option.bind_some]
        have hRb : R.natAbs < B32 ^ 12 := by
          obtain ⟨R', rfl⟩ := Int.eq_ofNat_of_zero_le hR.1
          obtain ⟨X, hX⟩ := Int.eq_ofNat_of_zero_le (show 0 ≤ S.sl i by omega)
          have hb := si.1 i hi
          have h3 := hR.2.1
          rw [hX, ← Int.natCast_pow] at h3
          rw [hX, Int.natAbs_natCast] at hb
          rw [Int.natAbs_natCast]
          have := root_small hN2 (Int.ofNat_le.mp h3) hb
          have : 2 ^ 192 < B32 ^ 12 := by decide
          omega
        have hfin : CI B n g2 (setS S k R) := ⟨d, _, c2, (m.fr f1).set hk _, dd, si.set hk hRb⟩
        by_cases hx : R ^ N = S.sl i
        · rw [if_pos hx, if_neg (by decide)]
          exact ⟨1, g2, setS S k R, rfl, hfin, by rw [if_neg hn]; exact ⟨R, hR, by rw [if_pos hx], rfl⟩⟩
        · rw [if_neg hx, if_pos rfl]
          exact ⟨0, g2, setS S k R, rfl, hfin, by rw [if_neg hn]; exact ⟨R, hR, by rw [if_neg hx], rfl⟩⟩
theorem isModulus_ok {d : DS} {M : Nat → Int} (c : CW B n d h M) {j : Nat} (hj : j < 70) : zs_X9_isModulus h (aw n j) = some (if mdE (M j) = 1 then 1 else 0) := by
  unfold zs_X9_isModulus mdE
  simp only [c.chk8 hj, c.isZero hj, Option.bind_some]
  by_cases hz : M j = 0
  · rw [if_pos hz, if_neg (by decide), if_pos hz, if_neg (by decide)]
  · rw [if_neg hz, if_pos rfl, if_neg hz]
    simp only [c.below hj, Option.bind_some]
    by_cases hn : M j < 0
    · rw [if_pos hn, if_neg (by decide), if_pos (Or.inl hn), if_neg (by decide)]
    · rw [if_neg hn, if_pos rfl]
      simp only [c.sizeBits hj, Option.bind_some]
      have hb : bl (M j).natAbs ≤ 832 := bl_le (by have := c.lt26 hj; rw [B26] at this; exact this)
      by_cases h8 : 128 < bl (M j).natAbs
      · rw [if_pos (show (128 : Int32) < nI (bl (M j).natAbs) from nI_lt (a := 128) h8 (by omega)), if_pos (Or.inr h8), if_neg (by decide)]
      · rw [if_neg (show ¬ (128 : Int32) < nI (bl (M j).natAbs) from nI_nlt (a := 128) (by omega) (by decide)), if_neg (show ¬ (M j < 0 ∨ 128 < bl (M j).natAbs) by omega), if_pos rfl]
theorem mdE_ok {y : Int} (h : mdE y = 1) : 0 < y := by
  unfold mdE at h
  by_cases hz : y = 0
  · rw [if_pos hz] at h; exact absurd h (by decide)
  · rw [if_neg hz] at h
    by_cases hn : y < 0 ∨ 128 < bl y.natAbs
    · rw [if_pos hn] at h; exact absurd h (by decide)
    · omega
theorem mdE_no {y : Int} (h : ¬ mdE y = 1) : mdE y = if y = 0 then -2 else -3 := by
  unfold mdE at h ⊢
  by_cases hz : y = 0
  · rw [if_pos hz, if_pos hz]
  · rw [if_neg hz] at h
    rw [if_neg hz, if_neg hz]
    by_cases hn : y < 0 ∨ 128 < bl y.natAbs
    · rw [if_pos hn]
    · rw [if_neg hn] at h; exact absurd rfl h
theorem c_rest (I : CI B n h S) (a e b z : Int32) : ∃ r h' S', zs_X9_rest h n a e b z = some (r, h') ∧ CI B n h' S' ∧ Sp_rest S a e b z r S' := by
  unfold zs_X9_rest Sp_rest
  cases h2 : ix3 a b z with
  | none => rw [areSlots_n h (ix3_none h2)]; exact ⟨-1, h, S, rfl, I, rfl, rfl⟩
  | some p =>
    obtain ⟨i, j, k⟩ := p
    obtain ⟨⟨rfl, hi⟩, ⟨rfl, hj⟩, rfl, hk⟩ := ix3_some h2
    rw [areSlots_y h hi hj hk]
    simp only [Option.bind_some]
    rw [if_neg (by decide)]
    cases h3 : ixI 1000001 e with
    | none =>
      rcases ixI_rng (N := 1000000) (by decide) h3 with h4 | ⟨h4, h5, h6⟩
      · rw [if_pos h4]; exact ⟨-1, h, S, rfl, I, rfl, rfl⟩
      · rw [if_neg h4, if_neg (show ¬ e ≤ (1000000 : Int32) from h6)]; exact ⟨-1, h, S, rfl, I, rfl, rfl⟩
    | some E =>
      obtain ⟨rfl, hE⟩ := ixI_some h3
      obtain ⟨d, M, c, m, dd, si⟩ := I
      have hj70 : j < 70 := by omega
      rw [if_neg (nI_pos (by omega)), if_pos (show nI E ≤ (1000000 : Int32) from nI_le (b := 1000000) (by omega) (by decide))]
      simp only [c.rd9, c.rd3, c.slot hi, c.slot hj, isModulus_ok c hj70, Option.bind_some, c.chk8 hj70, c.isZero hj70]
      rw [m.1 j hj]
      by_cases hm : mdE (S.sl j) = 1
      · rw [if_pos hm, if_neg (by decide)]
        obtain ⟨g1, M1, e1, c1, f1, v1⟩ := c.raiseBy (i := i) (m := j) (by omega) (by omega) (by rw [m.1 i hi]; exact si.1 i hi) (by rw [m.1 j hj]; exact si.1 j hj) (by rw [m.1 j hj]; exact mdE_ok hm) (E := E) (by omega)
        rw [m.1 i hi, m.1 j hj] at v1
        rw [e1]
        simp only [c1.rd9, c1.rd3, Option.bind_some]
        obtain ⟨r, h', S', e3, I3, k3⟩ := keepC c1 (m.fr f1) dd si (k := 52) (by decide) hk
        rw [v1] at k3
        rw [e3]
        refine ⟨r, h', S', rfl, I3, ?_⟩
        rw [if_pos hm]
        rcases k3 with ⟨-, k1, k2⟩ | ⟨k1, -⟩
        · exact ⟨k1, k2⟩
        · exfalso
          apply k1
          have hy := mdE_ok hm
          have p1 := Int.emod_nonneg ((S.sl i % S.sl j) ^ E) (show S.sl j ≠ 0 by omega)
          have p2 := Int.emod_lt_of_pos ((S.sl i % S.sl j) ^ E) hy
          have p3 := si.1 j hj
          omega
      · rw [if_neg hm, if_pos rfl]
        have hno := mdE_no hm
        by_cases hz : S.sl j = 0
        · rw [if_pos hz, if_neg (by decide)]
          rw [if_pos hz] at hno
          exact ⟨-2, h, S, rfl, ⟨d, M, c, m, dd, si⟩, by rw [if_neg hm, hno]; exact ⟨rfl, rfl⟩⟩
        · rw [if_neg hz, if_pos rfl]
          rw [if_neg hz] at hno
          exact ⟨-3, h, S, rfl, ⟨d, M, c, m, dd, si⟩, by rw [if_neg hm, hno]; exact ⟨rfl, rfl⟩⟩
theorem c_inverse (I : CI B n h S) (a b z : Int32) : ∃ r h' S', zs_X9_inverse h n a b z = some (r, h') ∧ CI B n h' S' ∧ Sp_inverse S a b z r S' := by
  unfold zs_X9_inverse Sp_inverse
  cases h2 : ix3 a b z with
  | none => rw [areSlots_n h (ix3_none h2)]; exact ⟨-1, h, S, rfl, I, rfl, rfl⟩
  | some p =>
    obtain ⟨i, j, k⟩ := p
    obtain ⟨⟨rfl, hi⟩, ⟨rfl, hj⟩, rfl, hk⟩ := ix3_some h2
    rw [areSlots_y h hi hj hk]
    simp only [Option.bind_some]
    rw [if_neg (by decide)]
    obtain ⟨d, M, c, m, dd, si⟩ := I
    have hj70 : j < 70 := by omega
    simp only [c.rd9, c.rd3, c.slot hi, c.slot hj, isModulus_ok c hj70, Option.bind_some, c.chk8 hj70, c.isZero hj70]
    rw [m.1 j hj]
    by_cases hm : mdE (S.sl j) = 1
    · rw [if_pos hm, if_neg (by decide)]
      obtain ⟨g1, M1, z, e1, c1, f1, hz⟩ := c.invert (i := i) (m := j) (by omega) (by omega) (by rw [m.1 i hi]; exact si.1 i hi) (by rw [m.1 j hj]; exact si.1 j hj) (by rw [m.1 j hj]; exact mdE_ok hm)
      rw [m.1 i hi, m.1 j hj] at hz
      rw [e1]
      simp only [Option.bind_some]
      rcases hz with ⟨rfl, hg, hI⟩ | ⟨rfl, hg⟩
      · rw [if_neg (by decide)]
        simp only [c1.rd9, c1.rd3, Option.bind_some]
        obtain ⟨r, h', S', e3, I3, k3⟩ := keepC c1 (m.fr f1) dd si (k := 52) (by decide) hk
        rw [e3]
        refine ⟨r, h', S', rfl, I3, ?_⟩
        rw [if_pos hm, if_pos hg]
        rcases k3 with ⟨-, k1, k2⟩ | ⟨k1, -⟩
        · exact ⟨_, hI, k1, k2⟩
        · exfalso
          apply k1
          have p1 := hI.1
          have p2 := hI.2.1
          have p3 := si.1 j hj
          omega
      · rw [if_pos rfl]
        exact ⟨-4, g1, S, rfl, ⟨d, M1, c1, m.fr f1, dd, si⟩, by rw [if_pos hm, if_neg hg]; exact ⟨rfl, rfl⟩⟩
    · rw [if_neg hm, if_pos rfl]
      have hno := mdE_no hm
      by_cases hz : S.sl j = 0
      · rw [if_pos hz, if_neg (by decide)]
        rw [if_pos hz] at hno
        exact ⟨-2, h, S, rfl, ⟨d, M, c, m, dd, si⟩, by rw [if_neg hm, hno]; exact ⟨rfl, rfl⟩⟩
      · rw [if_neg hz, if_pos rfl]
        rw [if_neg hz] at hno
        exact ⟨-3, h, S, rfl, ⟨d, M, c, m, dd, si⟩, by rw [if_neg hm, hno]; exact ⟨rfl, rfl⟩⟩
theorem DD.r {d d' : DS} (dd : DD d S) (p1 : d'.1 = d.1) (p2 : d'.2.1 = d.2.1) (p3 : d'.2.2.2 = d.2.2.2) : DD d' S := by
  unfold DD tpe DS.tc DS.tb DS.xc DS.xb DS.hd DS.rd DS.ke at dd ⊢
  rw [p1, p2, p3]
  exact dd
theorem c_bits (I : CI B n h S) (how a b z : Int32) : ∃ r h' S', zs_X9_bits h n how a b z = some (r, h') ∧ CI B n h' S' ∧ Sp_bits S how a b z r S' := by
  unfold zs_X9_bits Sp_bits
  cases h1 : ixI 4 how with
  | none =>
    rcases ixI_rng (N := 3) (by decide) h1 with h2 | ⟨h2, h3, h4⟩
    · rw [if_pos h2]; exact ⟨-1, h, S, rfl, I, rfl, rfl⟩
    · rw [if_neg h2, if_pos (show (3 : Int32) < how from h3)]; exact ⟨-1, h, S, rfl, I, rfl, rfl⟩
  | some w =>
    obtain ⟨rfl, hw⟩ := ixI_some h1
    rw [if_neg (nI_pos (by omega)), if_neg (show ¬ (3 : Int32) < nI w from nI_nlt (a := 3) (by omega) (by decide))]
    cases h2 : ix3 a b z with
    | none => rw [areSlots_n h (ix3_none h2)]; exact ⟨-1, h, S, rfl, I, rfl, rfl⟩
    | some p =>
      obtain ⟨i, j, k⟩ := p
      obtain ⟨⟨rfl, hi⟩, ⟨rfl, hj⟩, rfl, hk⟩ := ix3_some h2
      obtain ⟨d, M, c, m, dd, si⟩ := I
      rw [areSlots_y h hi hj hk]
      simp only [Option.bind_some]
      rw [if_neg (by decide)]
      have bi : (M i).natAbs < B32 ^ 12 := by rw [m.1 i hi]; exact si.1 i hi
      have bj : (M j).natAbs < B32 ^ 12 := by rw [m.1 j hj]; exact si.1 j hj
      simp only [c.rd9, c.rd7, c.slot hi, Option.bind_some]
      obtain ⟨g1, f, e1, c1, q1⟩ := c.loadR1 hi bi
      rw [e1]
      simp only [c1.rd9, c1.rd7, c1.slot hj, Option.bind_some]
      obtain ⟨g2, f2, e2, c2, q2⟩ := c1.loadR2 hj bj
      rw [e2]
      simp only [c2.rd9, c2.rd7, Option.bind_some]
      obtain ⟨g3, f3, e3, c3, q3⟩ := c2.join (β := bI (M i)) (γ := bI (M j)) q1 q2 (H := w) (by omega)
      rw [e3]
      simp only [c3.rd9, c3.rd7, Option.bind_some]
      obtain ⟨g4, d4, R, e4, c4, p1, p2, p3, hR⟩ := c3.store (s := bop w (decide (M i < 0)) (decide (M j < 0))) q3 (fun x hx => by rw [bI_sg bi x hx, bI_sg bj x hx])
      rw [e4]
      simp only [c4.rd9, Option.bind_some]
      obtain ⟨r, h', S', e5, I5, k5⟩ := keepC c4 (m.fr (fun x hx => va_un (by omega))) (dd.r p1 p2 p3) si (k := 68) (by decide) hk
      rw [va_us] at k5
      rw [e5]
      exact ⟨r, h', S', rfl, I5, R, fun x => by rw [hR x, m.1 i hi, m.1 j hj], k5⟩
theorem shV_p {x : Int} {e : Nat} : (if x < 0 then -((mvN x.natAbs (e : Int) : Nat) : Int) else (mvN x.natAbs (e : Int) : Nat)) = shV x e := by
  unfold shV mvN
  rw [if_pos (show (0 : Int) ≤ (e : Int) by omega), if_pos (show (0 : Int) ≤ (e : Int) by omega)]
  show (if x < 0 then -((x.natAbs * 2 ^ e : Nat) : Int) else ((x.natAbs * 2 ^ e : Nat) : Int)) = x * 2 ^ e
  rw [Int.natCast_mul, Int.natCast_pow]
  by_cases hx : x < 0
  · rw [if_pos hx, ← Int.neg_mul]
    congr 1
    omega
  · rw [if_neg hx]
    congr 1
    omega
theorem c_moveDown {d : DS} {M : Nat → Int} (c : CW B n d h M) {i : Nat} (hi : i < 24) (xa : (M i).natAbs < B32 ^ 12) {e : Int32} (h0 : e.toInt < 0) (h1 : -1000 ≤ e.toInt) : ∃ h' M', zs_X9_moveDown h n (aw n i) e = some h' ∧ CW B n d h' M' ∧ (∀ x, x < 48 → M' x = M x) ∧ M' 68 = shV (M i) e.toInt := by
  unfold zs_X9_moveDown
  have hi70 : i < 70 := by omega
  have hmv : ∀ X, mvN X e.toInt = X / 2 ^ (-e.toInt).toNat := fun X => by unfold mvN; rw [if_neg (by omega)]
  have hsh : shV (M i) e.toInt = M i / 2 ^ (-e.toInt).toNat := by unfold shV; rw [if_neg (by omega)]
  rw [hsh]
  have hP : 0 < 2 ^ (-e.toInt).toNat := Nat.two_pow_pos _
  have hlt : B32 ^ 12 < B32 ^ 25 := by decide
  have hlt6 : B32 ^ 12 < B32 ^ 26 := by decide
  simp only [c.below hi70, c.rd9, Option.bind_some]
  by_cases hn : M i < 0
  · rw [if_pos hn, if_neg (by decide)]
    obtain ⟨g1, e1, c1⟩ := c.sum (i := i) (j := 69) (k := 68) hi70 (by decide) (by decide) (by omega) (by rw [c.o1.2]; decide)
    rw [c.o1.2] at c1
    rw [e1]
    simp only [c1.rd9, Option.bind_some]
    have hdl : (M i + 1).natAbs / 2 ^ (-e.toInt).toNat ≤ (M i + 1).natAbs := Nat.div_le_self _ _
    obtain ⟨g2, e2, c2⟩ := c1.move (i := 68) (k := 68) (by decide) (by decide) (x := e) (by omega) (by omega) (fun _ => h0) (by rw [va_us, hmv]; omega)
    rw [va_us, va_uu, hmv] at c2
    rw [e2]
    simp only [c2.rd9, Option.bind_some]
    obtain ⟨y, hy⟩ : ∃ y : Nat, M i = -((y : Int) + 1) := ⟨(M i).natAbs - 1, by omega⟩
    have hy1 : (M i + 1).natAbs = y := by omega
    rw [hy1] at c2 hdl
    have hval : (if M i + 1 < 0 then -((y / 2 ^ (-e.toInt).toNat : Nat) : Int) else ((y / 2 ^ (-e.toInt).toNat : Nat) : Int)) = -((y / 2 ^ (-e.toInt).toNat : Nat) : Int) := by
      by_cases hy0 : M i + 1 < 0
      · rw [if_pos hy0]
      · rw [if_neg hy0, show y = 0 by omega, Nat.zero_div]
        rfl
    rw [hval] at c2
    obtain ⟨g3, e3, c3⟩ := c2.difference (i := 68) (j := 69) (k := 68) (by decide) (by decide) (by decide) (by rw [va_us, Int.natAbs_neg, Int.natAbs_natCast]; omega) (by rw [c2.o1.2]; decide)
    rw [c2.o1.2, va_us] at c3
    rw [e3]
    refine ⟨g3, _, rfl, c3, fun x hx => by rw [va_un (by omega), va_un (by omega)], ?_⟩
    rw [va_us, hy]
    exact (fdiv_neg hP).symm
  · rw [if_neg hn, if_pos rfl]
    have hdl : (M i).natAbs / 2 ^ (-e.toInt).toNat ≤ (M i).natAbs := Nat.div_le_self _ _
    obtain ⟨g1, e1, c1⟩ := c.move (i := i) (k := 68) hi70 (by decide) (x := e) (by omega) (by omega) (fun _ => h0) (by rw [hmv]; omega)
    rw [hmv, if_neg hn] at c1
    rw [e1]
    refine ⟨g1, _, rfl, c1, fun x hx => va_un (by omega), ?_⟩
    rw [va_us, Int.natCast_ediv]
    rw [show (((M i).natAbs : Nat) : Int) = M i by omega]
    rfl
theorem c_shift (I : CI B n h S) (a e z : Int32) : ∃ r h' S', zs_X9_shift h n a e z = some (r, h') ∧ CI B n h' S' ∧ Sp_shift S a e z r S' := by
  unfold zs_X9_shift Sp_shift
  cases h1 : ix2 a z with
  | none =>
    rcases ix2_none h1 with h2 | ⟨i, hi, rfl, h2⟩
    · rw [isSlot_n h h2]; exact ⟨-1, h, S, rfl, I, rfl, rfl⟩
    · rw [isSlot_y h hi, isSlot_n h h2]; exact ⟨-1, h, S, rfl, I, rfl, rfl⟩
  | some p =>
    obtain ⟨i, k⟩ := p
    obtain ⟨⟨rfl, hi⟩, rfl, hk⟩ := ix2_some h1
    rw [isSlot_y h hi, isSlot_y h hk]
    simp only [Option.bind_some]
    rw [if_neg (by decide), if_neg (by decide)]
    have lo : (e < (-1000 : Int32)) ↔ e.toInt < -1000 := i32_lt
    have hiq : (e ≤ (1000 : Int32)) ↔ e.toInt ≤ 1000 := i32_le
    by_cases g1 : e.toInt < -1000
    · rw [if_pos (lo.mpr g1)]
      exact ⟨-1, h, S, rfl, I, by rw [if_neg (by omega)]; exact ⟨rfl, rfl⟩⟩
    · rw [if_neg (fun q => g1 (lo.mp q))]
      by_cases g2 : e.toInt ≤ 1000
      · rw [if_pos (hiq.mpr g2)]
        obtain ⟨d, M, c, m, dd, si⟩ := I
        have hi70 : i < 70 := by omega
        have bi := si.1 i hi
        have h0 : ((0 : Int32) ≤ e) ↔ 0 ≤ e.toInt := i32_le
        have fin : ∀ (g3 : AH) (M3 : Nat → Int), CW B n d g3 M3 → (∀ x, x < 48 → M3 x = M x) → M3 68 = shV (S.sl i) e.toInt → ∃ r h' S', zj_X9_shift_97 g3 n (nI k) = some (r, h') ∧ CI B n h' S' ∧ (if -1000 ≤ e.toInt ∧ e.toInt ≤ 1000 then kp S k (shV (S.sl i) e.toInt) r S' else badC S r S') := by
          intro g3 M3 c3 f3 v3
          unfold zj_X9_shift_97
          simp only [c3.rd9, Option.bind_some]
          obtain ⟨r, h', S', e5, I5, k5⟩ := keepC c3 (m.fr f3) dd si (k := 68) (by decide) hk
          rw [v3] at k5
          rw [e5]
          exact ⟨r, h', S', rfl, I5, by rw [if_pos (by omega)]; exact k5⟩
        by_cases g3 : 0 ≤ e.toInt
        · rw [if_pos (h0.mpr g3)]
          obtain ⟨E, hE⟩ := Int.eq_ofNat_of_zero_le g3
          have he : e = nI E := by
            have := i32_nn g3
            rw [hE] at this
            exact this
          simp only [c.rd9, c.slot hi, c.chk8 hi70, c.isZero hi70, c.sizeBits hi70, Option.bind_some]
          rw [m.1 i hi]
          have mv : (S.sl i = 0 ∨ bl (S.sl i).natAbs + E ≤ 384) → ∃ r h' S', zj_X9_shift_77 h n (nI i) e (nI k) = some (r, h') ∧ CI B n h' S' ∧ (if -1000 ≤ e.toInt ∧ e.toInt ≤ 1000 then kp S k (shV (S.sl i) e.toInt) r S' else badC S r S') := by
            intro hor
            unfold zj_X9_shift_77
            simp only [c.rd9, c.slot hi, Option.bind_some]
            have hroom : mvN (M i).natAbs e.toInt < B32 ^ 26 := by
              rw [m.1 i hi, hE]
              unfold mvN
              rw [if_pos (by omega)]
              show (S.sl i).natAbs * 2 ^ E < _
              rcases hor with hz | hb
              · rw [hz]
                show 0 * 2 ^ E < _
                rw [Nat.zero_mul]
                exact B32_pos 26
              · have h5 := bl_lt (S.sl i).natAbs
                have h6 : (S.sl i).natAbs * 2 ^ E < 2 ^ bl (S.sl i).natAbs * 2 ^ E := Nat.mul_lt_mul_of_pos_right h5 (Nat.two_pow_pos _)
                rw [← Nat.pow_add] at h6
                have h7 : 2 ^ (bl (S.sl i).natAbs + E) ≤ 2 ^ 832 := Nat.pow_le_pow_right (by decide) (by omega)
                rw [B26]
                omega
            obtain ⟨g5, e5, c5⟩ := c.move (i := i) (k := 68) hi70 (by decide) (x := e) (by omega) (by omega) (fun q => by omega) hroom
            rw [e5]
            simp only [Option.bind_some]
            refine fin g5 _ c5 (fun x hx => va_un (by omega)) ?_
            rw [va_us, m.1 i hi, hE]
            exact shV_p
          by_cases hz : S.sl i = 0
          · rw [if_pos hz, if_neg (by decide)]
            exact mv (Or.inl hz)
          · rw [if_neg hz, if_pos rfl, he, nI_add]
            have hbl : bl (S.sl i).natAbs ≤ 384 := bl_le (by rw [B32_two] at bi; exact bi)
            by_cases hf : 384 < bl (S.sl i).natAbs + E
            · rw [if_pos (show (384 : Int32) < nI (bl (S.sl i).natAbs + E) from nI_lt (a := 384) hf (by omega))]
              refine ⟨-5, h, S, rfl, ⟨d, M, c, m, dd, si⟩, ?_⟩
              rw [← he, if_pos (by omega)]
              refine Or.inr ⟨?_, rfl, rfl⟩
              rw [hE]
              unfold shV
              rw [if_pos (by omega), Int.natAbs_mul]
              show ¬ (S.sl i).natAbs * (2 ^ E : Int).natAbs < _
              rw [Int.natAbs_pow]
              have h5 := bl_ge (m := (S.sl i).natAbs) (by omega)
              have h6 : 2 ^ (bl (S.sl i).natAbs - 1) * 2 ^ E ≤ (S.sl i).natAbs * 2 ^ E := Nat.mul_le_mul_right _ h5
              rw [← Nat.pow_add] at h6
              have h7 : 2 ^ 384 ≤ 2 ^ (bl (S.sl i).natAbs - 1 + E) := Nat.pow_le_pow_right (by decide) (by omega)
              rw [B32_two]
              show ¬ (S.sl i).natAbs * 2 ^ E < 2 ^ 384
              omega
            · rw [if_neg (show ¬ (384 : Int32) < nI (bl (S.sl i).natAbs + E) from nI_nlt (a := 384) (by omega) (by decide)), ← he]
              exact mv (Or.inr (by omega))
        · rw [if_neg (fun q => g3 (h0.mp q))]
          simp only [c.rd9, c.slot hi, Option.bind_some]
          obtain ⟨g5, M5, e5, c5, f5, v5⟩ := c_moveDown c hi (by rw [m.1 i hi]; exact bi) (e := e) (by omega) (by omega)
          rw [m.1 i hi] at v5
          rw [e5]
          simp only [Option.bind_some]
          exact fin g5 M5 c5 f5 v5
      · rw [if_neg (fun q => g2 (hiq.mp q))]
        exact ⟨-1, h, S, rfl, I, by rw [if_neg (by omega)]; exact ⟨rfl, rfl⟩⟩
theorem c_bit (I : CI B n h S) (a k : Int32) : ∃ r h', zs_X9_bit h n a k = some (r, h') ∧ CI B n h' S ∧ Sp_bit S a k r := by
  unfold zs_X9_bit Sp_bit
  cases h1 : ixI 24 a with
  | none => rw [isSlot_n h h1]; exact ⟨-1, h, rfl, I, rfl⟩
  | some i =>
    obtain ⟨rfl, hi⟩ := ixI_some h1
    rw [isSlot_y h hi]
    simp only [Option.bind_some]
    rw [if_neg (by decide)]
    have h0 : ((0 : Int32) ≤ k) ↔ 0 ≤ k.toInt := i32_le
    by_cases hk : k.toInt < 0
    · rw [if_neg (fun q => by have := h0.mp q; omega)]
      exact ⟨-1, h, rfl, I, by rw [if_pos hk]⟩
    · obtain ⟨d, M, c, m, dd, si⟩ := I
      rw [if_pos (h0.mpr (by omega))]
      have bi : (M i).natAbs < B32 ^ 12 := by rw [m.1 i hi]; exact si.1 i hi
      simp only [c.rd9, c.rd7, c.slot hi, Option.bind_some]
      obtain ⟨g1, f, e1, c1, q1⟩ := c.loadR1 hi bi
      rw [e1]
      simp only [c1.rd9, c1.rd7, Option.bind_some]
      have hkn : k = nI k.toInt.toNat := i32_nn (by omega)
      have hkl : k.toInt.toNat < 2 ^ 31 := by have := Int32.toInt_lt k; omega
      have hb := c1.bitAt (k := k.toInt.toNat) (β := bI (M i)) (s := decide (M i < 0)) q1 (bI_sg bi) hkl
      rw [← hkn] at hb
      rw [hb]
      exact ⟨_, g1, rfl, ⟨_, M, c1, m, dd.r rfl rfl rfl, si⟩, by rw [if_neg hk, m.1 i hi]⟩
theorem c_length (I : CI B n h S) (a : Int32) : ∃ r, zs_X9_length h n a = some r ∧ Sp_length S a r := by
  unfold zs_X9_length Sp_length
  cases h1 : ixI 24 a with
  | none => rw [isSlot_n h h1]; exact ⟨-1, rfl, rfl⟩
  | some i =>
    obtain ⟨rfl, hi⟩ := ixI_some h1
    obtain ⟨d, M, c, m, dd, si⟩ := I
    rw [isSlot_y h hi]
    simp only [Option.bind_some]
    rw [if_neg (by decide)]
    simp only [c.rd9, c.slot hi, c.chk8 (show i < 70 by omega), c.sizeBits (show i < 70 by omega), Option.bind_some]
    exact ⟨_, rfl, by rw [m.1 i hi]⟩
theorem c_ones (I : CI B n h S) (a : Int32) : ∃ r h', zs_X9_ones h n a = some (r, h') ∧ CI B n h' S ∧ Sp_ones S a r := by
  unfold zs_X9_ones Sp_ones
  cases h1 : ixI 24 a with
  | none => rw [isSlot_n h h1]; exact ⟨-1, h, rfl, I, rfl⟩
  | some i =>
    obtain ⟨rfl, hi⟩ := ixI_some h1
    obtain ⟨d, M, c, m, dd, si⟩ := I
    rw [isSlot_y h hi]
    simp only [Option.bind_some]
    rw [if_neg (by decide)]
    have bi : (M i).natAbs < B32 ^ 12 := by rw [m.1 i hi]; exact si.1 i hi
    simp only [c.rd9, c.rd7, c.slot hi, Option.bind_some]
    obtain ⟨g1, f, e1, c1, q1⟩ := c.loadR1 hi bi
    rw [e1]
    simp only [c1.rd9, c1.rd7, Option.bind_some]
    rw [c1.unlikeSign bi q1]
    exact ⟨_, g1, rfl, ⟨_, M, c1, m, dd.r rfl rfl rfl, si⟩, by rw [m.1 i hi]⟩
end Fc2
