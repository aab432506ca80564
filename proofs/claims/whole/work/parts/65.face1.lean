/-! the class's methods keep to the calls: first part -/
theorem ixI_rng {N : Nat} {x : Int32} (hN : N + 1 < 2 ^ 31) (h : ixI (N + 1) x = none) : x < 0 ∨ (¬ x < 0 ∧ nI N < x ∧ ¬ x ≤ nI N) := by
  rcases ixI_none h with h1 | h1
  · exact Or.inl (i32_lt0.mpr h1)
  · right
    have hn : (nI N).toInt = (N : Int) := nI_toInt (by omega)
    refine ⟨fun z => ?_, i32_lt.mpr ?_, fun z => ?_⟩
    · have := i32_lt0.mp z; omega
    · rw [hn]; omega
    · have := i32_le.mp z; rw [hn] at this; omega
theorem i64_abs (v : Int64) : v.toInt.natAbs < B32 ^ 12 := by
  have h1 := Int64.toInt_lt v
  have h2 := Int64.le_toInt v
  have h3 : 2 ^ 63 < B32 ^ 12 := by decide
  omega
section Fc1
variable {B h : AH} {n : Nat} {S : AS}
theorem c_set (I : CI B n h S) (s : Int32) (v : Int64) : ∃ r h' S', zs_X9_set h n s v = some (r, h') ∧ CI B n h' S' ∧ Sp_set S s v r S' := by
  unfold zs_X9_set Sp_set
  cases h1 : ixI 24 s with
  | none => rw [isSlot_n h h1]; exact ⟨-1, h, S, rfl, I, rfl, rfl⟩
  | some i =>
    obtain ⟨rfl, hi⟩ := ixI_some h1
    obtain ⟨d, M, c, m, dd, si⟩ := I
    rw [isSlot_y h hi]
    simp only [Option.bind_some]
    rw [if_neg (by decide)]
    simp only [c.rd9, c.slot hi, c.chk8 (show i < 70 by omega), Option.bind_some]
    obtain ⟨g1, e1, c1⟩ := c.become (k := i) (by omega) v
    rw [e1]
    exact ⟨1, g1, setS S i v.toInt, rfl, ⟨d, _, c1, m.set hi _, dd, si.set hi (i64_abs v)⟩, rfl, rfl⟩
theorem c_feed (I : CI B n h S) (w : Int64) (x : Int32) : ∃ r h' S', zs_X9_feed h n w x = some (r, h') ∧ CI B n h' S' ∧ Sp_feed S w x r S' := by
  unfold zs_X9_feed Sp_feed
  cases h1 : ixI 9 x with
  | none =>
    rcases ixI_rng (N := 8) (by decide) h1 with h2 | ⟨h2, h3, h4⟩
    · have : x < (1 : Int32) := i32_lt.mpr (by have := i32_lt0.mp h2; show _ < (1 : Int); omega)
      rw [if_pos this]
      exact ⟨-1, h, S, rfl, I, rfl, rfl⟩
    · have h5 : ¬ x < (1 : Int32) := fun z => by
        have a := i32_lt.mp z
        have b := i32_lt.mp h3
        rw [nI_toInt (by decide)] at b
        have : x.toInt < 1 := a
        omega
      rw [if_neg h5, if_neg (show ¬ x ≤ (8 : Int32) from h4)]
      exact ⟨-1, h, S, rfl, I, rfl, rfl⟩
  | some N =>
    obtain ⟨rfl, hN⟩ := ixI_some h1
    dsimp only
    by_cases h0 : N = 0
    · subst h0
      rw [if_pos (by decide)]
      exact ⟨-1, h, S, rfl, I, by rw [if_pos rfl]; exact ⟨rfl, rfl⟩⟩
    · obtain ⟨d, M, c, m, dd, si⟩ := I
      rw [if_neg (show ¬ nI N < (1 : Int32) from nI_nlt (b := 1) (by omega) (by omega)), if_pos (show nI N ≤ (8 : Int32) from nI_le (b := 8) (by omega) (by decide))]
      simp only [c.rd9, c.rd5, Option.bind_some]
      obtain ⟨g1, d1, z, e1, c1, p1, hz⟩ := c.takeBytes dd.1 w (N := N) (by omega) (by omega)
      rw [e1]
      simp only [Option.bind_some]
      have dd1 : (d1.2 = d.2) → DD d1 S = (tpe d1 S.tC S.tB ∧ (d.xc = nI S.oN ∧ ∀ k, k < S.oN → d.xb k = nI (S.oB k)) ∧ (d.hd = nI S.eA ∧ d.rd = nI S.eM ∧ ∀ j, j < S.eA + S.eM → d.ke j = nI (S.eD j))) := by
        intro e
        unfold DD DS.xc DS.xb DS.hd DS.rd DS.ke
        rw [e]
      rcases hz with ⟨hf, rfl, T⟩ | ⟨hf, rfl, rfl⟩
      · rw [if_neg (by decide)]
        simp only [c1.rd9, c1.rd5, Option.bind_some]
        rw [T.1]
        refine ⟨_, g1, setT S (S.tC + N) (fedB S.tB S.tC N w), rfl, ⟨d1, M, c1, m, ⟨T, ?_, ?_⟩, si.1, si.2.1, ⟨T.2.1, fun k hk => (T.2.2 k hk).2⟩, si.2.2.2⟩, by rw [if_neg h0, if_pos hf]; exact ⟨rfl, rfl⟩⟩
        · have := dd.2.1
          unfold DS.xc DS.xb at this ⊢
          rw [p1]
          exact this
        · have := dd.2.2
          unfold DS.hd DS.rd DS.ke at this ⊢
          rw [p1]
          exact this
      · rw [if_pos rfl]
        exact ⟨-5, g1, S, rfl, ⟨d1, M, c1, m, dd, si⟩, by rw [if_neg h0, if_neg (by omega)]; exact ⟨rfl, rfl⟩⟩
theorem c_clear {d : DS} {M : Nat → Int} (c : CW B n d h M) (m : MS M S) (dd : DD d S) (si : SI S) : ∃ h' d', zs_X5_clear h (n + 111) = some h' ∧ CW B n d' h' M ∧ MS M (clr S) ∧ DD d' (clr S) ∧ SI (clr S) := by
  unfold zs_X5_clear
  obtain ⟨g1, e1, c1⟩ := c.putTc 0
  rw [e1]
  exact ⟨g1, _, rfl, c1, m, ⟨⟨rfl, by show 0 ≤ 120; omega, fun k hk => absurd hk (Nat.not_lt_zero k)⟩, dd.2.1, dd.2.2⟩, si.1, si.2.1, ⟨by show 0 ≤ 120; omega, fun k hk => absurd hk (Nat.not_lt_zero k)⟩, si.2.2.2⟩
theorem c_read (I : CI B n h S) (s base : Int32) : ∃ r h' S', zs_X9_read h n s base = some (r, h') ∧ CI B n h' S' ∧ Sp_read S s base r S' := by
  unfold zs_X9_read Sp_read
  cases h1 : ixI 24 s with
  | none => rw [isSlot_n h h1]; exact ⟨-1, h, S, rfl, I, rfl, rfl⟩
  | some i =>
    obtain ⟨rfl, hi⟩ := ixI_some h1
    rw [isSlot_y h hi]
    simp only [Option.bind_some]
    rw [if_neg (by decide)]
    cases h2 : bsI base with
    | none => rw [isBase_n h h2]; exact ⟨-1, h, S, rfl, I, rfl, rfl⟩
    | some q =>
      obtain ⟨rfl, hq2, hq⟩ := bsI_some h2
      rw [isBase_y h hq2 hq]
      obtain ⟨d, M, c, m, dd, si⟩ := I
      simp only [Option.bind_some]
      rw [if_neg (by decide)]
      simp only [c.rd9, c.rd5, Option.bind_some]
      obtain ⟨z, hz, hcs⟩ := c.wrongPlace dd.1 (base := q) hq
      rw [hz]
      simp only [Option.bind_some]
      have hneg : ∀ p, p < 2 ^ 31 → ∃ h' d', zj_X9_read_41 h n (nI i) (nI p) = some (-10 - nI p, h') ∧ CW B n d' h' M ∧ MS M (clr S) ∧ DD d' (clr S) ∧ SI (clr S) := by
        intro p hp
        obtain ⟨g1, d1, e1, c1, m1, dd1, si1⟩ := c_clear c m dd si
        unfold zj_X9_read_41
        simp only [c.rd9, c.rd5, Option.bind_some]
        rw [e1]
        simp only [Option.bind_some]
        rw [if_pos (nI_pos' hp)]
        exact ⟨g1, d1, rfl, c1, m1, dd1, si1⟩
      have tC := si.2.2.1.1
      rcases hcs with ⟨a1, rfl⟩ | ⟨a1, p, hp, rfl⟩ | ⟨a1, rfl, ha⟩
      · rw [if_pos (nI_pos' (by omega))]
        obtain ⟨g1, d1, e1, c1, m1, dd1, si1⟩ := hneg S.tC (by omega)
        exact ⟨_, g1, clr S, e1, ⟨d1, M, c1, m1, dd1, si1⟩, Or.inl ⟨a1, rfl, rfl⟩⟩
      · have hpl := hp.2.1
        rw [if_pos (nI_pos' (by omega))]
        obtain ⟨g1, d1, e1, c1, m1, dd1, si1⟩ := hneg p (by omega)
        exact ⟨_, g1, clr S, e1, ⟨d1, M, c1, m1, dd1, si1⟩, Or.inr (Or.inl ⟨a1, p, hp, rfl, rfl⟩)⟩
      · rw [if_neg (by decide)]
        obtain ⟨g1, M1, e1, c1, f1, v1⟩ := c.spellInto dd.1 (base := q) hq2 hq ha
        rw [e1]
        simp only [Option.bind_some]
        obtain ⟨g2, d2, e2, c2, m2, dd2, si2⟩ := c_clear c1 (m.fr (fun x hx => f1 x (by omega))) dd si
        unfold zj_X9_read_41
        simp only [c1.rd9, c1.rd5, Option.bind_some]
        rw [e2]
        simp only [Option.bind_some]
        rw [if_neg (by decide)]
        simp only [c2.rd9, Option.bind_some]
        obtain ⟨r, h', S', e3, I3, k3⟩ := keepC c2 m2 dd2 si2 (k := 68) (by decide) hi
        rw [e3]
        rw [v1] at k3
        exact ⟨r, h', S', rfl, I3, Or.inr (Or.inr ⟨a1, ha, k3⟩)⟩
theorem lets_lt {v : Nat} (h : v < 36) : lets v < 128 := by
  unfold lets
  split <;> omega
theorem c_write (I : CI B n h S) (s base : Int32) : ∃ r h' S', zs_X9_write h n s base = some (r, h') ∧ CI B n h' S' ∧ Sp_write S s base r S' := by
  unfold zs_X9_write Sp_write
  cases h1 : ixI 24 s with
  | none => rw [isSlot_n h h1]; exact ⟨-1, h, S, rfl, I, rfl, rfl⟩
  | some i =>
    obtain ⟨rfl, hi⟩ := ixI_some h1
    rw [isSlot_y h hi]
    simp only [Option.bind_some]
    rw [if_neg (by decide)]
    cases h2 : bsI base with
    | none => rw [isBase_n h h2]; exact ⟨-1, h, S, rfl, I, rfl, rfl⟩
    | some q =>
      obtain ⟨rfl, hq2, hq⟩ := bsI_some h2
      rw [isBase_y h hq2 hq]
      obtain ⟨d, M, c, m, dd, si⟩ := I
      simp only [Option.bind_some]
      rw [if_neg (by decide)]
      simp only [c.rd9, c.rd6, c.slot hi, Option.bind_some]
      obtain ⟨g1, d1, M1, L, e1, c1, p1, p2, f1, hL, hL4, x1, x2⟩ := c.spell hi (by rw [m.1 i hi]; exact si.1 i hi) (base := q) hq2 hq
      rw [m.1 i hi] at hL x1 x2
      rw [e1]
      simp only [c1.rd9, c1.rd6, Option.bind_some]
      rw [x1]
      have hng : isNeg (S.sl i) ≤ 1 := by unfold isNeg; split <;> omega
      refine ⟨_, g1, setO S (L + isNeg (S.sl i)) (fun k => outB (S.sl i).natAbs q L (L + isNeg (S.sl i) - 1 - k)), rfl, ⟨d1, M1, c1, m.fr (fun x hx => f1 x (by omega)), ⟨?_, ⟨x1, x2⟩, ?_⟩, si.1, si.2.1, si.2.2.1, ⟨?_, fun k hk => ?_⟩, si.2.2.2.2⟩, L, hL, rfl, rfl⟩
      · have := dd.1
        unfold tpe DS.tc DS.tb at this ⊢
        rw [p1]
        exact this
      · have := dd.2.2
        unfold DS.hd DS.rd DS.ke at this ⊢
        rw [p2]
        exact this
      · show L + isNeg (S.sl i) ≤ 385
        omega
      · show outB _ _ _ _ < 128
        unfold outB
        split
        · exact lets_lt (Nat.lt_of_lt_of_le (Nat.mod_lt _ (by omega)) hq)
        · omega
theorem c_low (I : CI B n h S) (s : Int32) : ∃ r, zs_X9_low h n s = some r ∧ Sp_low S s r := by
  unfold zs_X9_low Sp_low
  cases h1 : ixI 24 s with
  | none => rw [isSlot_n h h1]; exact ⟨0, rfl, rfl⟩
  | some i =>
    obtain ⟨rfl, hi⟩ := ixI_some h1
    obtain ⟨d, M, c, m, dd, si⟩ := I
    rw [isSlot_y h hi]
    simp only [Option.bind_some]
    rw [if_neg (by decide)]
    simp only [c.rd9, c.slot hi, c.chk8 (show i < 70 by omega), c.lowest64 (show i < 70 by omega), Option.bind_some]
    exact ⟨_, rfl, by rw [m.1 i hi]⟩
theorem c_limbs (I : CI B n h S) (s : Int32) : ∃ r, zs_X9_limbs h n s = some r ∧ Sp_limbs S s r := by
  unfold zs_X9_limbs Sp_limbs
  cases h1 : ixI 24 s with
  | none => rw [isSlot_n h h1]; exact ⟨-1, rfl, rfl⟩
  | some i =>
    obtain ⟨rfl, hi⟩ := ixI_some h1
    obtain ⟨d, M, c, m, dd, si⟩ := I
    rw [isSlot_y h hi]
    have hi70 : i < 70 := by omega
    simp only [Option.bind_some]
    rw [if_neg (by decide)]
    simp only [c.rd9, c.slot hi, c.chk8 hi70, c.isShort hi70, Option.bind_some]
    rw [m.1 i hi]
    by_cases hs : -9223372036854775808 ≤ S.sl i ∧ S.sl i ≤ 9223372036854775807
    · rw [if_pos hs, if_neg (by decide)]
      exact ⟨0, rfl, by rw [if_pos hs]⟩
    · rw [if_neg hs, if_pos rfl]
      obtain ⟨k, e1, k1, k2, k3⟩ := c.look hi70
      rw [e1]
      rw [m.1 i hi] at k2 k3
      exact ⟨nI k, rfl, by rw [if_neg hs]; exact ⟨k, ⟨k1, k2, k3⟩, rfl⟩⟩
theorem c_limb (I : CI B n h S) (s k : Int32) : ∃ r, zs_X9_limb h n s k = some r ∧ Sp_limb S s k r := by
  unfold zs_X9_limb Sp_limb
  cases h1 : ixI 24 s with
  | none => rw [isSlot_n h h1]; exact ⟨0, rfl, rfl⟩
  | some i =>
    obtain ⟨rfl, hi⟩ := ixI_some h1
    obtain ⟨d, M, c, m, dd, si⟩ := I
    rw [isSlot_y h hi]
    simp only [Option.bind_some]
    rw [if_neg (by decide)]
    simp only [c.rd9, c.slot hi, c.chk8 (show i < 70 by omega), c.part (show i < 70 by omega), Option.bind_some]
    exact ⟨_, rfl, by rw [m.1 i hi]⟩
theorem c_compare (I : CI B n h S) (a b : Int32) : ∃ r, zs_X9_compare h n a b = some r ∧ Sp_compare S a b r := by
  unfold zs_X9_compare Sp_compare
  cases h1 : ix2 a b with
  | none =>
    rcases ix2_none h1 with h2 | ⟨i, hi, rfl, h2⟩
    · rw [isSlot_n h h2]; exact ⟨-1, rfl, rfl⟩
    · rw [isSlot_y h hi, isSlot_n h h2]; exact ⟨-1, rfl, rfl⟩
  | some p =>
    obtain ⟨i, j⟩ := p
    obtain ⟨⟨rfl, hi⟩, rfl, hj⟩ := ix2_some h1
    obtain ⟨d, M, c, m, dd, si⟩ := I
    rw [isSlot_y h hi, isSlot_y h hj]
    simp only [Option.bind_some]
    rw [if_neg (by decide), if_neg (by decide)]
    simp only [c.rd9, c.slot hi, c.slot hj, c.order (show i < 70 by omega) (show j < 70 by omega), Option.bind_some]
    exact ⟨_, rfl, by rw [m.1 i hi, m.1 j hj]⟩
theorem c_act (I : CI B n h S) (how a b z : Int32) : ∃ r h' S', zs_X9_act h n how a b z = some (r, h') ∧ CI B n h' S' ∧ Sp_act S how a b z r S' := by
  unfold zs_X9_act Sp_act
  cases h1 : ixI 3 how with
  | none =>
    rcases ixI_rng (N := 2) (by decide) h1 with h2 | ⟨h2, h3, h4⟩
    · rw [if_pos h2]; exact ⟨-1, h, S, rfl, I, rfl, rfl⟩
    · rw [if_neg h2, if_pos (show (2 : Int32) < how from h3)]; exact ⟨-1, h, S, rfl, I, rfl, rfl⟩
  | some w =>
    obtain ⟨rfl, hw⟩ := ixI_some h1
    rw [if_neg (nI_pos (by omega)), if_neg (show ¬ (2 : Int32) < nI w from nI_nlt (a := 2) (by omega) (by decide))]
    cases h2 : ix3 a b z with
    | none => rw [areSlots_n h (ix3_none h2)]; exact ⟨-1, h, S, rfl, I, rfl, rfl⟩
    | some p =>
      obtain ⟨i, j, k⟩ := p
      obtain ⟨⟨rfl, hi⟩, ⟨rfl, hj⟩, rfl, hk⟩ := ix3_some h2
      obtain ⟨d, M, c, m, dd, si⟩ := I
      rw [areSlots_y h hi hj hk]
      simp only [Option.bind_some]
      rw [if_neg (by decide)]
      have bi : (M i).natAbs < B32 ^ 12 := by rw [m.1 i hi]; exact si.1 i hi
      have bj : (M j).natAbs < B32 ^ 12 := by rw [m.1 j hj]; exact si.1 j hj
      have hlt : B32 ^ 12 < B32 ^ 25 := by decide
      have fin : ∀ (g1 : AH) (x : Int), CW B n d g1 (va_up M 68 x) → ∃ r h' S', zj_X9_act_93 g1 n (nI k) = some (r, h') ∧ CI B n h' S' ∧ kp S k x r S' := by
        intro g1 x c1
        unfold zj_X9_act_93
        simp only [c1.rd9, Option.bind_some]
        obtain ⟨r, h', S', e3, I3, k3⟩ := keepC c1 (m.fr (fun y hy => va_un (by omega))) dd si (k := 68) (by decide) hk
        rw [va_us] at k3
        rw [e3]
        exact ⟨r, h', S', rfl, I3, k3⟩
      simp only [c.rd9, c.slot hi, c.slot hj, Option.bind_some]
      rw [← m.1 i hi, ← m.1 j hj]
      rcases (show w = 0 ∨ w = 1 ∨ w = 2 by omega) with rfl | rfl | rfl
      · rw [if_pos (by decide)]
        obtain ⟨g1, e1, c1⟩ := c.sum (i := i) (j := j) (k := 68) (by omega) (by omega) (by decide) (by omega) (by omega)
        rw [e1]
        exact fin g1 _ c1
      · rw [if_neg (by decide), if_pos (by decide)]
        obtain ⟨g1, e1, c1⟩ := c.difference (i := i) (j := j) (k := 68) (by omega) (by omega) (by decide) (by omega) (by omega)
        rw [e1]
        exact fin g1 _ c1
      · rw [if_neg (by decide), if_neg (by decide)]
        obtain ⟨g1, e1, c1⟩ := c.product (i := i) (j := j) (k := 68) (by omega) (by omega) (by decide) (by omega) (by omega) bi bj (by decide)
        rw [e1]
        exact fin g1 _ c1
theorem c_over (I : CI B n h S) (way a b z e : Int32) : ∃ r h' S', zs_X9_over h n way a b z e = some (r, h') ∧ CI B n h' S' ∧ Sp_over S way a b z e r S' := by
  unfold zs_X9_over Sp_over
  cases h1 : ixI 3 way with
  | none =>
    rcases ixI_rng (N := 2) (by decide) h1 with h2 | ⟨h2, h3, h4⟩
    · rw [if_pos h2]; exact ⟨-1, h, S, rfl, I, rfl, rfl⟩
    · rw [if_neg h2, if_pos (show (2 : Int32) < way from h3)]; exact ⟨-1, h, S, rfl, I, rfl, rfl⟩
  | some w =>
    obtain ⟨rfl, hw⟩ := ixI_some h1
    rw [if_neg (nI_pos (by omega)), if_neg (show ¬ (2 : Int32) < nI w from nI_nlt (a := 2) (by omega) (by decide))]
    cases h2 : ix3 a b z with
    | none => rw [areSlots_n h (ix3_none h2)]; exact ⟨-1, h, S, rfl, I, rfl, rfl⟩
    | some p =>
      obtain ⟨i, j, k⟩ := p
      obtain ⟨⟨rfl, hi⟩, ⟨rfl, hj⟩, rfl, hk⟩ := ix3_some h2
      rw [areSlots_y h hi hj hk]
      simp only [Option.bind_some]
      rw [if_neg (by decide)]
      cases h3 : ixI 24 e with
      | none => rw [isSlot_n h h3]; exact ⟨-1, h, S, rfl, I, rfl, rfl⟩
      | some l =>
        obtain ⟨rfl, hl⟩ := ixI_some h3
        rw [isSlot_y h hl]
        simp only [Option.bind_some]
        rw [if_neg (by decide)]
        by_cases hkl : k = l
        · rw [if_pos (by rw [hkl])]
          exact ⟨-1, h, S, rfl, I, by rw [if_pos hkl]; exact ⟨rfl, rfl⟩⟩
        · rw [if_neg (fun q => hkl ((nI_eq (by omega) (by omega)).mp q))]
          simp only [if_neg hkl]
          obtain ⟨d, M, c, m, dd, si⟩ := I
          have hj70 : j < 70 := by omega
          simp only [c.rd9, c.slot hj, c.chk8 hj70, c.isZero hj70, Option.bind_some]
          rw [m.1 j hj]
          by_cases hz : S.sl j = 0
          · rw [if_pos hz, if_neg (by decide)]
            exact ⟨-2, h, S, rfl, ⟨d, M, c, m, dd, si⟩, by rw [if_pos hz]; exact ⟨rfl, rfl⟩⟩
          · rw [if_neg hz, if_pos rfl]
            simp only [if_neg hz]
            simp only [c.rd9, c.rd0, c.slot hi, c.slot hj, Option.bind_some]
            have hlt : B32 ^ 12 < B32 ^ 25 := by decide
            have bi := si.1 i hi
            have bj := si.1 j hj
            obtain ⟨g1, e1, c1⟩ := c.divide (i := i) (j := j) (by omega) (by omega) (by omega) (by omega) (by omega) (by omega) (by rw [m.1 j hj]; exact hz) (by rw [m.1 i hi]; omega) (by rw [m.1 j hj]; omega) (nI w)
            rw [m.1 i hi, m.1 j hj] at c1
            rw [e1]
            have m1 : MS (va_up (va_up M 49 (dvQ (nI w) (S.sl i) (S.sl j))) 50 (dvR (nI w) (S.sl i) (S.sl j))) S := m.fr (fun x hx => by rw [va_un (by omega), va_un (by omega)])
            simp only [c1.rd9, c1.rd0, c1.chk8 (show 49 < 70 by decide), c1.isWithin (show 49 < 70 by decide), Option.bind_some]
            rw [va_un (show 49 ≠ 50 by decide), va_us]
            by_cases hQ : (dvQ (nI w) (S.sl i) (S.sl j)).natAbs < B32 ^ 12
            · rw [if_pos hQ, if_neg (by decide)]
              simp only [c1.chk8 (show 50 < 70 by decide), c1.isWithin (show 50 < 70 by decide), Option.bind_some]
              rw [va_us]
              by_cases hR : (dvR (nI w) (S.sl i) (S.sl j)).natAbs < B32 ^ 12
              · rw [if_pos hR, if_neg (by decide)]
                simp only [c1.slot hk, c1.chk8 (show k < 70 by omega), Option.bind_some]
                obtain ⟨g2, e2, c2⟩ := c1.copy (k := k) (i := 49) (by omega) (by decide)
                rw [va_un (show 49 ≠ 50 by decide), va_us] at c2
                rw [e2]
                simp only [c2.rd9, c2.rd0, c2.slot hl, c2.chk8 (show l < 70 by omega), Option.bind_some]
                obtain ⟨g3, e3, c3⟩ := c2.copy (k := l) (i := 50) (by omega) (by decide)
                rw [va_un (show 50 ≠ k by omega), va_us] at c3
                rw [e3]
                exact ⟨1, g3, setS (setS S k (dvQ (nI w) (S.sl i) (S.sl j))) l (dvR (nI w) (S.sl i) (S.sl j)), rfl, ⟨d, _, c3, (m1.set hk _).set hl _, dd, (si.set hk hQ).set hl hR⟩, by rw [if_pos ⟨hQ, hR⟩]; exact ⟨rfl, rfl⟩⟩
              · rw [if_neg hR, if_pos rfl]
                exact ⟨-5, g1, S, rfl, ⟨d, _, c1, m1, dd, si⟩, by rw [if_neg (fun q => hR q.2)]; exact ⟨rfl, rfl⟩⟩
            · rw [if_neg hQ, if_pos rfl]
              exact ⟨-5, g1, S, rfl, ⟨d, _, c1, m1, dd, si⟩, by rw [if_neg (fun q => hQ q.1)]; exact ⟨rfl, rfl⟩⟩
theorem c_divisor (I : CI B n h S) (a b z : Int32) : ∃ r h' S', zs_X9_divisor h n a b z = some (r, h') ∧ CI B n h' S' ∧ Sp_divisor S a b z r S' := by
  unfold zs_X9_divisor Sp_divisor
  cases h2 : ix3 a b z with
  | none => rw [areSlots_n h (ix3_none h2)]; exact ⟨-1, h, S, rfl, I, rfl, rfl⟩
  | some p =>
    obtain ⟨i, j, k⟩ := p
    obtain ⟨⟨rfl, hi⟩, ⟨rfl, hj⟩, rfl, hk⟩ := ix3_some h2
    obtain ⟨d, M, c, m, dd, si⟩ := I
    rw [areSlots_y h hi hj hk]
    simp only [Option.bind_some]
    rw [if_neg (by decide)]
    simp only [c.rd9, c.rd3, c.slot hi, c.slot hj, Option.bind_some]
    obtain ⟨g1, M1, e1, c1, f1, v1⟩ := c.commonDivisor (i := i) (j := j) (k := 68) (by omega) (by omega) (by decide) (by omega)
    rw [m.1 i hi, m.1 j hj] at v1
    rw [e1]
    simp only [c1.rd9, Option.bind_some]
    obtain ⟨r, h', S', e3, I3, k3⟩ := keepC c1 (m.fr (fun x hx => f1 x (by omega) (by omega) (by omega) (by omega) (by omega))) dd si (k := 68) (by decide) hk
    rw [v1] at k3
    rw [e3]
    exact ⟨r, h', S', rfl, I3, k3⟩
theorem c_power (I : CI B n h S) (a e z : Int32) : ∃ r h' S', zs_X9_power h n a e z = some (r, h') ∧ CI B n h' S' ∧ Sp_power S a e z r S' := by
  unfold zs_X9_power Sp_power
  cases h1 : ix2 a z with
  | none =>
    rcases ix2_none h1 with h2 | ⟨i, hi, rfl, h2⟩
    · rw [isSlot_n h h2]; exact ⟨-1, h, S, rfl, I, rfl, rfl⟩
    · rw [isSlot_y h hi, isSlot_n h h2]; exact ⟨-1, h, S, rfl, I, rfl, rfl⟩
  | some p =>
    obtain ⟨i, k⟩ := p
    obtain ⟨⟨rfl, hi⟩, rfl, hk⟩ := ix2_some h1
    rw [isSlot_y h hi, isSlot_y h hk]
    simp only [Option.bind_some]
    rw [if_neg (by decide), if_neg (by decide)]
    cases h2 : ixI 2001 e with
    | none =>
      rcases ixI_rng (N := 2000) (by decide) h2 with h3 | ⟨h3, h4, h5⟩
      · rw [if_pos h3]; exact ⟨-1, h, S, rfl, I, rfl, rfl⟩
      · rw [if_neg h3, if_neg (show ¬ e ≤ (2000 : Int32) from h5)]; exact ⟨-1, h, S, rfl, I, rfl, rfl⟩
    | some N =>
      obtain ⟨rfl, hN⟩ := ixI_some h2
      obtain ⟨d, M, c, m, dd, si⟩ := I
      rw [if_neg (nI_pos (by omega)), if_pos (show nI N ≤ (2000 : Int32) from nI_le (b := 2000) (by omega) (by decide))]
      simp only [c.rd9, c.rd3, c.slot hi, Option.bind_some]
      obtain ⟨g1, M1, z, e1, c1, f1, hz⟩ := c.raise (i := i) (by omega) (by omega) (by omega) (by rw [m.1 i hi]; exact si.1 i hi) (N := N) (by omega)
      rw [m.1 i hi] at hz
      rw [e1]
      have m1 : MS M1 S := m.fr (fun x hx => f1 x (by omega) (by omega))
      simp only [Option.bind_some]
      rcases hz with ⟨rfl, v1, b1⟩ | ⟨rfl, b1⟩
      · rw [if_neg (by decide)]
        simp only [c1.rd9, c1.rd3, Option.bind_some]
        obtain ⟨r, h', S', e3, I3, k3⟩ := keepC c1 m1 dd si (k := 52) (by decide) hk
        rw [v1] at k3
        rw [e3]
        exact ⟨r, h', S', rfl, I3, k3⟩
      · rw [if_pos rfl]
        exact ⟨-5, g1, S, rfl, ⟨d, M1, c1, m1, dd, si⟩, Or.inr ⟨by omega, rfl, rfl⟩⟩
end Fc1
