/-! two's form -/
/-- a bit of the endless two's form -/
def bI (a : Int) (j : Nat) : Bool := if a < 0 then !((a.natAbs - 1).testBit j) else a.natAbs.testBit j
def bop (how : Nat) (p q : Bool) : Bool := if how = 0 then p && q else if how = 1 then p || q else if how = 2 then (p ^^ q) else p && !q
theorem bI_hi {a : Int} {K : Nat} (h : a.natAbs ≤ 2 ^ K) (h2 : 0 ≤ a → a.natAbs < 2 ^ K) {j : Nat} (hj : K ≤ j) : bI a j = decide (a < 0) := by
  unfold bI
  have hp : 2 ^ K ≤ 2 ^ j := Nat.pow_le_pow_right (by decide) hj
  by_cases hn : a < 0
  · rw [if_pos hn, Nat.testBit_lt_two_pow (by omega), decide_eq_true hn]
    rfl
  · have := h2 (by omega)
    rw [if_neg hn, Nat.testBit_lt_two_pow (by omega), decide_eq_false hn]
theorem bI_ext {a c : Int} (h : ∀ j, bI a j = bI c j) : a = c := by
  have hs : (a < 0) ↔ (c < 0) := by
    have ha := Nat.lt_two_pow_self (n := a.natAbs)
    have hc := Nat.lt_two_pow_self (n := c.natAbs)
    have h1 := bI_hi (a := a) (K := a.natAbs) (by omega) (fun _ => ha) (j := a.natAbs + c.natAbs) (by omega)
    have h2 := bI_hi (a := c) (K := c.natAbs) (by omega) (fun _ => hc) (j := a.natAbs + c.natAbs) (by omega)
    have h3 : decide (a < 0) = decide (c < 0) := by rw [← h1, ← h2]; exact h _
    exact decide_eq_decide.mp h3
  unfold bI at h
  by_cases hn : a < 0
  · have hm := hs.mp hn
    have e : a.natAbs - 1 = c.natAbs - 1 := Nat.eq_of_testBit_eq (fun j => by
      have := h j
      rw [if_pos hn, if_pos hm] at this
      exact Bool.not_inj this)
    omega
  · have hm : ¬ c < 0 := fun z => hn (hs.mpr z)
    have e : a.natAbs = c.natAbs := Nat.eq_of_testBit_eq (fun j => by
      have := h j
      rw [if_neg hn, if_neg hm] at this
      exact this)
    omega
theorem vN_tb {d : Nat → Nat} : ∀ {k : Nat}, (∀ i, i < k → d i < B32) → ∀ j, (vN d k).testBit j = (decide (j / 32 < k) && (d (j / 32)).testBit (j % 32))
  | 0, _, j => by
    show Nat.testBit 0 j = _
    rw [Nat.zero_testBit, decide_eq_false (by omega)]
    rfl
  | k + 1, h, j => by
    show (vN d k + d k * B32 ^ k).testBit j = _
    have hl := vN_lt (d := d) (k := k) (fun i hi => h i (by omega))
    have ih := vN_tb (d := d) (k := k) (fun i hi => h i (by omega)) j
    rw [B32_two] at hl ⊢
    rw [Nat.add_comm, Nat.mul_comm, Nat.testBit_two_pow_mul_add _ hl]
    by_cases h1 : j < 32 * k
    · rw [if_pos h1, ih, decide_eq_true (show j / 32 < k by omega), decide_eq_true (show j / 32 < k + 1 by omega)]
    · rw [if_neg h1]
      by_cases h2 : j < 32 * k + 32
      · rw [decide_eq_true (show j / 32 < k + 1 by omega), show j / 32 = k by omega, show j % 32 = j - 32 * k by omega]
        rfl
      · rw [decide_eq_false (show ¬ j / 32 < k + 1 by omega)]
        have hd := h k (by omega)
        have hp : 2 ^ 32 ≤ 2 ^ (j - 32 * k) := Nat.pow_le_pow_right (by decide) (by omega)
        unfold B32 at hd
        rw [Nat.testBit_lt_two_pow (by omega)]
        rfl
theorem pc_tb (N p r : Nat) (hr : r < 32) : (N / B32 ^ p % B32).testBit r = N.testBit (32 * p + r) := by
  rw [B32_two, show B32 = 2 ^ 32 from rfl, Nat.testBit_mod_two_pow, decide_eq_true hr, Nat.testBit_div_two_pow, Nat.add_comm r]
  rfl
theorem xm_nat {x : Nat} (hx : x < 2 ^ 32) : x ^^^ (2 ^ 32 - 1) = 2 ^ 32 - (x + 1) := by
  apply Nat.eq_of_testBit_eq
  intro i
  rw [Nat.testBit_xor, Nat.testBit_two_pow_sub_one, Nat.testBit_two_pow_sub_succ hx]
  by_cases hi : i < 32
  · rw [decide_eq_true hi]
    cases x.testBit i <;> rfl
  · have hp : 2 ^ 32 ≤ 2 ^ i := Nat.pow_le_pow_right (by decide) (by omega)
    rw [decide_eq_false hi, Nat.testBit_lt_two_pow (by omega)]
    rfl
theorem uN_xm {x : Int64} (hx : uN x < B32) : uN (x ^^^ (4294967295 : Int64)) = B32 - (uN x + 1) := by
  have h2 : (4294967295 : Int64) = lN (2 ^ 32 - 1) := by decide
  have h3 : x ^^^ (4294967295 : Int64) = lN (uN x ^^^ (2 ^ 32 - 1)) := by rw [← lN_xor, lN_uN, ← h2]
  rw [h3, xm_nat hx]
  unfold B32 at hx ⊢
  exact uN_lN (by omega)
/-- a row holds these bits -/
def RB (f : Nat → Int64) (β : Nat → Bool) : Prop := (∀ i, i < 13 → uN (f i) < B32) ∧ ∀ p r, p < 13 → r < 32 → (uN (f p)).testBit r = β (32 * p + r)
theorem RB_tb {f : Nat → Int64} {β : Nat → Bool} (h : RB f β) {j : Nat} (hj : j < 416) : (vN (dgs f) 13).testBit j = β j := by
  rw [vN_tb (d := dgs f) h.1, decide_eq_true (show j / 32 < 13 by omega)]
  have := h.2 (j / 32) (j % 32) (by omega) (by omega)
  rw [show 32 * (j / 32) + j % 32 = j by omega] at this
  exact this
/-- all bits from 384 on are alike: the top part is nothing, or full -/
theorem RB_top {f : Nat → Int64} {β : Nat → Bool} {s : Bool} (h : RB f β) (hs : ∀ j, 384 ≤ j → β j = s) : f 12 = if s then (4294967295 : Int64) else 0 := by
  apply uN_inj
  apply Nat.eq_of_testBit_eq
  intro i
  have h12 := h.1 12 (by decide)
  unfold B32 at h12
  have hhi : 32 ≤ i → (uN (f 12)).testBit i = false := fun hi => by
    have hp : 2 ^ 32 ≤ 2 ^ i := Nat.pow_le_pow_right (by decide) hi
    exact Nat.testBit_lt_two_pow (by omega)
  cases s with
  | true =>
    show _ = (uN (4294967295 : Int64)).testBit i
    rw [show uN (4294967295 : Int64) = 2 ^ 32 - 1 by decide, Nat.testBit_two_pow_sub_one]
    by_cases hi : i < 32
    · rw [decide_eq_true hi, h.2 12 i (by decide) hi]
      exact hs _ (by omega)
    · rw [decide_eq_false hi]
      exact hhi (by omega)
  | false =>
    show _ = (uN (0 : Int64)).testBit i
    rw [uN_0, Nat.zero_testBit]
    by_cases hi : i < 32
    · rw [h.2 12 i (by decide) hi]
      exact hs _ (by omega)
    · exact hhi (by omega)
/-- the complement's digits, and one -/
theorem ng_step {x c : Nat} (hx : x < B32) (hc : c ≤ 1) : (B32 - (x + 1) + c) % B32 + (B32 - (x + 1) + c) / B32 * B32 = B32 - (x + 1) + c := by
  have := Nat.div_add_mod (B32 - (x + 1) + c) B32
  rw [Nat.mul_comm] at this
  omega
theorem neg_tb {N K : Nat} (h0 : 0 < N) (hN : N ≤ 2 ^ K) {j : Nat} (hj : j < K) : (2 ^ K - N).testBit j = !((N - 1).testBit j) := by
  have e : 2 ^ K - N = 2 ^ K - ((N - 1) + 1) := by omega
  rw [e, Nat.testBit_two_pow_sub_succ (by omega), decide_eq_true hj]
  rfl
section Two
variable {B h : AH} {n : Nat} {d : DS} {M : Nat → Int} {i k : Nat}
theorem CW.negateR1 (c : CW B n d h M) (hd : ∀ i, i < 13 → uN (d.r1 i) < B32) :
    ∃ h' f, zs_X7_negate h (n + 163) = some h' ∧ CW B n (d.setR f d.r2) h' M ∧ (∀ i, i < 13 → uN (f i) < B32) ∧ vN (dgs f) 13 = (B32 ^ 13 - vN (dgs d.r1) 13) % B32 ^ 13 := by
  unfold zs_X7_negate
  have hVl := vN_lt (d := dgs d.r1) (k := 13) hd
  obtain ⟨r, hr, f, c', hf, hv⟩ := iter_FU (B := fun q : AH × Int64 × Int32 => zb_X7_negate_4 (n + 163) q.1 q.2.1 q.2.2)
    (fun t z => z.2.2 = nI t ∧ uN z.2.1 ≤ 1 ∧ ∃ f, CW B n (d.setR f d.r2) z.1 M ∧ (∀ i, i < t → uN (f i) < B32) ∧ (∀ i, t ≤ i → f i = d.r1 i) ∧ vN (dgs f) t + uN z.2.1 * B32 ^ t = B32 ^ t - vN (dgs d.r1) t)
    (fun r => ∃ f, CW B n (d.setR f d.r2) r M ∧ (∀ i, i < 13 → uN (f i) < B32) ∧ ∃ cy, cy ≤ 1 ∧ vN (dgs f) 13 + cy * B32 ^ 13 = B32 ^ 13 - vN (dgs d.r1) 13)
    13 (by omega) (s := (h, (1 : Int64), (0 : Int32))) ⟨rfl, by dsimp only; decide, d.r1, c, fun i hi => by omega, fun _ _ => rfl, by show 0 + uN (1 : Int64) * B32 ^ 0 = B32 ^ 0 - 0; decide⟩ (by
    rintro t ⟨g, cy, z⟩ ht ⟨hz, hcy, f, k1, f1, f2, v1⟩
    dsimp only at hz hcy k1 v1 ⊢
    subst hz
    unfold zb_X7_negate_4
    by_cases h13 : t = 13
    · subst h13
      rw [if_pos (by decide)]
      refine ⟨_, rfl, fun s' hs => by (cases hs), fun r hr => ?_⟩
      obtain rfl := Sum.inr.inj hr
      exact ⟨f, k1, f1, uN cy, hcy, v1⟩
    · rw [if_neg (show ¬ (12 : Int32) < nI t from nI_nlt (a := 12) (by omega) (by decide))]
      simp only [k1.rd7, Option.bind_some, k1.getR1 (show t < 13 by omega), lt_]
      have e1 : (d.setR f d.r2).r1 t = d.r1 t := f2 t (Nat.le_refl _)
      rw [e1]
      have hx := hd t (by omega)
      have hxm := uN_xm hx
      have hs : uN ((d.r1 t ^^^ (4294967295 : Int64)) + cy) = B32 - (uN (d.r1 t) + 1) + uN cy := by
        rw [uN_addE (by rw [hxm]; unfold B32; omega), hxm]
      generalize ((d.r1 t ^^^ (4294967295 : Int64)) + cy) = y at hs
      obtain ⟨g2, e2, k2⟩ := k1.putR1 (k := t) (by omega) (y &&& (4294967295 : Int64))
      rw [e2]
      simp only [Option.bind_some]
      refine ⟨_, rfl, fun s' hs' => ?_, fun r hr => by (cases hr)⟩
      obtain rfl := Sum.inl.inj hs'
      have q1 : uN (y &&& (4294967295 : Int64)) = uN y % B32 := uN_lo y
      have q2 : uN ((y.toUInt64 >>> (((32 : Int32)).toInt64.toUInt64 &&& Int64.toUInt64 63)).toInt64) = uN y / B32 := uN_s32 y
      have hyl : uN y ≤ B32 := by rw [hs]; omega
      refine ⟨by omega, nI_1 t, ?_, _, k2, fun i hi => ?_, fun i hi => ?_, ?_⟩
      · dsimp only
        rw [q2]
        exact Nat.div_le_of_le_mul (by omega)
      · show uN (vp_updL f t _ i) < B32
        by_cases hit : i = t
        · subst hit; rw [pk_uLs, q1]; exact Nat.mod_lt _ (by decide)
        · rw [pk_uLn hit]; exact f1 i (by omega)
      · show vp_updL f t _ i = _
        rw [pk_uLn (by omega)]; exact f2 i (by omega)
      · dsimp only
        have w1 : vN (dgs (vp_updL f t (y &&& (4294967295 : Int64)))) (t + 1) = vN (dgs f) t + uN y % B32 * B32 ^ t := by
          show vN _ t + uN (vp_updL f t _ t) * B32 ^ t = _
          rw [pk_uLs, q1]
          congr 1
          exact vN_congr (fun i hi => by show uN (vp_updL f t _ i) = uN (f i); rw [pk_uLn (by omega)])
        show vN (dgs (vp_updL f t (y &&& (4294967295 : Int64)))) (t + 1) + _ = B32 ^ (t + 1) - (vN (dgs d.r1) t + uN (d.r1 t) * B32 ^ t)
        rw [w1, q2, B32_s]
        have hst := ng_step hx hcy
        rw [← hs] at hst
        have hVt := vN_lt (d := dgs d.r1) (k := t) (fun i hi => hd i (by omega))
        generalize B32 ^ t = P at *
        generalize vN (dgs f) t = X at *
        generalize vN (dgs d.r1) t = Y at *
        generalize uN (d.r1 t) = x at *
        have m1 : (uN y % B32 + uN y / B32 * B32) * P = (B32 - (x + 1) + uN cy) * P := by rw [hst, hs]
        rw [Nat.add_mul, Nat.add_mul, Nat.mul_assoc, Nat.sub_mul, Nat.add_mul] at m1
        have m2 : (x + 1) * P ≤ B32 * P := Nat.mul_le_mul_right _ hx
        rw [Nat.add_mul] at m2
        unfold B32 at m1 m2 ⊢
        omega)
  rw [hr]
  refine ⟨r, f, rfl, c', hf, ?_⟩
  obtain ⟨cy, hcy, hv⟩ := hv
  have hfl := vN_lt (d := dgs f) (k := 13) hf
  generalize vN (dgs f) 13 = X at *
  generalize vN (dgs d.r1) 13 = Y at *
  have hP : 0 < B32 ^ 13 := B32_pos 13
  generalize B32 ^ 13 = P at *
  rcases (show cy = 0 ∨ cy = 1 by omega) with rfl | rfl
  · rw [Nat.zero_mul, Nat.add_zero] at hv
    rw [← hv, Nat.mod_eq_of_lt hfl]
  · rw [Nat.one_mul] at hv
    rw [show P - Y = P by omega, Nat.mod_self]
    omega
theorem CW.loadR1 (c : CW B n d h M) (hi : i < 24) (xa : (M i).natAbs < B32 ^ 12) :
    ∃ h' f, zs_X7_load h (n + 163) (aw n i) = some h' ∧ CW B n (d.setR f d.r2) h' M ∧ RB f (bI (M i)) := by
  unfold zs_X7_load
  have hi70 : i < 70 := by omega
  obtain ⟨r, hr, f, c1, hf⟩ := iter_FU (B := fun q : AH × Int32 => zb_X7_load_2 (n + 163) (aw n i) q.1 q.2)
    (fun t z => z.2 = nI t ∧ ∃ f, CW B n (d.setR f d.r2) z.1 M ∧ ∀ j, j < t → f j = lN ((M i).natAbs / B32 ^ j % B32))
    (fun r => ∃ f, CW B n (d.setR f d.r2) r M ∧ ∀ j, j < 13 → f j = lN ((M i).natAbs / B32 ^ j % B32))
    13 (by omega) (s := (h, (0 : Int32))) ⟨rfl, d.r1, c, fun j hj => by omega⟩ (by
    rintro t ⟨g, z⟩ ht ⟨hz, f, k1, f1⟩
    dsimp only at hz k1 ⊢
    subst hz
    unfold zb_X7_load_2
    by_cases h13 : t = 13
    · subst h13
      rw [if_pos (by decide)]
      refine ⟨_, rfl, fun s' hs => by (cases hs), fun r hr => ?_⟩
      obtain rfl := Sum.inr.inj hr
      exact ⟨f, k1, f1⟩
    · rw [if_neg (show ¬ (12 : Int32) < nI t from nI_nlt (a := 12) (by omega) (by decide))]
      simp only [k1.rd7, Option.bind_some, k1.chk8 hi70, k1.part hi70]
      rw [nI_toInt (by omega)]
      have hP : PZ (M i).natAbs (t : Int) = (M i).natAbs / B32 ^ t % B32 := by
        unfold PZ
        rw [if_neg (by omega)]
        rfl
      rw [hP]
      obtain ⟨g2, e2, k2⟩ := k1.putR1 (k := t) (by omega) (lN ((M i).natAbs / B32 ^ t % B32))
      rw [e2]
      simp only [Option.bind_some]
      refine ⟨_, rfl, fun s' hs' => ?_, fun r hr => by (cases hr)⟩
      obtain rfl := Sum.inl.inj hs'
      refine ⟨by omega, nI_1 t, _, k2, fun j hj => ?_⟩
      show vp_updL f t _ j = _
      by_cases hjt : j = t
      · subst hjt; rw [pk_uLs]
      · rw [pk_uLn hjt]; exact f1 j (by omega))
  rw [hr]
  simp only [Option.bind_some, c1.below hi70]
  have hu : ∀ j, j < 13 → uN (f j) = (M i).natAbs / B32 ^ j % B32 := fun j hj => by
    have hm : (M i).natAbs / B32 ^ j % B32 < B32 := Nat.mod_lt _ (by decide)
    rw [hf j hj]
    generalize (M i).natAbs / B32 ^ j % B32 = m at hm ⊢
    unfold B32 at hm
    exact uN_lN (by omega)
  have hul : ∀ j, j < 13 → uN (f j) < B32 := fun j hj => by rw [hu j hj]; exact Nat.mod_lt _ (by decide)
  by_cases hn : M i < 0
  · rw [if_pos hn, if_neg (by decide)]
    simp only [c1.rd7, Option.bind_some]
    obtain ⟨g2, f2, e2, c2, b2, v2⟩ := c1.negateR1 (d := d.setR f d.r2) hul
    rw [e2]
    refine ⟨g2, f2, rfl, c2, b2, fun p q hp hq => ?_⟩
    have hv0 : vN (dgs f) 13 = (M i).natAbs := vN_of (Nat.lt_trans xa (by decide)) hu
    have v3 : vN (dgs f2) 13 = B32 ^ 13 - (M i).natAbs := by
      rw [← hv0]
      refine v2.trans ?_
      show (B32 ^ 13 - vN (dgs f) 13) % B32 ^ 13 = _
      have := B32_pos 13
      exact Nat.mod_eq_of_lt (by rw [hv0]; omega)
    have t1 := vN_tb (d := dgs f2) b2 (32 * p + q)
    rw [v3, decide_eq_true (show (32 * p + q) / 32 < 13 by omega), show (32 * p + q) / 32 = p by omega, show (32 * p + q) % 32 = q by omega] at t1
    have t2 : (B32 ^ 13 - (M i).natAbs).testBit (32 * p + q) = !(((M i).natAbs - 1).testBit (32 * p + q)) := by
      have hlt13 : (M i).natAbs < B32 ^ 13 := Nat.lt_trans xa (by decide)
      rw [B32_two] at hlt13 ⊢
      exact neg_tb (by omega) (by omega) (by omega)
    rw [t2] at t1
    unfold bI
    rw [if_pos hn]
    exact t1.symm
  · rw [if_neg hn, if_pos rfl]
    refine ⟨r, f, rfl, c1, hul, fun p q hp hq => ?_⟩
    unfold bI
    rw [if_neg hn, hu p hp, pc_tb _ _ _ hq]
theorem CW.negateR2 (c : CW B n d h M) (hd : ∀ i, i < 13 → uN (d.r2 i) < B32) :
    ∃ h' f, zs_X7_negate h (n + 165) = some h' ∧ CW B n (d.setR d.r1 f) h' M ∧ (∀ i, i < 13 → uN (f i) < B32) ∧ vN (dgs f) 13 = (B32 ^ 13 - vN (dgs d.r2) 13) % B32 ^ 13 := by
  unfold zs_X7_negate
  have hVl := vN_lt (d := dgs d.r2) (k := 13) hd
  obtain ⟨r, hr, f, c', hf, hv⟩ := iter_FU (B := fun q : AH × Int64 × Int32 => zb_X7_negate_4 (n + 165) q.1 q.2.1 q.2.2)
    (fun t z => z.2.2 = nI t ∧ uN z.2.1 ≤ 1 ∧ ∃ f, CW B n (d.setR d.r1 f) z.1 M ∧ (∀ i, i < t → uN (f i) < B32) ∧ (∀ i, t ≤ i → f i = d.r2 i) ∧ vN (dgs f) t + uN z.2.1 * B32 ^ t = B32 ^ t - vN (dgs d.r2) t)
    (fun r => ∃ f, CW B n (d.setR d.r1 f) r M ∧ (∀ i, i < 13 → uN (f i) < B32) ∧ ∃ cy, cy ≤ 1 ∧ vN (dgs f) 13 + cy * B32 ^ 13 = B32 ^ 13 - vN (dgs d.r2) 13)
    13 (by omega) (s := (h, (1 : Int64), (0 : Int32))) ⟨rfl, by dsimp only; decide, d.r2, c, fun i hi => by omega, fun _ _ => rfl, by show 0 + uN (1 : Int64) * B32 ^ 0 = B32 ^ 0 - 0; decide⟩ (by
    rintro t ⟨g, cy, z⟩ ht ⟨hz, hcy, f, k1, f1, f2, v1⟩
    dsimp only at hz hcy k1 v1 ⊢
    subst hz
    unfold zb_X7_negate_4
    by_cases h13 : t = 13
    · subst h13
      rw [if_pos (by decide)]
      refine ⟨_, rfl, fun s' hs => by (cases hs), fun r hr => ?_⟩
      obtain rfl := Sum.inr.inj hr
      exact ⟨f, k1, f1, uN cy, hcy, v1⟩
    · rw [if_neg (show ¬ (12 : Int32) < nI t from nI_nlt (a := 12) (by omega) (by decide))]
      simp only [k1.rd7, Option.bind_some, k1.getR2 (show t < 13 by omega), lt_]
      have e1 : (d.setR d.r1 f).r2 t = d.r2 t := f2 t (Nat.le_refl _)
      rw [e1]
      have hx := hd t (by omega)
      have hxm := uN_xm hx
      have hs : uN ((d.r2 t ^^^ (4294967295 : Int64)) + cy) = B32 - (uN (d.r2 t) + 1) + uN cy := by
        rw [uN_addE (by rw [hxm]; unfold B32; omega), hxm]
      generalize ((d.r2 t ^^^ (4294967295 : Int64)) + cy) = y at hs
      obtain ⟨g2, e2, k2⟩ := k1.putR2 (k := t) (by omega) (y &&& (4294967295 : Int64))
      rw [e2]
      simp only [Option.bind_some]
      refine ⟨_, rfl, fun s' hs' => ?_, fun r hr => by (cases hr)⟩
      obtain rfl := Sum.inl.inj hs'
      have q1 : uN (y &&& (4294967295 : Int64)) = uN y % B32 := uN_lo y
      have q2 : uN ((y.toUInt64 >>> (((32 : Int32)).toInt64.toUInt64 &&& Int64.toUInt64 63)).toInt64) = uN y / B32 := uN_s32 y
      have hyl : uN y ≤ B32 := by rw [hs]; omega
      refine ⟨by omega, nI_1 t, ?_, _, k2, fun i hi => ?_, fun i hi => ?_, ?_⟩
      · dsimp only
        rw [q2]
        exact Nat.div_le_of_le_mul (by omega)
      · show uN (vp_updL f t _ i) < B32
        by_cases hit : i = t
        · subst hit; rw [pk_uLs, q1]; exact Nat.mod_lt _ (by decide)
        · rw [pk_uLn hit]; exact f1 i (by omega)
      · show vp_updL f t _ i = _
        rw [pk_uLn (by omega)]; exact f2 i (by omega)
      · dsimp only
        have w1 : vN (dgs (vp_updL f t (y &&& (4294967295 : Int64)))) (t + 1) = vN (dgs f) t + uN y % B32 * B32 ^ t := by
          show vN _ t + uN (vp_updL f t _ t) * B32 ^ t = _
          rw [pk_uLs, q1]
          congr 1
          exact vN_congr (fun i hi => by show uN (vp_updL f t _ i) = uN (f i); rw [pk_uLn (by omega)])
        show vN (dgs (vp_updL f t (y &&& (4294967295 : Int64)))) (t + 1) + _ = B32 ^ (t + 1) - (vN (dgs d.r2) t + uN (d.r2 t) * B32 ^ t)
        rw [w1, q2, B32_s]
        have hst := ng_step hx hcy
        rw [← hs] at hst
        have hVt := vN_lt (d := dgs d.r2) (k := t) (fun i hi => hd i (by omega))
        generalize B32 ^ t = P at *
        generalize vN (dgs f) t = X at *
        generalize vN (dgs d.r2) t = Y at *
        generalize uN (d.r2 t) = x at *
        have m1 : (uN y % B32 + uN y / B32 * B32) * P = (B32 - (x + 1) + uN cy) * P := by rw [hst, hs]
        rw [Nat.add_mul, Nat.add_mul, Nat.mul_assoc, Nat.sub_mul, Nat.add_mul] at m1
        have m2 : (x + 1) * P ≤ B32 * P := Nat.mul_le_mul_right _ hx
        rw [Nat.add_mul] at m2
        unfold B32 at m1 m2 ⊢
        omega)
  rw [hr]
  refine ⟨r, f, rfl, c', hf, ?_⟩
  obtain ⟨cy, hcy, hv⟩ := hv
  have hfl := vN_lt (d := dgs f) (k := 13) hf
  generalize vN (dgs f) 13 = X at *
  generalize vN (dgs d.r2) 13 = Y at *
  have hP : 0 < B32 ^ 13 := B32_pos 13
  generalize B32 ^ 13 = P at *
  rcases (show cy = 0 ∨ cy = 1 by omega) with rfl | rfl
  · rw [Nat.zero_mul, Nat.add_zero] at hv
    rw [← hv, Nat.mod_eq_of_lt hfl]
  · rw [Nat.one_mul] at hv
    rw [show P - Y = P by omega, Nat.mod_self]
    omega
theorem CW.loadR2 (c : CW B n d h M) (hi : i < 24) (xa : (M i).natAbs < B32 ^ 12) :
    ∃ h' f, zs_X7_load h (n + 165) (aw n i) = some h' ∧ CW B n (d.setR d.r1 f) h' M ∧ RB f (bI (M i)) := by
  unfold zs_X7_load
  have hi70 : i < 70 := by omega
  obtain ⟨r, hr, f, c1, hf⟩ := iter_FU (B := fun q : AH × Int32 => zb_X7_load_2 (n + 165) (aw n i) q.1 q.2)
    (fun t z => z.2 = nI t ∧ ∃ f, CW B n (d.setR d.r1 f) z.1 M ∧ ∀ j, j < t → f j = lN ((M i).natAbs / B32 ^ j % B32))
    (fun r => ∃ f, CW B n (d.setR d.r1 f) r M ∧ ∀ j, j < 13 → f j = lN ((M i).natAbs / B32 ^ j % B32))
    13 (by omega) (s := (h, (0 : Int32))) ⟨rfl, d.r2, c, fun j hj => by omega⟩ (by
    rintro t ⟨g, z⟩ ht ⟨hz, f, k1, f1⟩
    dsimp only at hz k1 ⊢
    subst hz
    unfold zb_X7_load_2
    by_cases h13 : t = 13
    · subst h13
      rw [if_pos (by decide)]
      refine ⟨_, rfl, fun s' hs => by (cases hs), fun r hr => ?_⟩
      obtain rfl := Sum.inr.inj hr
      exact ⟨f, k1, f1⟩
    · rw [if_neg (show ¬ (12 : Int32) < nI t from nI_nlt (a := 12) (by omega) (by decide))]
      simp only [k1.rd7, Option.bind_some, k1.chk8 hi70, k1.part hi70]
      rw [nI_toInt (by omega)]
      have hP : PZ (M i).natAbs (t : Int) = (M i).natAbs / B32 ^ t % B32 := by
        unfold PZ
        rw [if_neg (by omega)]
        rfl
      rw [hP]
      obtain ⟨g2, e2, k2⟩ := k1.putR2 (k := t) (by omega) (lN ((M i).natAbs / B32 ^ t % B32))
      rw [e2]
      simp only [Option.bind_some]
      refine ⟨_, rfl, fun s' hs' => ?_, fun r hr => by (cases hr)⟩
      obtain rfl := Sum.inl.inj hs'
      refine ⟨by omega, nI_1 t, _, k2, fun j hj => ?_⟩
      show vp_updL f t _ j = _
      by_cases hjt : j = t
      · subst hjt; rw [pk_uLs]
      · rw [pk_uLn hjt]; exact f1 j (by omega))
  rw [hr]
  simp only [Option.bind_some, c1.below hi70]
  have hu : ∀ j, j < 13 → uN (f j) = (M i).natAbs / B32 ^ j % B32 := fun j hj => by
    have hm : (M i).natAbs / B32 ^ j % B32 < B32 := Nat.mod_lt _ (by decide)
    rw [hf j hj]
    generalize (M i).natAbs / B32 ^ j % B32 = m at hm ⊢
    unfold B32 at hm
    exact uN_lN (by omega)
  have hul : ∀ j, j < 13 → uN (f j) < B32 := fun j hj => by rw [hu j hj]; exact Nat.mod_lt _ (by decide)
  by_cases hn : M i < 0
  · rw [if_pos hn, if_neg (by decide)]
    simp only [c1.rd7, Option.bind_some]
    obtain ⟨g2, f2, e2, c2, b2, v2⟩ := c1.negateR2 (d := d.setR d.r1 f) hul
    rw [e2]
    refine ⟨g2, f2, rfl, c2, b2, fun p q hp hq => ?_⟩
    have hv0 : vN (dgs f) 13 = (M i).natAbs := vN_of (Nat.lt_trans xa (by decide)) hu
    have v3 : vN (dgs f2) 13 = B32 ^ 13 - (M i).natAbs := by
      rw [← hv0]
      refine v2.trans ?_
      show (B32 ^ 13 - vN (dgs f) 13) % B32 ^ 13 = _
      have := B32_pos 13
      exact Nat.mod_eq_of_lt (by rw [hv0]; omega)
    have t1 := vN_tb (d := dgs f2) b2 (32 * p + q)
    rw [v3, decide_eq_true (show (32 * p + q) / 32 < 13 by omega), show (32 * p + q) / 32 = p by omega, show (32 * p + q) % 32 = q by omega] at t1
    have t2 : (B32 ^ 13 - (M i).natAbs).testBit (32 * p + q) = !(((M i).natAbs - 1).testBit (32 * p + q)) := by
      have hlt13 : (M i).natAbs < B32 ^ 13 := Nat.lt_trans xa (by decide)
      rw [B32_two] at hlt13 ⊢
      exact neg_tb (by omega) (by omega) (by omega)
    rw [t2] at t1
    unfold bI
    rw [if_pos hn]
    exact t1.symm
  · rw [if_neg hn, if_pos rfl]
    refine ⟨r, f, rfl, c1, hul, fun p q hp hq => ?_⟩
    unfold bI
    rw [if_neg hn, hu p hp, pc_tb _ _ _ hq]
end Two
