/-! the tape -/
def dg (b : Nat) : Nat := if 48 ≤ b ∧ b ≤ 57 then b - 48 else if 97 ≤ b ∧ b ≤ 122 then b - 87 else 99
def tpe (d : DS) (C : Nat) (b : Nat → Nat) : Prop := d.tc = nI C ∧ C ≤ 120 ∧ ∀ k, k < C → d.tb k = nI (b k) ∧ b k < 256
/-- the bytes after a feed -/
def fedB (b : Nat → Nat) (C N : Nat) (w : Int64) : Nat → Nat := fun k => if k < C then b k else uN w / 2 ^ (8 * (C + N - 1 - k)) % 256
def sgn1 (C : Nat) (b : Nat → Nat) : Nat := if 0 < C ∧ b 0 = 45 then 1 else 0
/-- the whole that the bytes from s on spell -/
def spl (b : Nat → Nat) (base s : Nat) : Nat → Nat
  | 0 => 0
  | k + 1 => spl b base s k * base + dg (b (s + k))
def wrongAt (b : Nat → Nat) (base s C p : Nat) : Prop := s ≤ p ∧ p < C ∧ ¬ dg (b p) < base ∧ ∀ i, s ≤ i → i < p → dg (b i) < base
theorem byte_of (w : Int64) {k : Nat} (hk : k < 8) : (((w.toUInt64 >>> ((((8 : Int32)) * nI k).toInt64.toUInt64 &&& Int64.toUInt64 63)).toInt64) &&& ((255 : Int64))).toInt32 = nI (uN w / 2 ^ (8 * k) % 256) := by
  have h8 : (8 : Int32) * nI k = nI (8 * k) := pk_mul 8 k
  have hw : w = lN (uN w) := (lN_uN w).symm
  have hl := uN_lt w
  generalize uN w = W at hw hl ⊢
  subst hw
  rw [h8, wb_shr hl (by omega)]
  have h255 : (255 : Int64) = lN (2 ^ 8 - 1) := by decide
  have hd : W / 2 ^ (8 * k) ≤ W := Nat.div_le_self _ _
  rw [h255, wb_mask (by omega) (by decide), lN_i]
section Tap
variable {B h : AH} {n : Nat} {d : DS} {M : Nat → Int} {C : Nat} {b : Nat → Nat}
theorem CW.takeBytes (c : CW B n d h M) (T : tpe d C b) (w : Int64) {N : Nat} (h1 : 1 ≤ N) (h8 : N ≤ 8) :
    ∃ h' d' r, zs_X5_takeBytes h (n + 111) w (nI N) = some (r, h') ∧ CW B n d' h' M ∧ d'.2 = d.2 ∧ ((C + N ≤ 120 ∧ r = 1 ∧ tpe d' (C + N) (fedB b C N w)) ∨ (120 < C + N ∧ r = 0 ∧ d' = d)) := by
  obtain ⟨t1, t2, t3⟩ := T
  unfold zs_X5_takeBytes
  simp only [c.rd5, Option.bind_some]
  rw [t1, nI_add]
  by_cases hf : C + N ≤ 120
  · rw [if_pos (show nI (C + N) ≤ (120 : Int32) from nI_le (b := 120) hf (by decide))]
    simp only [lt_]
    obtain ⟨N', rfl⟩ : ∃ N', N = N' + 1 := ⟨N - 1, by omega⟩
    rw [nI_pred]
    obtain ⟨r, hr, d', k', e', T'⟩ := iter_FU (B := fun q : AH × Int32 => zb_X5_takeBytes_18 (n + 111) w q.1 q.2)
      (fun t s => s.2 = nI (N' + 1 - t) - 1 ∧ ∃ d', CW B n d' s.1 M ∧ d'.2 = d.2 ∧ d'.tc = nI (C + t) ∧ ∀ k, k < C + t → d'.tb k = nI (fedB b C (N' + 1) w k))
      (fun r => ∃ d', CW B n d' r M ∧ d'.2 = d.2 ∧ tpe d' (C + (N' + 1)) (fedB b C (N' + 1) w))
      (N' + 1) (by omega) (s := (h, nI N')) ⟨by dsimp only; rw [Nat.sub_zero, nI_pred], d, c, rfl, t1, fun k hk => by unfold fedB; rw [if_pos (by omega)]; exact (t3 k (by omega)).1⟩ (by
      rintro t ⟨g, z⟩ ht ⟨hz, d1, k1, e1, p1, p2⟩
      dsimp only at hz k1 ⊢
      subst hz
      unfold zb_X5_takeBytes_18
      by_cases hz : N' + 1 - t = 0
      · rw [hz, if_pos (by decide)]
        refine ⟨_, rfl, fun s' hs => by (cases hs), fun r hr => ?_⟩
        obtain rfl := Sum.inr.inj hr
        have ht' : t = N' + 1 := by omega
        subst ht'
        refine ⟨d1, k1, e1, p1, hf, fun k hk => ⟨p2 k hk, ?_⟩⟩
        unfold fedB
        split
        · exact (t3 k (by omega)).2
        · exact Nat.mod_lt _ (by decide)
      · obtain ⟨j, hj⟩ : ∃ j, N' + 1 - t = j + 1 := ⟨N' + 1 - t - 1, by omega⟩
        rw [hj, nI_pred j, if_neg (nI_pos (by omega))]
        simp only [k1.rd5, Option.bind_some]
        rw [p1, byte_of w (by omega)]
        obtain ⟨g2, e2, k2⟩ := k1.putTb (k := C + t) (by omega) (nI (uN w / 2 ^ (8 * j) % 256))
        rw [e2]
        simp only [k2.rd5, Option.bind_some]
        obtain ⟨g3, e3, k3⟩ := k2.putTc (nI (C + t) + 1)
        have ec : (d1.setT d1.tc (upd d1.tb (C + t) (nI (uN w / 2 ^ (8 * j) % 256)))).tc = nI (C + t) := p1
        rw [ec, e3]
        refine ⟨_, rfl, fun s' hs' => ?_, fun r hr => by (cases hr)⟩
        obtain rfl := Sum.inl.inj hs'
        refine ⟨by omega, ?_, _, k3, e1, nI_1 _, fun k hk => ?_⟩
        · dsimp only
          rw [show N' + 1 - (t + 1) = j by omega, Int32.sub_eq_add_neg]
        · show upd d1.tb (C + t) (nI (uN w / 2 ^ (8 * j) % 256)) k = _
          by_cases hkt : k = C + t
          · subst hkt
            rw [pk_us]
            unfold fedB
            rw [if_neg (by omega), show C + (N' + 1) - 1 - (C + t) = j by omega]
          · rw [pk_un hkt]
            exact p2 k (by omega))
    rw [hr]
    exact ⟨r, d', 1, rfl, k', e', Or.inl ⟨hf, rfl, T'⟩⟩
  · rw [if_neg (show ¬ nI (C + N) ≤ (120 : Int32) from nI_ge (a := 120) (by omega) (by omega))]
    exact ⟨h, d, 0, rfl, c, rfl, Or.inr ⟨by omega, rfl, rfl⟩⟩
theorem CW.signs (c : CW B n d h M) (T : tpe d C b) : zs_X5_signs h (n + 111) = some (nI (sgn1 C b)) := by
  obtain ⟨t1, t2, t3⟩ := T
  unfold zs_X5_signs sgn1
  simp only [c.rd5, Option.bind_some]
  rw [t1]
  by_cases h0 : C = 0
  · subst h0
    rw [if_pos (by decide), if_neg (by omega)]
    rfl
  · rw [if_neg (nI_nle (by omega) (by omega)), show aI h (n + 112) 0 (0 : Int32) = some (d.tb 0) from c.getTb (k := 0) (by decide), (t3 0 (by omega)).1]
    simp only [Option.bind_some]
    have hb := (t3 0 (by omega)).2
    by_cases h45 : b 0 = 45
    · rw [if_pos (show nI (b 0) = (45 : Int32) by rw [h45]; rfl), if_pos ⟨by omega, h45⟩]
      rfl
    · rw [if_neg (show ¬ nI (b 0) = (45 : Int32) from fun z => h45 ((nI_eq (b := 45) (by omega) (by decide)).mp z)), if_neg (fun z => h45 z.2)]
      rfl
theorem CW.valueAt (c : CW B n d h M) (T : tpe d C b) {i : Nat} (hi : i < C) : zs_X5_valueAt h (n + 111) (nI i) = some (if dg (b i) = 99 then -1 else nI (dg (b i))) := by
  obtain ⟨t1, t2, t3⟩ := T
  unfold zs_X5_valueAt
  simp only [c.rd5, Option.bind_some]
  rw [c.getTb (k := i) (by omega), (t3 i hi).1]
  simp only [Option.bind_some]
  have hb := (t3 i hi).2
  generalize b i = x at hb
  have hlo : zj_X5_valueAt_24 h (nI x) = some (if 97 ≤ x ∧ x ≤ 122 then nI (x - 87) else -1) := by
    unfold zj_X5_valueAt_24
    by_cases h1 : x < 97
    · rw [if_pos (show nI x < (97 : Int32) from nI_lt (b := 97) h1 (by decide)), if_neg (by omega)]
    · rw [if_neg (show ¬ nI x < (97 : Int32) from nI_nlt (b := 97) (by omega) (by omega))]
      by_cases h2 : 122 < x
      · rw [if_pos (show (122 : Int32) < nI x from nI_lt (a := 122) h2 (by omega)), if_neg (by omega)]
      · rw [if_neg (show ¬ (122 : Int32) < nI x from nI_nlt (a := 122) (by omega) (by decide)), if_pos (by omega)]
        have e1 : nI x - (97 : Int32) = nI (x - 97) := pk_sub (b := 97) (by omega)
        have e2 : nI (x - 97) + (10 : Int32) = nI (x - 97 + 10) := nI_add (x - 97) 10
        rw [e1, e2, show x - 97 + 10 = x - 87 by omega]
  unfold dg
  by_cases h1 : x < 48
  · rw [if_pos (show nI x < (48 : Int32) from nI_lt (b := 48) h1 (by decide)), hlo, if_neg (show ¬ (97 ≤ x ∧ x ≤ 122) by omega), if_neg (show ¬ (48 ≤ x ∧ x ≤ 57) by omega), if_neg (show ¬ (97 ≤ x ∧ x ≤ 122) by omega), if_pos rfl]
  · rw [if_neg (show ¬ nI x < (48 : Int32) from nI_nlt (b := 48) (by omega) (by omega))]
    by_cases h2 : 57 < x
    · rw [if_pos (show (57 : Int32) < nI x from nI_lt (a := 57) h2 (by omega)), hlo, if_neg (show ¬ (48 ≤ x ∧ x ≤ 57) by omega)]
      by_cases h3 : 97 ≤ x ∧ x ≤ 122
      · rw [if_pos h3, if_pos h3, if_neg (by omega)]
      · rw [if_neg h3, if_neg h3, if_pos rfl]
    · rw [if_neg (show ¬ (57 : Int32) < nI x from nI_nlt (a := 57) (by omega) (by decide)), if_pos (show 48 ≤ x ∧ x ≤ 57 by omega), if_neg (by omega)]
      exact congrArg some (pk_sub (b := 48) (by omega))
theorem isDigit_ok (h : AH) {v base : Nat} (hv : v ≤ 99) (hb : base ≤ 36) : zs_X5_isDigit h (if v = 99 then -1 else nI v) (nI base) = some (if v < base then 1 else 0) := by
  unfold zs_X5_isDigit
  by_cases h9 : v = 99
  · rw [if_pos h9, if_pos (by decide), if_neg (by omega)]
  · rw [if_neg h9, if_neg (nI_pos (by omega))]
    by_cases hl : v < base
    · rw [if_neg (nI_ge hl (by omega)), if_pos hl]
    · rw [if_pos (nI_le (by omega) (by omega)), if_neg hl]
theorem dg_le (b : Nat) : dg b ≤ 99 := by
  unfold dg
  split
  · omega
  · split <;> omega
theorem sgn1_le (C : Nat) (b : Nat → Nat) : sgn1 C b ≤ 1 ∧ sgn1 C b ≤ C := by
  unfold sgn1
  split <;> omega
theorem CW.wrongPlace (c : CW B n d h M) (T : tpe d C b) {base : Nat} (hb : base ≤ 36) :
    ∃ r, zs_X5_wrongPlace h (n + 111) (nI base) = some r ∧ ((sgn1 C b = C ∧ r = nI C) ∨ (sgn1 C b ≠ C ∧ ∃ p, wrongAt b base (sgn1 C b) C p ∧ r = nI p) ∨ (sgn1 C b ≠ C ∧ r = -1 ∧ ∀ i, sgn1 C b ≤ i → i < C → dg (b i) < base)) := by
  unfold zs_X5_wrongPlace
  have hs := sgn1_le C b
  have t1 := T.1
  have t2 := T.2.1
  simp only [c.rd5, Option.bind_some, c.signs T]
  rw [t1]
  by_cases he : sgn1 C b = C
  · rw [if_pos (by rw [he])]
    exact ⟨_, rfl, Or.inl ⟨he, rfl⟩⟩
  · rw [if_neg (fun z => he ((nI_eq (by omega) (by omega)).mp z))]
    generalize hsg : sgn1 C b = s at hs he ⊢
    obtain ⟨r, hr, Z⟩ := iter_FU (B := fun q : Int32 => zb_X5_wrongPlace_20 h (n + 111) (nI base) q)
      (fun t z => z = nI (s + t) ∧ s + t ≤ C ∧ ∀ i, s ≤ i → i < s + t → dg (b i) < base)
      (fun r => (∃ p, wrongAt b base s C p ∧ r = .inl (nI p)) ∨ (r = .inr () ∧ ∀ i, s ≤ i → i < C → dg (b i) < base))
      (C - s) (by omega) (s := nI s) ⟨rfl, by omega, fun i h1 h2 => by omega⟩ (by
      rintro t z ht ⟨rfl, hc, ha⟩
      unfold zb_X5_wrongPlace_20
      simp only [c.rd5, Option.bind_some]
      rw [t1]
      by_cases hend : s + t = C
      · rw [if_pos (nI_le (by omega) (by omega))]
        refine ⟨_, rfl, fun s' hs => by (cases hs), fun r hr => ?_⟩
        obtain rfl := Sum.inr.inj hr
        exact Or.inr ⟨rfl, fun i h1 h2 => ha i h1 (by omega)⟩
      · rw [if_neg (nI_ge (by omega) (by omega)), c.valueAt T (i := s + t) (by omega)]
        simp only [Option.bind_some]
        rw [isDigit_ok h (dg_le _) hb]
        simp only [Option.bind_some]
        by_cases hd : dg (b (s + t)) < base
        · rw [if_pos hd, if_neg (by decide)]
          refine ⟨_, rfl, fun s' hs' => ?_, fun r hr => by (cases hr)⟩
          obtain rfl := Sum.inl.inj hs'
          refine ⟨by omega, nI_1 _, by omega, fun i h1 h2 => ?_⟩
          by_cases hi : i = s + t
          · rw [hi]; exact hd
          · exact ha i h1 (by omega)
        · rw [if_neg hd, if_pos rfl]
          refine ⟨_, rfl, fun s' hs => by (cases hs), fun r hr => ?_⟩
          obtain rfl := Sum.inr.inj hr
          exact Or.inl ⟨s + t, ⟨by omega, by omega, hd, ha⟩, rfl⟩)
    rw [hr]
    simp only [Option.bind_some]
    rcases Z with ⟨p, hp, rfl⟩ | ⟨rfl, hp⟩
    · exact ⟨_, rfl, Or.inr (Or.inl ⟨he, p, hp, rfl⟩)⟩
    · exact ⟨_, rfl, Or.inr (Or.inr ⟨he, rfl, hp⟩)⟩
theorem spl_lt {b : Nat → Nat} {base s : Nat} (hb : base ≤ 36) : ∀ k, (∀ i, i < k → dg (b (s + i)) < base) → spl b base s k < 36 ^ k
  | 0, _ => by show 0 < 36 ^ 0; decide
  | k + 1, h => by
    have h1 := spl_lt (b := b) (base := base) (s := s) hb k (fun i hi => h i (by omega))
    have h2 := h k (by omega)
    show spl b base s k * base + dg (b (s + k)) < 36 ^ (k + 1)
    rw [Nat.pow_succ]
    have h3 : (spl b base s k + 1) * 36 ≤ 36 ^ k * 36 := Nat.mul_le_mul_right _ h1
    have h4 : spl b base s k * base ≤ spl b base s k * 36 := Nat.mul_le_mul_left _ hb
    omega
theorem CW.spellInto (c : CW B n d h M) (T : tpe d C b) {base : Nat} (h2 : 2 ≤ base) (hb : base ≤ 36) (ha : ∀ i, sgn1 C b ≤ i → i < C → dg (b i) < base) :
    ∃ h' M', zs_X5_spellInto h (n + 111) (aw n 68) (nI base) = some h' ∧ CW B n d h' M' ∧ (∀ x, x ≠ 68 → M' x = M x) ∧ M' 68 = sgv (nI (sgn1 C b)) (spl b base (sgn1 C b) (C - sgn1 C b)) := by
  have t1 := T.1
  have t2 := T.2.1
  have hs := sgn1_le C b
  unfold zs_X5_spellInto
  simp only [c.chk8 (show 68 < 70 by decide), Option.bind_some]
  obtain ⟨g1, e1, c1⟩ := c.become (k := 68) (by decide) 0
  rw [e1]
  simp only [c1.rd5, Option.bind_some, c1.signs T]
  generalize hsg : sgn1 C b = s at hs ha ⊢
  obtain ⟨r, hr, M2, c2, f2, v2⟩ := iter_FU (B := fun q : AH × Int32 => zb_X5_spellInto_10 (n + 111) (aw n 68) (nI base) q.1 q.2)
    (fun t z => z.2 = nI (s + t) ∧ s + t ≤ C ∧ ∃ M', CW B n d z.1 M' ∧ (∀ x, x ≠ 68 → M' x = M x) ∧ M' 68 = (spl b base s t : Int))
    (fun r => ∃ M', CW B n d r M' ∧ (∀ x, x ≠ 68 → M' x = M x) ∧ M' 68 = (spl b base s (C - s) : Int))
    (C - s) (by omega) (s := (g1, nI s)) ⟨rfl, by omega, _, c1, fun x hx => va_un hx, by rw [va_us]; rfl⟩ (by
    rintro t ⟨g, z⟩ ht ⟨hz, hc, M1, k1, f1, m1⟩
    dsimp only at hz k1 ⊢
    subst hz
    unfold zb_X5_spellInto_10
    simp only [k1.rd5, Option.bind_some]
    rw [t1]
    by_cases hend : s + t = C
    · rw [if_pos (nI_le (by omega) (by omega))]
      refine ⟨_, rfl, fun s' hs => by (cases hs), fun r hr => ?_⟩
      obtain rfl := Sum.inr.inj hr
      exact ⟨M1, k1, f1, by rw [m1, show t = C - s by omega]⟩
    · rw [if_neg (nI_ge (by omega) (by omega)), k1.valueAt T (i := s + t) (by omega)]
      have hd := ha (s + t) (by omega) (by omega)
      simp only [Option.bind_some, k1.chk8 (show 68 < 70 by decide)]
      rw [if_neg (by omega), nI_l (by omega), nI_l (by omega)]
      have u1 : uN (lN base) = base := uN_lN (by omega)
      have u2 : uN (lN (dg (b (s + t)))) = dg (b (s + t)) := uN_lN (by omega)
      have hlt := spl_lt (b := b) (base := base) (s := s) hb (t + 1) (fun i hi => ha (s + i) (by omega) (by omega))
      have hpw : 36 ^ (t + 1) ≤ 36 ^ 121 := Nat.pow_le_pow_right (by decide) (by omega)
      have hbig : 36 ^ 121 < B32 ^ 26 := by decide
      obtain ⟨g2, e2, k2⟩ := k1.grow (k := 68) (by decide) (by rw [m1]; omega) (lN base) (lN (dg (b (s + t)))) (by rw [u1]; omega) (by rw [u1]; unfold B32; omega) (by rw [u2]; unfold B32; omega) (by
        rw [u1, u2, m1, Int.natAbs_natCast]
        exact Nat.lt_of_lt_of_le hlt (Nat.le_trans hpw (Nat.le_of_lt hbig)))
      rw [u1, u2, m1, Int.natAbs_natCast] at k2
      rw [e2]
      simp only [Option.bind_some]
      refine ⟨_, rfl, fun s' hs' => ?_, fun r hr => by (cases hr)⟩
      obtain rfl := Sum.inl.inj hs'
      exact ⟨by omega, nI_1 _, by omega, _, k2, fun x hx => by rw [va_un hx]; exact f1 x hx, by rw [va_us]; rfl⟩)
  rw [hr]
  have h8 : CW.signs c2 T = CW.signs c2 T := rfl
  simp only [c2.rd5, Option.bind_some, c2.signs T]
  rw [hsg]
  have hj : ∀ u : Int32, ∃ h' M', zj_X5_spellInto_50 r u (aw n 68) = some h' ∧ CW B n d h' M' ∧ (∀ x, x ≠ 68 → M' x = M x) ∧ M' 68 = sgv u (spl b base s (C - s)) := by
    intro u
    unfold zj_X5_spellInto_50
    simp only [c2.chk8 (show 68 < 70 by decide), Option.bind_some]
    obtain ⟨g3, e3, c3⟩ := c2.takeSign (k := 68) (by decide) u
    rw [e3]
    exact ⟨g3, _, rfl, c3, fun x hx => by rw [va_un hx]; exact f2 x hx, by rw [va_us, v2, Int.natAbs_natCast]⟩
  by_cases h1 : s = 1
  · rw [if_pos (show nI s = (1 : Int32) by rw [h1]; rfl), h1]
    rw [h1] at hj
    exact hj 1
  · have h0 : s = 0 := by omega
    rw [if_neg (show ¬ nI s = (1 : Int32) by rw [h0]; decide), h0]
    rw [h0] at hj
    exact hj 0
end Tap
