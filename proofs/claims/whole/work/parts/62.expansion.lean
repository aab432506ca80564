/-! Expansion -/
section Exn
variable {B h : AH} {n : Nat} {d : DS} {M : Nat → Int} {r : Nat}
theorem smallDivisor_ok (h : AH) {a b : Nat} (ha : a < 100) (hb : b ≤ 35) : zs_X1_smallDivisor h (lN a) (lN b) = some (lN (Nat.gcd a b)) := by
  unfold zs_X1_smallDivisor
  obtain ⟨r, hr, hv⟩ := iter_FU (B := fun q : Int64 × Int64 × Int32 => zb_X1_smallDivisor_9 h q.1 q.2.1 q.2.2)
    (fun t z => z.2.2 = nI t ∧ ∃ x y, z.1 = lN x ∧ z.2.1 = lN y ∧ x < 100 ∧ y + t ≤ 35 + (if y = 0 then t else 0) ∧ y ≤ 35 ∧ Nat.gcd x y = Nat.gcd a b)
    (fun r => r = lN (Nat.gcd a b))
    36 (by omega) (s := (lN a, lN b, (0 : Int32))) ⟨rfl, a, b, rfl, rfl, ha, by omega, hb, rfl⟩ (by
    rintro t ⟨x', y', z⟩ ht ⟨hz, x, y, hx, hy, x1, y1, y2, hg⟩
    dsimp only at hz hx hy ⊢
    subst hz hx hy
    unfold zb_X1_smallDivisor_9
    have hend : y = 0 → lN x = lN (Nat.gcd a b) := fun h0 => by rw [← hg, h0, Nat.gcd_zero_right]
    by_cases h36 : t = 36
    · have h0 : y = 0 := by
        by_cases h0 : y = 0
        · exact h0
        · rw [if_neg h0] at y1; omega
      rw [if_pos (show (36 : Int32) ≤ nI t from nI_le (a := 36) (by omega) (by omega))]
      refine ⟨_, rfl, fun s' hs => by (cases hs), fun r hr => ?_⟩
      obtain rfl := Sum.inr.inj hr
      exact hend h0
    · rw [if_neg (show ¬ (36 : Int32) ≤ nI t from nI_ge (b := 36) (by omega) (by decide))]
      by_cases h0 : y = 0
      · rw [if_pos (show lN y ≤ (0 : Int64) from (lN_le (b := 0) (by omega) (by decide)).mpr (by omega))]
        refine ⟨_, rfl, fun s' hs => by (cases hs), fun r hr => ?_⟩
        obtain rfl := Sum.inr.inj hr
        exact hend h0
      · rw [if_neg (show ¬ lN y ≤ (0 : Int64) from fun z => by have := (lN_le (b := 0) (by omega) (by decide)).mp z; omega)]
        have hnz : nzl (lN y) = some () := by
          unfold nzl
          rw [if_neg (show ¬ lN y = (0 : Int64) from fun z => by have := (lN_eq (b := 0) (by omega) (by decide)).mp z; omega)]
        rw [hnz]
        simp only [Option.bind_some, lt_]
        rw [pk_lRem (by omega) (by omega) (by omega)]
        refine ⟨_, rfl, fun s' hs' => ?_, fun r hr => by (cases hr)⟩
        obtain rfl := Sum.inl.inj hs'
        have hml := Nat.mod_lt x (show 0 < y by omega)
        refine ⟨by omega, nI_1 t, y, x % y, rfl, rfl, by omega, ?_, by omega, ?_⟩
        · rw [if_neg h0] at y1
          by_cases hq : x % y = 0
          · rw [if_pos hq]; omega
          · rw [if_neg hq]; omega
        · rw [← hg, Nat.gcd_comm y, ← Nat.gcd_rec y x, Nat.gcd_comm])
  rw [hr]
  simp only [Option.bind_some]
  rw [hv]
theorem gcd_modr (q x : Nat) : Nat.gcd q (x % q) = Nat.gcd q x := by rw [Nat.gcd_comm, ← Nat.gcd_rec]
theorem CW.countAhead (c : CW B n d h M) (hr : r < 12) (b0 : 0 < M (36 + r)) {q : Nat} (h2 : 2 ≤ q) (hq : q ≤ 36) :
    ∃ h' M' A, zs_X1_countAhead h (n + 154) (aw n (36 + r)) (nI q) = some (nI A, h') ∧ CW B n d h' M' ∧ (∀ x, x ≠ 67 → M' x = M x) ∧ A ≤ 201 ∧ (∀ i, i < A → 1 < Nat.gcd q (udS (M (36 + r)).natAbs q i)) ∧ (A ≤ 200 → Nat.gcd q (udS (M (36 + r)).natAbs q A) = 1) := by
  unfold zs_X1_countAhead
  simp only [c.rd1, Option.bind_some, c.chk8 (show 67 < 70 by decide)]
  obtain ⟨g1, e1, c1⟩ := c.copy (k := 67) (i := 36 + r) (by decide) (by omega)
  rw [e1]
  have u1 : uN (lN q) = q := uN_lN (by omega)
  have hlb : ∀ {h1 : AH} {M1 : Nat → Int} (k : CW B n d h1 M1) (u : Nat), M1 67 = (u : Int) → zs_X8_leftBy h1 (aw n 67) (lN q) = some (lN (u % q)) := by
    intro h1 M1 k u hu
    have := k.leftBy (i := 67) (by decide) (lN q) (by rw [u1]; omega) (by rw [u1]; unfold B32; omega)
    rw [u1, hu, Int.natAbs_natCast] at this
    exact this
  obtain ⟨b, hb⟩ := Int.eq_ofNat_of_zero_le (show 0 ≤ M (36 + r) by omega)
  rw [hb, Int.natAbs_natCast]
  rw [hb] at c1
  have hb0 : 0 < b := by omega
  simp only [c1.rd1, Option.bind_some, c1.chk8 (show 67 < 70 by decide)]
  rw [nI_l (by omega), hlb c1 b (va_us _ _ _)]
  simp only [Option.bind_some]
  rw [smallDivisor_ok g1 (by omega) (by have := Nat.mod_lt b (show 0 < q by omega); omega), gcd_modr]
  simp only [Option.bind_some]
  have hgl : ∀ u, Nat.gcd q u ≤ 36 := fun u => Nat.le_trans (Nat.le_of_dvd (by omega) (Nat.gcd_dvd_left q u)) hq
  have hgp : ∀ u, 0 < Nat.gcd q u := fun u => Nat.gcd_pos_of_pos_left _ (by omega)
  obtain ⟨z, hz, M2, A, c2, f2, hA, a1, a2, a3⟩ := iter_FU (B := fun w : AH × Int32 × Int64 => zb_X1_countAhead_26 (n + 154) (nI q) w.1 w.2.1 w.2.2)
    (fun t z => z.2.1 = nI t ∧ z.2.2 = lN (Nat.gcd q (udS b q t)) ∧ (∃ M', CW B n d z.1 M' ∧ (∀ x, x ≠ 67 → M' x = M x) ∧ M' 67 = (udS b q t : Int)) ∧ ∀ i, i < t → 1 < Nat.gcd q (udS b q i))
    (fun z => ∃ M' A, CW B n d z.1 M' ∧ (∀ x, x ≠ 67 → M' x = M x) ∧ z.2 = nI A ∧ A ≤ 201 ∧ (∀ i, i < A → 1 < Nat.gcd q (udS b q i)) ∧ (A ≤ 200 → Nat.gcd q (udS b q A) = 1))
    201 (by omega) (s := (g1, (0 : Int32), lN (Nat.gcd q b))) ⟨rfl, rfl, ⟨_, c1, fun x hx => va_un hx, va_us _ _ _⟩, fun i hi => by omega⟩ (by
    rintro t ⟨g, w, cm⟩ ht ⟨hw, hcm, ⟨M1, k1, f1, m1⟩, ha⟩
    dsimp only at hw hcm k1 ⊢
    subst hw hcm
    unfold zb_X1_countAhead_26
    have hp := hgp (udS b q t)
    have hl := hgl (udS b q t)
    by_cases hg1 : Nat.gcd q (udS b q t) = 1
    · rw [if_pos (show lN (Nat.gcd q (udS b q t)) ≤ (1 : Int64) by rw [hg1]; decide)]
      refine ⟨_, rfl, fun s' hs => by (cases hs), fun r hr => ?_⟩
      obtain rfl := Sum.inr.inj hr
      exact ⟨M1, t, k1, f1, rfl, ht, ha, fun _ => hg1⟩
    · rw [if_neg (show ¬ lN (Nat.gcd q (udS b q t)) ≤ (1 : Int64) from fun z => by have := (lN_le (b := 1) (by omega) (by decide)).mp z; omega)]
      by_cases h201 : t = 201
      · rw [if_pos (show (200 : Int32) < nI t from nI_lt (a := 200) (by omega) (by omega))]
        refine ⟨_, rfl, fun s' hs => by (cases hs), fun r hr => ?_⟩
        obtain rfl := Sum.inr.inj hr
        exact ⟨M1, t, k1, f1, rfl, ht, ha, fun z => by omega⟩
      · rw [if_neg (show ¬ (200 : Int32) < nI t from nI_nlt (a := 200) (by omega) (by decide))]
        simp only [k1.rd1, Option.bind_some, k1.chk8 (show 67 < 70 by decide)]
        have u2 : uN (lN (Nat.gcd q (udS b q t))) = Nat.gcd q (udS b q t) := uN_lN (by omega)
        obtain ⟨g2, e2, k2⟩ := k1.shrink (k := 67) (by decide) (lN (Nat.gcd q (udS b q t))) (by rw [u2]; omega) (by rw [u2]; unfold B32; omega)
        rw [u2, m1, Int.natAbs_natCast, if_neg (show ¬ ((udS b q t : Nat) : Int) < 0 by omega)] at k2
        rw [e2]
        simp only [k2.rd1, Option.bind_some, k2.chk8 (show 67 < 70 by decide)]
        rw [nI_l (by omega), hlb k2 (udS b q (t + 1)) (va_us _ _ _)]
        simp only [Option.bind_some]
        rw [smallDivisor_ok g2 (by omega) (by have := Nat.mod_lt (udS b q (t + 1)) (show 0 < q by omega); omega), gcd_modr]
        simp only [Option.bind_some]
        refine ⟨_, rfl, fun s' hs' => ?_, fun r hr => by (cases hr)⟩
        obtain rfl := Sum.inl.inj hs'
        refine ⟨by omega, nI_1 t, rfl, ⟨_, k2, fun x hx => by rw [va_un hx]; exact f1 x hx, va_us _ _ _⟩, fun i hi => ?_⟩
        by_cases hit : i = t
        · subst hit; omega
        · exact ha i (by omega))
  rw [hz]
  refine ⟨z.1, M2, A, ?_, c2, f2, a1, a2, a3⟩
  rw [← hA]
  rfl
theorem rm_s (t b q i : Nat) : rmS t b q (i + 1) = rmS t b q i * q % b := by
  unfold rmS
  rw [Nat.pow_succ, ← Nat.mul_assoc, Nat.mul_mod (t * q ^ i) q, Nat.mul_mod (t * q ^ i % b) q, Nat.mod_mod]
/-- the digit at i -/
def dgS (t b q i : Nat) : Nat := rmS t b q i * q / b
theorem dgS_lt {t b q i : Nat} (hb : 0 < b) (hq : 0 < q) : dgS t b q i < q := by
  unfold dgS
  have h1 : rmS t b q i < b := Nat.mod_lt _ hb
  exact Nat.div_lt_of_lt_mul (by rw [Nat.mul_comm b q, Nat.mul_comm _ q]; exact Nat.mul_lt_mul_of_pos_left h1 hq)
theorem CW.nextDigit (c : CW B n d h M) (hr : r < 12) {t b q i : Nat} (hb : M (36 + r) = (b : Int)) (b0 : 0 < b) (bl : b < B32 ^ 12) (h2 : 2 ≤ q) (hq : q ≤ 36) (hl : M 65 = (rmS t b q i : Int)) :
    ∃ h' M', zs_X1_nextDigit h (n + 154) (aw n (36 + r)) (nI q) = some (nI (dgS t b q i), h') ∧ CW B n d h' M' ∧ (∀ x, x ≠ 49 → x ≠ 50 → x ≠ 65 → M' x = M x) ∧ M' 65 = (rmS t b q (i + 1) : Int) := by
  unfold zs_X1_nextDigit
  simp only [c.rd1, Option.bind_some, c.chk8 (show 65 < 70 by decide)]
  rw [nI_l (by omega)]
  have u1 : uN (lN q) = q := uN_lN (by omega)
  have u0 : uN (0 : Int64) = 0 := uN_0
  have hrl : rmS t b q i < b := Nat.mod_lt _ b0
  have hroom : rmS t b q i * q + 0 < B32 ^ 26 := by
    have h5 : rmS t b q i * q ≤ b * 36 := Nat.mul_le_mul (by omega) hq
    have h6 : b * 36 ≤ B32 ^ 12 * 36 := Nat.mul_le_mul_right _ (by omega)
    have h7 : B32 ^ 12 * 36 < B32 ^ 26 := by decide
    omega
  obtain ⟨g1, e1, c1⟩ := c.grow (k := 65) (by decide) (by rw [hl]; omega) (lN q) 0 (by rw [u1]; omega) (by rw [u1]; unfold B32; omega) (by rw [u0]; decide) (by rw [u1, u0, hl, Int.natAbs_natCast]; exact hroom)
  rw [u1, u0, hl, Int.natAbs_natCast, Nat.add_zero] at c1
  rw [e1]
  simp only [c1.rd1, c1.rd0, Option.bind_some]
  obtain ⟨g2, e2, c2⟩ := c1.divideSizes (i := 65) (j := 36 + r) (by decide) (by omega) (by decide) (by decide) (by omega) (by omega) (by rw [va_un (by omega), hb]; omega)
  rw [va_us, va_un (show 36 + r ≠ 65 by omega), hb, Int.natAbs_natCast, Int.natAbs_natCast, ← rm_s] at c2
  rw [e2]
  simp only [c2.rd1, c2.rd0, Option.bind_some, c2.chk8 (show 65 < 70 by decide)]
  obtain ⟨g3, e3, c3⟩ := c2.copy (k := 65) (i := 50) (by decide) (by decide)
  rw [va_us] at c3
  rw [e3]
  simp only [c3.rd1, c3.rd0, Option.bind_some, c3.chk8 (show 49 < 70 by decide), c3.part (show 49 < 70 by decide)]
  rw [va_un (show 49 ≠ 65 by decide), va_un (show 49 ≠ 50 by decide), va_us, Int.natAbs_natCast, lN_i]
  have hd := dgS_lt (t := t) (i := i) b0 (show 0 < q by omega)
  have hp : PZ (rmS t b q i * q / b) (Int32.toInt 0) = dgS t b q i := by
    show (if (0 : Int) < 0 then 0 else rmS t b q i * q / b / B32 ^ 0 % B32) = dgS t b q i
    rw [if_neg (by decide), Nat.pow_zero, Nat.div_one]
    exact Nat.mod_eq_of_lt (by unfold B32; exact Nat.lt_trans hd (by omega))
  rw [hp]
  refine ⟨g3, _, rfl, c3, fun x h1 h2 h3 => by rw [va_un h3, va_un h2, va_un h1, va_un h3], va_us _ _ _⟩
theorem CW.reckonT (c : CW B n d h M) (hr : r < 12) {t b q A : Nat} (hb : M (36 + r) = (b : Int)) (b0 : 0 < b) (bl : b < B32 ^ 12) (ht : Nat.Coprime t b) (h2 : 2 ≤ q) (hq : q ≤ 36) (hA : A ≤ 200) (he : ∀ i, i < A → 1 < Nat.gcd q (udS b q i)) (hg : Nat.gcd q (udS b q A) = 1)
    (h65 : M 65 = (rmS t b q A : Int)) (h66 : M 66 = (rmS t b q A : Int)) (hf : ∀ j, j < A → d.fr j = nI (dgS t b q j)) {u : Int32} (hu : u = if rmS t b q A = 0 then 0 else 1) :
    ∃ h' d' M' z, zj_X1_reckon_108 h (n + 154) (n + (51 + 5 * r)) (nI q) (nI A) (nI A) u = some (z, h') ∧ CW B n d' h' M' ∧ (∀ x, x < 48 → M' x = M x) ∧ d'.1 = d.1 ∧ d'.2.1 = d.2.1 ∧ d'.2.2.1 = d.2.2.1 ∧
      ((z = 1 ∧ ∃ m, isExp (rmS t b q) A m ∧ A + m ≤ 200 ∧ d'.hd = nI A ∧ d'.rd = nI m ∧ ∀ j, j < A + m → d'.ke j = nI (dgS t b q j)) ∨ (z = 0 ∧ noExp (rmS t b q) ∧ d'.hd = d.hd ∧ d'.rd = d.rd ∧ d'.ke = d.ke)) := by
  unfold zj_X1_reckon_108
  have hq0 : 0 < q := by omega
  obtain ⟨w, hw, d2, M2, m, c2, f2, p1, p2, p3, x1, x2, x3, hm, hkn, hnz0, hfr, hop⟩ := iter_FU (B := fun q_1 : AH × Int32 × Int32 => zb_X1_reckon_110 (n + 154) (n + (51 + 5 * r)) (nI q) (nI A) q_1.1 q_1.2.1 q_1.2.2)
    (fun k s => A + k ≤ 200 ∧ s.2.1 = nI (A + k) ∧ ∃ d' M', CW B n d' s.1 M' ∧ (∀ x, x < 48 → M' x = M x) ∧ d'.1 = d.1 ∧ d'.2.1 = d.2.1 ∧ d'.2.2.1 = d.2.2.1 ∧ d'.hd = d.hd ∧ d'.rd = d.rd ∧ d'.ke = d.ke ∧ M' 65 = (rmS t b q (A + k) : Int) ∧ M' 66 = (rmS t b q A : Int) ∧ (∀ j, j < A + k → d'.fr j = nI (dgS t b q j)) ∧ (∀ i, 0 < i → i < k → rmS t b q (A + i) ≠ rmS t b q A) ∧ (0 < k → rmS t b q A ≠ 0) ∧ s.2.2 = (if (if k = 0 then rmS t b q A = 0 else rmS t b q (A + k) = rmS t b q A) then 0 else 1))
    (fun s => ∃ d' M' m, CW B n d' s.1 M' ∧ (∀ x, x < 48 → M' x = M x) ∧ d'.1 = d.1 ∧ d'.2.1 = d.2.1 ∧ d'.2.2.1 = d.2.2.1 ∧ d'.hd = d.hd ∧ d'.rd = d.rd ∧ d'.ke = d.ke ∧ (A + m ≤ 200 ∧ s.2.1 = nI (A + m)) ∧ (∀ i, 0 < i → i < m → rmS t b q (A + i) ≠ rmS t b q A) ∧ (0 < m → rmS t b q A ≠ 0) ∧ (∀ j, j < A + m → d'.fr j = nI (dgS t b q j)) ∧ ((s.2.2 = 0 ∧ (if m = 0 then rmS t b q A = 0 else rmS t b q (A + m) = rmS t b q A)) ∨ (s.2.2 = 1 ∧ A + m = 200 ∧ ¬ (if m = 0 then rmS t b q A = 0 else rmS t b q (A + m) = rmS t b q A))))
    200 (by omega) (s := (h, nI A, u)) ⟨hA, rfl, d, M, c, fun _ _ => rfl, rfl, rfl, rfl, rfl, rfl, rfl, h65, h66, hf, fun i h1 h2 => by omega, fun z => by omega, by
      dsimp only
      rw [hu]
      by_cases hz : rmS t b q A = 0
      · rw [if_pos hz, if_pos (by rw [if_pos rfl]; exact hz)]
      · rw [if_neg hz, if_neg (by rw [if_pos rfl]; exact hz)]⟩ (by
    rintro k ⟨g, w4, w5⟩ hk ⟨hk2, hw4, d1, M1, k1, f1, p1, p2, p3, x1, x2, x3, m65, m66, hfr, hkn, hz0, hw5⟩
    dsimp only at hw4 hw5 k1 ⊢
    subst hw4 hw5
    unfold zb_X1_reckon_110
    by_cases hcl : (if k = 0 then rmS t b q A = 0 else rmS t b q (A + k) = rmS t b q A)
    · rw [if_pos hcl, if_pos rfl]
      refine ⟨_, rfl, fun s' hs => by (cases hs), fun s hs => ?_⟩
      obtain rfl := Sum.inr.inj hs
      exact ⟨d1, M1, k, k1, f1, p1, p2, p3, x1, x2, x3, ⟨hk2, rfl⟩, hkn, hz0, hfr, Or.inl ⟨rfl, hcl⟩⟩
    · rw [if_neg hcl, if_neg (by decide : ¬ (1 : Int32) = 0)]
      by_cases h200 : A + k = 200
      · rw [if_pos (show (200 : Int32) ≤ nI (A + k) from nI_le (a := 200) (by omega) (by omega))]
        refine ⟨_, rfl, fun s' hs => by (cases hs), fun s hs => ?_⟩
        obtain rfl := Sum.inr.inj hs
        exact ⟨d1, M1, k, k1, f1, p1, p2, p3, x1, x2, x3, ⟨hk2, rfl⟩, hkn, hz0, hfr, Or.inr ⟨rfl, h200, hcl⟩⟩
      · rw [if_neg (show ¬ (200 : Int32) ≤ nI (A + k) from nI_ge (b := 200) (by omega) (by decide))]
        simp only [k1.rd1, k1.rd4 hr, Option.bind_some]
        obtain ⟨g2, M2, e2, k2, f2, v2⟩ := k1.nextDigit hr (t := t) (i := A + k) ((f1 (36 + r) (by omega)).trans hb) b0 bl h2 hq m65
        rw [e2]
        simp only [Option.bind_some]
        obtain ⟨g3, e3, k3⟩ := k2.putF (k := A + k) (by omega) (nI (dgS t b q (A + k)))
        rw [e3]
        simp only [k3.rd1, Option.bind_some, k3.orderSizes (show 65 < 70 by decide) (show 66 < 70 by decide)]
        rw [v2, f2 66 (by decide) (by decide) (by decide), m66, Int.natAbs_natCast, Int.natAbs_natCast]
        have hfr' : ∀ j, j < A + (k + 1) → upd d1.fr (A + k) (nI (dgS t b q (A + k))) j = nI (dgS t b q j) := by
          intro j hj
          by_cases hjk : j = A + k
          · subst hjk; exact pk_us
          · rw [pk_un hjk]; exact hfr j (by omega)
        have hkn' : ∀ i, 0 < i → i < k + 1 → rmS t b q (A + i) ≠ rmS t b q A := by
          intro i h1 h2
          by_cases hik : i = k
          · subst hik
            rw [if_neg (by omega)] at hcl
            exact hcl
          · exact hkn i h1 (by omega)
        have hz1 : 0 < k + 1 → rmS t b q A ≠ 0 := by
          intro _
          by_cases hk0 : k = 0
          · rw [if_pos hk0] at hcl
            exact hcl
          · exact hz0 (by omega)
        have fin : ∀ v : Int32, v = (if (if k + 1 = 0 then rmS t b q A = 0 else rmS t b q (A + (k + 1)) = rmS t b q A) then 0 else 1) →
            (k < 200 ∧ A + (k + 1) ≤ 200 ∧ nI (A + k) + (1 : Int32) = nI (A + (k + 1)) ∧ ∃ d' M', CW B n d' g3 M' ∧ (∀ x, x < 48 → M' x = M x) ∧ d'.1 = d.1 ∧ d'.2.1 = d.2.1 ∧ d'.2.2.1 = d.2.2.1 ∧ d'.hd = d.hd ∧ d'.rd = d.rd ∧ d'.ke = d.ke ∧ M' 65 = (rmS t b q (A + (k + 1)) : Int) ∧ M' 66 = (rmS t b q A : Int) ∧ (∀ j, j < A + (k + 1) → d'.fr j = nI (dgS t b q j)) ∧ (∀ i, 0 < i → i < k + 1 → rmS t b q (A + i) ≠ rmS t b q A) ∧ (0 < k + 1 → rmS t b q A ≠ 0) ∧ v = (if (if k + 1 = 0 then rmS t b q A = 0 else rmS t b q (A + (k + 1)) = rmS t b q A) then 0 else 1)) := by
          intro v hv
          exact ⟨by omega, by omega, nI_1 _, _, M2, k3, fun x hx => by rw [f2 x (by omega) (by omega) (by omega)]; exact f1 x hx, p1, p2, p3, x1, x2, x3, v2, by rw [f2 66 (by decide) (by decide) (by decide)]; exact m66, hfr', hkn', hz1, hv⟩
        have hif : (if k + 1 = 0 then rmS t b q A = 0 else rmS t b q (A + (k + 1)) = rmS t b q A) = (rmS t b q (A + k + 1) = rmS t b q A) := by rw [if_neg (by omega)]; rfl
        rcases Nat.lt_trichotomy (rmS t b q (A + k + 1)) (rmS t b q A) with hlt | heq | hgt
        · rw [cmpI_lt hlt, if_neg (by decide)]
          refine ⟨_, rfl, fun s' hs' => ?_, fun s hs => by (cases hs)⟩
          obtain rfl := Sum.inl.inj hs'
          exact fin 1 (by simp only [hif]; rw [if_neg (by omega)])
        · rw [cmpI_eq heq, if_pos rfl]
          refine ⟨_, rfl, fun s' hs' => ?_, fun s hs => by (cases hs)⟩
          obtain rfl := Sum.inl.inj hs'
          exact fin 0 (by simp only [hif]; rw [if_pos heq])
        · rw [cmpI_gt hgt, if_neg (by decide)]
          refine ⟨_, rfl, fun s' hs' => ?_, fun s hs => by (cases hs)⟩
          obtain rfl := Sum.inl.inj hs'
          exact fin 1 (by simp only [hif]; rw [if_neg (by omega)]))
  rw [hw]
  simp only [Option.bind_some]
  rcases hop with ⟨o1, o2⟩ | ⟨o1, o2, o3⟩
  · rw [o1, if_pos rfl]
    simp only [c2.rd1, Option.bind_some]
    rw [hm.2, pk_sub (by omega), show A + m - A = m by omega]
    obtain ⟨g3, e3, c3⟩ := c2.keepFresh (nI A) (nI m)
    rw [e3]
    refine ⟨g3, _, M2, 1, rfl, c3, f2, p1, p2, p3, Or.inl ⟨rfl, m, ?_, hm.1, rfl, rfl, hfr⟩⟩
    by_cases hm0 : m = 0
    · subst hm0
      rw [if_pos rfl] at o2
      exact exp_ends b0 hq0 ht he o2
    · rw [if_neg hm0] at o2
      have hnz : rmS t b q A ≠ 0 := hnz0 (by omega)
      exact exp_round b0 hq0 ht he hg hnz (by omega) o2 hkn
  · rw [o1, if_neg (by decide)]
    refine ⟨w.1, d2, M2, 0, rfl, c2, f2, p1, p2, p3, Or.inr ⟨rfl, ?_, x1, x2, x3⟩⟩
    have hnz : rmS t b q A ≠ 0 := by
      by_cases hm0 : m = 0
      · rw [if_pos hm0] at o3
        exact o3
      · exact hnz0 (by omega)
    refine exp_long b0 hq0 ht he hg hnz (fun k h1 h3 => ?_)
    by_cases hkm : k = m
    · rw [if_neg (by omega)] at o3
      rw [hkm]
      exact o3
    · exact hkn k h1 (by omega)
theorem CW.reckon (c : CW B n d h M) (hr : r < 12) (ok : ratOk M r) {q : Nat} (h2 : 2 ≤ q) (hq : q ≤ 36) :
    ∃ h' d' M' z, zs_X1_reckon h (n + 154) (n + (51 + 5 * r)) (nI q) = some (z, h') ∧ CW B n d' h' M' ∧ (∀ x, x < 48 → M' x = M x) ∧ d'.1 = d.1 ∧ d'.2.1 = d.2.1 ∧ d'.2.2.1 = d.2.2.1 ∧
      ((z = 1 ∧ ∃ A m, isExp (rmS (M (24 + r)).natAbs (M (36 + r)).natAbs q) A m ∧ A + m ≤ 200 ∧ d'.hd = nI A ∧ d'.rd = nI m ∧ ∀ j, j < A + m → d'.ke j = nI (dgS (M (24 + r)).natAbs (M (36 + r)).natAbs q j)) ∨ (z = 0 ∧ noExp (rmS (M (24 + r)).natAbs (M (36 + r)).natAbs q) ∧ d'.hd = d.hd ∧ d'.rd = d.rd ∧ d'.ke = d.ke)) := by
  obtain ⟨k0, k1, k2, k3⟩ := ok
  unfold zs_X1_reckon
  simp only [c.rd1, c.rd4 hr, Option.bind_some]
  obtain ⟨g1, M1, A, e1, c1, f1, a1, a2, a3⟩ := c.countAhead hr k0 h2 hq
  rw [e1]
  simp only [Option.bind_some]
  obtain ⟨b, hb⟩ := Int.eq_ofNat_of_zero_le (show 0 ≤ M (36 + r) by omega)
  rw [hb, Int.natAbs_natCast] at a2 a3 k1 k3 ⊢
  generalize ht : (M (24 + r)).natAbs = t at k1 k2
  have b0 : 0 < b := by omega
  have hq0 : 0 < q := by omega
  by_cases hA : A ≤ 200
  · rw [if_pos (show nI A ≤ (200 : Int32) from nI_le (b := 200) hA (by decide))]
    simp only [c1.rd1, c1.rd4 hr, c1.rd0, Option.bind_some]
    have m36 : M1 (36 + r) = (b : Int) := (f1 (36 + r) (by omega)).trans hb
    obtain ⟨g2, e2, c2⟩ := c1.divideSizes (i := 24 + r) (j := 36 + r) (by omega) (by omega) (by omega) (by omega) (by omega) (by omega) (by rw [m36]; omega)
    rw [f1 (24 + r) (by omega), m36, ht, Int.natAbs_natCast] at c2
    rw [e2]
    simp only [c2.rd1, c2.rd0, Option.bind_some, c2.chk8 (show 65 < 70 by decide)]
    obtain ⟨g3, e3, c3⟩ := c2.copy (k := 65) (i := 50) (by decide) (by decide)
    rw [va_us] at c3
    rw [e3]
    simp only [Option.bind_some]
    obtain ⟨w, hw, d4, M4, c4, f4, p1, p2, p3, x1, x2, x3, m65, hfr⟩ := iter_FU (B := fun z : AH × Int32 => zb_X1_reckon_51 (n + 154) (n + (51 + 5 * r)) (nI q) (nI A) z.1 z.2)
      (fun k s => s.2 = nI k ∧ k ≤ A ∧ ∃ d' M', CW B n d' s.1 M' ∧ (∀ x, x < 48 → M' x = M x) ∧ d'.1 = d.1 ∧ d'.2.1 = d.2.1 ∧ d'.2.2.1 = d.2.2.1 ∧ d'.hd = d.hd ∧ d'.rd = d.rd ∧ d'.ke = d.ke ∧ M' 65 = (rmS t b q k : Int) ∧ ∀ j, j < k → d'.fr j = nI (dgS t b q j))
      (fun s => ∃ d' M', CW B n d' s M' ∧ (∀ x, x < 48 → M' x = M x) ∧ d'.1 = d.1 ∧ d'.2.1 = d.2.1 ∧ d'.2.2.1 = d.2.2.1 ∧ d'.hd = d.hd ∧ d'.rd = d.rd ∧ d'.ke = d.ke ∧ M' 65 = (rmS t b q A : Int) ∧ ∀ j, j < A → d'.fr j = nI (dgS t b q j))
      A (by omega) (s := (g3, (0 : Int32))) ⟨rfl, by omega, d, _, c3, fun x hx => by rw [va_un (by omega), va_un (by omega), va_un (by omega)]; exact f1 x (by omega), rfl, rfl, rfl, rfl, rfl, rfl, by rw [va_us]; unfold rmS; rw [Nat.pow_zero, Nat.mul_one], fun j hj => by omega⟩ (by
      rintro k ⟨g, z⟩ hk ⟨hz, hkA, d1, M1, k1, f1, p1, p2, p3, x1, x2, x3, m65, hfr⟩
      dsimp only at hz k1 ⊢
      subst hz
      unfold zb_X1_reckon_51
      by_cases hend : k = A
      · rw [if_pos (nI_le (by omega) (by omega))]
        refine ⟨_, rfl, fun s' hs => by (cases hs), fun s hs => ?_⟩
        obtain rfl := Sum.inr.inj hs
        subst hend
        exact ⟨d1, M1, k1, f1, p1, p2, p3, x1, x2, x3, m65, hfr⟩
      · rw [if_neg (nI_ge (by omega) (by omega))]
        simp only [k1.rd1, k1.rd4 hr, Option.bind_some]
        obtain ⟨g2, M2, e2, k2, f2, v2⟩ := k1.nextDigit hr (t := t) (i := k) ((f1 (36 + r) (by omega)).trans hb) b0 k3 h2 hq m65
        rw [e2]
        simp only [Option.bind_some]
        obtain ⟨g3, e3, k3'⟩ := k2.putF (k := k) (by omega) (nI (dgS t b q k))
        rw [e3]
        refine ⟨_, rfl, fun s' hs' => ?_, fun s hs => by (cases hs)⟩
        obtain rfl := Sum.inl.inj hs'
        refine ⟨by omega, nI_1 k, by omega, _, M2, k3', fun x hx => by rw [f2 x (by omega) (by omega) (by omega)]; exact f1 x hx, p1, p2, p3, x1, x2, x3, v2, fun j hj => ?_⟩
        show upd d1.fr k (nI (dgS t b q k)) j = _
        by_cases hjk : j = k
        · subst hjk; exact pk_us
        · rw [pk_un hjk]; exact hfr j (by omega))
    rw [hw]
    simp only [c4.rd1, Option.bind_some, c4.chk8 (show 66 < 70 by decide)]
    obtain ⟨g5, e5, c5⟩ := c4.copy (k := 66) (i := 65) (by decide) (by decide)
    rw [m65] at c5
    rw [e5]
    simp only [c5.rd1, Option.bind_some, c5.chk8 (show 65 < 70 by decide), c5.isZero (show 65 < 70 by decide)]
    rw [va_un (show 65 ≠ 66 by decide), m65]
    have key : ∀ u : Int32, (u = if rmS t b q A = 0 then 0 else 1) → _ := fun u hu => c5.reckonT hr (t := t) (A := A) (by rw [va_un (by omega)]; exact (f4 (36 + r) (by omega)).trans hb) b0 k3 k1 h2 hq hA a2 (a3 hA) (by rw [va_un (by decide)]; exact m65) (va_us _ _ _) hfr hu
    have fin : ∀ u : Int32, (u = if rmS t b q A = 0 then 0 else 1) → ∃ h' d' M' z, zj_X1_reckon_108 g5 (n + 154) (n + (51 + 5 * r)) (nI q) (nI A) (nI A) u = some (z, h') ∧ CW B n d' h' M' ∧ (∀ x, x < 48 → M' x = M x) ∧ d'.1 = d.1 ∧ d'.2.1 = d.2.1 ∧ d'.2.2.1 = d.2.2.1 ∧
      ((z = 1 ∧ ∃ A m, isExp (rmS t b q) A m ∧ A + m ≤ 200 ∧ d'.hd = nI A ∧ d'.rd = nI m ∧ ∀ j, j < A + m → d'.ke j = nI (dgS t b q j)) ∨ (z = 0 ∧ noExp (rmS t b q) ∧ d'.hd = d.hd ∧ d'.rd = d.rd ∧ d'.ke = d.ke)) := by
      intro u hu
      obtain ⟨h6, d6, M6, z, e6, c6, f6, q1, q2, q3, hZ⟩ := key u hu
      refine ⟨h6, d6, M6, z, e6, c6, fun x hx => by rw [f6 x hx, va_un (by omega)]; exact f4 x hx, q1.trans p1, q2.trans p2, q3.trans p3, ?_⟩
      rcases hZ with ⟨z1, m, z2, z3, z4, z5, z6⟩ | ⟨z1, z2, z3, z4, z5⟩
      · exact Or.inl ⟨z1, A, m, z2, z3, z4, z5, z6⟩
      · exact Or.inr ⟨z1, z2, z3.trans x1, z4.trans x2, z5.trans x3⟩
    by_cases hz : rmS t b q A = 0
    · rw [if_pos (show ((rmS t b q A : Nat) : Int) = 0 by omega), if_neg (by decide)]
      exact fin 0 (by rw [if_pos hz])
    · rw [if_neg (show ¬ ((rmS t b q A : Nat) : Int) = 0 by omega), if_pos rfl]
      exact fin 1 (by rw [if_neg hz])
  · rw [if_neg (show ¬ nI A ≤ (200 : Int32) from nI_ge (a := 200) (by omega) (by omega))]
    exact ⟨g1, d, M1, 0, rfl, c1, fun x hx => f1 x (by omega), rfl, rfl, rfl, Or.inr ⟨rfl, exp_none b0 hq0 k1 (fun i hi => a2 i (by omega)), rfl, rfl, rfl⟩⟩
end Exn
