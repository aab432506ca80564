/-! the reference's bits, and what it moves -/
theorem nx_or (a b : Nat) : nI a ||| nI b = nI (a ||| b) := by
  apply Int32.toBitVec_inj.1
  show BitVec.ofNat 32 a ||| BitVec.ofNat 32 b = BitVec.ofNat 32 (a ||| b)
  apply BitVec.eq_of_getLsbD_eq
  intro i hi
  simp [hi]
theorem px_tb (N p r : Nat) (hr : r < 16) : (PX N p).testBit r = N.testBit (16 * p + r) := by
  unfold PX
  rw [C16_two, show C16 = 2 ^ 16 from rfl, Nat.testBit_mod_two_pow, decide_eq_true hr, Nat.testBit_div_two_pow, Nat.add_comm r]
  rfl
theorem bl_topC {t l k : Nat} (ht : 0 < t) (hl : l < C16 ^ k) : bl (l + t * C16 ^ k) = 16 * k + bl t := by
  have h1 := bl_lt t
  have h2 := bl_ge (show t ≠ 0 by omega)
  have hb : 0 < bl t := by unfold bl; rw [if_neg (by omega)]; omega
  rw [C16_two] at hl ⊢
  have h3 : 2 ^ (16 * k + (bl t - 1)) ≤ t * 2 ^ (16 * k) := by
    rw [Nat.pow_add, Nat.mul_comm]
    exact Nat.mul_le_mul_right _ h2
  have h4 : (t + 1) * 2 ^ (16 * k) ≤ 2 ^ (16 * k + bl t) := by
    rw [Nat.pow_add, Nat.mul_comm]
    exact Nat.mul_le_mul_left _ h1
  rw [Nat.add_mul, Nat.one_mul] at h4
  have := bl_of (m := l + t * 2 ^ (16 * k)) (n := 16 * k + (bl t - 1)) (by omega) (by rw [show 16 * k + (bl t - 1) + 1 = 16 * k + bl t by omega]; omega)
  omega
theorem bl_sh {v k : Nat} (h : 2 ^ k ≤ v) : bl v = k + bl (v / 2 ^ k) := by
  have hp : 0 < 2 ^ k := Nat.two_pow_pos k
  have h0 : 0 < v / 2 ^ k := Nat.div_pos h hp
  have h1 := bl_lt (v / 2 ^ k)
  have h2 := bl_ge (show v / 2 ^ k ≠ 0 by omega)
  have hb : 0 < bl (v / 2 ^ k) := by unfold bl; rw [if_neg (by omega)]; omega
  have h5 := Nat.div_add_mod v (2 ^ k)
  have h6 := Nat.mod_lt v hp
  have h3 : 2 ^ (k + (bl (v / 2 ^ k) - 1)) ≤ 2 ^ k * (v / 2 ^ k) := by
    rw [Nat.pow_add]
    exact Nat.mul_le_mul_left _ h2
  have h4 : 2 ^ k * (v / 2 ^ k + 1) ≤ 2 ^ (k + bl (v / 2 ^ k)) := by
    rw [Nat.pow_add]
    exact Nat.mul_le_mul_left _ h1
  rw [Nat.mul_add, Nat.mul_one] at h4
  have := bl_of (m := v) (n := k + (bl (v / 2 ^ k) - 1)) (by omega) (by rw [show k + (bl (v / 2 ^ k) - 1) + 1 = k + bl (v / 2 ^ k) by omega]; omega)
  omega
theorem nI_mk {Y k : Nat} (hk : k ≤ Y) : nI Y + -(nI k) = nI (Y - k) := by rw [← Int32.sub_eq_add_neg, pk_sub hk]
theorem nlz61 (h : AH) {v Y : Nat} (hv : 0 < v) (hv2 : v < 16) (hY : 3 ≤ Y) : zj_J6_numberOfLeadingZeros_0f7a4_61 h (nI v) (nI Y) = some (nI (Y + 1 - bl v)) := by
  unfold zj_J6_numberOfLeadingZeros_0f7a4_61
  by_cases h4 : v < 4
  · rw [if_pos (show nI v < (4 : Int32) from nI_lt (b := 4) h4 (by decide)), pk_ushrN (by omega) 1 1 (by decide), pk_sub (by rw [Nat.pow_one]; omega), Nat.pow_one]
    have hb : bl v = v / 2 + 1 := by
      by_cases h2 : v < 2
      · rw [bl_of (n := 0) (show 1 ≤ v by omega) (show v < 2 by omega)]; omega
      · rw [bl_of (n := 1) (show 2 ≤ v by omega) (show v < 4 by omega)]; omega
    rw [hb]
    congr 2
    omega
  · rw [if_neg (show ¬ nI v < (4 : Int32) from nI_nlt (b := 4) (by omega) (by omega))]
    simp only [lt_]
    rw [pk_ushrN (by omega) 2 2 (by decide), pk_ushrN (by omega) 1 1 (by decide), show (-2 : Int32) = -(nI 2) from rfl, nI_mk (by omega), pk_sub (by show v / 4 / 2 ≤ _; omega)]
    have hb : bl v = v / 4 / 2 + 3 := by
      by_cases h2 : v < 8
      · rw [bl_of (n := 2) (show 4 ≤ v by omega) (show v < 8 by omega)]; omega
      · rw [bl_of (n := 3) (show 8 ≤ v by omega) (show v < 16 by omega)]; omega
    rw [hb]
    show some (nI (Y - 2 - v / 4 / 2)) = _
    congr 2
    omega
theorem nlz48 (h : AH) {v Y : Nat} (hv : 0 < v) (hv2 : v < 256) (hY : 7 ≤ Y) : zj_J6_numberOfLeadingZeros_0f7a4_48 h (nI v) (nI Y) = some (nI (Y + 1 - bl v)) := by
  unfold zj_J6_numberOfLeadingZeros_0f7a4_48
  by_cases h4 : v < 16
  · rw [if_pos (show nI v < (16 : Int32) from nI_lt (b := 16) h4 (by decide))]
    exact nlz61 h hv h4 (by omega)
  · rw [if_neg (show ¬ nI v < (16 : Int32) from nI_nlt (b := 16) (by omega) (by omega))]
    simp only [lt_]
    rw [pk_ushrN (by omega) 4 4 (by decide), show (-4 : Int32) = -(nI 4) from rfl, nI_mk (by omega), nlz61 h (v := v / 2 ^ 4) (by show 0 < v / 16; omega) (by show v / 16 < 16; omega) (by omega)]
    have hb := bl_sh (v := v) (k := 4) (by show 16 ≤ v; omega)
    rw [hb]
    congr 2
    omega
theorem nlz33 (h : AH) {v : Nat} (hv : 0 < v) (hv2 : v < 65536) : zj_J6_numberOfLeadingZeros_0f7a4_33 h (nI v) (nI 31) = some (nI (32 - bl v)) := by
  unfold zj_J6_numberOfLeadingZeros_0f7a4_33
  by_cases h4 : v < 256
  · rw [if_pos (show nI v < (256 : Int32) from nI_lt (b := 256) h4 (by decide))]
    exact nlz48 h hv h4 (by omega)
  · rw [if_neg (show ¬ nI v < (256 : Int32) from nI_nlt (b := 256) (by omega) (by omega))]
    simp only [lt_]
    rw [pk_ushrN (by omega) 8 8 (by decide), show (-8 : Int32) = -(nI 8) from rfl, nI_mk (by omega), nlz48 h (v := v / 2 ^ 8) (by show 0 < v / 256; omega) (by show v / 256 < 256; omega) (by omega)]
    have hb := bl_sh (v := v) (k := 8) (by show 256 ≤ v; omega)
    rw [hb]
    congr 2
    omega
theorem nlz (h : AH) {v : Nat} (hv : 0 < v) (hv2 : v < 65536) : zs_J6_numberOfLeadingZeros_0f7a4 h (nI v) = some (nI (32 - bl v)) := by
  unfold zs_J6_numberOfLeadingZeros_0f7a4
  rw [if_pos (show (0 : Int32) < nI v from nI_lt (a := 0) hv (by omega)), if_pos (show nI v < (65536 : Int32) from nI_lt (b := 65536) hv2 (by decide))]
  exact nlz33 h hv hv2
section Rbt
variable {B h : AH} {n : Nat} {d : RD} {M : Nat → Int} {i j k T : Nat} {f : Nat → Int32}
theorem RLo.bit (o : RLo B n d h M T f) (hi : i < 317) (hiT : i ≠ T) (hk : k < 2 ^ 31) : zs_X10_bit h (ar n i) (nI k) = some (if (M i).natAbs.testBit k = true then 1 else 0) := by
  unfold zs_X10_bit
  have l1 := o.le100 hi hiT
  have ed : nI k / (16 : Int32) = nI (k / 16) := pk_div (d := 16) hk (by decide) (by decide)
  have er : nI k - nI (k / 16) * (16 : Int32) = nI (k % 16) := by
    have := pk_rem (a := k) (d := 16) hk (by decide) (by decide)
    rw [show nI 16 = (16 : Int32) from rfl, ed] at this
    exact this
  rw [o.n_ hi hiT, ed]
  simp only [Option.bind_some]
  by_cases hc : k / 16 < cs (M i).natAbs
  · rw [if_neg (nI_ge hc (by omega)), o.rw hi]
    simp only [Option.bind_some]
    rw [o.at hi hiT hc, er]
    simp only [Option.bind_some]
    have pb := PX_31 (M i).natAbs (k / 16)
    have tb := px_tb (M i).natAbs (k / 16) (k % 16) (by omega)
    rw [show 16 * (k / 16) + k % 16 = k by omega, Nat.testBit_eq_decide_div_mod_eq] at tb
    rw [← tb]
    by_cases hb : PX (M i).natAbs (k / 16) / 2 ^ (k % 16) % 2 = 1
    · rw [if_pos ((bitI1 (by omega) (by omega)).mpr hb), if_pos (decide_eq_true hb)]
    · rw [if_neg (fun z => hb ((bitI1 (by omega) (by omega)).mp z)), if_neg (fun z => hb (of_decide_eq_true z))]
  · rw [if_pos (nI_le (by omega) (by omega))]
    have h1 := cs_lt (M i).natAbs
    rw [C16_two] at h1
    have h2 : 2 ^ (16 * cs (M i).natAbs) ≤ 2 ^ k := Nat.pow_le_pow_right (by decide) (by omega)
    rw [Nat.testBit_lt_two_pow (by omega)]
    rfl
theorem RV.bits (c : RV B n d h M) (hi : i < 317) : zs_X10_bits h (ar n i) = some (nI (bl (M i).natAbs)) := by
  unfold zs_X10_bits
  have l1 := c.le100 hi
  simp only [c.n_ hi, c.rw hi, Option.bind_some]
  by_cases h0 : cs (M i).natAbs = 0
  · rw [h0, if_pos (by decide), cs_z.mp h0]
    rfl
  · rw [if_neg (nI_ne0 (by omega) (by omega))]
    obtain ⟨p, hp⟩ : ∃ p, cs (M i).natAbs = p + 1 := ⟨cs (M i).natAbs - 1, by omega⟩
    have ht := PX_top (v := (M i).natAbs) (by omega)
    rw [hp] at ht
    have ht2 : PX (M i).natAbs p ≠ 0 := ht
    have hv := vC_PXs (v := (M i).natAbs) (m := p + 1) (by omega)
    have hv2 : vC (PX (M i).natAbs) p + PX (M i).natAbs p * C16 ^ p = (M i).natAbs := hv
    have hb := bl_topC (t := PX (M i).natAbs p) (l := vC (PX (M i).natAbs) p) (k := p) (by omega) (vC_lt (fun x _ => PX_lt _ x))
    rw [hv2] at hb
    have p1 := PX_31 (M i).natAbs p
    have hb16 : bl (PX (M i).natAbs p) ≤ 16 := bl_le (show _ < 2 ^ 16 from p1)
    rw [hp, nI_pred, c.at hi (show p < cs (M i).natAbs by omega)]
    simp only [Option.bind_some]
    rw [nlz h (by omega) p1]
    simp only [Option.bind_some]
    have e1 : (16 : Int32) * nI (p + 1) = nI (16 * (p + 1)) := pk_mul 16 _
    have e2 : nI (16 * (p + 1)) - (16 : Int32) = nI (16 * p) := by
      have := pk_sub (a := 16 * (p + 1)) (b := 16) (by omega)
      rw [show 16 * (p + 1) - 16 = 16 * p by omega] at this
      exact this
    have e3 : nI (16 * p) + (32 : Int32) = nI (16 * p + 32) := nI_add _ 32
    rw [e1, e2, e3, pk_sub (by omega), hb]
    congr 2
    omega
theorem RV.rl (c : RV B n d h M) (T : Nat) : ∃ f, RLo B n d h M T f := by
  obtain ⟨σ, c, hσ⟩ := c
  exact ⟨_, σ, c, rfl, fun i hi _ => hσ i hi⟩
theorem RV.bit (c : RV B n d h M) (hi : i < 317) (hk : k < 2 ^ 31) : zs_X10_bit h (ar n i) (nI k) = some (if (M i).natAbs.testBit k = true then 1 else 0) := by
  obtain ⟨f, o⟩ := c.rl 317
  exact o.bit hi (by omega) hk
/-! moving by bits -/
theorem PX_add {V t : Nat} (hV : V < 2 ^ t) (y : Nat) : PX (V + 2 ^ t) y = PX V y + if y = t / 16 then 2 ^ (t % 16) else 0 := by
  have ht : 2 ^ t = 2 ^ (t % 16) * C16 ^ (t / 16) := by
    rw [C16_two, ← Nat.pow_add]
    congr 1
    omega
  by_cases h1 : y = t / 16
  · rw [if_pos h1]
    unfold PX
    rw [← h1] at ht
    have hp := C16_pos y
    rw [ht, Nat.add_mul_div_right _ _ hp]
    have h2 : V / C16 ^ y < 2 ^ (t % 16) := Nat.div_lt_of_lt_mul (by rw [Nat.mul_comm]; omega)
    have h3 : 2 ^ (t % 16 + 1) ≤ 2 ^ 16 := Nat.pow_le_pow_right (by decide) (by omega)
    rw [Nat.pow_succ] at h3
    have h4 : C16 = 2 ^ 16 := rfl
    rw [Nat.mod_eq_of_lt (a := V / C16 ^ y + 2 ^ (t % 16)) (b := C16) (by omega), Nat.mod_eq_of_lt (a := V / C16 ^ y) (b := C16) (by omega)]
  · rw [if_neg h1, Nat.add_zero]
    unfold PX
    rcases Nat.lt_or_ge y (t / 16) with h2 | h2
    · have e : 2 ^ t = C16 ^ y * (C16 * 2 ^ (t - 16 * y - 16)) := by
        rw [C16_two, show C16 = 2 ^ 16 from rfl, ← Nat.pow_add, ← Nat.pow_add]
        congr 1
        omega
      rw [e, Nat.add_mul_div_left _ _ (C16_pos y), Nat.add_mul_mod_self_left]
    · have h3 : 2 ^ (t + 1) ≤ C16 ^ y := by
        rw [C16_two]
        exact Nat.pow_le_pow_right (by decide) (by omega)
      rw [Nat.pow_succ] at h3
      rw [Nat.div_eq_of_lt (by omega), Nat.div_eq_of_lt (by omega)]
theorem mod_s (A k : Nat) : A % 2 ^ (k + 1) = A % 2 ^ k + (if A.testBit k = true then 2 ^ k else 0) := by
  have h1 : A % 2 ^ (k + 1) = A % 2 ^ k + 2 ^ k * (A / 2 ^ k % 2) := by rw [Nat.pow_succ, Nat.mod_mul]
  rw [h1, Nat.testBit_eq_decide_div_mod_eq]
  rcases Nat.mod_two_eq_zero_or_one (A / 2 ^ k) with h2 | h2
  · rw [h2, if_neg (by decide), Nat.mul_zero]
  · rw [h2, if_pos (by decide), Nat.mul_one]
theorem mv_step {A k : Nat} {e : Int} (h : 0 ≤ (k : Int) + e) : mvN (A % 2 ^ (k + 1)) e = mvN (A % 2 ^ k) e + (if A.testBit k = true then 2 ^ ((k : Int) + e).toNat else 0) ∧ mvN (A % 2 ^ k) e < 2 ^ ((k : Int) + e).toNat := by
  have hm := Nat.mod_lt A (Nat.two_pow_pos k)
  rw [mod_s]
  unfold mvN
  by_cases he : 0 ≤ e
  · rw [if_pos he, if_pos he]
    have e1 : 2 ^ ((k : Int) + e).toNat = 2 ^ k * 2 ^ e.toNat := by rw [← Nat.pow_add]; congr 1; omega
    rw [e1]
    refine ⟨?_, Nat.mul_lt_mul_of_pos_right hm (Nat.two_pow_pos _)⟩
    rw [Nat.add_mul]
    by_cases hb : A.testBit k = true
    · rw [if_pos hb, if_pos hb]
    · rw [if_neg hb, if_neg hb, Nat.zero_mul]
  · rw [if_neg he, if_neg he]
    have e1 : 2 ^ k = 2 ^ (-e).toNat * 2 ^ ((k : Int) + e).toNat := by rw [← Nat.pow_add]; congr 1; omega
    have hp : 0 < 2 ^ (-e).toNat := Nat.two_pow_pos _
    refine ⟨?_, Nat.div_lt_of_lt_mul (by rw [← e1]; exact hm)⟩
    by_cases hb : A.testBit k = true
    · rw [if_pos hb, if_pos hb]
      rw [e1, Nat.add_mul_div_left _ _ hp, ← e1]
    · rw [if_neg hb, if_neg hb, Nat.add_zero, Nat.add_zero]
theorem mv_low {A k : Nat} {e : Int} (h : (k : Int) + e < 0) : mvN (A % 2 ^ (k + 1)) e = mvN (A % 2 ^ k) e := by
  have hm := Nat.mod_lt A (Nat.two_pow_pos k)
  have hm2 := Nat.mod_lt A (Nat.two_pow_pos (k + 1))
  unfold mvN
  rw [if_neg (by omega), if_neg (by omega)]
  have h2 : 2 ^ (k + 1) ≤ 2 ^ (-e).toNat := Nat.pow_le_pow_right (by decide) (by omega)
  have h3 : 2 ^ k ≤ 2 ^ (k + 1) := Nat.pow_le_pow_right (by decide) (by omega)
  rw [Nat.div_eq_of_lt (by omega), Nat.div_eq_of_lt (by omega)]
theorem mvN_0 (e : Int) : mvN 0 e = 0 := by
  unfold mvN
  split
  · exact Nat.zero_mul _
  · exact Nat.zero_div _
theorem mvN_ltC {A k : Nat} {e : Int} (hA : A < C16 ^ k) {m : Nat} (hm : 16 * (k : Int) + e ≤ 16 * m) : mvN A e < C16 ^ m := by
  rw [C16_two] at hA ⊢
  unfold mvN
  by_cases he : 0 ≤ e
  · rw [if_pos he]
    have h1 : A * 2 ^ e.toNat < 2 ^ (16 * k) * 2 ^ e.toNat := Nat.mul_lt_mul_of_pos_right hA (Nat.two_pow_pos _)
    rw [← Nat.pow_add] at h1
    exact Nat.lt_of_lt_of_le h1 (Nat.pow_le_pow_right (by decide) (by omega))
  · rw [if_neg he]
    refine Nat.div_lt_of_lt_mul (Nat.lt_of_lt_of_le hA ?_)
    rw [← Nat.pow_add]
    exact Nat.pow_le_pow_right (by decide) (by omega)
theorem RLo.movedZ (o : RLo B n d h M T f) (hT : T < 317) (w1 : Nat) (w2 : Int32) {m : Nat} (hm : m ≤ 100) :
    ∃ (r : AH) (f : Nat → Int32), iter (fun q : AH × Int32 => zb_X11_moved_25 w1 w2 (nI m) (ar n T) q.1 q.2) FU (h, (0 : Int32)) = some r ∧ RLo B n d r M T f ∧ ∀ x, x < m → f x = 0 := by
  obtain ⟨r, hr, f', o', hf⟩ := iter_FU (B := fun q : AH × Int32 => zb_X11_moved_25 w1 w2 (nI m) (ar n T) q.1 q.2)
    (fun y z => z.2 = nI y ∧ ∃ f, RLo B n d z.1 M T f ∧ ∀ x, x < y → f x = 0)
    (fun r => ∃ f, RLo B n d r M T f ∧ ∀ x, x < m → f x = 0)
    m (by omega) (s := (h, (0 : Int32))) ⟨rfl, f, o, fun x hx => absurd hx (Nat.not_lt_zero x)⟩ (by
    rintro y ⟨g, z⟩ hy ⟨hz, f, o, hf⟩
    dsimp only at hz o ⊢
    subst hz
    unfold zb_X11_moved_25
    by_cases hlt : y < m
    · rw [if_neg (nI_ge hlt (by omega)), o.rw hT]
      simp only [Option.bind_some]
      obtain ⟨g2, e2, o3⟩ := o.put hT (show y < 100 by omega) 0
      rw [e2]
      simp only [Option.bind_some]
      refine ⟨_, rfl, fun s' hs => ?_, fun r hr => by (cases hr)⟩
      obtain rfl := Sum.inl.inj hs
      refine ⟨hlt, nI_1 y, _, o3, fun x hx => ?_⟩
      by_cases e : x = y
      · subst e; rw [pk_us]
      · rw [pk_un e]; exact hf x (by omega)
    · rw [if_pos (nI_le (by omega) (by omega))]
      refine ⟨_, rfl, fun s' hs => by (cases hs), fun r hr => ?_⟩
      obtain rfl := Sum.inr.inj hr
      exact ⟨f, o, fun x hx => hf x (by omega)⟩)
  exact ⟨r, f', hr, o', hf⟩
theorem i32_div16 {x : Int32} (h1 : -16 < x.toInt) : x / (16 : Int32) = nI (x.toInt.toNat / 16) := by
  have h3 := Int32.toInt_lt x
  by_cases h0 : 0 ≤ x.toInt
  · have e := i32_nn h0
    have h2 := pk_div (a := x.toInt.toNat) (d := 16) (by omega) (by decide) (by decide)
    rw [← e] at h2
    exact h2
  · have h4 : (x / (16 : Int32)).toInt = 0 := by
      rw [Int32.toInt_div_of_ne_right _ _ (by decide)]
      have h5 : (16 : Int32).toInt = 16 := rfl
      rw [h5, show x.toInt = -((-x.toInt).toNat : Int) by omega, Int.neg_tdiv, Int.tdiv_eq_zero_of_lt (by omega) (by omega)]
      rfl
    refine Int32.toInt_inj.mp ?_
    rw [h4, nI_toInt (by omega)]
    omega
theorem RV.moved (c : RV B n d h M) (hT : d.top = nI T) (hl : T < 64) (hi : i < 317) (hiT : i ≠ T) {x : Int32} (h1 : -16 < x.toInt) (h2 : x.toInt ≤ 1000) (hr : cs (M i).natAbs + x.toInt.toNat / 16 + 2 ≤ 100) :
    ∃ h', zs_X11_moved h n (ar n i) x = some (ar n T, h') ∧ RV B n (d.tt (T + 1)) h' (va_up M T (sgv (if M i < 0 then 1 else 0) (mvN (M i).natAbs x.toInt))) := by
  unfold zs_X11_moved
  rw [c.n_ hi]
  have e16 := i32_div16 h1
  obtain ⟨m, hm⟩ : ∃ m, m = cs (M i).natAbs + x.toInt.toNat / 16 + 2 := ⟨_, rfl⟩
  have em : (nI (cs (M i).natAbs) + nI (x.toInt.toNat / 16)) + (2 : Int32) = nI m := by
    rw [nI_add, hm]
    exact nI_add _ 2
  simp only [Option.bind_some, lt_]
  rw [e16, em, if_pos (show (0 : Int32) < nI m from nI_lt (a := 0) (by omega) (by omega))]
  simp only [c.rm, Option.bind_some]
  obtain ⟨g1, e1, c1⟩ := c.take hT hl
  rw [e1]
  simp only [Option.bind_some]
  have hT' : T < 317 := by omega
  obtain ⟨f0, o1, -⟩ := c1.opn (T := T) hT'
  obtain ⟨r1, f1, hr1, o2, z1⟩ := o1.movedZ hT' (ar n i) x (show m ≤ 100 by omega)
  rw [hr1]
  simp only [Option.bind_some]
  have hA := cs_lt (M i).natAbs
  have hvm : ∀ k, k ≤ 16 * cs (M i).natAbs → mvN ((M i).natAbs % 2 ^ k) x.toInt < C16 ^ m := by
    intro k hk
    have h3 := Nat.mod_lt (M i).natAbs (Nat.two_pow_pos k)
    refine mvN_ltC (k := cs (M i).natAbs) ?_ (by omega)
    rw [C16_two]
    exact Nat.lt_of_lt_of_le h3 (Nat.pow_le_pow_right (by decide) hk)
  obtain ⟨r2, hr2, f2, o3, hf⟩ := iter_FU (B := fun q : AH × Int32 => zb_X11_moved_49 (ar n i) x (nI m) (ar n T) q.1 q.2)
    (fun k z => z.2 = nI k ∧ ∃ f, RLo B n (d.tt (T + 1)) z.1 M T f ∧ ∀ y, y < m → f y = nI (PX (mvN ((M i).natAbs % 2 ^ k) x.toInt) y))
    (fun r => ∃ f, RLo B n (d.tt (T + 1)) r M T f ∧ ∀ y, y < m → f y = nI (PX (mvN (M i).natAbs x.toInt) y))
    (16 * cs (M i).natAbs) (by omega) (s := (r1, (0 : Int32))) ⟨rfl, f1, o2, fun y hy => by
      rw [z1 y hy, Nat.pow_zero, Nat.mod_one, mvN_0, PX_hi (by rw [cs_0]; omega)]; rfl⟩ (by
    rintro k ⟨g, z⟩ hk ⟨hz, f, o, hf⟩
    dsimp only at hz o ⊢
    subst hz
    unfold zb_X11_moved_49
    rw [o.n_ hi hiT]
    simp only [Option.bind_some]
    have e5 : (16 : Int32) * nI (cs (M i).natAbs) = nI (16 * cs (M i).natAbs) := pk_mul 16 _
    rw [e5]
    by_cases hlt : k < 16 * cs (M i).natAbs
    · rw [if_neg (nI_ge hlt (by omega))]
      simp only [lt_, o.ck hi, o.bit hi hiT (show k < 2 ^ 31 by omega), Option.bind_some]
      have esum : (nI k + x).toInt = (k : Int) + x.toInt := by
        rw [Int32.toInt_add, nI_toInt (by omega)]
        exact Int.bmod_eq_of_le (by omega) (by omega)
      have same : mvN ((M i).natAbs % 2 ^ (k + 1)) x.toInt = mvN ((M i).natAbs % 2 ^ k) x.toInt → ∃ q : (AH × Int32) ⊕ AH, some (Sum.inl (g, nI k + (1 : Int32))) = some q ∧ (∀ s', q = Sum.inl s' → k < 16 * cs (M i).natAbs ∧ s'.2 = nI (k + 1) ∧ ∃ f, RLo B n (d.tt (T + 1)) s'.1 M T f ∧ ∀ y, y < m → f y = nI (PX (mvN ((M i).natAbs % 2 ^ (k + 1)) x.toInt) y)) ∧ ∀ r, q = Sum.inr r → ∃ f, RLo B n (d.tt (T + 1)) r M T f ∧ ∀ y, y < m → f y = nI (PX (mvN (M i).natAbs x.toInt) y) := by
        intro hs
        refine ⟨_, rfl, fun s' hs' => ?_, fun r hr => by (cases hr)⟩
        obtain rfl := Sum.inl.inj hs'
        exact ⟨hlt, nI_1 k, f, o, fun y hy => by rw [hs]; exact hf y hy⟩
      by_cases hb : (M i).natAbs.testBit k = true
      · rw [if_pos hb, if_neg (by decide)]
        by_cases hn : (k : Int) + x.toInt < 0
        · rw [if_pos (i32_lt0.mpr (by rw [esum]; exact hn))]
          exact same (mv_low hn)
        · rw [if_neg (fun z => hn (by have := i32_lt0.mp z; rw [esum] at this; exact this))]
          obtain ⟨t, ht⟩ : ∃ t, t = ((k : Int) + x.toInt).toNat := ⟨_, rfl⟩
          have et : nI k + x = nI t := by
            have := i32_nn (x := nI k + x) (by rw [esum]; omega)
            rw [esum, ← ht] at this
            exact this
          obtain ⟨s1, s2⟩ := mv_step (A := (M i).natAbs) (k := k) (e := x.toInt) (by omega)
          rw [if_pos hb, ← ht] at s1
          rw [← ht] at s2
          have htm : t / 16 < m := by omega
          have ed : nI t / (16 : Int32) = nI (t / 16) := pk_div (d := 16) (by omega) (by decide) (by decide)
          have er : nI t - nI (t / 16) * (16 : Int32) = nI (t % 16) := by
            have := pk_rem (a := t) (d := 16) (by omega) (by decide) (by decide)
            rw [show nI 16 = (16 : Int32) from rfl, ed] at this
            exact this
          rw [et, o.rw hT']
          simp only [Option.bind_some]
          rw [ed, o.get hT' (show t / 16 < 100 by omega), er]
          simp only [Option.bind_some]
          have pa := PX_add s2 (t / 16)
          rw [if_pos rfl] at pa
          have small : PX (mvN ((M i).natAbs % 2 ^ k) x.toInt) (t / 16) < 2 ^ (t % 16) := by
            unfold PX
            refine Nat.lt_of_le_of_lt (Nat.mod_le _ _) (Nat.div_lt_of_lt_mul ?_)
            rw [C16_two, ← Nat.pow_add, show 16 * (t / 16) + t % 16 = t by omega]
            exact s2
          have esh : (1 : Int32) <<< (nI (t % 16) &&& 31) = nI (1 * 2 ^ (t % 16)) := pk_shlN (n := 1) _ (t % 16) (s_l _ (by omega)) (by
            have : 2 ^ (t % 16) < 2 ^ 32 := Nat.pow_lt_pow_right (by decide) (by omega)
            omega)
          have eor : nI (PX (mvN ((M i).natAbs % 2 ^ k) x.toInt) (t / 16)) ||| nI (1 * 2 ^ (t % 16)) = nI (PX (mvN ((M i).natAbs % 2 ^ k) x.toInt) (t / 16) + 2 ^ (t % 16)) := by
            rw [nx_or, Nat.or_comm, or_mul small, Nat.one_mul, Nat.add_comm]
          rw [hf _ htm, esh, eor, ← pa, ← s1]
          obtain ⟨g2, e2, o3⟩ := o.put hT' (show t / 16 < 100 by omega) (nI (PX (mvN ((M i).natAbs % 2 ^ (k + 1)) x.toInt) (t / 16)))
          rw [e2]
          simp only [Option.bind_some]
          refine ⟨_, rfl, fun s' hs' => ?_, fun r hr => by (cases hr)⟩
          obtain rfl := Sum.inl.inj hs'
          refine ⟨hlt, nI_1 k, _, o3, fun y hy => ?_⟩
          by_cases e : y = t / 16
          · subst e; rw [pk_us]
          · rw [pk_un e, hf y hy, s1, PX_add s2 y, if_neg e, Nat.add_zero]
      · rw [if_neg hb, if_pos (by decide)]
        refine same ?_
        by_cases hn : (k : Int) + x.toInt < 0
        · exact mv_low hn
        · have s1 := (mv_step (A := (M i).natAbs) (k := k) (e := x.toInt) (by omega)).1
          rw [if_neg hb, Nat.add_zero] at s1
          exact s1
    · rw [if_pos (nI_le (by omega) (by omega))]
      refine ⟨_, rfl, fun s' hs => by (cases hs), fun r hr => ?_⟩
      obtain rfl := Sum.inr.inj hr
      refine ⟨f, o, fun y hy => ?_⟩
      have hk2 : k = 16 * cs (M i).natAbs := by omega
      have h3 : (M i).natAbs % 2 ^ k = (M i).natAbs := Nat.mod_eq_of_lt (by rw [hk2, ← C16_two]; exact hA)
      rw [hf y hy, h3])
  rw [hr2]
  simp only [Option.bind_some, o3.sg hi hiT, o3.ck hT']
  obtain ⟨hd, hv⟩ := okD_PX hf
  rw [vC_PX (mvN_ltC (k := cs (M i).natAbs) hA (by omega))] at hv
  obtain ⟨g3, e3, c3⟩ := o3.cls hT' (show m ≤ 100 by omega) hd (sg_01 (M i))
  rw [hv] at c3
  rw [e3]
  exact ⟨g3, rfl, c3⟩
end Rbt
