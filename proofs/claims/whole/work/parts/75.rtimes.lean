/-! the reference's wholes from longs, products, bits -/
theorem part_of (w : Int64) {k : Nat} (hk : k < 4) : (((w.toUInt64 >>> ((((16 : Int32)) * nI k).toInt64.toUInt64 &&& Int64.toUInt64 63)).toInt64) &&& ((65535 : Int64))).toInt32 = nI (PX (uN w) k) := by
  have h8 : (16 : Int32) * nI k = nI (16 * k) := pk_mul 16 k
  have hw : w = lN (uN w) := (lN_uN w).symm
  have hl := uN_lt w
  unfold PX
  rw [C16_two]
  generalize uN w = W at hw hl ⊢
  subst hw
  rw [h8, wb_shr hl (by omega)]
  have h255 : (65535 : Int64) = lN (2 ^ 16 - 1) := by decide
  have hd : W / 2 ^ (16 * k) ≤ W := Nat.div_le_self _ _
  rw [h255, wb_mask (by omega) (by decide), lN_i]
  rfl
theorem okD_PX {f : Nat → Int32} {m v : Nat} (hf : ∀ x, x < m → f x = nI (PX v x)) : okD f m ∧ vC (eF f) m = vC (PX v) m := by
  have h1 : ∀ x, x < m → eF f x = PX v x := by
    intro x hx
    have := PX_31 v x
    unfold eF
    rw [hf x hx, nI_clamp (by omega)]
  exact ⟨fun x hx => by rw [h1 x hx]; exact ⟨hf x hx, PX_lt v x⟩, vC_congr h1⟩
theorem lmask (v : Nat) (hv : v < 2 ^ 64) : ((lN v) &&& (65535 : Int64)).toInt32 = nI (v % 65536) := by
  have h255 : (65535 : Int64) = lN (2 ^ 16 - 1) := by decide
  rw [h255, wb_mask hv (by decide), lN_i]
theorem lshr16 {v : Nat} (hv : v < 2 ^ 62) : lN v >>> (((16 : Int32)).toInt64 &&& 63) = lN (v / 65536) := pf_shr (d := 16) (by decide) hv
section Rtm
variable {B h : AH} {n : Nat} {d : RD} {M : Nat → Int} {i j k T : Nat} {f : Nat → Int32}
theorem RV.ofL (c : RV B n d h M) (hT : d.top = nI T) (hl : T < 64) (v : Int64) : ∃ h', zs_X11_of h n v = some (ar n T, h') ∧ RV B n (d.tt (T + 1)) h' (va_up M T v.toInt) := by
  unfold zs_X11_of
  simp only [c.rm, Option.bind_some]
  obtain ⟨g1, e1, c1⟩ := c.take hT hl
  rw [e1]
  simp only [Option.bind_some]
  have hT' : T < 317 := by omega
  have key : ∀ (t : Int64), uN t = v.toInt.natAbs → ∃ h', zj_X11_of_17 g1 v (ar n T) t = some (ar n T, h') ∧ RV B n (d.tt (T + 1)) h' (va_up M T v.toInt) := by
    intro t ht
    unfold zj_X11_of_17
    obtain ⟨f0, o1, -⟩ := c1.opn (T := T) hT'
    obtain ⟨r, hr, f, o2, hf⟩ := iter_FU (B := fun q : AH × Int32 => zb_X11_of_22 v (ar n T) t q.1 q.2)
      (fun y z => z.2 = nI y ∧ ∃ f, RLo B n (d.tt (T + 1)) z.1 M T f ∧ ∀ x, x < y → f x = nI (PX (uN t) x))
      (fun r => ∃ f, RLo B n (d.tt (T + 1)) r M T f ∧ ∀ x, x < 4 → f x = nI (PX (uN t) x))
      4 (by omega) (s := (g1, (0 : Int32))) ⟨rfl, f0, o1, fun x hx => absurd hx (Nat.not_lt_zero x)⟩ (by
      rintro y ⟨g, z⟩ hy ⟨hz, f, o, hf⟩
      dsimp only at hz o ⊢
      subst hz
      unfold zb_X11_of_22
      by_cases h4 : y < 4
      · rw [if_neg (show ¬ (4 : Int32) ≤ nI y from nI_ge (b := 4) h4 (by decide)), o.rw hT']
        simp only [Option.bind_some]
        rw [part_of t h4]
        obtain ⟨g2, e2, o3⟩ := o.put hT' (show y < 100 by omega) (nI (PX (uN t) y))
        rw [e2]
        simp only [Option.bind_some]
        refine ⟨_, rfl, fun s' hs => ?_, fun r hr => by (cases hr)⟩
        obtain rfl := Sum.inl.inj hs
        refine ⟨h4, nI_1 y, _, o3, fun x hx => ?_⟩
        by_cases e : x = y
        · subst e; rw [pk_us]
        · rw [pk_un e]; exact hf x (by omega)
      · rw [if_pos (show (4 : Int32) ≤ nI y from nI_le (a := 4) (by omega) (by omega))]
        refine ⟨_, rfl, fun s' hs => by (cases hs), fun r hr => ?_⟩
        obtain rfl := Sum.inr.inj hr
        exact ⟨f, o, fun x hx => hf x (by omega)⟩)
    rw [hr]
    simp only [Option.bind_some]
    obtain ⟨hd, hv⟩ := okD_PX hf
    have h4 : C16 ^ 4 = 18446744073709551616 := by decide
    have hu := uN_lt t
    rw [vC_PX (by omega), ht] at hv
    have fin : ∀ s : Int32, (s = 0 ∨ s = 1) → sgv s v.toInt.natAbs = v.toInt → ∃ h', zj_X11_of_66 r s (ar n T) = some (ar n T, h') ∧ RV B n (d.tt (T + 1)) h' (va_up M T v.toInt) := by
      intro s hs he
      unfold zj_X11_of_66
      rw [o2.ck hT']
      simp only [Option.bind_some]
      obtain ⟨g3, e3, c3⟩ := o2.cls hT' (by decide) hd hs
      rw [hv, he] at c3
      rw [show (4 : Int32) = nI 4 from rfl, e3]
      exact ⟨g3, rfl, c3⟩
    by_cases hv0 : (0 : Int64) ≤ v
    · rw [if_pos hv0]
      have := (i64_nn v).mp hv0
      exact fin 0 (Or.inl rfl) (by show ((v.toInt.natAbs : Nat) : Int) = _; omega)
    · rw [if_neg hv0]
      have : ¬ 0 ≤ v.toInt := fun e => hv0 ((i64_nn v).mpr e)
      exact fin 1 (Or.inr rfl) (by show -((v.toInt.natAbs : Nat) : Int) = _; omega)
  have hi := uN_int v
  by_cases hv0 : (0 : Int64) ≤ v
  · rw [if_pos hv0]
    refine key v ?_
    have := (i64_nn v).mp hv0
    rw [hi] at this ⊢
    split at this <;> rename_i hh
    · rw [if_pos hh]; omega
    · have := uN_lt v; omega
  · rw [if_neg hv0]
    refine key (-v) ?_
    have h0 : ¬ 0 ≤ v.toInt := fun e => hv0 ((i64_nn v).mpr e)
    have h1 := uN_neg v
    have h2 := uN_lt v
    have h3 := uN_lt (-v)
    rw [hi] at h0 ⊢
    split at h0 <;> rename_i hh
    · omega
    · rw [if_neg hh]; omega
theorem RLo.timesZ (o : RLo B n d h M T f) (hT : T < 317) (w1 w2 : Nat) {m : Nat} (hm : m ≤ 100) :
    ∃ (r : AH) (f : Nat → Int32), iter (fun q : AH × Int32 => zb_X11_times_19 w1 w2 (ar n T) (nI m) q.1 q.2) FU (h, (0 : Int32)) = some r ∧ RLo B n d r M T f ∧ ∀ x, x < m → f x = 0 := by
  obtain ⟨r, hr, f', o', hf⟩ := iter_FU (B := fun q : AH × Int32 => zb_X11_times_19 w1 w2 (ar n T) (nI m) q.1 q.2)
    (fun y z => z.2 = nI y ∧ ∃ f, RLo B n d z.1 M T f ∧ ∀ x, x < y → f x = 0)
    (fun r => ∃ f, RLo B n d r M T f ∧ ∀ x, x < m → f x = 0)
    m (by omega) (s := (h, (0 : Int32))) ⟨rfl, f, o, fun x hx => absurd hx (Nat.not_lt_zero x)⟩ (by
    rintro y ⟨g, z⟩ hy ⟨hz, f, o, hf⟩
    dsimp only at hz o ⊢
    subst hz
    unfold zb_X11_times_19
    by_cases hlt : y < m
    · rw [if_neg (nI_ge hlt (by omega)), o.rw hT]
      simp only [Option.bind_some]
      obtain ⟨g2, e2, o3⟩ := o.put hT (show y < 100 by omega) 0
      rw [e2]
      simp only [Option.bind_some]
      refine ⟨_, rfl, fun s' hs => ?_, fun r hr => by (cases hr)⟩
      obtain rfl := Sum.inl.inj hs
      refine ⟨hlt, nI_1 y, _, o3, fun x hx => ?_⟩
      by_cases e : x = y
      · subst e; rw [pk_us]
      · rw [pk_un e]; exact hf x (by omega)
    · rw [if_pos (nI_le (by omega) (by omega))]
      refine ⟨_, rfl, fun s' hs => by (cases hs), fun r hr => ?_⟩
      obtain rfl := Sum.inr.inj hr
      exact ⟨f, o, fun x hx => hf x (by omega)⟩)
  exact ⟨r, f', hr, o', hf⟩
theorem RLo.timesRow (o : RLo B n d h M T f) (hT : T < 317) (hi : i < 317) (hj : j < 317) (hiT : i ≠ T) (hjT : j ≠ T) {y m : Nat} (hy : y < cs (M i).natAbs) (hm : m = cs (M i).natAbs + cs (M j).natAbs) (hm100 : m ≤ 100) (hd : okD f m) (hz : ∀ p, y + cs (M j).natAbs ≤ p → p < m → f p = 0) :
    ∃ (r : AH) (f' : Nat → Int32), iter (fun q : AH × Int64 × Int32 => zb_X11_times_58 (ar n i) (ar n j) (ar n T) (nI m) (nI y) q.1 q.2.1 q.2.2) FU (h, (0 : Int64), (0 : Int32)) = some r ∧ RLo B n d r M T f' ∧ okD f' m ∧ (∀ p, y + cs (M j).natAbs + 1 ≤ p → p < m → f' p = 0) ∧ vC (eF f') m = vC (eF f) m + PX (M i).natAbs y * (M j).natAbs * C16 ^ y := by
  obtain ⟨kb, hkb⟩ : ∃ kb, kb = cs (M j).natAbs := ⟨_, rfl⟩
  obtain ⟨ka, hka⟩ : ∃ ka, ka = cs (M i).natAbs := ⟨_, rfl⟩
  obtain ⟨a, ha⟩ : ∃ a, a = PX (M i).natAbs y := ⟨_, rfl⟩
  have la : a < 65536 := by rw [ha]; exact PX_31 _ _
  have eb := vC_PXs (v := (M j).natAbs) (m := kb) (by omega)
  rw [← hkb] at hm hz ⊢
  rw [← hka] at hm hy
  rw [← ha]
  obtain ⟨r, hr, f', o', q1, q2, q3⟩ := iter_FU (B := fun q : AH × Int64 × Int32 => zb_X11_times_58 (ar n i) (ar n j) (ar n T) (nI m) (nI y) q.1 q.2.1 q.2.2)
    (fun t z => z.2.2 = nI t ∧ ∃ (f' : Nat → Int32) (cy : Nat), z.2.1 = lN cy ∧ cy < 65536 ∧ (t = kb + 1 → cy = 0) ∧ RLo B n d z.1 M T f' ∧ okD f' m ∧ (∀ p, y + t ≤ p → f' p = f p) ∧ vC (eF f') m + cy * C16 ^ (y + t) = vC (eF f) m + a * vC (PX (M j).natAbs) t * C16 ^ y)
    (fun r => ∃ f', RLo B n d r M T f' ∧ okD f' m ∧ (∀ p, y + kb + 1 ≤ p → p < m → f' p = 0) ∧ vC (eF f') m = vC (eF f) m + a * (M j).natAbs * C16 ^ y)
    (kb + 1) (by omega) (s := (h, (0 : Int64), (0 : Int32))) ⟨rfl, f, 0, rfl, by omega, fun _ => rfl, o, hd, fun _ _ => rfl, by show _ = vC (eF f) m + a * 0 * C16 ^ y; rw [Nat.zero_mul, Nat.mul_zero, Nat.zero_mul]⟩ (by
    rintro t ⟨g, cy', t'⟩ ht ⟨h1, f', cy, h2, hcy, hc0, o', hd', hu, hv⟩
    dsimp only at h1 h2 o' ⊢
    subst h1
    subst h2
    unfold zb_X11_times_58
    rw [o'.n_ hj hjT, ← hkb]
    simp only [Option.bind_some]
    have stop : kb ≤ t → cy = 0 → ∃ f', RLo B n d g M T f' ∧ okD f' m ∧ (∀ p, y + kb + 1 ≤ p → p < m → f' p = 0) ∧ vC (eF f') m = vC (eF f) m + a * (M j).natAbs * C16 ^ y := by
      intro h3 h4
      refine ⟨f', o', hd', fun p hp hpm => ?_, ?_⟩
      · rw [hu p (by omega)]
        exact hz p (by omega) hpm
      · rw [h4, Nat.zero_mul, Nat.add_zero, vC_PXs (v := (M j).natAbs) (m := t) (by omega)] at hv
        exact hv
    have step : t < kb ∨ (t = kb ∧ cy ≠ 0) → ∃ o, zj_X11_times_74 (ar n i) (ar n j) (ar n T) (nI m) (nI y) g (lN cy) (nI t) = some o ∧ (∀ s', o = Sum.inl s' → t < kb + 1 ∧ s'.2.2 = nI (t + 1) ∧ ∃ (f' : Nat → Int32) (cy : Nat), s'.2.1 = lN cy ∧ cy < 65536 ∧ (t + 1 = kb + 1 → cy = 0) ∧ RLo B n d s'.1 M T f' ∧ okD f' m ∧ (∀ p, y + (t + 1) ≤ p → f' p = f p) ∧ vC (eF f') m + cy * C16 ^ (y + (t + 1)) = vC (eF f) m + a * vC (PX (M j).natAbs) (t + 1) * C16 ^ y) ∧ (∀ r, o = Sum.inr r → ∃ f', RLo B n d r M T f' ∧ okD f' m ∧ (∀ p, y + kb + 1 ≤ p → p < m → f' p = 0) ∧ vC (eF f') m = vC (eF f) m + a * (M j).natAbs * C16 ^ y) := by
      intro hcase
      have hp : y + t < m := by omega
      have hdp := hd' (y + t) hp
      have l1 := C16_31 hdp.2
      have pb := PX_31 (M j).natAbs t
      have key : ∃ o, zj_X11_times_118 (ar n i) (ar n j) (ar n T) (nI m) (nI y) g (nI t) (lN (a * PX (M j).natAbs t)) (lN (eF f' (y + t)) + lN cy) = some o ∧ (∀ s', o = Sum.inl s' → t < kb + 1 ∧ s'.2.2 = nI (t + 1) ∧ ∃ (f' : Nat → Int32) (cy : Nat), s'.2.1 = lN cy ∧ cy < 65536 ∧ (t + 1 = kb + 1 → cy = 0) ∧ RLo B n d s'.1 M T f' ∧ okD f' m ∧ (∀ p, y + (t + 1) ≤ p → f' p = f p) ∧ vC (eF f') m + cy * C16 ^ (y + (t + 1)) = vC (eF f) m + a * vC (PX (M j).natAbs) (t + 1) * C16 ^ y) ∧ (∀ r, o = Sum.inr r → ∃ f', RLo B n d r M T f' ∧ okD f' m ∧ (∀ p, y + kb + 1 ≤ p → p < m → f' p = 0) ∧ vC (eF f') m = vC (eF f) m + a * (M j).natAbs * C16 ^ y) := by
        have lab : a * PX (M j).natAbs t ≤ 65535 * 65535 := Nat.mul_le_mul (by omega) (by omega)
        obtain ⟨v, hvv⟩ : ∃ v, v = eF f' (y + t) + cy + a * PX (M j).natAbs t := ⟨_, rfl⟩
        unfold zj_X11_times_118
        simp only [lt_]
        rw [o'.rw hT, lN_add, lN_add, nI_add, ← hvv, lmask v (by omega), lshr16 (by omega)]
        simp only [Option.bind_some]
        have hv16 : v % 65536 < C16 := Nat.mod_lt _ (by decide)
        obtain ⟨g2, e2, o3⟩ := o'.put hT (show y + t < 100 by omega) (nI (v % 65536))
        rw [e2]
        simp only [Option.bind_some]
        refine ⟨_, rfl, fun s' hs' => ?_, fun r hr => by (cases hr)⟩
        obtain rfl := Sum.inl.inj hs'
        refine ⟨by omega, nI_1 t, _, v / 65536, rfl, by omega, fun htk => ?_, o3, okD_set hd' hv16, fun p hp' => ?_, ?_⟩
        · have htk' : t = kb := by omega
          have h0 : eF f' (y + t) = 0 := by
            unfold eF
            rw [hu (y + t) (by omega), hz (y + t) (by omega) hp]
            rfl
          have h3 : PX (M j).natAbs t = 0 := PX_hi (by omega)
          rw [h0, h3, Nat.mul_zero] at hvv
          omega
        · rw [pk_un (by omega)]
          exact hu p (by omega)
        · have e5 := vC_set (f := f') (t := y + t) (v := v % 65536) hv16 (m := m) hp
          rw [show y + (t + 1) = y + t + 1 by omega, C16_s]
          show _ = _ + a * (vC (PX (M j).natAbs) t + PX (M j).natAbs t * C16 ^ t) * C16 ^ y
          have e6 : a * (vC (PX (M j).natAbs) t + PX (M j).natAbs t * C16 ^ t) * C16 ^ y = a * vC (PX (M j).natAbs) t * C16 ^ y + a * PX (M j).natAbs t * C16 ^ (y + t) := by
            rw [Nat.mul_add, Nat.add_mul, Nat.pow_add, Nat.mul_comm (C16 ^ y) (C16 ^ t)]
            simp only [Nat.mul_assoc]
          rw [e6]
          have hq : v % 65536 + v / 65536 * 65536 = eF f' (y + t) + cy + a * PX (M j).natAbs t := by omega
          have hm2 := congrArg (· * C16 ^ (y + t)) hq
          simp only [Nat.add_mul] at hm2
          rw [Nat.mul_assoc (v / 65536)] at hm2
          omega
      unfold zj_X11_times_74
      rw [o'.rw hT]
      simp only [Option.bind_some]
      rw [nI_add, o'.get hT (show y + t < 100 by omega), o'.n_ hj hjT, ← hkb]
      simp only [Option.bind_some]
      rw [hdp.1, nI_l (by omega)]
      rcases hcase with htk | ⟨htk, -⟩
      · rw [if_neg (nI_ge htk (by omega)), o'.rw hi, o'.rw hj]
        simp only [Option.bind_some]
        rw [o'.at hi hiT (show y < cs (M i).natAbs by omega), o'.at hj hjT (show t < cs (M j).natAbs by omega)]
        simp only [Option.bind_some]
        rw [← ha, nI_l (by omega), nI_l (by omega), lN_mul]
        exact key
      · rw [if_pos (nI_le (by omega) (by omega))]
        have h0 : (0 : Int64) = lN (a * PX (M j).natAbs t) := by rw [PX_hi (v := (M j).natAbs) (k := t) (by omega), Nat.mul_zero]; rfl
        rw [h0]
        exact key
    by_cases htk : t < kb
    · rw [if_pos (nI_lt htk (by omega))]
      exact step (Or.inl htk)
    · rw [if_neg (nI_nlt (by omega) (by omega))]
      by_cases hc : cy = 0
      · rw [if_pos (by rw [hc]; decide)]
        refine ⟨_, rfl, fun s' hs => by (cases hs), fun r hr => ?_⟩
        obtain rfl := Sum.inr.inj hr
        exact stop (by omega) hc
      · have h9 : ¬ lN cy ≤ (0 : Int64) := fun z => by
          have := (pk_lLE (a := cy) (b := 0) (by omega) (by decide)).mp z
          omega
        rw [if_neg h9]
        refine step (Or.inr ⟨?_, hc⟩)
        rcases (show t = kb ∨ t = kb + 1 by omega) with q | q
        · exact q
        · exact absurd (hc0 q) hc)
  exact ⟨r, f', hr, o', q1, q2, q3⟩
theorem RV.times (c : RV B n d h M) (hT : d.top = nI T) (hl : T < 64) (hi : i < 317) (hj : j < 317) (hiT : i ≠ T) (hjT : j ≠ T) {na nb : Nat} (xa : (M i).natAbs < C16 ^ na) (xb : (M j).natAbs < C16 ^ nb) (hn : na + nb ≤ 100) :
    ∃ h', zs_X11_times h n (ar n i) (ar n j) = some (ar n T, h') ∧ RV B n (d.tt (T + 1)) h' (va_up M T (M i * M j)) := by
  unfold zs_X11_times
  simp only [c.rm, Option.bind_some]
  obtain ⟨g1, e1, c1⟩ := c.take hT hl
  rw [e1]
  simp only [Option.bind_some, c1.n_ hi, c1.n_ hj, lt_]
  rw [nI_add]
  have hT' : T < 317 := by omega
  have la := cs_le xa
  have lb := cs_le xb
  obtain ⟨m, hm⟩ : ∃ m, m = cs (M i).natAbs + cs (M j).natAbs := ⟨_, rfl⟩
  have hm100 : m ≤ 100 := by omega
  rw [← hm]
  have ea := vC_PXs (v := (M i).natAbs) (Nat.le_refl (cs (M i).natAbs))
  obtain ⟨f0, o1, -⟩ := c1.opn (T := T) hT'
  obtain ⟨r1, f1, hr1, o2, z1⟩ := o1.timesZ hT' (ar n i) (ar n j) hm100
  rw [hr1]
  simp only [Option.bind_some]
  have z1' : okD f1 m ∧ vC (eF f1) m = 0 := by
    have hp := okD_PX (f := f1) (m := m) (v := 0) (fun x hx => by rw [z1 x hx, PX_hi (by rw [cs_0]; omega)]; rfl)
    refine ⟨hp.1, ?_⟩
    rw [hp.2, vC_PXs (by rw [cs_0]; omega)]
  obtain ⟨r2, hr2, f2, o3, hd, hv⟩ := iter_FU (B := fun q : AH × Int32 => zb_X11_times_43 (ar n i) (ar n j) (ar n T) (nI m) q.1 q.2)
    (fun y z => z.2 = nI y ∧ ∃ f, RLo B n (d.tt (T + 1)) z.1 M T f ∧ okD f m ∧ (∀ p, y + cs (M j).natAbs ≤ p → p < m → f p = 0) ∧ vC (eF f) m = vC (PX (M i).natAbs) y * (M j).natAbs)
    (fun r => ∃ f, RLo B n (d.tt (T + 1)) r M T f ∧ okD f m ∧ vC (eF f) m = (M i).natAbs * (M j).natAbs)
    (cs (M i).natAbs) (by omega) (s := (r1, (0 : Int32))) ⟨rfl, f1, o2, z1'.1, fun p _ hp => z1 p hp, by rw [z1'.2]; show 0 = 0 * _; rw [Nat.zero_mul]⟩ (by
    rintro y ⟨g, z⟩ hy ⟨hz, f, o, hd, hp, hv⟩
    dsimp only at hz o ⊢
    subst hz
    unfold zb_X11_times_43
    rw [o.n_ hi hiT]
    simp only [Option.bind_some]
    by_cases hlt : y < cs (M i).natAbs
    · rw [if_neg (nI_ge hlt (by omega))]
      obtain ⟨r, f', e3, o', q1, q2, q3⟩ := o.timesRow hT' hi hj hiT hjT hlt hm hm100 hd hp
      rw [e3]
      simp only [Option.bind_some]
      refine ⟨_, rfl, fun s' hs => ?_, fun r hr => by (cases hr)⟩
      obtain rfl := Sum.inl.inj hs
      refine ⟨hlt, nI_1 y, f', o', q1, fun p h1 h2 => q2 p (by omega) h2, ?_⟩
      rw [q3, hv]
      show _ = (vC (PX (M i).natAbs) y + PX (M i).natAbs y * C16 ^ y) * (M j).natAbs
      rw [Nat.add_mul, Nat.mul_assoc, Nat.mul_assoc, Nat.mul_comm (C16 ^ y)]
    · rw [if_pos (nI_le (by omega) (by omega))]
      refine ⟨_, rfl, fun s' hs => by (cases hs), fun r hr => ?_⟩
      obtain rfl := Sum.inr.inj hr
      have hye : y = cs (M i).natAbs := by omega
      rw [hye, ea] at hv
      exact ⟨f, o, hd, hv⟩)
  rw [hr2]
  simp only [Option.bind_some, o3.sg hi hiT, o3.sg hj hjT]
  have esm := sgv_mul (s := if M i < 0 then 1 else 0) (t := if M j < 0 then 1 else 0) (sg_01 (M i)) (sg_01 (M j)) (x := (M i).natAbs) (y := (M j).natAbs) rfl
  rw [sgv_self, sgv_self] at esm
  have fin : ∀ s : Int32, (s = 0 ∨ s = 1) → sgv s ((M i).natAbs * (M j).natAbs) = M i * M j → ∃ h', zj_X11_times_174 r2 (nI m) s (ar n T) = some (ar n T, h') ∧ RV B n (d.tt (T + 1)) h' (va_up M T (M i * M j)) := by
    intro s hs he
    unfold zj_X11_times_174
    rw [o3.ck hT']
    simp only [Option.bind_some]
    obtain ⟨g3, e3, c3⟩ := o3.cls hT' hm100 hd hs
    rw [hv, he] at c3
    rw [e3]
    exact ⟨g3, rfl, c3⟩
  by_cases hq : (if M i < 0 then (1 : Int32) else 0) = (if M j < 0 then 1 else 0)
  · rw [if_pos hq]
    rw [if_pos hq] at esm
    exact fin 0 (Or.inl rfl) esm
  · rw [if_neg hq]
    rw [if_neg hq] at esm
    exact fin 1 (Or.inr rfl) esm
end Rtm
