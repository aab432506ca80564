/-! two rows being written; a digit's product is taken away, the divisor given back -/
theorem lN_w (a : Nat) : lN (a + 18446744073709551616) = lN a := by
  rw [← lN_add, show lN 18446744073709551616 = 0 by decide, Int64.add_zero]
theorem sshr64 {x D : Int64} {d : Nat} (hD : (D.toBitVec.smod 64).toNat = d) : (x >>> D).toInt = x.toInt >>> d := by
  rw [← hD]
  exact BitVec.toInt_sshiftRight ..
theorem sub64 {p s b : Nat} (hp : p < 65536) (hs : s ≤ 4294901760) (hb : b = (s - p + 65535) / 65536) :
    ((lN p - lN s) &&& (65535 : Int64)).toInt32 = nI (p + 65536 * b - s) ∧ -((lN p - lN s) >>> (((16 : Int32)).toInt64 &&& 63)) = lN b := by
  by_cases h : s ≤ p
  · have hb0 : b = 0 := by omega
    rw [lN_sub h, lmask _ (by omega), lshr16 (by omega), hb0, Nat.mod_eq_of_lt (show p - s < 65536 by omega), Nat.div_eq_of_lt (show p - s < 65536 by omega)]
    exact ⟨by rw [Nat.mul_zero, Nat.add_zero], by decide⟩
  · have hx : lN p - lN s = lN (p + 18446744073709551616 - s) := by rw [← lN_w p, lN_sub (by omega)]
    constructor
    · rw [hx, lmask _ (by omega)]
      congr 1
      omega
    · refine Int64.toInt_inj.mp ?_
      have hD : ((((16 : Int32)).toInt64 &&& 63).toBitVec.smod 64).toNat = 16 := by decide
      rw [Int64.toInt_neg, sshr64 hD, hx, lN_ti (by omega), if_neg (by omega), Int.shiftRight_eq_div_pow, pf_lI (by omega)]
      have e : ((p + 18446744073709551616 - s : Nat) : Int) - 2 ^ 64 = (p : Int) - s := by omega
      rw [e]
      have e2 : (2 : Int) ^ 16 = 65536 := by decide
      have e3 : ((p : Int) - s) / ((2 ^ 16 : Nat) : Int) = -(b : Int) := by
        show ((p : Int) - s) / 65536 = _
        omega
      rw [e3, Int.neg_neg]
      exact Int.bmod_eq_of_le (by omega) (by omega)
def RP (B : AH) (n : Nat) (d : RD) (h : AH) (M : Nat → Int) (U : Nat) (f : Nat → Int32) (W : Nat) (g : Nat → Int32) : Prop := ∃ σ, RW B n d h σ ∧ (σ U).1 = f ∧ (σ W).1 = g ∧ ∀ i, i < 317 → i ≠ U → i ≠ W → okX (σ i) (M i)
/-- the digits from j to j + N are digits -/
def okG (f : Nat → Int32) (j N : Nat) : Prop := ∀ y, y ≤ N → f (j + y) = nI (eF f (j + y)) ∧ eF f (j + y) < C16
section Rpp
variable {B h : AH} {n : Nat} {d d' : RD} {M : Nat → Int} {i j k N U W : Nat} {f g : Nat → Int32}
theorem RP.n_ (c : RP B n d h M U f W g) (hi : i < 317) (hU : i ≠ U) (hW : i ≠ W) : gI h (ar n i) 10 1 = some (nI (cs (M i).natAbs)) := by
  obtain ⟨σ, c, -, -, hσ⟩ := c
  rw [c.sz hi, (okX_at (hσ i hi hU hW)).1]
theorem RP.at (c : RP B n d h M U f W g) (hi : i < 317) (hU : i ≠ U) (hW : i ≠ W) (hk : k < cs (M i).natAbs) : aI h (ar n i + 1) 0 (nI k) = some (nI (PX (M i).natAbs k)) := by
  obtain ⟨σ, c, -, -, hσ⟩ := c
  have := (okX_at (hσ i hi hU hW)).2.1
  rw [c.at hi (by omega), (okX_at (hσ i hi hU hW)).2.2.1 k hk]
theorem RP.rw (c : RP B n d h M U f W g) (hi : i < 317) : gR h (ar n i) 10 2 = some (ar n i + 1) := by
  obtain ⟨σ, c, -, -, hσ⟩ := c
  exact c.rw hi
theorem RP.ck (c : RP B n d h M U f W g) (hi : i < 317) : chk h (ar n i) 10 = some () := by
  obtain ⟨σ, c, -, -, hσ⟩ := c
  exact c.ck hi
theorem RP.getU (c : RP B n d h M U f W g) (hU : U < 317) (hk : k < 100) : aI h (ar n U + 1) 0 (nI k) = some (f k) := by
  obtain ⟨σ, c, rfl, -, hσ⟩ := c
  exact c.at hU hk
theorem RP.putU (c : RP B n d h M U f W g) (hU : U < 317) (hne : U ≠ W) (hk : k < 100) (x : Int32) : ∃ h', sI h (ar n U + 1) 0 (nI k) x = some h' ∧ RP B n d h' M U (upd f k x) W g := by
  obtain ⟨σ, c, rfl, rfl, hσ⟩ := c
  obtain ⟨g, e1, c1⟩ := c.put hU hk x
  refine ⟨g, e1, _, c1, by rw [va_us], by rw [va_un (Ne.symm hne)], fun i hi h1 h2 => ?_⟩
  rw [va_un h1]
  exact hσ i hi h1 h2
theorem RP.putW (c : RP B n d h M U f W g) (hW : W < 317) (hne : U ≠ W) (hk : k < 100) (x : Int32) : ∃ h', sI h (ar n W + 1) 0 (nI k) x = some h' ∧ RP B n d h' M U f W (upd g k x) := by
  obtain ⟨σ, c, rfl, rfl, hσ⟩ := c
  obtain ⟨g, e1, c1⟩ := c.put hW hk x
  refine ⟨g, e1, _, c1, by rw [va_un hne], by rw [va_us], fun i hi h1 h2 => ?_⟩
  rw [va_un h2]
  exact hσ i hi h1 h2
theorem RP.clsW (c : RP B n d h M U f W g) (hW : W < 317) (hne : U ≠ W) {m : Nat} (hm : m ≤ 100) (hd : okD g m) {b : Int32} (hb : b = 0 ∨ b = 1) : ∃ h', zs_X10_of h (ar n W) b (nI m) = some (ar n W, h') ∧ RLo B n d h' (va_up M W (sgv b (vC (eF g) m))) U f := by
  obtain ⟨σ, c, rfl, rfl, hσ⟩ := c
  obtain ⟨g, w, e1, c1, hw⟩ := c.of_ hW hm (e := eF (σ W).1) hd b hb
  refine ⟨g, e1, _, c1, by rw [va_un hne], fun y hy hyU => ?_⟩
  by_cases e : y = W
  · subst e; rw [va_us, va_us]; exact hw
  · rw [va_un e, va_un e]; exact hσ y hy hyU e
theorem RLo.opn2 (c : RLo B n d h M U f) (W : Nat) : ∃ g, RP B n d h M U f W g := by
  obtain ⟨σ, c, e, hσ⟩ := c
  exact ⟨_, σ, c, e, rfl, fun i hi h1 _ => hσ i hi h1⟩
theorem RLo.main (c : RLo B n d h M U f) {k : Nat} {v : Value} (hk : k < 23) (hd : (rmain n d).set k v = rmain n d') (hq : d'.2.2.2.2 = d.2.2.2.2) : ∃ h', pV h n 11 k v = some h' ∧ RLo B n d' h' M U f := by
  obtain ⟨σ, c, e, hσ⟩ := c
  obtain ⟨g, e1, c1⟩ := c.main (d' := d') hk hd hq
  exact ⟨g, e1, σ, c1, e, hσ⟩
theorem RLo.take (c : RLo B n d h M U f) {T : Nat} (hT : d.top = nI T) (hl : T < 64) : ∃ h', zs_X11_take h n = some (ar n T, h') ∧ RLo B n (d.tt (T + 1)) h' M U f := by
  obtain ⟨σ, c, e, hσ⟩ := c
  obtain ⟨g, e1, c1⟩ := c.take hT hl
  exact ⟨g, e1, σ, c1, e, hσ⟩
theorem okG_up {t v : Nat} (h : okG f j N) (hv : v < C16) : okG (upd f (j + t) (nI v)) j N := by
  intro y hy
  by_cases e : y = t
  · subst e
    rw [eF_s f (j + y) hv, pk_us]
    exact ⟨rfl, hv⟩
  · rw [eF_n (by omega), pk_un (by omega)]
    exact h y hy
theorem sC_up {t m : Nat} (x : Int32) (hm : m ≤ t) : sC (eF (upd f (j + t) x)) j m = sC (eF f) j m := sC_congr (fun y hy => eF_n (by omega))
theorem RP.away (o : RP B n d h M U f W g) (hU : U < 317) (hne : U ≠ W) (hi : i < 317) (iU : i ≠ U) (iW : i ≠ W) {G : Nat} (hG : G < 65536) (hN : cs (M i).natAbs = N) (hj : j + N < 100) (hd : okG f j N) (w0 : Nat) (w3 w7 : Int32) (w8 : Nat) :
    ∃ (r : AH) (f' : Nat → Int32) (b : Nat), iter (fun q : AH × Int64 × Int32 => zb_X11_divideLong_245 w0 w3 (ar n i) (ar n U) (nI N) w7 w8 (nI j) (lN G) q.1 q.2.1 q.2.2) FU (h, (0 : Int64), (0 : Int32)) = some (r, lN b) ∧ RP B n d r M U f' W g ∧ b < 65536 ∧ okG f' j N ∧ (∀ x, (x < j ∨ j + N < x) → f' x = f x) ∧ sC (eF f') j (N + 1) + G * (M i).natAbs = sC (eF f) j (N + 1) + b * C16 ^ (N + 1) := by
  have eV := vC_PXs (v := (M i).natAbs) (m := N + 1) (by omega)
  obtain ⟨r, hr, f', b, q0, q1, q2, q3, q4, q5⟩ := iter_FU (B := fun q : AH × Int64 × Int32 => zb_X11_divideLong_245 w0 w3 (ar n i) (ar n U) (nI N) w7 w8 (nI j) (lN G) q.1 q.2.1 q.2.2)
    (fun t s => s.2.2 = nI t ∧ ∃ (f' : Nat → Int32) (b : Nat), s.2.1 = lN b ∧ RP B n d s.1 M U f' W g ∧ b < 65536 ∧ okG f' j N ∧ (∀ x, (x < j ∨ j + t ≤ x) → f' x = f x) ∧ sC (eF f') j t + G * vC (PX (M i).natAbs) t = sC (eF f) j t + b * C16 ^ t)
    (fun r => ∃ (f' : Nat → Int32) (b : Nat), r.2 = lN b ∧ RP B n d r.1 M U f' W g ∧ b < 65536 ∧ okG f' j N ∧ (∀ x, (x < j ∨ j + N < x) → f' x = f x) ∧ sC (eF f') j (N + 1) + G * (M i).natAbs = sC (eF f) j (N + 1) + b * C16 ^ (N + 1))
    (N + 1) (by omega) (s := (h, (0 : Int64), (0 : Int32))) ⟨rfl, f, 0, rfl, o, by decide, hd, fun _ _ => rfl, by show 0 + G * 0 = 0 + 0 * _; rw [Nat.mul_zero, Nat.zero_mul]⟩ (by
    rintro t ⟨s, bw, iv⟩ ht ⟨hiv, f', b, hbw, o', hb, hd', hk', hv⟩
    dsimp only at hiv hbw o' ⊢
    subst hiv
    subst hbw
    unfold zb_X11_divideLong_245
    by_cases hlt : t < N + 1
    · rw [if_neg (nI_nlt (by omega) (by omega)), o'.rw hU]
      simp only [Option.bind_some]
      have hp := hd' t (by omega)
      have l1 := C16_31 hp.2
      have pb := PX_31 (M i).natAbs t
      rw [nI_add, o'.getU hU (by omega), hp.1]
      simp only [Option.bind_some]
      rw [nI_l (by omega)]
      have key : ∃ q, zj_X11_divideLong_290 w0 w3 (ar n i) (ar n U) (nI N) w7 w8 (nI j) (lN G) s (nI t) (lN (G * PX (M i).natAbs t)) (lN (eF f' (j + t)) - lN b) = some q ∧ (∀ s', q = Sum.inl s' → t < N + 1 ∧ s'.2.2 = nI (t + 1) ∧ ∃ (f' : Nat → Int32) (b : Nat), s'.2.1 = lN b ∧ RP B n d s'.1 M U f' W g ∧ b < 65536 ∧ okG f' j N ∧ (∀ x, (x < j ∨ j + (t + 1) ≤ x) → f' x = f x) ∧ sC (eF f') j (t + 1) + G * vC (PX (M i).natAbs) (t + 1) = sC (eF f) j (t + 1) + b * C16 ^ (t + 1)) ∧ (∀ r, q = Sum.inr r → ∃ (f' : Nat → Int32) (b : Nat), r.2 = lN b ∧ RP B n d r.1 M U f' W g ∧ b < 65536 ∧ okG f' j N ∧ (∀ x, (x < j ∨ j + N < x) → f' x = f x) ∧ sC (eF f') j (N + 1) + G * (M i).natAbs = sC (eF f) j (N + 1) + b * C16 ^ (N + 1)) := by
        have lg : G * PX (M i).natAbs t ≤ 65535 * 65535 := Nat.mul_le_mul (by omega) (by omega)
        obtain ⟨b', hb'⟩ : ∃ b', b' = (b + G * PX (M i).natAbs t - eF f' (j + t) + 65535) / 65536 := ⟨_, rfl⟩
        obtain ⟨s1, s2⟩ := sub64 (p := eF f' (j + t)) (s := b + G * PX (M i).natAbs t) (b := b') l1 (by omega) hb'
        obtain ⟨v, hvv⟩ : ∃ v, v = eF f' (j + t) + 65536 * b' - (b + G * PX (M i).natAbs t) := ⟨_, rfl⟩
        have hv16 : v < C16 := by show v < 65536; omega
        unfold zj_X11_divideLong_290
        simp only [lt_]
        rw [Int64.sub_sub, lN_add, o'.rw hU, nI_add, s1, s2, ← hvv]
        simp only [Option.bind_some]
        obtain ⟨g2, e2, o3⟩ := o'.putU hU hne (show j + t < 100 by omega) (nI v)
        rw [e2]
        simp only [Option.bind_some]
        refine ⟨_, rfl, fun s' hs' => ?_, fun r hr => by (cases hr)⟩
        obtain rfl := Sum.inl.inj hs'
        refine ⟨hlt, nI_1 t, _, b', rfl, o3, by omega, okG_up hd' hv16, fun x hx => ?_, ?_⟩
        · rw [pk_un (by omega)]
          exact hk' x (by omega)
        · rw [sC_s, sC_s, sC_up _ (Nat.le_refl t), eF_s f' (j + t) hv16, C16_s]
          show _ + G * (vC (PX (M i).natAbs) t + PX (M i).natAbs t * C16 ^ t) = _
          have hq : v + (b + G * PX (M i).natAbs t) = eF f' (j + t) + b' * 65536 := by omega
          have hff : eF f' (j + t) = eF f (j + t) := by unfold eF; rw [hk' (j + t) (Or.inr (Nat.le_refl _))]
          rw [hff] at hq
          have hm := congrArg (· * C16 ^ t) hq
          simp only [Nat.add_mul] at hm
          rw [Nat.mul_assoc, Nat.mul_assoc] at hm
          rw [Nat.mul_add]
          omega
      by_cases hb2 : t < N
      · rw [if_neg (nI_ge hb2 (by omega)), o'.rw hi]
        simp only [Option.bind_some]
        rw [o'.at hi iU iW (by omega)]
        simp only [Option.bind_some]
        rw [nI_l (by omega), lN_mul]
        exact key
      · rw [if_pos (nI_le (by omega) (by omega))]
        have h0 : (0 : Int64) = lN (G * PX (M i).natAbs t) := by rw [PX_hi (v := (M i).natAbs) (k := t) (by omega), Nat.mul_zero]; rfl
        rw [h0]
        exact key
    · rw [if_pos (nI_lt (by omega) (by omega))]
      refine ⟨_, rfl, fun s' hs => by (cases hs), fun r hr => ?_⟩
      obtain rfl := Sum.inr.inj hr
      have e : t = N + 1 := by omega
      subst e
      rw [eV] at hv
      exact ⟨f', b, rfl, o', hb, hd', fun x hx => hk' x (by omega), hv⟩)
  obtain ⟨r1, r2⟩ := r
  dsimp only at q0 q1
  subst q0
  exact ⟨r1, f', b, hr, q1, q2, q3, q4, q5⟩
theorem RP.back (o : RP B n d h M U f W g) (hU : U < 317) (hne : U ≠ W) (hi : i < 317) (iU : i ≠ U) (iW : i ≠ W) (hN : cs (M i).natAbs = N) (hj : j + N < 100) (hd : okG f j N) (w0 : Nat) (w3 w7 : Int32) (w8 : Nat) (w12 : Int64) :
    ∃ (r : AH) (f' : Nat → Int32) (b : Nat), iter (fun q : AH × Int32 × Int32 => zb_X11_divideLong_344 w0 w3 (ar n i) (ar n U) (nI N) w7 w8 (nI j) w12 q.1 q.2.1 q.2.2) FU (h, (0 : Int32), (0 : Int32)) = some r ∧ RP B n d r M U f' W g ∧ okG f' j N ∧ (∀ x, (x < j ∨ j + N < x) → f' x = f x) ∧ sC (eF f') j (N + 1) + b * C16 ^ (N + 1) = sC (eF f) j (N + 1) + (M i).natAbs := by
  have eV := vC_PXs (v := (M i).natAbs) (m := N + 1) (by omega)
  obtain ⟨r, hr, f', b, q1, q3, q4, q5⟩ := iter_FU (B := fun q : AH × Int32 × Int32 => zb_X11_divideLong_344 w0 w3 (ar n i) (ar n U) (nI N) w7 w8 (nI j) w12 q.1 q.2.1 q.2.2)
    (fun t s => s.2.2 = nI t ∧ ∃ (f' : Nat → Int32) (b : Nat), s.2.1 = nI b ∧ RP B n d s.1 M U f' W g ∧ b ≤ 1 ∧ okG f' j N ∧ (∀ x, (x < j ∨ j + t ≤ x) → f' x = f x) ∧ sC (eF f') j t + b * C16 ^ t = sC (eF f) j t + vC (PX (M i).natAbs) t)
    (fun r => ∃ (f' : Nat → Int32) (b : Nat), RP B n d r M U f' W g ∧ okG f' j N ∧ (∀ x, (x < j ∨ j + N < x) → f' x = f x) ∧ sC (eF f') j (N + 1) + b * C16 ^ (N + 1) = sC (eF f) j (N + 1) + (M i).natAbs)
    (N + 1) (by omega) (s := (h, (0 : Int32), (0 : Int32))) ⟨rfl, f, 0, rfl, o, by decide, hd, fun _ _ => rfl, by show 0 + 0 * _ = 0 + 0; rw [Nat.zero_mul]⟩ (by
    rintro t ⟨s, bw, iv⟩ ht ⟨hiv, f', b, hbw, o', hb, hd', hk', hv⟩
    dsimp only at hiv hbw o' ⊢
    subst hiv
    subst hbw
    unfold zb_X11_divideLong_344
    by_cases hlt : t < N + 1
    · rw [if_neg (nI_nlt (by omega) (by omega)), o'.rw hU]
      simp only [Option.bind_some]
      have hp := hd' t (by omega)
      have l1 := C16_31 hp.2
      have pb := PX_31 (M i).natAbs t
      rw [nI_add, o'.getU hU (by omega), hp.1]
      simp only [Option.bind_some]
      have key : ∃ q, zj_X11_divideLong_384 w0 w3 (ar n i) (ar n U) (nI N) w7 w8 (nI j) w12 s (nI t) (nI (PX (M i).natAbs t)) (nI (eF f' (j + t)) + nI b) = some q ∧ (∀ s', q = Sum.inl s' → t < N + 1 ∧ s'.2.2 = nI (t + 1) ∧ ∃ (f' : Nat → Int32) (b : Nat), s'.2.1 = nI b ∧ RP B n d s'.1 M U f' W g ∧ b ≤ 1 ∧ okG f' j N ∧ (∀ x, (x < j ∨ j + (t + 1) ≤ x) → f' x = f x) ∧ sC (eF f') j (t + 1) + b * C16 ^ (t + 1) = sC (eF f) j (t + 1) + vC (PX (M i).natAbs) (t + 1)) ∧ (∀ r, q = Sum.inr r → ∃ (f' : Nat → Int32) (b : Nat), RP B n d r M U f' W g ∧ okG f' j N ∧ (∀ x, (x < j ∨ j + N < x) → f' x = f x) ∧ sC (eF f') j (N + 1) + b * C16 ^ (N + 1) = sC (eF f) j (N + 1) + (M i).natAbs) := by
        obtain ⟨v, hvv⟩ : ∃ v, v = eF f' (j + t) + b + PX (M i).natAbs t := ⟨_, rfl⟩
        have hv16 : v % 65536 < C16 := Nat.mod_lt _ (by decide)
        unfold zj_X11_divideLong_384
        simp only [lt_]
        rw [nI_add, nI_add, o'.rw hU, nI_add, ← hvv, nx_mod, pk_shrN (by omega) _ 16 (by decide)]
        simp only [Option.bind_some]
        obtain ⟨g2, e2, o3⟩ := o'.putU hU hne (show j + t < 100 by omega) (nI (v % 65536))
        rw [e2]
        simp only [Option.bind_some]
        refine ⟨_, rfl, fun s' hs' => ?_, fun r hr => by (cases hr)⟩
        obtain rfl := Sum.inl.inj hs'
        refine ⟨hlt, nI_1 t, _, v / 65536, rfl, o3, by omega, okG_up hd' hv16, fun x hx => ?_, ?_⟩
        · rw [pk_un (by omega)]
          exact hk' x (by omega)
        · rw [sC_s, sC_s, sC_up _ (Nat.le_refl t), eF_s f' (j + t) hv16, C16_s]
          show _ = _ + (vC (PX (M i).natAbs) t + PX (M i).natAbs t * C16 ^ t)
          have hff : eF f' (j + t) = eF f (j + t) := by unfold eF; rw [hk' (j + t) (Or.inr (Nat.le_refl _))]
          have hq : v % 65536 + v / 65536 * 65536 = eF f (j + t) + b + PX (M i).natAbs t := by omega
          have hm := congrArg (· * C16 ^ t) hq
          simp only [Nat.add_mul] at hm
          rw [Nat.mul_assoc] at hm
          omega
      by_cases hb2 : t < N
      · rw [if_neg (nI_ge hb2 (by omega)), o'.rw hi]
        simp only [Option.bind_some]
        rw [o'.at hi iU iW (by omega)]
        simp only [Option.bind_some]
        exact key
      · rw [if_pos (nI_le (by omega) (by omega))]
        have h0 : (0 : Int32) = nI (PX (M i).natAbs t) := by rw [PX_hi (v := (M i).natAbs) (k := t) (by omega)]; rfl
        rw [h0]
        exact key
    · rw [if_pos (nI_lt (by omega) (by omega))]
      refine ⟨_, rfl, fun s' hs => by (cases hs), fun r hr => ?_⟩
      obtain rfl := Sum.inr.inj hr
      have e : t = N + 1 := by omega
      subst e
      rw [eV] at hv
      exact ⟨f', b, o', hd', fun x hx => hk' x (by omega), hv⟩)
  exact ⟨r, f', b, hr, q1, q3, q4, q5⟩
end Rpp
