/-! a digit of the quotient -/
section Rdg
variable {B h : AH} {n : Nat} {d : RD} {M : Nat → Int} {i j k U W : Nat} {f g : Nat → Int32}
theorem RP.guess (o : RP B n d h M U f W g) (hU : U < 317) (hi : i < 317) (iU : i ≠ U) (iW : i ≠ W) (hN : cs (M i).natAbs = k + 2) (hj : j + (k + 2) < 100) (hd : okG f j (k + 2)) {q0 r0 : Nat} (hg : 0 < PX (M i).natAbs (k + 1))
    (hq : gmC (PX (M i).natAbs (k + 1)) (PX (M i).natAbs k) (eF f (j + (k + 2))) (eF f (j + (k + 1))) (eF f (j + k)) ≤ q0) (hq2 : q0 ≤ 65535) (hr : q0 * PX (M i).natAbs (k + 1) + r0 = eF f (j + (k + 2)) * C16 + eF f (j + (k + 1))) (w0 : Nat) (w3 w7 : Int32) (w8 : Nat) :
    iter (fun q : Int64 × Int64 => zb_X11_divideLong_167 h w0 w3 (ar n i) (ar n U) (nI (k + 2)) w7 w8 (nI j) q.1 q.2) FU (lN q0, lN r0) = some (lN (gmC (PX (M i).natAbs (k + 1)) (PX (M i).natAbs k) (eF f (j + (k + 2))) (eF f (j + (k + 1))) (eF f (j + k)))) := by
  have l0 := C16_31 (hd (k + 2) (by omega)).2
  have l1 := C16_31 (hd (k + 1) (by omega)).2
  have l2 := C16_31 (hd k (by omega)).2
  have p1 := PX_31 (M i).natAbs (k + 1)
  have p2 := PX_31 (M i).natAbs k
  obtain ⟨g1, eg1⟩ : ∃ g1, g1 = PX (M i).natAbs (k + 1) := ⟨_, rfl⟩
  obtain ⟨g2, eg2⟩ : ∃ g2, g2 = PX (M i).natAbs k := ⟨_, rfl⟩
  obtain ⟨u0, eu0⟩ : ∃ u0, u0 = eF f (j + (k + 2)) := ⟨_, rfl⟩
  obtain ⟨u1, eu1⟩ : ∃ u1, u1 = eF f (j + (k + 1)) := ⟨_, rfl⟩
  obtain ⟨u2, eu2⟩ : ∃ u2, u2 = eF f (j + k) := ⟨_, rfl⟩
  rw [← eg1] at hg p1
  rw [← eg2] at p2
  rw [← eu0] at l0
  rw [← eu1] at l1
  rw [← eu2] at l2
  rw [← eg1, ← eg2, ← eu0, ← eu1, ← eu2] at hq
  rw [← eg1, ← eu0, ← eu1] at hr
  rw [← eg1, ← eg2, ← eu0, ← eu1, ← eu2]
  have e1 : nI (k + 2) - (1 : Int32) = nI (k + 1) := nI_pred (k + 1)
  have e2 : nI (k + 2) - (2 : Int32) = nI k := by rw [show (2 : Int32) = nI 2 from rfl, pk_sub (by omega)]; rfl
  have e4 : nI (j + (k + 2)) - (2 : Int32) = nI (j + k) := by rw [show (2 : Int32) = nI 2 from rfl, pk_sub (by omega)]; rfl
  have hC : C16 = 65536 := rfl
  obtain ⟨z, hz, hzz⟩ := iter_ms (B := fun q : Int64 × Int64 => zb_X11_divideLong_167 h w0 w3 (ar n i) (ar n U) (nI (k + 2)) w7 w8 (nI j) q.1 q.2)
    (fun s => ∃ q r, s = (lN q, lN r) ∧ gmC g1 g2 u0 u1 u2 ≤ q ∧ q ≤ 65535 ∧ q * g1 + r = u0 * C16 + u1)
    (fun s => uN s.1)
    (fun r => r = lN (gmC g1 g2 u0 u1 u2)) (by
    rintro s ⟨q, r, rfl, c1, c2, c3⟩
    dsimp only
    unfold zb_X11_divideLong_167
    have hh : u0 * C16 ≤ 65535 * 65536 := Nat.mul_le_mul (by omega) (by omega)
    have hrb : r < 2 ^ 33 := by omega
    have hiff := q3_iffC (g2 := g2) (u2 := u2) hg c3
    have hqg : q * g2 ≤ 65535 * 65535 := Nat.mul_le_mul c2 (by omega)
    have stop : q ≤ gmC g1 g2 u0 u1 u2 → lN q = lN (gmC g1 g2 u0 u1 u2) := fun e => by rw [show q = gmC g1 g2 u0 u1 u2 by omega]
    by_cases hbig : 65536 ≤ r
    · rw [if_pos (show (65536 : Int64) ≤ lN r from (pk_lLE (a := 65536) (by decide) (by omega)).mpr hbig)]
      refine ⟨_, rfl, fun s' hs => by (cases hs), fun x hx => ?_⟩
      obtain rfl := Sum.inr.inj hx
      refine stop (gm_geC (hiff.mp ?_) c2)
      have : 65536 * 65536 ≤ r * C16 := Nat.mul_le_mul hbig (by omega)
      omega
    · rw [if_neg (show ¬ (65536 : Int64) ≤ lN r from fun e => hbig ((pk_lLE (a := 65536) (by decide) (by omega)).mp e)), o.rw hi]
      simp only [Option.bind_some]
      rw [e2, o.at hi iU iW (by omega), o.rw hU, nI_add, e4]
      simp only [Option.bind_some]
      rw [o.getU hU (by omega), (hd k (by omega)).1, ← eg2, ← eu2]
      simp only [Option.bind_some]
      rw [nI_l (by omega), nI_l (by omega), lN_mul, lcat (by omega) l2]
      by_cases hle : q * g2 ≤ r * 65536 + u2
      · rw [if_pos ((pk_lLE (by omega) (by omega)).mpr hle)]
        refine ⟨_, rfl, fun s' hs => by (cases hs), fun x hx => ?_⟩
        obtain rfl := Sum.inr.inj hx
        exact stop (gm_geC (hiff.mp hle) c2)
      · rw [if_neg (fun e => hle ((pk_lLE (by omega) (by omega)).mp e))]
        simp only [lt_]
        rw [e1, o.at hi iU iW (by omega), ← eg1]
        simp only [Option.bind_some]
        rw [nI_l (by omega), lN_add]
        have hgt : gmC g1 g2 u0 u1 u2 < q := by
          rcases Nat.lt_or_ge (gmC g1 g2 u0 u1 u2) q with e | e
          · exact e
          · exact absurd (hiff.mpr (Nat.le_trans e gm_le3C)) hle
        refine ⟨_, rfl, fun s' hs => ?_, fun x hx => by (cases hx)⟩
        obtain rfl := Sum.inl.inj hs
        have es : lN q - (1 : Int64) = lN (q - 1) := lN_sub (b := 1) (by omega)
        rw [es]
        refine ⟨⟨q - 1, r + g1, rfl, by omega, by omega, ?_⟩, ?_⟩
        · obtain ⟨q', hq'⟩ : ∃ q', q = q' + 1 := ⟨q - 1, by omega⟩
          rw [← c3, hq', Nat.add_sub_cancel, Nat.add_mul, Nat.one_mul]
          omega
        · show uN (lN (q - 1)) < uN (lN q)
          rw [uN_lN (by omega), uN_lN (by omega)]
          omega) (s := (lN q0, lN r0)) ⟨q0, r0, rfl, hq, hq2, hr⟩ (by show uN (lN q0) < _; rw [uN_lN (by omega)]; omega)
  rw [hz, hzz]
theorem RP.digit (o : RP B n d h M U f W g) (hU : U < 317) (hW : W < 317) (hne : U ≠ W) (hi : i < 317) (iU : i ≠ U) (iW : i ≠ W) (hN : cs (M i).natAbs = k + 2) (hj : j + (k + 2) < 100) (hd : okG f j (k + 2)) (hn : 65536 ≤ 2 * PX (M i).natAbs (k + 1)) (hlt : sC (eF f) (j + 1) (k + 2) < (M i).natAbs) (w0 : Nat) (w3 w7 : Int32) :
    ∃ (r : AH) (f' : Nat → Int32), zb_X11_divideLong_89 w0 w3 (ar n i) (ar n U) (nI (k + 2)) w7 (ar n W) h (nI j) = some (Sum.inl (r, nI j + (-1 : Int32))) ∧ RP B n d r M U f' W (upd g j (nI (sC (eF f) j (k + 3) / (M i).natAbs))) ∧ okG f' j (k + 2) ∧ (∀ x, (x < j ∨ j + (k + 2) < x) → f' x = f x) ∧ sC (eF f') j (k + 3) = sC (eF f) j (k + 3) % (M i).natAbs ∧ sC (eF f) j (k + 3) / (M i).natAbs < C16 := by
  have l0 := C16_31 (hd (k + 2) (by omega)).2
  have l1 := C16_31 (hd (k + 1) (by omega)).2
  have l2 := C16_31 (hd k (by omega)).2
  have p1 := PX_31 (M i).natAbs (k + 1)
  have p2 := PX_31 (M i).natAbs k
  have hC : C16 = 65536 := rfl
  have hD : 0 < (M i).natAbs := by omega
  have eV := vC_PXs (v := (M i).natAbs) (m := k + 2) (by omega)
  have hVl : (M i).natAbs < C16 ^ (k + 2) := by have := cs_lt (M i).natAbs; rw [hN] at this; exact this
  have hVlt : (M i).natAbs < C16 ^ (k + 3) := by
    have h2 : C16 ^ (k + 2) ≤ C16 ^ (k + 3) := Nat.pow_le_pow_right (by decide) (by omega)
    omega
  have hlo := sC_lo (eF f) j (k + 2)
  have f0 := (hd 0 (by omega)).2
  rw [Nat.add_zero] at f0
  have hQB : sC (eF f) j (k + 3) / (M i).natAbs < C16 := by
    rw [Nat.div_lt_iff_lt_mul hD]
    have h1 : C16 * (sC (eF f) (j + 1) (k + 2) + 1) ≤ C16 * (M i).natAbs := Nat.mul_le_mul_left _ hlt
    rw [Nat.mul_add, Nat.mul_one] at h1
    have h2 : sC (eF f) j (k + 3) = eF f j + C16 * sC (eF f) (j + 1) (k + 2) := hlo
    omega
  have hu : eF f (j + (k + 2)) ≤ PX (M i).natAbs (k + 1) := by
    have h1 := top_leC (d := fun x => eF f (j + 1 + x)) (e := PX (M i).natAbs) (k := k + 1) (fun x _ => PX_lt _ x) (by
      have h3 : vC (PX (M i).natAbs) (k + 1 + 1) = (M i).natAbs := eV
      rw [h3]
      exact hlt)
    rw [show j + 1 + (k + 1) = j + (k + 2) by omega] at h1
    exact h1
  have hU3 : sC (eF f) j (k + 3) = ((eF f (j + (k + 2)) * C16 + eF f (j + (k + 1))) * C16 + eF f (j + k)) * C16 ^ k + sC (eF f) j k := by
    have c1 : C16 ^ (k + 1) = C16 * C16 ^ k := by rw [Nat.pow_succ, Nat.mul_comm]
    have c2 : C16 ^ (k + 2) = C16 * (C16 * C16 ^ k) := by rw [Nat.pow_succ, Nat.mul_comm, c1]
    rw [sC_s, sC_s, sC_s, c1, c2]
    simp only [Nat.add_mul, Nat.mul_assoc]
    omega
  have hDd : (M i).natAbs = (PX (M i).natAbs (k + 1) * C16 + PX (M i).natAbs k) * C16 ^ k + vC (PX (M i).natAbs) k := by
    have h3 : vC (PX (M i).natAbs) k + PX (M i).natAbs k * C16 ^ k + PX (M i).natAbs (k + 1) * C16 ^ (k + 1) = (M i).natAbs := eV
    rw [Nat.pow_succ, Nat.mul_comm (C16 ^ k)] at h3
    rw [Nat.add_mul, Nat.mul_assoc]
    omega
  have hgq := gm_quotC hn (PX_lt _ k) hU3 (sC_lt (fun x hx => (hd x (by omega)).2)) hDd (vC_lt (fun x _ => PX_lt _ x)) hQB
  have hqm := gm_q0C (g2 := PX (M i).natAbs k) (u0 := eF f (j + (k + 2))) (u1 := eF f (j + (k + 1))) (u2 := eF f (j + k)) hn
  replace hqm := hqm.resolve_right (fun e => e l2)
  have hgB := gm_leBC (g1 := PX (M i).natAbs (k + 1)) (g2 := PX (M i).natAbs k) (u0 := eF f (j + (k + 2))) (u1 := eF f (j + (k + 1))) (u2 := eF f (j + k))
  have hg0 : 0 < PX (M i).natAbs (k + 1) := by omega
  obtain ⟨G, hG⟩ : ∃ G, G = gmC (PX (M i).natAbs (k + 1)) (PX (M i).natAbs k) (eF f (j + (k + 2))) (eF f (j + (k + 1))) (eF f (j + k)) := ⟨_, rfl⟩
  obtain ⟨H, hH⟩ : ∃ H, H = eF f (j + (k + 2)) * C16 + eF f (j + (k + 1)) := ⟨_, rfl⟩
  obtain ⟨q0, hq0⟩ : ∃ q0, q0 = if H / PX (M i).natAbs (k + 1) < 65535 then H / PX (M i).natAbs (k + 1) else 65535 := ⟨_, rfl⟩
  have hh : eF f (j + (k + 2)) * C16 ≤ 65535 * 65536 := Nat.mul_le_mul (by omega) (by omega)
  have hHb : H < 2 ^ 32 := by omega
  have hq0b : q0 ≤ 65535 := by rw [hq0]; split <;> omega
  have hq0d : q0 ≤ H / PX (M i).natAbs (k + 1) := by rw [hq0]; split <;> omega
  have hq0g : G ≤ q0 := by
    rw [← hG, ← hH] at hqm
    rw [← hG] at hgB
    rw [hq0]
    split <;> omega
  have hq0m : q0 * PX (M i).natAbs (k + 1) ≤ H := (Nat.le_div_iff_mul_le hg0).mp hq0d
  have hgs := o.guess hU hi iU iW hN hj hd (q0 := q0) (r0 := H - q0 * PX (M i).natAbs (k + 1)) hg0 (by rw [← hG]; exact hq0g) hq0b (by rw [← hH]; omega) w0 w3 w7 (ar n W)
  rw [← hG] at hgs hgq
  have e1 : nI (k + 2) - (1 : Int32) = nI (k + 1) := nI_pred (k + 1)
  have e3 : nI (j + (k + 2)) - (1 : Int32) = nI (j + (k + 1)) := nI_pred (j + (k + 1))
  unfold zb_X11_divideLong_89
  rw [if_neg (nI_pos (by omega)), o.rw hU, o.rw hi, nI_add, e1, e3]
  simp only [Option.bind_some]
  rw [o.getU hU (by omega), o.getU hU (by omega), (hd (k + 2) (by omega)).1, (hd (k + 1) (by omega)).1, o.at hi iU iW (by omega)]
  simp only [Option.bind_some, lt_]
  rw [nI_l (by omega), nI_l (by omega), nI_l (by omega), lcat (by omega) l1]
  have hH2 : eF f (j + (k + 2)) * 65536 + eF f (j + (k + 1)) = H := by rw [hH]; rfl
  rw [hH2]
  have hnz : nzl (lN (PX (M i).natAbs (k + 1))) = some () := by
    unfold nzl
    rw [if_neg (fun e => by
      have := (pk_lEQ (a := PX (M i).natAbs (k + 1)) (b := 0) (by omega) (by decide)).mp e
      omega)]
  rw [hnz]
  simp only [Option.bind_some]
  have hmin : (if lN H / lN (PX (M i).natAbs (k + 1)) < (65535 : Int64) then lN H / lN (PX (M i).natAbs (k + 1)) else (65535 : Int64)) = lN q0 := by
    have hdl : H / PX (M i).natAbs (k + 1) ≤ H := Nat.div_le_self _ _
    rw [pk_lDiv (by omega) hg0 (by omega), hq0]
    by_cases hc : H / PX (M i).natAbs (k + 1) < 65535
    · rw [if_pos (show lN (H / PX (M i).natAbs (k + 1)) < (65535 : Int64) from (pk_lLT (b := 65535) (by omega) (by decide)).mpr hc), if_pos hc]
    · rw [if_neg (show ¬ lN (H / PX (M i).natAbs (k + 1)) < (65535 : Int64) from fun e => hc ((pk_lLT (b := 65535) (by omega) (by decide)).mp e)), if_neg hc]
      rfl
  rw [hmin, lN_mul, lN_sub hq0m, hgs]
  simp only [Option.bind_some]
  obtain ⟨r1, f1, b, er1, o1, hb, d1, k1, v1⟩ := o.away hU hne hi iU iW (G := G) (by rw [← hG] at hgB; omega) hN hj hd w0 w3 w7 (ar n W)
  rw [er1]
  simp only [Option.bind_some]
  have hdm := Nat.div_add_mod (sC (eF f) j (k + 3)) (M i).natAbs
  have hml := Nat.mod_lt (sC (eF f) j (k + 3)) hD
  have s1l : sC (eF f1) j (k + 3) < C16 ^ (k + 3) := sC_lt (fun x hx => (d1 x (by omega)).2)
  have v1' : sC (eF f1) j (k + 3) + G * (M i).natAbs = sC (eF f) j (k + 3) + b * C16 ^ (k + 3) := v1
  obtain ⟨Q, hQ⟩ : ∃ Q, Q = sC (eF f) j (k + 3) / (M i).natAbs := ⟨_, rfl⟩
  rw [← hQ] at hgq hdm hQB ⊢
  have fin : ∀ (g2 : AH) (f2 : Nat → Int32) (G2 : Nat), RP B n d g2 M U f2 W g → G2 = Q → okG f2 j (k + 2) → (∀ x, (x < j ∨ j + (k + 2) < x) → f2 x = f x) → sC (eF f2) j (k + 3) = sC (eF f) j (k + 3) % (M i).natAbs → ∃ (r : AH) (f' : Nat → Int32), zj_X11_divideLong_416 w0 w3 (ar n i) (ar n U) (nI (k + 2)) w7 (ar n W) g2 (nI j) (lN G2) = some (Sum.inl (r, nI j + (-1 : Int32))) ∧ RP B n d r M U f' W (upd g j (nI Q)) ∧ okG f' j (k + 2) ∧ (∀ x, (x < j ∨ j + (k + 2) < x) → f' x = f x) ∧ sC (eF f') j (k + 3) = sC (eF f) j (k + 3) % (M i).natAbs ∧ Q < C16 := by
    intro g2 f2 G2 o2 hG2 d2 k2 s2
    unfold zj_X11_divideLong_416
    rw [o2.rw hW, lN_i, hG2]
    simp only [Option.bind_some]
    obtain ⟨g3, e5, o3⟩ := o2.putW hW hne (show j < 100 by omega) (nI Q)
    rw [e5]
    exact ⟨g3, f2, rfl, o3, d2, k2, s2, hQB⟩
  have hcases : G = Q ∨ G = Q + 1 := by omega
  have hQV : (Q + 1) * (M i).natAbs = (M i).natAbs * Q + (M i).natAbs := by rw [Nat.add_mul, Nat.one_mul, Nat.mul_comm]
  by_cases hb0 : b = 0
  · rw [if_pos (by rw [hb0]; rfl)]
    rw [hb0, Nat.zero_mul] at v1'
    have hGQ : G = Q := by
      rcases hcases with e | e
      · exact e
      · exfalso
        rw [e, hQV] at v1'
        omega
    refine fin r1 f1 G o1 hGQ d1 k1 ?_
    rw [hGQ, Nat.mul_comm] at v1'
    omega
  · rw [if_neg (show ¬ lN b = (0 : Int64) from fun e => hb0 ((pk_lEQ (b := 0) (by omega) (by decide)).mp e))]
    have hbC : 1 * C16 ^ (k + 3) ≤ b * C16 ^ (k + 3) := Nat.mul_le_mul_right _ (by omega)
    have hGQ : G = Q + 1 := by
      rcases hcases with e | e
      · exfalso
        rw [e, Nat.mul_comm] at v1'
        omega
      · exact e
    have es : lN G - (1 : Int64) = lN (G - 1) := lN_sub (b := 1) (by omega)
    rw [es]
    obtain ⟨r2, f2, c, er2, o2, d2, k2, v2⟩ := o1.back hU hne hi iU iW hN hj d1 w0 w3 w7 (ar n W) (lN (G - 1))
    rw [er2]
    simp only [Option.bind_some]
    refine fin r2 f2 (G - 1) o2 (by omega) d2 (fun x hx => (k2 x hx).trans (k1 x hx)) ?_
    have v2' : sC (eF f2) j (k + 3) + c * C16 ^ (k + 3) = sC (eF f1) j (k + 3) + (M i).natAbs := v2
    have s2l : sC (eF f2) j (k + 3) < C16 ^ (k + 3) := sC_lt (fun x hx => (d2 x (by omega)).2)
    rw [hGQ, hQV] at v1'
    have hz : sC (eF f2) j (k + 3) + c * C16 ^ (k + 3) = sC (eF f) j (k + 3) % (M i).natAbs + b * C16 ^ (k + 3) := by omega
    have hcb : c = b := by
      rcases Nat.lt_trichotomy c b with e | e | e
      · exfalso
        have : (c + 1) * C16 ^ (k + 3) ≤ b * C16 ^ (k + 3) := Nat.mul_le_mul_right _ e
        rw [Nat.add_mul, Nat.one_mul] at this
        omega
      · exact e
      · exfalso
        have : (b + 1) * C16 ^ (k + 3) ≤ c * C16 ^ (k + 3) := Nat.mul_le_mul_right _ e
        rw [Nat.add_mul, Nat.one_mul] at this
        omega
    rw [hcb] at hz
    omega
end Rdg
