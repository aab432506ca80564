/-! the reference's long division -/
def RD.dz (d : RD) (n Q R T : Nat) : RD := (d.set2 (.ref (ar n Q)) (.ref (ar n R))).tt T
section Rdl
variable {B h : AH} {n : Nat} {d : RD} {M : Nat → Int} {i j k m U W T : Nat} {f g : Nat → Int32}
theorem RP.divLoop (o : RP B n d h M U f W g) (hU : U < 317) (hW : W < 317) (hne : U ≠ W) (hi : i < 317) (iU : i ≠ U) (iW : i ≠ W) (hN : cs (M i).natAbs = k + 2) (hmk : m + (k + 2) < 100) (hd : okD f (m + (k + 2) + 1)) (hn : 65536 ≤ 2 * PX (M i).natAbs (k + 1)) (h0 : sC (eF f) (m + 1) (k + 2) < (M i).natAbs) (w0 : Nat) (w3 w7 : Int32) :
    ∃ (r : AH) (f' g' : Nat → Int32), iter (fun q : AH × Int32 => zb_X11_divideLong_89 w0 w3 (ar n i) (ar n U) (nI (k + 2)) w7 (ar n W) q.1 q.2) FU (h, nI m) = some r ∧ RP B n d r M U f' W g' ∧ okD f' (m + (k + 2) + 1) ∧ okD g' (m + 1) ∧ vC (eF g') (m + 1) = vC (eF f) (m + (k + 2) + 1) / (M i).natAbs ∧ vC (eF f') (m + (k + 2) + 1) = vC (eF f) (m + (k + 2) + 1) % (M i).natAbs := by
  have hD : 0 < (M i).natAbs := by omega
  obtain ⟨r, hr, f', g', o', df, dq, hl, hA, hz⟩ := iter_FU (B := fun q : AH × Int32 => zb_X11_divideLong_89 w0 w3 (ar n i) (ar n U) (nI (k + 2)) w7 (ar n W) q.1 q.2)
    (fun t s => s.2 = nI (m + 1 - t) - 1 ∧ ∃ F1 g1 : Nat → Int32, RP B n d s.1 M U F1 W g1 ∧ okD F1 (m + (k + 2) + 1) ∧ (∀ y, m + 1 - t ≤ y → y ≤ m → g1 y = nI (eF g1 y) ∧ eF g1 y < C16) ∧ sC (eF F1) (m + 1 - t) (k + 2) < (M i).natAbs ∧ sC (eF f) 0 (m + 1 + (k + 2)) = (M i).natAbs * vHC (eF g1) (m + 1 - t) (m + 1) * C16 ^ (m + 1 - t) + sC (eF F1) 0 (m + 1 - t + (k + 2)) ∧ (∀ y, m + 1 - t + (k + 2) ≤ y → y ≤ m + (k + 2) → eF F1 y = 0))
    (fun r => ∃ F1 g1 : Nat → Int32, RP B n d r M U F1 W g1 ∧ okD F1 (m + (k + 2) + 1) ∧ okD g1 (m + 1) ∧ sC (eF F1) 0 (k + 2) < (M i).natAbs ∧ sC (eF f) 0 (m + 1 + (k + 2)) = (M i).natAbs * vC (eF g1) (m + 1) + sC (eF F1) 0 (k + 2) ∧ (∀ y, k + 2 ≤ y → y ≤ m + (k + 2) → eF F1 y = 0))
    (m + 1) (by omega) (s := (h, nI m)) ⟨by dsimp only; rw [Nat.sub_zero, nI_pred], f, g, o, hd, fun y h1 h2 => by omega, h0, by rw [Nat.sub_zero, vHC_k, Nat.mul_zero, Nat.zero_mul, Nat.zero_add], fun y h1 h2 => by omega⟩ (by
    rintro t ⟨s, iv⟩ ht ⟨hiv, F1, g1, os, df, dq, hl, hA, hz⟩
    dsimp only at hiv os ⊢
    subst hiv
    by_cases h9 : m + 1 - t = 0
    · rw [h9] at hl hA hz dq ⊢
      unfold zb_X11_divideLong_89
      rw [if_pos (by decide)]
      refine ⟨_, rfl, fun s' hs => by (cases hs), fun r hr => ?_⟩
      obtain rfl := Sum.inr.inj hr
      rw [vHC_0, Nat.pow_zero, Nat.mul_one, Nat.zero_add] at hA
      rw [Nat.zero_add] at hz
      exact ⟨F1, g1, os, df, fun y hy => dq y (by omega) (by omega), hl, hA, hz⟩
    · obtain ⟨p, hp⟩ : ∃ p, m + 1 - t = p + 1 := ⟨m + 1 - t - 1, by omega⟩
      rw [hp] at dq hl hA hz ⊢
      obtain ⟨g2, F2, eg, o2, d2, k2, s2, hQ⟩ := os.digit hU hW hne hi iU iW hN (j := p) (by omega) (fun y hy => df (p + y) (by omega)) hn hl w0 w3 w7
      rw [nI_pred p, eg]
      refine ⟨_, rfl, fun s' hs => ?_, fun r hr => by (cases hr)⟩
      obtain rfl := Sum.inl.inj hs
      have ej : m + 1 - (t + 1) = p := by omega
      dsimp only
      rw [ej]
      have hml := Nat.mod_lt (sC (eF F1) p (k + 3)) hD
      have hVl : (M i).natAbs < C16 ^ (k + 2) := by have := cs_lt (M i).natAbs; rw [hN] at this; exact this
      have h5 : sC (eF F2) p (k + 3) = sC (eF F2) p (k + 2) + eF F2 (p + (k + 2)) * C16 ^ (k + 2) := sC_s (eF F2) p (k + 2)
      have htop : eF F2 (p + (k + 2)) = 0 := by
        rcases Nat.eq_zero_or_pos (eF F2 (p + (k + 2))) with e | e
        · exact e
        · exfalso
          have h6 : 1 * C16 ^ (k + 2) ≤ eF F2 (p + (k + 2)) * C16 ^ (k + 2) := Nat.mul_le_mul_right _ e
          omega
      have hs2 : sC (eF F2) p (k + 2) = sC (eF F1) p (k + 3) % (M i).natAbs := by
        rw [htop, Nat.zero_mul, Nat.add_zero] at h5
        exact h5.symm.trans s2
      refine ⟨by omega, by rw [Int32.sub_eq_add_neg], F2, _, o2, fun y hy => ?_, fun y h1 h2 => ?_, by rw [hs2]; exact hml, ?_, fun y h1 h2 => ?_⟩
      · by_cases hin : p ≤ y ∧ y ≤ p + (k + 2)
        · have := d2 (y - p) (by omega)
          rw [show p + (y - p) = y by omega] at this
          exact this
        · have e8 : F2 y = F1 y := k2 y (by omega)
          have e9 : eF F2 y = eF F1 y := by unfold eF; rw [e8]
          rw [e9, e8]
          exact df y hy
      · by_cases e : y = p
        · subst e
          rw [eF_s g1 y hQ, pk_us]
          exact ⟨rfl, hQ⟩
        · rw [eF_n e, pk_un e]
          exact dq y (by omega) h2
      · rw [vHC_s _ (show p < m + 1 by omega), eF_s g1 p hQ]
        have e5 : vHC (eF (upd g1 p (nI (sC (eF F1) p (k + 3) / (M i).natAbs)))) (p + 1) (m + 1) = vHC (eF g1) (p + 1) (m + 1) := vHC_congr (fun y h1 h2 => eF_n (by omega))
        rw [e5]
        rw [hA, show p + 1 + (k + 2) = p + (k + 3) by omega, sC_cat (eF F1) p (k + 3), sC_cat (eF F2) p (k + 2), hs2]
        have e6 : sC (eF F2) 0 p = sC (eF F1) 0 p := sC_congr (fun y hy => by unfold eF; rw [Nat.zero_add, k2 y (by omega)])
        rw [e6]
        have hdm := Nat.div_add_mod (sC (eF F1) p (k + 3)) (M i).natAbs
        generalize sC (eF F1) p (k + 3) / (M i).natAbs = Q at hdm
        generalize sC (eF F1) p (k + 3) % (M i).natAbs = R at hdm
        rw [← hdm, Nat.pow_succ, Nat.mul_add, Nat.add_mul, Nat.add_mul]
        have e7 : (M i).natAbs * vHC (eF g1) (p + 1) (m + 1) * (C16 ^ p * C16) = (M i).natAbs * (C16 * vHC (eF g1) (p + 1) (m + 1)) * C16 ^ p := by
          rw [Nat.mul_comm (C16 ^ p) C16, ← Nat.mul_assoc, Nat.mul_assoc (M i).natAbs, Nat.mul_comm _ C16]
        rw [e7]
        omega
      · by_cases e : y = p + (k + 2)
        · rw [e]; exact htop
        · have e8 : eF F2 y = eF F1 y := by unfold eF; rw [k2 y (by omega)]
          rw [e8]
          exact hz y (by omega) h2)
  have e3 : vC (eF f) (m + (k + 2) + 1) = sC (eF f) 0 (m + 1 + (k + 2)) := by rw [sC_0, show m + 1 + (k + 2) = m + (k + 2) + 1 by omega]
  have e4 : vC (eF f') (m + (k + 2) + 1) = sC (eF f') 0 (k + 2) := by
    rw [sC_0]
    exact vC_0 (by omega) (fun y h1 h2 => hz y h1 (by omega))
  refine ⟨r, f', g', hr, o', df, dq, ?_, ?_⟩
  · rw [e3, hA, Nat.mul_add_div hD, Nat.div_eq_of_lt hl]
    exact (Nat.add_zero _).symm
  · rw [e3, e4, hA, Nat.mul_add_mod, Nat.mod_eq_of_lt hl]
theorem RLo.fill (o : RLo B n d h M U f) (hU : U < 317) {v ka : Nat} (hka : ka < 100) (hv : cs v ≤ ka + 1) (hf : ∀ y, y < cs v → f y = nI (PX v y)) (w0 : Nat) (w3 : Int32) (w4 : Nat) (w6 : Int32) :
    ∃ (r : AH) (f' : Nat → Int32), iter (fun q : AH × Int32 => zb_X11_divideLong_54 w0 w3 w4 (ar n U) w6 (nI ka) q.1 q.2) FU (h, nI (cs v)) = some r ∧ RLo B n d r M U f' ∧ ∀ y, y < ka + 1 → f' y = nI (PX v y) := by
  obtain ⟨r, hr, f', o', hf'⟩ := iter_FU (B := fun q : AH × Int32 => zb_X11_divideLong_54 w0 w3 w4 (ar n U) w6 (nI ka) q.1 q.2)
    (fun t z => z.2 = nI (cs v + t) ∧ ∃ f, RLo B n d z.1 M U f ∧ ∀ y, y < cs v + t → f y = nI (PX v y))
    (fun r => ∃ f, RLo B n d r M U f ∧ ∀ y, y < ka + 1 → f y = nI (PX v y))
    (ka + 1 - cs v) (by omega) (s := (h, nI (cs v))) ⟨rfl, f, o, fun y hy => hf y (by omega)⟩ (by
    rintro t ⟨g, z⟩ ht ⟨hz, f, o, hf⟩
    dsimp only at hz o ⊢
    subst hz
    unfold zb_X11_divideLong_54
    by_cases hlt : t < ka + 1 - cs v
    · rw [if_neg (nI_nlt (by omega) (by omega)), o.rw hU]
      simp only [Option.bind_some]
      obtain ⟨g2, e2, o3⟩ := o.put hU (show cs v + t < 100 by omega) 0
      rw [e2]
      simp only [Option.bind_some]
      refine ⟨_, rfl, fun s' hs => ?_, fun r hr => by (cases hr)⟩
      obtain rfl := Sum.inl.inj hs
      refine ⟨hlt, nI_1 (cs v + t), _, o3, fun y hy => ?_⟩
      by_cases e : y = cs v + t
      · subst e
        rw [pk_us, PX_hi (by omega)]
        rfl
      · rw [pk_un e]; exact hf y (by omega)
    · rw [if_pos (nI_lt (by omega) (by omega))]
      refine ⟨_, rfl, fun s' hs => by (cases hs), fun r hr => ?_⟩
      obtain rfl := Sum.inr.inj hr
      exact ⟨f, o, fun y hy => hf y (by omega)⟩)
  exact ⟨r, f', hr, o', hf'⟩
theorem RV.divideLong (c : RV B n d h M) (hT : d.top = nI T) (hl : T + 4 ≤ 64) (hi : i < 317) (hj : j < 317) (iT : i < T ∨ 64 ≤ i) (jT : j < T ∨ 64 ≤ j) (hN : cs (M j).natAbs = k + 2) (hle : (M j).natAbs ≤ (M i).natAbs) (xa : (M i).natAbs < C16 ^ 97) :
    ∃ h' M', zs_X11_divideLong h n (ar n i) (ar n j) = some h' ∧ RV B n (d.dz n (T + 2) (T + 3) (T + 4)) h' M' ∧ M' (T + 2) = (((M i).natAbs / (M j).natAbs : Nat) : Int) ∧ M' (T + 3) = (((M i).natAbs % (M j).natAbs : Nat) : Int) ∧ ∀ x, (x < T ∨ 64 ≤ x) → M' x = M x := by
  obtain ⟨A, hA⟩ : ∃ A, A = (M i).natAbs := ⟨_, rfl⟩
  obtain ⟨Bv, hB⟩ : ∃ Bv, Bv = (M j).natAbs := ⟨_, rfl⟩
  rw [← hB] at hN
  rw [← hA, ← hB] at hle
  rw [← hA] at xa
  rw [← hA, ← hB]
  have hka97 := cs_le xa
  obtain ⟨ka, hka⟩ : ∃ ka, ka = cs A := ⟨_, rfl⟩
  have hkk : k + 2 ≤ ka := by
    rcases Nat.lt_or_ge ka (k + 2) with z | z
    · have := cs_mono (v := A) (w := Bv) (by omega); omega
    · exact z
  obtain ⟨m, hm⟩ : ∃ m, m = ka - (k + 2) := ⟨_, rfl⟩
  obtain ⟨t, ht⟩ : ∃ t, t = PX Bv (k + 1) := ⟨_, rfl⟩
  have ht16 : t < 65536 := by rw [ht]; exact PX_31 _ _
  have ht0 : t ≠ 0 := by
    have := PX_top (v := Bv) (by omega)
    rw [hN] at this
    rw [ht]
    exact this
  have hbl : bl t ≤ 16 := bl_le (show t < 2 ^ 16 from ht16)
  have hbl1 : 0 < bl t := by unfold bl; rw [if_neg ht0]; omega
  obtain ⟨u, hu⟩ : ∃ u, u = 16 - bl t := ⟨_, rfl⟩
  have hbB : bl Bv = 16 * (k + 1) + bl t := by
    have h1 := vC_PXs (v := Bv) (m := k + 2) (by omega)
    have h2 : vC (PX Bv) (k + 1) + PX Bv (k + 1) * C16 ^ (k + 1) = Bv := h1
    have h3 := bl_topC (t := PX Bv (k + 1)) (l := vC (PX Bv) (k + 1)) (k := k + 1) (by rw [← ht]; omega) (vC_lt (fun x _ => PX_lt _ x))
    rw [h2, ← ht] at h3
    exact h3
  have hBlt := bl_lt Bv
  have hBge := bl_ge (m := Bv) (by
    intro e
    rw [e] at hN
    rw [cs_0] at hN
    omega)
  have hpu : 0 < 2 ^ u := Nat.two_pow_pos u
  obtain ⟨V, hV⟩ : ∃ V, V = Bv * 2 ^ u := ⟨_, rfl⟩
  obtain ⟨X, hX⟩ : ∃ X, X = A * 2 ^ u := ⟨_, rfl⟩
  have hVhi : V < C16 ^ (k + 2) := by
    have h1 : Bv * 2 ^ u < 2 ^ bl Bv * 2 ^ u := Nat.mul_lt_mul_of_pos_right hBlt hpu
    rw [← Nat.pow_add, show bl Bv + u = 16 * (k + 2) by omega, ← C16_two] at h1
    omega
  have hVlo : 32768 * C16 ^ (k + 1) ≤ V := by
    have h1 : 2 ^ (bl Bv - 1) * 2 ^ u ≤ Bv * 2 ^ u := Nat.mul_le_mul_right _ hBge
    rw [← Nat.pow_add, show bl Bv - 1 + u = 15 + 16 * (k + 1) by omega, Nat.pow_add, ← C16_two] at h1
    have h2 : 2 ^ 15 = 32768 := by decide
    rw [h2] at h1
    omega
  have hcp := C16_pos (k + 1)
  have hcV : cs V = k + 2 := (cs_uniq hVhi (fun _ => by show C16 ^ (k + 1) ≤ V; omega)).symm
  have hAlt : A < C16 ^ ka := by rw [hka]; exact cs_lt A
  have hXlt : X < C16 ^ (ka + 1) := by
    have h1 : A * 2 ^ u < C16 ^ ka * 2 ^ u := Nat.mul_lt_mul_of_pos_right hAlt hpu
    have h2 : C16 ^ ka * 2 ^ u ≤ C16 ^ ka * C16 := Nat.mul_le_mul_left _ (show 2 ^ u ≤ 2 ^ 16 from Nat.pow_le_pow_right (by decide) (by omega))
    rw [Nat.pow_succ]
    omega
  have hcX := cs_le hXlt
  have hnorm : 65536 ≤ 2 * PX V (k + 1) := by
    unfold PX
    have h1 : V / C16 ^ (k + 1) < C16 := by
      rw [Nat.div_lt_iff_lt_mul hcp]
      have h2 := hVhi
      rw [C16_s (k + 1)] at h2
      exact h2
    rw [Nat.mod_eq_of_lt h1]
    have h2 : 32768 ≤ V / C16 ^ (k + 1) := by
      rw [Nat.le_div_iff_mul_le hcp]
      exact hVlo
    omega
  have hAD : X < V * C16 ^ (m + 1) := by
    have h0 : C16 ^ (k + 1) ≤ Bv := by
      have := cs_ge (v := Bv) (by omega)
      rw [hN] at this
      exact this
    have h1 : A * 2 ^ u < C16 ^ ka * 2 ^ u := Nat.mul_lt_mul_of_pos_right hAlt hpu
    have h2 : C16 ^ (k + 1) * 2 ^ u * C16 ^ (m + 1) ≤ Bv * 2 ^ u * C16 ^ (m + 1) := Nat.mul_le_mul_right _ (Nat.mul_le_mul_right _ h0)
    have h3 : C16 ^ (k + 1) * 2 ^ u * C16 ^ (m + 1) = C16 ^ ka * 2 ^ u := by
      rw [Nat.mul_assoc, Nat.mul_comm (2 ^ u), ← Nat.mul_assoc, ← Nat.pow_add, show k + 1 + (m + 1) = ka by omega]
    rw [hV, hX]
    omega
  have hui : (nI u).toInt = (u : Int) := nI_toInt (by omega)
  have mvB : mvN Bv (nI u).toInt = V := by
    rw [hui]
    unfold mvN
    rw [if_pos (by omega), hV]
    rfl
  have mvA : mvN A (nI u).toInt = X := by
    rw [hui]
    unfold mvN
    rw [if_pos (by omega), hX]
    rfl
  unfold zs_X11_divideLong
  rw [c.rw hj, c.n_ hj, ← hB, hN]
  simp only [Option.bind_some]
  rw [show nI (k + 2) - (1 : Int32) = nI (k + 1) from nI_pred (k + 1), c.at hj (by rw [← hB]; omega), ← hB, ← ht]
  simp only [Option.bind_some]
  rw [nlz h (by omega) ht16]
  simp only [Option.bind_some, lt_]
  have e16 : nI (32 - bl t) - (16 : Int32) = nI u := by
    have := pk_sub (a := 32 - bl t) (b := 16) (by omega)
    rw [show 32 - bl t - 16 = u by omega] at this
    exact this
  rw [e16]
  simp only [c.rm, Option.bind_some]
  obtain ⟨g1, e1, c1⟩ := c.moved hT (by omega) hj (by omega) (x := nI u) (by rw [hui]; omega) (by rw [hui]; omega) (by rw [hui, ← hB]; omega)
  rw [← hB, mvB] at c1
  rw [e1]
  simp only [c1.rm, Option.bind_some]
  obtain ⟨M1, hM1⟩ : ∃ M1, M1 = va_up M T (sgv (if M j < 0 then 1 else 0) V) := ⟨_, rfl⟩
  rw [← hM1] at c1
  have m1i : M1 i = M i := by rw [hM1, va_un (by omega)]
  have m1T : (M1 T).natAbs = V := by rw [hM1, va_us, sgv_abs]
  obtain ⟨g2, e2, c2⟩ := c1.moved (T := T + 1) rfl (by omega) hi (by omega) (x := nI u) (by rw [hui]; omega) (by rw [hui]; omega) (by rw [hui, m1i, ← hA]; omega)
  rw [m1i, ← hA, mvA] at c2
  rw [e2]
  simp only [Option.bind_some]
  obtain ⟨M2, hM2⟩ : ∃ M2, M2 = va_up M1 (T + 1) (sgv (if M i < 0 then 1 else 0) X) := ⟨_, rfl⟩
  rw [← hM2] at c2
  have m2T : (M2 T).natAbs = V := by rw [hM2, va_un (by omega)]; exact m1T
  have m2U : (M2 (T + 1)).natAbs = X := by rw [hM2, va_us, sgv_abs]
  have m2i : (M2 i).natAbs = A := by rw [hM2, va_un (by omega), m1i, hA]
  rw [c2.n_ (show T < 317 by omega), c2.n_ hi, c2.n_ (show T + 1 < 317 by omega), m2T, m2U, m2i, hcV, ← hka]
  simp only [Option.bind_some]
  obtain ⟨f0, o2, hf0⟩ := c2.opn (T := T + 1) (by omega)
  rw [m2U] at hf0
  obtain ⟨r3, f3, er3, o3, hf3⟩ := o2.fill (by omega) (v := X) (ka := ka) (by omega) (by omega) hf0 n (nI u) (ar n T) (nI (k + 2))
  rw [er3]
  simp only [o3.rm, Option.bind_some]
  obtain ⟨g4, e4, o4⟩ := o3.take (T := T + 2) rfl (by omega)
  rw [e4]
  simp only [Option.bind_some]
  have emn : nI ka - nI (k + 2) = nI m := by rw [pk_sub hkk, hm]
  rw [emn]
  obtain ⟨hd3, hv3⟩ := okD_PX hf3
  rw [vC_PX hXlt] at hv3
  have emk : m + (k + 2) + 1 = ka + 1 := by omega
  have h0 : sC (eF f3) (m + 1) (k + 2) < (M2 T).natAbs := by
    have h1 := sC_cat (eF f3) (m + 1) (k + 2)
    rw [sC_0, show m + 1 + (k + 2) = ka + 1 by omega, hv3] at h1
    rw [m2T]
    have h2 : sC (eF f3) (m + 1) (k + 2) * C16 ^ (m + 1) < V * C16 ^ (m + 1) := by omega
    exact Nat.lt_of_mul_lt_mul_right h2
  obtain ⟨g0, p4⟩ := o4.opn2 (T + 2)
  obtain ⟨r5, f5, g5, er5, p5, df5, dg5, vq5, vr5⟩ := p4.divLoop (i := T) (k := k) (m := m) (by omega) (by omega) (by omega) (by omega) (by omega) (by omega) (by rw [m2T]; exact hcV) (by omega) (by rw [emk]; exact hd3) (by rw [m2T]; exact hnorm) h0 n (nI u) (nI ka)
  rw [emk] at vq5 vr5 df5
  rw [hv3, m2T] at vq5 vr5
  rw [er5]
  simp only [p5.ck (show T + 2 < 317 by omega), Option.bind_some]
  obtain ⟨g6, e6, o6⟩ := p5.clsW (by omega) (by omega) (m := m + 1) (by omega) dg5 (b := 0) (Or.inl rfl)
  rw [vq5] at o6
  rw [nI_1 m, e6]
  simp only [Option.bind_some]
  obtain ⟨g7, e7, o7⟩ := o6.main (k := 5) (v := .ref (ar n (T + 2))) (d' := (d.tt (T + 3)).set2 (.ref (ar n (T + 2))) d.rst) (by decide) rfl rfl
  rw [e7]
  simp only [o7.ck (show T + 1 < 317 by omega), Option.bind_some]
  obtain ⟨g8, e8, c8⟩ := o7.cls (by omega) (m := ka + 1) (by omega) df5 (b := 0) (Or.inl rfl)
  rw [vr5] at c8
  rw [nI_1 ka, e8]
  simp only [c8.rm, Option.bind_some]
  obtain ⟨M8, hM8⟩ : ∃ M8, M8 = va_up (va_up M2 (T + 2) (sgv 0 (X / V))) (T + 1) (sgv 0 (X % V)) := ⟨_, rfl⟩
  rw [← hM8] at c8
  have hVp : 0 < V := by omega
  have hXV := Nat.mod_lt X hVp
  have m8U : M8 (T + 1) = ((X % V : Nat) : Int) := by rw [hM8, va_us]; rfl
  have hneg : (-(nI u)).toInt = -(u : Int) := by
    rw [Int32.toInt_neg, hui]
    exact Int.bmod_eq_of_le (by omega) (by omega)
  have hcr : cs (X % V) ≤ k + 2 := cs_le (by omega)
  obtain ⟨g9, e9, c9⟩ := c8.moved (T := T + 3) (i := T + 1) rfl (by omega) (by omega) (by omega) (x := -(nI u)) (by rw [hneg]; omega) (by rw [hneg]; omega) (by rw [hneg, m8U, Int.natAbs_natCast]; omega)
  have hrest : mvN (X % V) (-(u : Int)) = A % Bv := by
    have e10 : X % V = A % Bv * 2 ^ u := by rw [hX, hV, Nat.mul_mod_mul_right]
    rw [e10]
    unfold mvN
    by_cases h0 : u = 0
    · rw [if_pos (by omega), h0]
      show A % Bv * 2 ^ 0 * 2 ^ 0 = _
      rw [Nat.pow_zero, Nat.mul_one, Nat.mul_one]
    · rw [if_neg (by omega), Int.neg_neg]
      show A % Bv * 2 ^ u / 2 ^ u = _
      rw [Nat.mul_div_cancel _ hpu]
  rw [m8U, Int.natAbs_natCast, hneg, hrest, if_neg (by omega)] at c9
  rw [e9]
  simp only [Option.bind_some]
  obtain ⟨g10, e10, c10⟩ := c9.main (k := 6) (v := .ref (ar n (T + 3))) (d' := d.dz n (T + 2) (T + 3) (T + 4)) (by decide) rfl rfl
  rw [e10]
  refine ⟨g10, _, rfl, c10, ?_, ?_, fun x hx => ?_⟩
  · rw [va_un (by omega), hM8, va_un (by omega), va_us, hX, hV, Nat.mul_div_mul_right _ _ hpu]
    rfl
  · rw [va_us]
    rfl
  · rw [va_un (by omega), hM8, va_un (by omega), va_un (by omega), hM2, va_un (by omega), hM1, va_un (by omega)]
end Rdl
