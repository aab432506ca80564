theorem sgm_0 (F : Nat → Int64) (k : Nat) : sgm F 0 k = vN (dgs F) k := vN_congr (fun i _ => by rw [Nat.zero_add]; rfl)
section Dvl
variable {L : Nat → Prop} {q : Nat → Nat} {h h' h'' : AH} {σ : Nat → WR} {a b u0 aq al ao ad av : Nat} {F G : Nat → Int64} {E E' : Nat → Prop}
theorem Fx.mono (p : Fx L q E h h') (hE : ∀ z, E z → E' z) : Fx L q E' h h' := ⟨p.1, fun a ha h1 => p.2 a ha (fun e => h1 (hE a e))⟩
theorem p_divideLong (H : HW L q h σ) (ha : L a) (hb : L b) (hq : L aq) (hl : L al) (d : DO h u0 aq al ao ad av) (hF : LA h ad F) (hG : LA h av G) (hne : ad ≠ av) (hqa : a ≠ aq) (hql : al ≠ aq) {x y : Int} (hx : okW (σ a) x) (hy : okW (σ b) y) {ka n : Nat} (hka : (σ a).2.1 = nI ka) (hkb : (σ b).2.1 = nI (n + 2)) (ka26 : ka ≤ 26) (hkk : n + 2 ≤ ka) (dB : ∀ i, i < n + 2 → uN ((σ b).1 i) < B32) (hxk : x.natAbs < B32 ^ ka) (hyl : y.natAbs = vN (dgs (σ b).1) (n + 2)) (hyt : (σ b).1 (n + 1) ≠ 0) :
    ∃ (h' : AH) (F' G' fq fl : Nat → Int64), zs_X0_divideLong h u0 a b = some h' ∧ HW L q h' (va_up (va_up σ aq (fq, nI (tl fq (ka - (n + 2) + 1)), (σ aq).2.2)) al (fl, nI (tl fl (n + 2)), (σ al).2.2)) ∧ DO h' u0 aq al ao ad av ∧ LA h' ad F' ∧ LA h' av G' ∧ Fx L q (fun z => z = ad ∨ z = av) h h' ∧ (∀ i, i < ka - (n + 2) + 1 → uN (fq i) < B32) ∧ (∀ i, i < n + 2 → uN (fl i) < B32) ∧ vN (dgs fq) (ka - (n + 2) + 1) = x.natAbs / y.natAbs ∧ vN (dgs fl) (n + 2) = x.natAbs % y.natAbs := by
  obtain ⟨m, hm⟩ : ∃ m, m = ka - (n + 2) := ⟨_, rfl⟩
  rw [← hm]
  have ht := dB (n + 1) (by omega)
  have htz := nz_uN hyt
  obtain ⟨t, htt⟩ : ∃ t, t = uN ((σ b).1 (n + 1)) := ⟨_, rfl⟩
  rw [← htt] at ht htz
  have hbl : bl t ≤ 32 := bl_le (show t < 2 ^ 32 from ht)
  have hbl1 : 0 < bl t := by unfold bl; rw [if_neg htz]; omega
  obtain ⟨u, hu⟩ : ∃ u, u = 32 - bl t := ⟨_, rfl⟩
  have hu32 : u < 32 := by omega
  -- the divisor's size
  have hylo : t * B32 ^ (n + 1) ≤ y.natAbs := by
    rw [hyl, show vN (dgs (σ b).1) (n + 2) = vN (dgs (σ b).1) (n + 1) + uN ((σ b).1 (n + 1)) * B32 ^ (n + 1) from rfl, ← htt]
    omega
  have hyhi : y.natAbs < (t + 1) * B32 ^ (n + 1) := by
    have := vN_lt (d := dgs (σ b).1) (k := n + 1) (fun i hi => dB i (by omega))
    rw [hyl, show vN (dgs (σ b).1) (n + 2) = vN (dgs (σ b).1) (n + 1) + uN ((σ b).1 (n + 1)) * B32 ^ (n + 1) from rfl, ← htt, Nat.add_mul, Nat.one_mul]
    omega
  have p2 : 2 ^ bl t * 2 ^ u = B32 := by rw [← Nat.pow_add, show bl t + u = 32 by omega]; rfl
  have p1 : 2 ^ (bl t - 1) * 2 ^ u = 2147483648 := by rw [← Nat.pow_add, show bl t - 1 + u = 31 by omega]
  have hD : y.natAbs * 2 ^ u < B32 ^ (n + 2) := by
    have h1 : (t + 1) * B32 ^ (n + 1) * 2 ^ u ≤ 2 ^ bl t * B32 ^ (n + 1) * 2 ^ u := Nat.mul_le_mul_right _ (Nat.mul_le_mul_right _ (bl_lt t))
    have h2 : 2 ^ bl t * B32 ^ (n + 1) * 2 ^ u = B32 ^ (n + 2) := by rw [Nat.mul_assoc, Nat.mul_comm (B32 ^ (n + 1)), ← Nat.mul_assoc, p2]; exact (B32_s (n + 1)).symm
    have h3 : y.natAbs * 2 ^ u < (t + 1) * B32 ^ (n + 1) * 2 ^ u := Nat.mul_lt_mul_of_pos_right hyhi (Nat.pow_pos (by decide))
    omega
  have hDl : 2147483648 * B32 ^ (n + 1) ≤ y.natAbs * 2 ^ u := by
    have h1 : 2 ^ (bl t - 1) * B32 ^ (n + 1) * 2 ^ u ≤ y.natAbs * 2 ^ u := Nat.mul_le_mul_right _ (Nat.le_trans (Nat.mul_le_mul_right _ (bl_ge htz)) hylo)
    have h2 : 2 ^ (bl t - 1) * B32 ^ (n + 1) * 2 ^ u = 2147483648 * B32 ^ (n + 1) := by rw [Nat.mul_assoc, Nat.mul_comm (B32 ^ (n + 1)), ← Nat.mul_assoc, p1]
    omega
  have hA : x.natAbs * 2 ^ u < B32 ^ (m + 1 + (n + 2)) := by
    have h1 : x.natAbs * 2 ^ u < B32 ^ ka * 2 ^ u := Nat.mul_lt_mul_of_pos_right hxk (Nat.pow_pos (by decide))
    have h2 : B32 ^ ka * 2 ^ u ≤ B32 ^ ka * B32 := Nat.mul_le_mul_left _ (show 2 ^ u ≤ 2 ^ 32 from Nat.pow_le_pow_right (by decide) (by omega))
    rw [show m + 1 + (n + 2) = ka + 1 by omega, Nat.pow_succ]
    omega
  have hAD : x.natAbs * 2 ^ u < y.natAbs * 2 ^ u * B32 ^ (m + 1) := by
    have h0 : B32 ^ (n + 1) ≤ y.natAbs := Nat.le_trans (by have : 1 * B32 ^ (n + 1) ≤ t * B32 ^ (n + 1) := Nat.mul_le_mul_right _ (by omega); omega) hylo
    have h1 : x.natAbs * 2 ^ u < B32 ^ ka * 2 ^ u := Nat.mul_lt_mul_of_pos_right hxk (Nat.pow_pos (by decide))
    have h2 : B32 ^ (n + 1) * 2 ^ u * B32 ^ (m + 1) ≤ y.natAbs * 2 ^ u * B32 ^ (m + 1) := Nat.mul_le_mul_right _ (Nat.mul_le_mul_right _ h0)
    have h3 : B32 ^ (n + 1) * 2 ^ u * B32 ^ (m + 1) = B32 ^ ka * 2 ^ u := by
      rw [Nat.mul_assoc, Nat.mul_comm (2 ^ u), ← Nat.mul_assoc, ← Nat.pow_add, show n + 1 + (m + 1) = ka by omega]
    omega
  unfold zs_X0_divideLong
  rw [H.gI1 hb, hkb, H.chk hb]
  simp only [Option.bind_some]
  have e1 : nI (n + 2) - (1 : Int32) = nI (n + 1) := nI_pred (n + 1)
  rw [e1, p_partAt H hb hkb (by omega) (by omega), if_pos (by omega)]
  simp only [Option.bind_some]
  rw [p_bitsOf h (show uN ((σ b).1 (n + 1)) < B32 by rw [← htt]; exact ht), ← htt]
  simp only [Option.bind_some, lt_]
  have e2 : (32 : Int32) - nI (bl t) = nI u := by rw [show (32 : Int32) = nI 32 from rfl, pk_sub hbl, hu]
  rw [e2]
  obtain ⟨r1, F1, er1, L1, O1, v1⟩ := p_fillA H ha d hF hx hka ka26 hu32 b (nI (n + 2))
  rw [er1]
  simp only [Option.bind_some]
  have H1 := H.off (la_off H hF) O1
  have d1 := d.off O1 (do_la d hF)
  have G1 := hG.off O1 (Ne.symm hne)
  obtain ⟨r2, G2, er2, L2, O2, v2⟩ := p_fillB H1 hb d1 G1 hy (k := n + 2) (by omega) hu32 a
  rw [er2]
  simp only [Option.bind_some]
  have H2 := H1.off (la_off H1 G1) O2
  have d2 := d1.off O2 (do_la d1 G1)
  have A2 := L1.off O2 hne
  rw [H2.gI1 ha, hka]
  simp only [Option.bind_some]
  have e3 : nI ka - nI (n + 2) = nI m := by rw [pk_sub hkk, hm]
  rw [e3]
  have sD : sgm G2 0 (n + 2) = y.natAbs * 2 ^ u := by rw [sgm_0]; exact vN_of hD v2
  have sA : sgm F1 0 (m + 1 + (n + 2)) = x.natAbs * 2 ^ u := by rw [sgm_0]; exact vN_of hA (fun j hj => v1 j (by omega))
  have dF1 : ∀ i, i ≤ m + (n + 2) → uN (F1 i) < B32 := fun i hi => by rw [v1 i (by omega)]; exact Nat.mod_lt _ (by decide)
  have dG2 : ∀ i, i < n + 2 → uN (G2 i) < B32 := fun i hi => by rw [v2 i hi]; exact Nat.mod_lt _ (by decide)
  have hnorm : 4294967296 ≤ 2 * uN (G2 (n + 1)) := by
    rw [v2 (n + 1) (by omega)]
    have h1 : y.natAbs * 2 ^ u / B32 ^ (n + 1) < B32 := by
      rw [Nat.div_lt_iff_lt_mul (B32_pos _)]
      have hD2 := hD
      rw [B32_s (n + 1)] at hD2
      exact hD2
    rw [Nat.mod_eq_of_lt h1]
    have h2 : 2147483648 ≤ y.natAbs * 2 ^ u / B32 ^ (n + 1) := by
      rw [Nat.le_div_iff_mul_le (B32_pos _)]
      exact hDl
    omega
  have h0 : sgm F1 (m + 1) (n + 2) < sgm G2 0 (n + 2) := by
    have h1 := sgm_cat F1 (m + 1) (n + 2)
    rw [sA] at h1
    have h2 : sgm F1 (m + 1) (n + 2) * B32 ^ (m + 1) < sgm G2 0 (n + 2) * B32 ^ (m + 1) := by rw [sD]; omega
    exact Nat.lt_of_mul_lt_mul_right h2
  obtain ⟨r3, F3, fq, er3, H3, d3, L3, G3, X3, df3, dq3, vq3, vr3, z3⟩ := p_divLoop H2 hq d2 A2 L2 hne (m := m) (n := n) (by omega) dF1 dG2 hnorm h0 (nI u) (nI m)
  rw [er3]
  simp only [Option.bind_some]
  rw [d3.g0]
  simp only [Option.bind_some]
  rw [H3.chk hq]
  simp only [Option.bind_some]
  obtain ⟨r4, er4, H4, F4⟩ := p_trim H3 hq (c := m + 1) (by omega)
  have e4 : nI m + (1 : Int32) = nI (m + 1) := nI_1 m
  rw [e4, er4]
  simp only [Option.bind_some]
  rw [va_us, va_uu] at H4
  dsimp only at H4
  have d4 := Fr.keep H3 F4 d3
  have L4 := Fr.kla H3 F4 L3
  have G4 := Fr.kla H3 F4 G3
  obtain ⟨r5, fl, er5, H5, F5, vl5⟩ := p_leftLoop H4 hl d4 L4 (k := n + 2) (by omega) hu32 df3 z3
  rw [er5]
  simp only [Option.bind_some]
  have d5 := Fr.keep H4 F5 d4
  rw [d5.g1]
  simp only [Option.bind_some]
  rw [H5.chk hl]
  simp only [Option.bind_some]
  obtain ⟨r6, er6, H6, F6⟩ := p_trim H5 hl (c := n + 2) (by omega)
  rw [er6]
  rw [va_us, va_uu, va_un hql] at H6
  dsimp only at H6
  have hpu : 0 < 2 ^ u := Nat.pow_pos (by decide)
  have hrest : sgm F3 0 (n + 2) / 2 ^ u = x.natAbs % y.natAbs := by
    rw [vr3, sA, sD, Nat.mul_mod_mul_right, Nat.mul_div_cancel _ hpu]
  have hyp : 0 < y.natAbs := by
    have : 1 * B32 ^ (n + 1) ≤ t * B32 ^ (n + 1) := Nat.mul_le_mul_right _ (by omega)
    have := B32_pos (n + 1)
    omega
  have hyB : y.natAbs ≤ y.natAbs * 2 ^ u := Nat.le_mul_of_pos_right _ hpu
  rw [hrest] at vl5
  refine ⟨r6, F3, G2, fq, fl, rfl, H6, Fr.keep H5 F6 d5, Fr.kla H5 F6 (Fr.kla H4 F5 L4), Fr.kla H5 F6 (Fr.kla H4 F5 G4), ?_, fun i hi => dq3 i (by omega), fun i hi => by rw [vl5 i hi]; exact Nat.mod_lt _ (by decide), ?_, vN_of (by have := Nat.mod_lt x.natAbs hyp; omega) vl5⟩
  · have x1 : Fx L q (fun z => z = ad ∨ z = av) h r1 := O1.fx (Or.inl rfl)
    have x2 : Fx L q (fun z => z = ad ∨ z = av) r1 r2 := O2.fx (Or.inr rfl)
    exact x1.tr (x2.tr ((X3.mono (fun z hz => Or.inl hz)).tr (F4.fx.tr (F5.fx.tr F6.fx))))
  · rw [vq3, sA, sD, Nat.mul_div_mul_right _ _ hpu]
end Dvl
