theorem mv_arith2 {M f u : Nat} (hu : u ≤ 32) : (M / B32 ^ (f + 1) % B32 * 2 ^ (32 - u) + M / B32 ^ f % B32 / 2 ^ u) % B32 = M / 2 ^ u / B32 ^ f % B32 := by
  have hB : B32 = 2 ^ u * 2 ^ (32 - u) := by rw [← Nat.pow_add, show u + (32 - u) = 32 by omega]; rfl
  have h1 : M / 2 ^ u / B32 ^ f = M / B32 ^ f / 2 ^ u := by rw [Nat.div_div_eq_div_mul, Nat.div_div_eq_div_mul, Nat.mul_comm]
  have h2 : M / B32 ^ (f + 1) = M / B32 ^ f / B32 := by rw [Nat.div_div_eq_div_mul, Nat.pow_succ]
  rw [h1, h2]
  generalize M / B32 ^ f = X
  have h3 : X / 2 ^ u = X / B32 * 2 ^ (32 - u) + X % B32 / 2 ^ u := by
    have h4 := Nat.div_add_mod X B32
    have h5 : B32 * (X / B32) = 2 ^ u * (X / B32 * 2 ^ (32 - u)) := by
      generalize X / B32 = Y
      rw [hB, Nat.mul_assoc, Nat.mul_comm Y]
    conv => lhs; rw [← h4, h5]
    rw [Nat.mul_add_div (Nat.pow_pos (by decide))]
  rw [h3, Nat.add_mod, Nat.mul_mod, Nat.mod_mod, ← Nat.mul_mod, ← Nat.add_mod]
theorem sgm_dig {F : Nat → Int64} {k i : Nat} (hd : ∀ y, y < k → uN (F y) < B32) (hi : i < k) : sgm F 0 k / B32 ^ i % B32 = uN (F i) := by
  have h1 := vN_dig (d := fun y => uN (F (0 + y))) (k := k) (i := i) (fun y hy => by rw [Nat.zero_add]; exact hd y hy) hi
  rw [Nat.zero_add] at h1
  exact h1
section Lft
variable {L : Nat → Prop} {q : Nat → Nat} {h h' h'' : AH} {σ : Nat → WR} {u0 aq al ao ad av : Nat} {F G : Nat → Int64}
theorem p_leftLoop (H : HW L q h σ) (hl : L al) (d : DO h u0 aq al ao ad av) (hF : LA h ad F) {k u : Nat} (hk : k ≤ 26) (hu : u < 32) (dF : ∀ i, i ≤ k → uN (F i) < B32) (hz : uN (F k) = 0) :
    ∃ (r : AH) (f : Nat → Int64), iter (fun x : AH × Int32 => zb_X0_divideLong_144 u0 (nI k) (nI u) x.1 x.2) FU (h, (0 : Int32)) = some r ∧ HW L q r (va_up σ al (f, (σ al).2)) ∧ Fr L q h r ∧ ∀ i, i < k → uN (f i) = sgm F 0 k / 2 ^ u / B32 ^ i % B32 := by
  obtain ⟨r, hr, f, Hr, Fr1, vr⟩ := iter_FU (B := fun x : AH × Int32 => zb_X0_divideLong_144 u0 (nI k) (nI u) x.1 x.2)
    (fun i s => s.2 = nI i ∧ ∃ f : Nat → Int64, HW L q s.1 (va_up σ al (f, (σ al).2)) ∧ Fr L q h s.1 ∧ ∀ y, y < i → uN (f y) = sgm F 0 k / 2 ^ u / B32 ^ y % B32)
    (fun r => ∃ f : Nat → Int64, HW L q r (va_up σ al (f, (σ al).2)) ∧ Fr L q h r ∧ ∀ y, y < k → uN (f y) = sgm F 0 k / 2 ^ u / B32 ^ y % B32)
    k (by omega) (s := (h, (0 : Int32))) ⟨rfl, (σ al).1, by rw [va_ue]; exact H, Fr.rf, fun y hy => by omega⟩ (by
    rintro i ⟨s, iv⟩ hi ⟨hiv, f, Hs, Fs, v1⟩
    dsimp only at hiv Hs Fs ⊢
    subst hiv
    have ds := Fr.keep H Fs d
    have Ls := Fr.kla H Fs hF
    unfold zb_X0_divideLong_144
    by_cases hlt : i < k
    · rw [if_neg (nI_ge hlt (by omega)), ds.g1, ds.g3]
      simp only [Option.bind_some]
      rw [Hs.gR0 hl]
      simp only [Option.bind_some]
      have e1 : nI i + (1 : Int32) = nI (i + 1) := nI_1 i
      rw [e1, Ls.get (by omega), Ls.get (by omega)]
      simp only [Option.bind_some]
      have l0 := dF i (by omega)
      have l1 := dF (i + 1) (by omega)
      have e2 : (32 : Int32) - nI u = nI (32 - u) := by rw [show (32 : Int32) = nI 32 from rfl]; exact pk_sub (by omega)
      have e3 : ((F i).toUInt64 >>> ((nI u).toInt64.toUInt64 &&& Int64.toUInt64 63)).toInt64 = lN (uN (F i) / 2 ^ u) := by
        rw [← uN_sk (F i) (k := u) (by omega), lN_uN]
      have e4 : F (i + 1) <<< ((nI (32 - u)).toInt64 &&& 63) = lN (uN (F (i + 1)) * 2 ^ (32 - u)) := by
        have := wb_shl (uN (F (i + 1))) (k := 32 - u) (by omega)
        rw [lN_uN] at this
        exact this
      have ha : uN (F i) / 2 ^ u < 2 ^ (32 - u) := by
        rw [Nat.div_lt_iff_lt_mul (Nat.pow_pos (by decide)), ← Nat.pow_add, show 32 - u + u = 32 by omega]
        exact l0
      have ha2 : uN (F i) / 2 ^ u < 4294967296 := Nat.lt_of_le_of_lt (Nat.div_le_self _ _) l0
      have hb : uN (F (i + 1)) * 2 ^ (32 - u) ≤ 4294967295 * 4294967296 := Nat.mul_le_mul (by unfold B32 at l1; omega) (Nat.pow_le_pow_right (show 0 < 2 by decide) (show 32 - u ≤ 32 by omega))
      rw [e2, e3, e4, wb_or (by omega) (by omega), Nat.or_comm, or_mul ha]
      have e5 : lN (uN (F (i + 1)) * 2 ^ (32 - u) + uN (F i) / 2 ^ u) &&& (4294967295 : Int64) = lN ((uN (F (i + 1)) * 2 ^ (32 - u) + uN (F i) / 2 ^ u) % B32) := wb_mask (k := 32) (by omega) (by omega)
      rw [e5]
      have hdig : (uN (F (i + 1)) * 2 ^ (32 - u) + uN (F i) / 2 ^ u) % B32 = sgm F 0 k / 2 ^ u / B32 ^ i % B32 := by
        rw [← mv_arith2 (M := sgm F 0 k) (f := i) (u := u) (by omega), sgm_dig (fun y hy => dF y (by omega)) hlt]
        have e6 : sgm F 0 k / B32 ^ (i + 1) % B32 = uN (F (i + 1)) := by
          by_cases e : i + 1 < k
          · exact sgm_dig (fun y hy => dF y (by omega)) e
          · have e7 : i + 1 = k := by omega
            rw [e7, hz, Nat.div_eq_of_lt (sgm_lt (fun y hy => by rw [Nat.zero_add]; exact dF y (by omega)))]
            rfl
        rw [e6]
      obtain ⟨g, eg, Hg, Fg⟩ := Hs.sJ hl (k := i) (by omega) (lN ((uN (F (i + 1)) * 2 ^ (32 - u) + uN (F i) / 2 ^ u) % B32))
      rw [eg]
      simp only [Option.bind_some]
      refine ⟨_, rfl, fun s' hs => ?_, fun r hr => by (cases hr)⟩
      obtain rfl := Sum.inl.inj hs
      rw [va_us, va_uu] at Hg
      refine ⟨hlt, rfl, _, Hg, Fs.tr Fg, fun y hy => ?_⟩
      by_cases e : y = i
      · subst e
        rw [pk_uLs, uN_lN (Nat.lt_trans (Nat.mod_lt _ (by decide)) (by decide))]
        exact hdig
      · rw [pk_uLn e]; exact v1 y (by omega)
    · rw [if_pos (nI_le (by omega) (by omega))]
      refine ⟨_, rfl, fun s' hs => by (cases hs), fun r hr => ?_⟩
      obtain rfl := Sum.inr.inj hr
      exact ⟨f, Hs, Fs, fun y hy => v1 y (by omega)⟩)
  exact ⟨r, f, hr, Hr, Fr1, vr⟩
end Lft
