section Kn2
variable {g1 g2 u0 u1 u2 U D P lu ld : Nat}
/-- the guess is the quotient or one more. P = B^(n-2), lu and ld what stands below -/
theorem gm_quot (hn : 4294967296 ≤ 2 * g1) (hg2 : g2 < B32) (hU : U = ((u0 * B32 + u1) * B32 + u2) * P + lu) (hlu : lu < P) (hD : D = (g1 * B32 + g2) * P + ld) (hld : ld < P) (hQ : U / D < B32) :
    U / D ≤ gm g1 g2 u0 u1 u2 ∧ gm g1 g2 u0 u1 u2 ≤ U / D + 1 := by
  have hg : 0 < g1 := by omega
  have hB : B32 = 4294967296 := rfl
  have hd2 : B32 ≤ g1 * B32 + g2 := by have : 1 * B32 ≤ g1 * B32 := Nat.mul_le_mul_right _ hg; omega
  have hp : 0 < g1 * B32 + g2 := by omega
  have hDp : 0 < D := by
    rw [hD]
    have : 1 * P ≤ (g1 * B32 + g2) * P := Nat.mul_le_mul_right _ hp
    omega
  generalize hT : (u0 * B32 + u1) * B32 + u2 = T at hU
  have hq3 : q3 g1 g2 u0 u1 u2 = T / (g1 * B32 + g2) := by unfold q3; rw [hT]
  generalize hd : g1 * B32 + g2 = d at *
  refine ⟨gm_ge ?_ (by omega), ?_⟩
  · rw [hq3, Nat.le_div_iff_mul_le hp]
    have h1 : U / D * D ≤ U := Nat.div_mul_le_self _ _
    have h2 : U / D * (d * P) ≤ U / D * D := Nat.mul_le_mul_left _ (by omega)
    have h3 : U < (T + 1) * P := by rw [hU, Nat.add_mul, Nat.one_mul]; omega
    have h4 : U / D * d * P < (T + 1) * P := by rw [Nat.mul_assoc]; omega
    exact Nat.le_of_lt_succ (Nat.lt_of_mul_lt_mul_right h4)
  · rcases Nat.eq_zero_or_pos (gm g1 g2 u0 u1 u2) with e | e
    · rw [e]; exact Nat.zero_le _
    · obtain ⟨m, hm⟩ : ∃ m, gm g1 g2 u0 u1 u2 = m + 1 := ⟨gm g1 g2 u0 u1 u2 - 1, by omega⟩
      have h1 := gm_le3 (g1 := g1) (g2 := g2) (u0 := u0) (u1 := u1) (u2 := u2)
      have h2 := gm_leB (g1 := g1) (g2 := g2) (u0 := u0) (u1 := u1) (u2 := u2)
      rw [hq3, Nat.le_div_iff_mul_le hp, hm] at h1
      rw [hm] at h2 ⊢
      refine Nat.succ_le_succ ?_
      rw [Nat.le_div_iff_mul_le hDp]
      have h3 : m * D ≤ m * ((d + 1) * P) := Nat.mul_le_mul_left _ (by rw [hD, Nat.add_mul, Nat.one_mul]; omega)
      have h4 : m * (d + 1) ≤ T := by
        rw [Nat.mul_add, Nat.mul_one]
        rw [Nat.add_mul, Nat.one_mul] at h1
        omega
      have h5 : m * (d + 1) * P ≤ T * P := Nat.mul_le_mul_right _ h4
      rw [Nat.mul_assoc] at h5
      omega
end Kn2
section Gss
variable {h : AH} {u0 ad av j n : Nat} {F G : Nat → Int64}
theorem p_guess {aq al ao : Nat} (d : DO h u0 aq al ao ad av) (hF : LA h ad F) (hG : LA h av G) (hj : j + (n + 2) < 27) (dF : ∀ i, i ≤ n + 2 → uN (F (j + i)) < B32) (dG : ∀ i, i < n + 2 → uN (G i) < B32) (hn : 4294967296 ≤ 2 * uN (G (n + 1))) (hu : uN (F (j + (n + 2))) ≤ uN (G (n + 1))) :
    ∃ w, zs_X0_guess h u0 (nI j) (nI (n + 2)) = some w ∧ uN w = gm (uN (G (n + 1))) (uN (G n)) (uN (F (j + (n + 2)))) (uN (F (j + (n + 1)))) (uN (F (j + n))) := by
  unfold zs_X0_guess
  rw [d.g3, d.g4]
  simp only [Option.bind_some]
  have e1 : nI (n + 2) - (1 : Int32) = nI (n + 1) := nI_pred (n + 1)
  have e2 : nI (n + 2) - (2 : Int32) = nI n := by rw [show (2 : Int32) = nI 2 from rfl, pk_sub (by omega)]; rfl
  have e3 : nI (j + (n + 2)) - (1 : Int32) = nI (j + (n + 1)) := nI_pred (j + (n + 1))
  have e4 : nI (j + (n + 2)) - (2 : Int32) = nI (j + n) := by rw [show (2 : Int32) = nI 2 from rfl, pk_sub (by omega)]; rfl
  rw [e1, e2, nI_add, e3, hG.get (by omega), hG.get (by omega), hF.get (by omega), hF.get (by omega)]
  simp only [Option.bind_some, lt_]
  have l0 := dF (n + 2) (by omega)
  have l1 := dF (n + 1) (by omega)
  have l2 := dF n (by omega)
  have m1 := dG (n + 1) (by omega)
  have m2 := dG n (by omega)
  have hor := or32 l0 l1
  have hq0 := q0_le (u1 := uN (F (j + (n + 1)))) hn hu l1
  have hq2 := q0_two (u1 := uN (F (j + (n + 1)))) (u2 := uN (F (j + n))) hn hu l1 m2
  have hqm := gm_q0 (g2 := uN (G n)) (u0 := uN (F (j + (n + 2)))) (u1 := uN (F (j + (n + 1)))) (u2 := uN (F (j + n))) hn
  replace hqm := hqm.resolve_right (fun e => e l2)
  obtain ⟨m, hm⟩ : ∃ m, m = gm (uN (G (n + 1))) (uN (G n)) (uN (F (j + (n + 2)))) (uN (F (j + (n + 1)))) (uN (F (j + n))) := ⟨_, rfl⟩
  rw [← hm] at hq2 hqm ⊢
  have hmB : m ≤ 4294967295 := by rw [hm]; exact gm_leB
  generalize ((F (j + (n + 2)) <<< (((32 : Int32)).toInt64 &&& 63)) ||| F (j + (n + 1))) = hi at hor ⊢
  have hg0 : 0 < uN (G (n + 1)) := by omega
  rw [p_qob h hi (G (n + 1)) hg0 m1]
  simp only [Option.bind_some]
  rw [← hor] at hq0 hq2 hqm
  have hq0u : uN (lN (uN hi / uN (G (n + 1)))) = uN hi / uN (G (n + 1)) := uN_lN (by omega)
  have hdm := Nat.div_add_mod (uN hi) (uN (G (n + 1)))
  have hml := Nat.mod_lt (uN hi) hg0
  have hmul : uN (lN (uN hi / uN (G (n + 1))) * G (n + 1)) = uN (G (n + 1)) * (uN hi / uN (G (n + 1))) := by
    have := uN_lt hi
    rw [uN_mulE (by rw [hq0u, Nat.mul_comm]; omega), hq0u, Nat.mul_comm]
  have hr0 : uN (hi - lN (uN hi / uN (G (n + 1))) * G (n + 1)) = uN hi % uN (G (n + 1)) := by
    rw [uN_subE (by rw [hmul]; omega), hmul]; omega
  obtain ⟨r, hr, hz⟩ := iter_FU (B := fun x : Int64 × Int64 × Int32 => zb_X0_guess_63 h u0 (nI j) (nI (n + 2)) (G (n + 1)) (G n) x.1 x.2.1 x.2.2)
    (fun i s => s.2.2 = nI i ∧ uN s.1 + i = uN hi / uN (G (n + 1)) ∧ m ≤ uN s.1 ∧ uN s.1 * uN (G (n + 1)) + uN s.2.1 = uN hi ∧ uN s.2.1 < 4294967296 * (i + 1))
    (fun r => match r with
      | .inl w => uN w = m
      | .inr w => uN w = m)
    2 (by omega) (s := (lN (uN hi / uN (G (n + 1))), hi - lN (uN hi / uN (G (n + 1))) * G (n + 1), (0 : Int32))) ⟨rfl, hq0u, by rw [hq0u]; exact hqm, by dsimp only; rw [hq0u, hr0, Nat.mul_comm]; exact hdm, by dsimp only; rw [hr0]; unfold B32 at m1; omega⟩ (by
    rintro i ⟨qq, rr, iv⟩ hi2 ⟨hiv, hqi, hmq, hqr, hrb⟩
    dsimp only at hiv hqi hmq hqr hrb ⊢
    subst hiv
    unfold zb_X0_guess_63 zj_X0_guess_131
    have hstop : ∀ w : Int64, w = qq → uN qq ≤ m → uN w = m := fun w hw hle => by rw [hw]; omega
    rw [hor] at hqr
    have hiff := q3_iff (g2 := uN (G n)) (u2 := uN (F (j + n))) hg0 hqr
    rw [show (2 : Int32) = nI 2 from rfl]
    by_cases h2 : 2 ≤ i
    · rw [if_pos (nI_le h2 (by omega))]
      refine ⟨_, rfl, fun s' hs => by (cases hs), fun r hr => ?_⟩
      obtain rfl := Sum.inr.inj hr
      exact hstop qq rfl (by omega)
    · rw [if_neg (nI_ge (by omega) (by omega))]
      have cr : ((4294967295 : Int64) < rr) ↔ 4294967295 < uN rr := uN_ltP (by decide) (by omega)
      by_cases hbig : 4294967295 < uN rr
      · rw [if_pos (cr.mpr hbig)]
        refine ⟨_, rfl, fun s' hs => by (cases hs), fun r hr => ?_⟩
        obtain rfl := Sum.inr.inj hr
        have hqB : uN qq ≤ 4294967295 := by
          rcases Nat.lt_or_ge 4294967295 (uN qq) with hc | hc
          · exfalso
            have h5 : 4294967296 * uN (G (n + 1)) ≤ uN qq * uN (G (n + 1)) := Nat.mul_le_mul_right _ hc
            have h6 : uN (F (j + (n + 2))) * B32 ≤ uN (G (n + 1)) * B32 := Nat.mul_le_mul_right _ hu
            unfold B32 at *
            omega
          · exact hc
        refine hstop qq rfl ?_
        rw [hm]
        refine gm_ge (hiff.mp ?_) hqB
        have h7 : uN qq * uN (G n) ≤ 4294967295 * 4294967295 := Nat.mul_le_mul hqB (by unfold B32 at m2; omega)
        have h8 : 4294967296 * 4294967296 ≤ uN rr * B32 := Nat.mul_le_mul hbig (by unfold B32; omega)
        omega
      · rw [if_neg (fun e => hbig (cr.mp e)), d.g3, nI_add, show nI 2 = (2 : Int32) from rfl, e4]
        simp only [Option.bind_some]
        rw [hF.get (by omega)]
        simp only [Option.bind_some, lt_]
        have hrr : uN rr < B32 := by unfold B32; omega
        have hor2 := or32 hrr l2
        have hqq : uN qq ≤ 4294967297 := by omega
        have hqn : uN (qq * G n) = uN qq * uN (G n) := by
          refine uN_mulE ?_
          have : uN qq * uN (G n) ≤ 4294967297 * 4294967295 := Nat.mul_le_mul hqq (by unfold B32 at m2; omega)
          omega
        have cq : ((4294967295 : Int64) < qq) ↔ 4294967295 < uN qq := uN_ltP (by decide) (by omega)
        have cc := u_cmp ((rr <<< (((32 : Int32)).toInt64 &&& 63)) ||| F (j + n)) (qq * G n)
        rw [hor2, hqn] at cc
        have step : m < uN qq → ∃ o, (some (Sum.inl (qq - 1, rr + G (n + 1), nI i + (1 : Int32))) : Option ((Int64 × Int64 × Int32) ⊕ (Int64 ⊕ Int64))) = some o ∧ (∀ s', o = Sum.inl s' → i < 2 ∧ (s'.2.2 = nI (i + 1) ∧ uN s'.1 + (i + 1) = uN hi / uN (G (n + 1)) ∧ m ≤ uN s'.1 ∧ uN s'.1 * uN (G (n + 1)) + uN s'.2.1 = uN hi ∧ uN s'.2.1 < 4294967296 * (i + 1 + 1))) ∧ (∀ r, o = Sum.inr r → match r with | .inl w => uN w = m | .inr w => uN w = m) := by
          intro hlt
          refine ⟨_, rfl, fun s' hs => ?_, fun r hr => by (cases hr)⟩
          obtain rfl := Sum.inl.inj hs
          have h1 : uN (qq - 1) = uN qq - 1 := by rw [uN_subE (x := qq) (y := 1) (by rw [uN_1]; omega), uN_1]
          have h3 : uN (rr + G (n + 1)) = uN rr + uN (G (n + 1)) := uN_addE (by unfold B32 at *; omega)
          dsimp only
          rw [h1, h3]
          refine ⟨by omega, nI_1 i, by omega, by omega, ?_, by unfold B32 at *; omega⟩
          rw [hor, ← hqr]
          obtain ⟨k, hk⟩ : ∃ k, uN qq = k + 1 := ⟨uN qq - 1, by omega⟩
          rw [hk, Nat.add_sub_cancel, Nat.add_mul, Nat.one_mul]
          omega
        by_cases hqB : 4294967295 < uN qq
        · rw [if_pos (cq.mpr hqB)]
          exact step (by omega)
        · rw [if_neg (fun e => hqB (cq.mp e))]
          by_cases hgt : uN rr * B32 + uN (F (j + n)) < uN qq * uN (G n)
          · rw [if_pos (cc.mpr hgt)]
            refine step ?_
            rcases Nat.lt_or_ge m (uN qq) with hc | hc
            · exact hc
            · exfalso
              have h9 := hiff.mpr (Nat.le_trans hc (by rw [hm]; exact gm_le3))
              omega
          · rw [if_neg (fun e => hgt (cc.mp e))]
            refine ⟨_, rfl, fun s' hs => by (cases hs), fun r hr => ?_⟩
            obtain rfl := Sum.inr.inj hr
            refine hstop qq rfl ?_
            rw [hm]
            exact gm_ge (hiff.mp (by omega)) (by omega))
  rw [hr]
  simp only [Option.bind_some]
  cases r with
  | inl w => exact ⟨w, rfl, hz⟩
  | inr w => exact ⟨w, rfl, hz⟩
end Gss
