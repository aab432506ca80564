section Awy
variable {h h' : AH} {u0 ad av j n : Nat} {F G : Nat → Int64}
theorem p_awayLoop {aq al ao : Nat} (d : DO h u0 aq al ao ad av) (hF : LA h ad F) (hG : LA h av G) (hne : ad ≠ av) (hu : u0 ≠ ad) (hj : j + n < 27) (dF : ∀ i, i ≤ n → uN (F (j + i)) < B32) (dG : ∀ i, i < n → uN (G i) < B32) (Q : Int64) (hQ : uN Q < B32) :
    ∃ (r : AH × Int64 × Int64) (F1 : Nat → Int64), iter (fun x : AH × Int64 × Int64 × Int32 => zb_X0_takeAway_9 u0 (nI j) (nI n) Q x.1 x.2.1 x.2.2.1 x.2.2.2) FU (h, (0 : Int64), (0 : Int64), (0 : Int32)) = some r ∧ LA r.1 ad F1 ∧ On ad h r.1 ∧ (∀ x, x < n → uN (F1 (j + x)) < B32) ∧ (∀ x, (x < j ∨ j + n ≤ x) → F1 x = F x) ∧ uN r.2.1 < B32 ∧ (r.2.2 = 0 ∨ r.2.2 = 1) ∧ sgm F1 j n + uN Q * sgm G 0 n = sgm F j n + (uN r.2.1 + uN r.2.2) * B32 ^ n := by
  obtain ⟨r, hr, F1, L1, O1, d1, k1, c1, b1, v1⟩ := iter_FU (B := fun x : AH × Int64 × Int64 × Int32 => zb_X0_takeAway_9 u0 (nI j) (nI n) Q x.1 x.2.1 x.2.2.1 x.2.2.2)
    (fun i s => s.2.2.2 = nI i ∧ ∃ F1 : Nat → Int64, LA s.1 ad F1 ∧ On ad h s.1 ∧ (∀ x, x < i → uN (F1 (j + x)) < B32) ∧ (∀ x, (x < j ∨ j + i ≤ x) → F1 x = F x) ∧ uN s.2.1 < B32 ∧ (s.2.2.1 = 0 ∨ s.2.2.1 = 1) ∧ sgm F1 j i + uN Q * sgm G 0 i = sgm F j i + (uN s.2.1 + uN s.2.2.1) * B32 ^ i)
    (fun r => ∃ F1 : Nat → Int64, LA r.1 ad F1 ∧ On ad h r.1 ∧ (∀ x, x < n → uN (F1 (j + x)) < B32) ∧ (∀ x, (x < j ∨ j + n ≤ x) → F1 x = F x) ∧ uN r.2.1 < B32 ∧ (r.2.2 = 0 ∨ r.2.2 = 1) ∧ sgm F1 j n + uN Q * sgm G 0 n = sgm F j n + (uN r.2.1 + uN r.2.2) * B32 ^ n)
    n (by omega) (s := (h, (0 : Int64), (0 : Int64), (0 : Int32))) ⟨rfl, F, hF, On.rf, fun x hx => by omega, fun _ _ => rfl, by rw [uN_0]; decide, Or.inl rfl, by show 0 + uN Q * 0 = 0 + (uN 0 + uN 0) * B32 ^ 0; rw [uN_0]; omega⟩ (by
    rintro i ⟨s, cy, bw, iv⟩ hi ⟨hiv, F1, L1, O1, dl, kl, hcy, hbw, hv⟩
    dsimp only at hiv L1 O1 hcy hbw hv ⊢
    subst hiv
    unfold zb_X0_takeAway_9
    by_cases hlt : i < n
    · have ds := d.off O1 hu
      have Gs := hG.off O1 (Ne.symm hne)
      rw [if_neg (nI_ge hlt (by omega)), ds.g3, ds.g4]
      simp only [Option.bind_some]
      rw [nI_add, L1.get (by omega), Gs.get (by omega), kl (i + j) (Or.inr (by omega))]
      simp only [Option.bind_some, lt_]
      rw [Nat.add_comm i j]
      have l1 := dF i (by omega)
      have l2 := dG i hlt
      have hb1 : uN Q * uN (G i) ≤ 4294967295 * 4294967295 := Nat.mul_le_mul (by unfold B32 at hQ; omega) (by unfold B32 at l2; omega)
      have hcy' : uN cy < 4294967296 := hcy
      have ep : uN (Q * G i + cy) = uN Q * uN (G i) + uN cy := by
        have h1 : uN (Q * G i) = uN Q * uN (G i) := uN_mulE (by omega)
        rw [uN_addE (by rw [h1]; omega), h1]
      generalize Q * G i + cy = p at ep ⊢
      obtain ⟨t, et⟩ : ∃ t, t = F (j + i) - (p &&& (4294967295 : Int64)) - bw := ⟨_, rfl⟩
      rw [← et]
      have hpm : uN (p &&& (4294967295 : Int64)) < B32 := by rw [uN_mk]; exact Nat.mod_lt _ (by decide)
      have tt := sub_facts l1 hpm hbw et
      rw [uN_mk] at tt
      obtain ⟨g, eg, Lg, Og⟩ := L1.put (k := j + i) (by omega) (t &&& (4294967295 : Int64))
      rw [eg]
      simp only [Option.bind_some]
      have base : ∀ w : Int64, (w = 0 ∨ w = 1) → uN (F (j + i)) + uN w * B32 = uN t % B32 + uN p % B32 + uN bw → (nI i + (1 : Int32) = nI (i + 1) ∧ ∃ F2 : Nat → Int64, LA g ad F2 ∧ On ad h g ∧ (∀ x, x < i + 1 → uN (F2 (j + x)) < B32) ∧ (∀ x, (x < j ∨ j + (i + 1) ≤ x) → F2 x = F x) ∧ uN (p.toUInt64 >>> (((32 : Int32)).toInt64.toUInt64 &&& Int64.toUInt64 63)).toInt64 < B32 ∧ (w = 0 ∨ w = 1) ∧ sgm F2 j (i + 1) + uN Q * sgm G 0 (i + 1) = sgm F j (i + 1) + (uN (p.toUInt64 >>> (((32 : Int32)).toInt64.toUInt64 &&& Int64.toUInt64 63)).toInt64 + uN w) * B32 ^ (i + 1)) := by
        intro w hw hq
        refine ⟨nI_1 i, _, Lg, O1.tr Og, fun x hx => ?_, fun x hx => ?_, ?_, hw, ?_⟩
        · by_cases e : x = i
          · subst e
            rw [pk_uLs, uN_mk]
            exact Nat.mod_lt _ (by decide)
          · rw [pk_uLn (by omega)]
            exact dl x (by omega)
        · rw [pk_uLn (by omega)]
          exact kl x (by omega)
        · rw [uN_sh, ep]
          show _ / 4294967296 < 4294967296
          omega
        · rw [sgm_s, sgm_s, sgm_s, sgm_upd (Nat.le_refl _), pk_uLs, uN_mk, uN_sh, B32_s, Nat.zero_add]
          have hm2 := mdP (uN p) (B32 ^ i)
          have h9 := congrArg (fun z => z * B32 ^ i) hq
          simp only [Nat.add_mul] at h9
          have h8 : uN w * B32 * B32 ^ i = uN w * (4294967296 * B32 ^ i) := by rw [Nat.mul_assoc]; rfl
          have h7 : uN p * B32 ^ i = uN Q * (uN (G i) * B32 ^ i) + uN cy * B32 ^ i := by rw [ep, Nat.add_mul, Nat.mul_assoc]
          have h6 : (uN cy + uN bw) * B32 ^ i = uN cy * B32 ^ i + uN bw * B32 ^ i := Nat.add_mul _ _ _
          rw [Nat.mul_add, Nat.add_mul]
          omega
      by_cases hneg : (0 : Int64) ≤ t
      · rw [if_pos hneg]
        refine ⟨_, rfl, fun s' hs => ?_, fun r hr => by (cases hr)⟩
        obtain rfl := Sum.inl.inj hs
        exact ⟨hlt, base 0 (Or.inl rfl) (by rw [uN_0]; have := tt.1 hneg; omega)⟩
      · rw [if_neg hneg]
        refine ⟨_, rfl, fun s' hs => ?_, fun r hr => by (cases hr)⟩
        obtain rfl := Sum.inl.inj hs
        exact ⟨hlt, base 1 (Or.inr rfl) (by rw [uN_1]; have := tt.2 hneg; omega)⟩
    · rw [if_pos (nI_le (by omega) (by omega))]
      refine ⟨_, rfl, fun s' hs => by (cases hs), fun r hr => ?_⟩
      obtain rfl := Sum.inr.inj hr
      have e : i = n := by omega
      subst e
      exact ⟨F1, L1, O1, dl, kl, hcy, hbw, hv⟩)
  exact ⟨r, F1, hr, L1, O1, d1, k1, c1, b1, v1⟩
/-- q is at most one too great for the stretch: the rest of the division, and its digit -/
theorem p_takeAway {aq al ao : Nat} (d : DO h u0 aq al ao ad av) (hF : LA h ad F) (hG : LA h av G) (hne : ad ≠ av) (hu : u0 ≠ ad) (hj : j + n < 27) (dF : ∀ i, i ≤ n → uN (F (j + i)) < B32) (dG : ∀ i, i < n → uN (G i) < B32) (Q : Int64) (hQ : uN Q < B32) (hD : 0 < sgm G 0 n) (h1 : sgm F j (n + 1) / sgm G 0 n ≤ uN Q) (h2 : uN Q ≤ sgm F j (n + 1) / sgm G 0 n + 1) :
    ∃ (h' : AH) (F' : Nat → Int64), zs_X0_takeAway h u0 (nI j) (nI n) Q = some (lN (sgm F j (n + 1) / sgm G 0 n), h') ∧ LA h' ad F' ∧ On ad h h' ∧ (∀ i, i ≤ n → uN (F' (j + i)) < B32) ∧ (∀ x, (x < j ∨ j + n < x) → F' x = F x) ∧ sgm F' j (n + 1) = sgm F j (n + 1) % sgm G 0 n := by
  unfold zs_X0_takeAway
  obtain ⟨r, F1, hr, L1, O1, d1, k1, c1, b1, v1⟩ := p_awayLoop d hF hG hne hu hj dF dG Q hQ
  rw [hr]
  simp only [Option.bind_some]
  have ds := d.off O1 hu
  rw [ds.g3, nI_add]
  simp only [Option.bind_some]
  rw [L1.get (by omega), k1 (j + n) (Or.inr (Nat.le_refl _))]
  simp only [Option.bind_some, lt_]
  have ln := dF n (Nat.le_refl n)
  obtain ⟨t, et⟩ : ∃ t, t = F (j + n) - r.2.1 - r.2.2 := ⟨_, rfl⟩
  rw [← et]
  have tt := sub_facts ln c1 b1 et
  obtain ⟨g, eg, Lg, Og⟩ := L1.put (k := j + n) (by omega) (t &&& (4294967295 : Int64))
  rw [eg]
  simp only [Option.bind_some]
  obtain ⟨F2, hF2⟩ : ∃ F2, F2 = vp_updL F1 (j + n) (t &&& (4294967295 : Int64)) := ⟨_, rfl⟩
  rw [← hF2] at Lg
  have d2 : ∀ i, i ≤ n → uN (F2 (j + i)) < B32 := by
    intro i hi
    rw [hF2]
    by_cases e : i = n
    · subst e
      rw [pk_uLs, uN_mk]
      exact Nat.mod_lt _ (by decide)
    · rw [pk_uLn (by omega)]
      exact d1 i (by omega)
  have k2 : ∀ x, (x < j ∨ j + n < x) → F2 x = F x := by
    intro x hx
    rw [hF2, pk_uLn (by omega)]
    exact k1 x (by omega)
  have s2 : sgm F2 j (n + 1) = sgm F1 j n + uN t % B32 * B32 ^ n := by
    rw [sgm_s, hF2, sgm_upd (Nat.le_refl _), pk_uLs, uN_mk]
  have hdm := Nat.div_add_mod (sgm F j (n + 1)) (sgm G 0 n)
  have hml := Nat.mod_lt (sgm F j (n + 1)) hD
  have hmc := Nat.mul_comm (sgm G 0 n) (sgm F j (n + 1) / sgm G 0 n)
  have hlt2 : sgm F2 j (n + 1) < B32 ^ (n + 1) := sgm_lt (fun i hi => d2 i (by omega))
  have hlt1 : sgm F j (n + 1) < B32 ^ (n + 1) := sgm_lt (fun i hi => dF i (by omega))
  have hadd : (uN r.2.1 + uN r.2.2) * B32 ^ n = uN r.2.1 * B32 ^ n + uN r.2.2 * B32 ^ n := Nat.add_mul _ _ _
  have hs1 := sgm_s F j n
  have t0 : (t < (0 : Int64)) ↔ ¬ (0 : Int64) ≤ t := Int64.not_le.symm
  by_cases hneg : (0 : Int64) ≤ t
  · rw [if_neg (fun e => (t0.mp e) hneg)]
    have h5 := congrArg (fun z => z * B32 ^ n) (tt.1 hneg)
    simp only [Nat.add_mul] at h5
    have h6 : sgm F2 j (n + 1) + uN Q * sgm G 0 n = sgm F j (n + 1) := by omega
    have h7 : uN Q = sgm F j (n + 1) / sgm G 0 n := by
      rcases (show uN Q = sgm F j (n + 1) / sgm G 0 n ∨ uN Q = sgm F j (n + 1) / sgm G 0 n + 1 by omega) with e | e
      · exact e
      · rw [e, Nat.add_mul, Nat.one_mul] at h6
        omega
    refine ⟨g, F2, ?_, Lg, O1.tr Og, d2, k2, ?_⟩
    · rw [← h7, lN_uN]
    · rw [h7] at h6; omega
  · rw [if_pos (t0.mpr hneg)]
    have dg := (d.off O1 hu).off Og hu
    rw [dg.ck]
    simp only [Option.bind_some]
    have h5 := congrArg (fun z => z * B32 ^ n) (tt.2 hneg)
    simp only [Nat.add_mul] at h5
    have hB : B32 * B32 ^ n = B32 ^ (n + 1) := by rw [B32_s]; rfl
    have h6 : sgm F2 j (n + 1) + uN Q * sgm G 0 n = sgm F j (n + 1) + B32 ^ (n + 1) := by omega
    have h7 : uN Q = sgm F j (n + 1) / sgm G 0 n + 1 := by
      rcases (show uN Q = sgm F j (n + 1) / sgm G 0 n ∨ uN Q = sgm F j (n + 1) / sgm G 0 n + 1 by omega) with e | e
      · rw [e] at h6
        omega
      · exact e
    obtain ⟨g2, F3, e3, L3, O3, d3, k3, cc, hcc, v3⟩ := p_giveBack dg Lg ((hG.off O1 (Ne.symm hne)).off Og (Ne.symm hne)) hne hu hj d2 dG
    rw [e3]
    simp only [Option.bind_some]
    rw [h7, Nat.add_mul, Nat.one_mul] at h6
    have hlt3 : sgm F3 j (n + 1) < B32 ^ (n + 1) := sgm_lt (fun i hi => d3 i (by omega))
    have hc1 : cc = 1 := by
      rcases (show cc = 0 ∨ cc = 1 by omega) with e | e
      · rw [e, Nat.zero_mul] at v3
        omega
      · exact e
    rw [hc1, Nat.one_mul] at v3
    refine ⟨g2, F3, ?_, L3, (O1.tr Og).tr O3, d3, fun x hx => by rw [k3 x hx]; exact k2 x hx, by omega⟩
    have e9 : Q - 1 = lN (sgm F j (n + 1) / sgm G 0 n) := by
      apply uN_inj
      have hq1 : 1 ≤ uN Q := by rw [h7]; exact Nat.le_add_left _ _
      have hq2 : sgm F j (n + 1) / sgm G 0 n < 18446744073709551616 := Nat.lt_trans (show _ < uN Q by rw [h7]; exact Nat.lt_succ_self _) (uN_lt Q)
      rw [uN_subE (x := Q) (y := 1) (by rw [uN_1]; exact hq1), uN_1, uN_lN hq2, h7]
      exact Nat.add_sub_cancel _ _
    rw [e9]
end Awy
