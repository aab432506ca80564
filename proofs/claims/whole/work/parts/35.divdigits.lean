section Dlq
variable {L : Nat → Prop} {q : Nat → Nat} {h h' h'' : AH} {σ : Nat → WR} {u0 aq al ao ad av : Nat} {F G : Nat → Int64}
theorem Fr.keep (H : HW L q h σ) (p : Fr L q h h') (d : DO h u0 aq al ao ad av) : DO h' u0 aq al ao ad av := (p.2 u0 (do_off H d)).trans d
theorem Fr.kla (H : HW L q h σ) (p : Fr L q h h') (l : LA h ad F) : LA h' ad F := (p.2 ad (la_off H l)).trans l
/-- the digits of the quotient, from the highest on -/
theorem p_divLoop (H : HW L q h σ) (hq : L aq) (d : DO h u0 aq al ao ad av) (hF : LA h ad F) (hG : LA h av G) (hne : ad ≠ av) {m n : Nat} (hmn : m + (n + 2) < 27) (dF : ∀ i, i ≤ m + (n + 2) → uN (F i) < B32) (dG : ∀ i, i < n + 2 → uN (G i) < B32) (hn : 4294967296 ≤ 2 * uN (G (n + 1))) (h0 : sgm F (m + 1) (n + 2) < sgm G 0 (n + 2)) (w4 w5 : Int32) :
    ∃ (r : AH) (F' fq : Nat → Int64), iter (fun x : AH × Int32 => zb_X0_divideLong_95 u0 (nI (n + 2)) w4 w5 x.1 x.2) FU (h, nI m) = some r ∧ HW L q r (va_up σ aq (fq, (σ aq).2)) ∧ DO r u0 aq al ao ad av ∧ LA r ad F' ∧ LA r av G ∧ Fx L q (fun z => z = ad) h r ∧ (∀ i, i ≤ n + 2 → uN (F' i) < B32) ∧ (∀ i, i ≤ m → uN (fq i) < B32) ∧ vN (dgs fq) (m + 1) = sgm F 0 (m + 1 + (n + 2)) / sgm G 0 (n + 2) ∧ sgm F' 0 (n + 2) = sgm F 0 (m + 1 + (n + 2)) % sgm G 0 (n + 2) ∧ uN (F' (n + 2)) = 0 := by
  have hD : 0 < sgm G 0 (n + 2) := by omega
  obtain ⟨r, hr, F', fq, Hr, dr, Lr, Gr, Xr, df, dq, hl, hA, hz⟩ := iter_FU (B := fun x : AH × Int32 => zb_X0_divideLong_95 u0 (nI (n + 2)) w4 w5 x.1 x.2)
    (fun i s => s.2 = nI (m + 1 - i) - 1 ∧ ∃ F1 fq : Nat → Int64, HW L q s.1 (va_up σ aq (fq, (σ aq).2)) ∧ DO s.1 u0 aq al ao ad av ∧ LA s.1 ad F1 ∧ LA s.1 av G ∧ Fx L q (fun z => z = ad) h s.1 ∧ (∀ y, y ≤ m + (n + 2) → uN (F1 y) < B32) ∧ (∀ y, m + 1 - i ≤ y → y ≤ m → uN (fq y) < B32) ∧ sgm F1 (m + 1 - i) (n + 2) < sgm G 0 (n + 2) ∧ sgm F 0 (m + 1 + (n + 2)) = sgm G 0 (n + 2) * vH (dgs fq) (m + 1 - i) (m + 1) * B32 ^ (m + 1 - i) + sgm F1 0 (m + 1 - i + (n + 2)) ∧ (0 < i → uN (F1 (m + 1 - i + (n + 2))) = 0))
    (fun r => ∃ F1 fq : Nat → Int64, HW L q r (va_up σ aq (fq, (σ aq).2)) ∧ DO r u0 aq al ao ad av ∧ LA r ad F1 ∧ LA r av G ∧ Fx L q (fun z => z = ad) h r ∧ (∀ y, y ≤ m + (n + 2) → uN (F1 y) < B32) ∧ (∀ y, y ≤ m → uN (fq y) < B32) ∧ sgm F1 0 (n + 2) < sgm G 0 (n + 2) ∧ sgm F 0 (m + 1 + (n + 2)) = sgm G 0 (n + 2) * vN (dgs fq) (m + 1) + sgm F1 0 (n + 2) ∧ uN (F1 (n + 2)) = 0)
    (m + 1) (by omega) (s := (h, nI m)) ⟨by dsimp only; rw [Nat.sub_zero, nI_pred], F, (σ aq).1, by rw [va_ue]; exact H, d, hF, hG, Fx.rf, dF, fun y h1 h2 => by omega, h0, by rw [Nat.sub_zero, vH_k, Nat.mul_zero, Nat.zero_mul, Nat.zero_add], fun e => by omega⟩ (by
    rintro i ⟨s, iv⟩ hi ⟨hiv, F1, fq, Hs, ds, Ls, Gs, Xs, df, dq, hl, hA, hz⟩
    dsimp only at hiv Hs ds Ls Gs Xs ⊢
    subst hiv
    unfold zb_X0_divideLong_95
    by_cases h0 : m + 1 - i = 0
    · rw [h0] at hl hA hz ⊢
      rw [if_pos (by decide)]
      refine ⟨_, rfl, fun s' hs => by (cases hs), fun r hr => ?_⟩
      obtain rfl := Sum.inr.inj hr
      rw [Nat.zero_add] at hz
      rw [vH_0, Nat.pow_zero, Nat.mul_one, Nat.zero_add] at hA
      exact ⟨F1, fq, Hs, ds, Ls, Gs, Xs, df, fun y hy => dq y (by omega) hy, hl, hA, hz (by omega)⟩
    · obtain ⟨j, hj⟩ : ∃ j, m + 1 - i = j + 1 := ⟨m + 1 - i - 1, by omega⟩
      rw [hj] at dq hl hA hz ⊢
      rw [nI_pred j, if_neg (nI_pos (by omega)), ds.g0]
      simp only [Option.bind_some]
      rw [Hs.gR0 hq]
      simp only [Option.bind_some]
      rw [ds.ck]
      simp only [Option.bind_some]
      obtain ⟨w, g, F2, eg, et, L2, O2, d2, k2, s2, hQ⟩ := p_digit ds Ls Gs hne (j := j) (n := n) (by omega) (fun y hy => df (j + y) (by omega)) dG hn hl
      rw [eg]
      simp only [Option.bind_some]
      rw [et]
      simp only [Option.bind_some]
      have Hg := Hs.off (la_off Hs Ls) O2
      obtain ⟨g2, eg2, Hg2, Fg2⟩ := Hg.sJ hq (k := j) (by omega) (lN (sgm F1 j (n + 3) / sgm G 0 (n + 2)))
      rw [eg2]
      simp only [Option.bind_some]
      refine ⟨_, rfl, fun s' hs => ?_, fun r hr => by (cases hr)⟩
      obtain rfl := Sum.inl.inj hs
      rw [va_us, va_uu] at Hg2
      dsimp only at Hg2 ⊢
      have ej : m + 1 - (i + 1) = j := by omega
      rw [ej]
      have hml := Nat.mod_lt (sgm F1 j (n + 3)) hD
      have hDlt : sgm G 0 (n + 2) < B32 ^ (n + 2) := sgm_lt (fun y hy => by rw [Nat.zero_add]; exact dG y hy)
      have htop : uN (F2 (j + (n + 2))) = 0 := by
        have h5 : sgm F2 j (n + 3) = _ := sgm_s F2 j (n + 2)
        rcases Nat.eq_zero_or_pos (uN (F2 (j + (n + 2)))) with e | e
        · exact e
        · have h6 : 1 * B32 ^ (n + 2) ≤ uN (F2 (j + (n + 2))) * B32 ^ (n + 2) := Nat.mul_le_mul_right _ e
          have h7 := s2
          omega
      have hs2 : sgm F2 j (n + 2) = sgm F1 j (n + 3) % sgm G 0 (n + 2) := by
        have h5 : sgm F2 j (n + 3) = _ := sgm_s F2 j (n + 2)
        rw [htop, Nat.zero_mul] at h5
        exact ((Nat.add_zero _).symm.trans h5.symm).trans s2
      have hqd : uN (lN (sgm F1 j (n + 3) / sgm G 0 (n + 2))) = sgm F1 j (n + 3) / sgm G 0 (n + 2) := uN_lN (Nat.lt_trans hQ (by decide))
      refine ⟨by omega, by rw [Int32.sub_eq_add_neg], F2, _, Hg2, (ds.off O2 (do_la ds Ls)) |> Fr.keep Hg Fg2, Fr.kla Hg Fg2 L2, Fr.kla Hg Fg2 (Gs.off O2 (Ne.symm hne)), Xs.tr ((On.fx (E := fun z => z = ad) O2 rfl).tr Fg2.fx), fun y hy => ?_, fun y h1 h2 => ?_, by rw [hs2]; exact hml, ?_, fun _ => htop⟩
      · by_cases hin : j ≤ y ∧ y ≤ j + (n + 2)
        · have := d2 (y - j) (by omega)
          rw [show j + (y - j) = y by omega] at this
          exact this
        · rw [k2 y (by omega)]; exact df y hy
      · by_cases e : y = j
        · subst e; rw [pk_uLs, hqd]; exact hQ
        · rw [pk_uLn e]; exact dq y (by omega) h2
      · rw [vH_s _ (show j < m + 1 by omega)]
        have e5 : vH (dgs (vp_updL fq j (lN (sgm F1 j (n + 3) / sgm G 0 (n + 2))))) (j + 1) (m + 1) = vH (dgs fq) (j + 1) (m + 1) := vH_congr (fun y h1 h2 => by show uN _ = uN _; rw [pk_uLn (by omega)])
        rw [e5, show dgs (vp_updL fq j (lN (sgm F1 j (n + 3) / sgm G 0 (n + 2)))) j = sgm F1 j (n + 3) / sgm G 0 (n + 2) by show uN (vp_updL fq j _ j) = _; rw [pk_uLs, hqd]]
        rw [hA, show j + 1 + (n + 2) = j + (n + 3) by omega, sgm_cat F1 j (n + 3), sgm_cat F2 j (n + 2), hs2]
        have e6 : sgm F2 0 j = sgm F1 0 j := sgm_congr (fun y hy => by rw [Nat.zero_add]; exact k2 y (by omega))
        rw [e6]
        have hdm := Nat.div_add_mod (sgm F1 j (n + 3)) (sgm G 0 (n + 2))
        generalize sgm F1 j (n + 3) / sgm G 0 (n + 2) = Q at hdm
        generalize sgm F1 j (n + 3) % sgm G 0 (n + 2) = R at hdm
        rw [← hdm, Nat.pow_succ, Nat.mul_add, Nat.add_mul, Nat.add_mul]
        have e7 : sgm G 0 (n + 2) * vH (dgs fq) (j + 1) (m + 1) * (B32 ^ j * B32) = sgm G 0 (n + 2) * (B32 * vH (dgs fq) (j + 1) (m + 1)) * B32 ^ j := by
          rw [Nat.mul_comm (B32 ^ j) B32, ← Nat.mul_assoc, Nat.mul_assoc (sgm G 0 (n + 2)), Nat.mul_comm _ B32]
        rw [e7]
        omega)
  rw [hr]
  have hq9 : vN (dgs fq) (m + 1) = sgm F 0 (m + 1 + (n + 2)) / sgm G 0 (n + 2) := by
    rw [hA, Nat.mul_add_div hD, Nat.div_eq_of_lt hl]
    exact (Nat.add_zero _).symm
  have hr9 : sgm F' 0 (n + 2) = sgm F 0 (m + 1 + (n + 2)) % sgm G 0 (n + 2) := by
    rw [hA, Nat.mul_add_mod, Nat.mod_eq_of_lt hl]
  exact ⟨r, F', fq, rfl, Hr, dr, Lr, Gr, Xr, fun i hi => df i (by omega), dq, hq9, hr9, hz⟩
end Dlq
