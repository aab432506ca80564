theorem sgm_lo (F : Nat → Int64) (j k : Nat) : sgm F j (k + 1) = uN (F j) + B32 * sgm F (j + 1) k := by
  unfold sgm
  rw [vN_lo]
  congr 2
  exact vN_congr (fun i _ => by rw [show j + (i + 1) = j + 1 + i by omega])
theorem sgm_cat (F : Nat → Int64) (j : Nat) : ∀ k, sgm F 0 (j + k) = sgm F 0 j + sgm F j k * B32 ^ j
  | 0 => by show sgm F 0 j = sgm F 0 j + 0 * _; omega
  | k + 1 => by
    rw [show j + (k + 1) = j + k + 1 by omega, sgm_s, sgm_cat F j k, sgm_s, Nat.add_mul, Nat.mul_assoc, ← Nat.pow_add, Nat.zero_add, Nat.add_comm k j]
    omega
theorem top_le {d e : Nat → Nat} {k : Nat} (he : ∀ i, i < k → e i < B32) (h : vN d (k + 1) < vN e (k + 1)) : d k ≤ e k := by
  rcases Nat.lt_or_ge (e k) (d k) with hc | hc
  · exfalso
    have h1 := vN_lt (d := e) (k := k) he
    have h2 : (e k + 1) * B32 ^ k ≤ d k * B32 ^ k := Nat.mul_le_mul_right _ hc
    rw [Nat.add_mul, Nat.one_mul] at h2
    have h3 : vN d (k + 1) = vN d k + d k * B32 ^ k := rfl
    have h4 : vN e (k + 1) = vN e k + e k * B32 ^ k := rfl
    omega
  · exact hc
section Dlp
variable {L : Nat → Prop} {q : Nat → Nat} {h h' h'' : AH} {σ : Nat → WR} {u0 aq al ao ad av : Nat} {F G : Nat → Int64}
/-- one digit of the quotient, and what is left then -/
theorem p_digit (d : DO h u0 aq al ao ad av) (hF : LA h ad F) (hG : LA h av G) (hne : ad ≠ av) {j n : Nat} (hj : j + (n + 2) < 27) (dF : ∀ i, i ≤ n + 2 → uN (F (j + i)) < B32) (dG : ∀ i, i < n + 2 → uN (G i) < B32) (hn : 4294967296 ≤ 2 * uN (G (n + 1))) (hlt : sgm F (j + 1) (n + 2) < sgm G 0 (n + 2)) :
    ∃ (w : Int64) (h' : AH) (F' : Nat → Int64), zs_X0_guess h u0 (nI j) (nI (n + 2)) = some w ∧ zs_X0_takeAway h u0 (nI j) (nI (n + 2)) w = some (lN (sgm F j (n + 3) / sgm G 0 (n + 2)), h') ∧ LA h' ad F' ∧ On ad h h' ∧ (∀ i, i ≤ n + 2 → uN (F' (j + i)) < B32) ∧ (∀ x, (x < j ∨ j + (n + 2) < x) → F' x = F x) ∧ sgm F' j (n + 3) = sgm F j (n + 3) % sgm G 0 (n + 2) ∧ sgm F j (n + 3) / sgm G 0 (n + 2) < B32 := by
  have hD : 0 < sgm G 0 (n + 2) := by omega
  have hlo := sgm_lo F j (n + 2)
  have f0 := dF 0 (by omega)
  rw [Nat.add_zero] at f0
  have hQB : sgm F j (n + 3) / sgm G 0 (n + 2) < B32 := by
    rw [Nat.div_lt_iff_lt_mul hD]
    have h1 : B32 * (sgm F (j + 1) (n + 2) + 1) ≤ B32 * sgm G 0 (n + 2) := Nat.mul_le_mul_left _ hlt
    rw [Nat.mul_add, Nat.mul_one] at h1
    have h2 : sgm F j (n + 3) = uN (F j) + B32 * sgm F (j + 1) (n + 2) := hlo
    omega
  have hu : uN (F (j + (n + 2))) ≤ uN (G (n + 1)) := by
    have h1 := top_le (d := fun i => uN (F (j + 1 + i))) (e := fun i => uN (G (0 + i))) (k := n + 1) (fun i hi => by rw [Nat.zero_add]; exact dG i (by omega)) hlt
    rw [Nat.zero_add, show j + 1 + (n + 1) = j + (n + 2) by omega] at h1
    exact h1
  obtain ⟨w, ew, hw⟩ := p_guess d hF hG hj dF dG hn hu
  have hU : sgm F j (n + 3) = ((uN (F (j + (n + 2))) * B32 + uN (F (j + (n + 1)))) * B32 + uN (F (j + n))) * B32 ^ n + sgm F j n := by
    have c1 : B32 ^ (n + 1) = B32 * B32 ^ n := by rw [Nat.pow_succ, Nat.mul_comm]
    have c2 : B32 ^ (n + 2) = B32 * (B32 * B32 ^ n) := by rw [Nat.pow_succ, Nat.mul_comm, c1]
    rw [sgm_s, sgm_s, sgm_s, c1, c2]
    simp only [Nat.add_mul, Nat.mul_assoc]
    omega
  have hDd : sgm G 0 (n + 2) = (uN (G (n + 1)) * B32 + uN (G n)) * B32 ^ n + sgm G 0 n := by
    rw [sgm_s, sgm_s, Nat.pow_succ, Nat.zero_add, Nat.zero_add, Nat.add_mul, Nat.mul_assoc, Nat.mul_comm (B32 ^ n)]
    omega
  have hgq := gm_quot hn (dG n (by omega)) hU (sgm_lt (fun i hi => dF i (by omega))) hDd (sgm_lt (fun i hi => by rw [Nat.zero_add]; exact dG i (by omega))) hQB
  rw [← hw] at hgq
  have hwB : uN w < B32 := by
    have := gm_leB (g1 := uN (G (n + 1))) (g2 := uN (G n)) (u0 := uN (F (j + (n + 2)))) (u1 := uN (F (j + (n + 1)))) (u2 := uN (F (j + n)))
    rw [← hw] at this
    unfold B32
    omega
  obtain ⟨h', F', e1, L1, O1, d1, k1, s1⟩ := p_takeAway d hF hG hne (do_la d hF) hj dF dG w hwB hD hgq.1 hgq.2
  exact ⟨w, h', F', ew, e1, L1, O1, d1, k1, s1, hQB⟩
end Dlp
