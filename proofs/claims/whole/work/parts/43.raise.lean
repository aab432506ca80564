section Rbs
variable {L : Nat → Prop} {q : Nat → Nat} {h : AH} {σ : Nat → WR} {V : Nat → Int} {o : Nat}
theorem v_raiseBit (W : WS L q h V) (ho : L o) {K c : Nat} (hK : K < 832) (hn : 0 ≤ V o) (hc : (V o).natAbs = c * 2 ^ (K + 1)) : ∃ h', zs_X8_raiseBit h o (nI K) = some h' ∧ WS L q h' (va_up V o (((V o).natAbs + 2 ^ K : Nat) : Int)) ∧ Fr L q h h' := by
  obtain ⟨σ, H, hV⟩ := id W
  obtain ⟨k, a1, a2, a3, a4, a5, a6, a7⟩ := okW_sg (hV o ho)
  have hb0 : (σ o).2.2 = 0 := by
    have hb := v_below W ho
    rw [H.gI2 ho, if_neg (by omega)] at hb
    exact Option.some.inj hb
  obtain ⟨p, hp⟩ : ∃ p, p = K / 32 := ⟨_, rfl⟩
  obtain ⟨r, hr⟩ : ∃ r, r = K % 32 := ⟨_, rfl⟩
  have hr32 : r < 32 := by omega
  have hp26 : p < 26 := by omega
  have hKe : K = 32 * p + r := by omega
  have e1 : nI K >>> ((5 : Int32) &&& 31) = nI p := by
    rw [pk_shrN (by omega) ((5 : Int32) &&& 31) 5 (by decide), hp]
  have e2 : nI K &&& (31 : Int32) = nI r := by
    rw [pk_andN (by omega) 5 (by decide), hr]
  unfold zs_X8_raiseBit
  simp only [lt_]
  rw [e1, e2, if_neg (nI_pos (by omega)), show (26 : Int32) = nI 26 from rfl, if_pos (nI_lt hp26 (by omega))]
  obtain ⟨g, f, k', eg, Hg, Fg, k1, k2, k3, k4, k5, k6⟩ := p_raiseLoop H ho a1 a2 hp26 (nI K)
  rw [eg]
  simp only [Option.bind_some]
  rw [Hg.gR0 ho]
  simp only [Option.bind_some]
  have e3 := Hg.aJ ho (k := p) hp26
  rw [va_us] at e3
  rw [e3]
  simp only [Option.bind_some]
  have e4 : (1 : Int64) <<< ((nI r).toInt64 &&& 63) = lN (1 * 2 ^ r) := wb_shl 1 (by omega)
  rw [e4, Nat.one_mul]
  have pr : 2 ^ r < 4294967296 := Nat.pow_lt_pow_right (show 1 < 2 by decide) hr32
  have hfp : uN (f p) = (V o).natAbs / B32 ^ p % B32 := by
    by_cases hpk : p < k
    · rw [k5 p hpk, a7]
      exact (vN_dig (d := dgs (σ o).1) a3 hpk).symm
    · rw [k6 p (by omega) k2, uN_0, a7]
      exact (vN_digh (d := dgs (σ o).1) a3 (by omega)).symm
  have hpw : 2 ^ K = 2 ^ r * B32 ^ p := by rw [B32_two, ← Nat.pow_add, hKe, Nat.add_comm]
  have hmul : uN (f p) = c % 2 ^ (31 - r) * 2 ^ (r + 1) := by
    rw [hfp, hc, Nat.pow_succ, hpw]
    rw [show c * (2 ^ r * B32 ^ p * 2) = c * 2 ^ (r + 1) * B32 ^ p by rw [Nat.pow_succ, Nat.mul_assoc (2 ^ r), Nat.mul_comm (B32 ^ p) 2, ← Nat.mul_assoc (2 ^ r), ← Nat.mul_assoc], Nat.mul_div_cancel _ (B32_pos p)]
    rw [show B32 = 2 ^ (31 - r) * 2 ^ (r + 1) by rw [← Nat.pow_add, show 31 - r + (r + 1) = 32 by omega]; rfl, Nat.mul_mod_mul_right]
  have hor : uN (f p ||| lN (2 ^ r)) = uN (f p) + 2 ^ r := by
    rw [uN_orN, uN_lN (Nat.lt_trans pr (by decide)), hmul]
    exact or_mul (Nat.pow_lt_pow_right (by decide) (by omega))
  have hlt : uN (f p) + 2 ^ r < B32 := by
    rw [hmul]
    have h1 : c % 2 ^ (31 - r) < 2 ^ (31 - r) := Nat.mod_lt _ (Nat.pow_pos (by decide))
    have h2 : (c % 2 ^ (31 - r) + 1) * 2 ^ (r + 1) ≤ 2 ^ (31 - r) * 2 ^ (r + 1) := Nat.mul_le_mul_right _ h1
    rw [← Nat.pow_add, show 31 - r + (r + 1) = 32 by omega, Nat.add_mul, Nat.one_mul, Nat.pow_succ] at h2
    have h3 : 0 < 2 ^ r := Nat.pow_pos (by decide)
    show _ < 2 ^ 32
    rw [Nat.pow_succ]
    omega
  obtain ⟨g2, eg2, Hg2, Fg2⟩ := Hg.sJ ho (k := p) hp26 (f p ||| lN (2 ^ r))
  rw [eg2]
  rw [va_us, va_uu] at Hg2
  dsimp only at Hg2
  have vf : vN (dgs f) k' = (V o).natAbs := by
    rw [vN_0 (d := dgs f) k1 (fun i h1 h2 => by show uN (f i) = 0; rw [k6 i h1 h2, uN_0]), a7]
    exact vN_congr (fun i hi => congrArg uN (k5 i hi))
  have hu := vN_upd (f := f) (p := p) (f p ||| lN (2 ^ r)) (m := k') k2
  rw [hor, vf, Nat.add_mul, ← hpw] at hu
  refine ⟨g2, rfl, WS.up Hg2 hV ?_, Fg.tr Fg2⟩
  refine ⟨k', rfl, k3, fun i hi => ?_, fun _ => ?_, Or.inl ⟨hb0, ?_⟩⟩
  · dsimp only
    by_cases e : i = p
    · subst e; rw [pk_uLs, hor]; exact hlt
    · rw [pk_uLn e]
      by_cases hik : i < k
      · rw [k5 i hik]; exact a3 i hik
      · rw [k6 i (by omega) hi, uN_0]; decide
  · dsimp only
    intro e
    have h3 : 0 < 2 ^ r := Nat.pow_pos (by decide)
    by_cases ep : k' - 1 = p
    · rw [ep, pk_uLs] at e
      rw [e, uN_0] at hor
      omega
    · rw [pk_uLn ep] at e
      have e9 : k' = k := by omega
      rw [e9, k5 (k - 1) (by omega)] at e
      exact a4 (by omega) e
  · dsimp only
    congr 1
    omega
end Rbs
