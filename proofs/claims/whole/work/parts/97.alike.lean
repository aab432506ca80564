/-! each answer is the only one: class and reference answer alike -/
section Uq
variable {S S1 S2 : AS} {r r' : Int32}
theorem bad_u : badC S r S1 → badC S r' S2 → r = r' ∧ S1 = S2 := fun a b => ⟨a.1.trans b.1.symm, a.2.trans b.2.symm⟩
theorem err_u {e : Int32} : errC S e r S1 → errC S e r' S2 → r = r' ∧ S1 = S2 := fun a b => ⟨a.1.trans b.1.symm, a.2.trans b.2.symm⟩
theorem eq_u {e : Int32} {T : AS} : (r = e ∧ S1 = T) → (r' = e ∧ S2 = T) → r = r' ∧ S1 = S2 := fun a b => ⟨a.1.trans b.1.symm, a.2.trans b.2.symm⟩
theorem eqq_u {α : Type} {x y e : α} : x = e → y = e → x = y := fun a b => a.trans b.symm
theorem ite_u {c : Prop} [Decidable c] {P P' Q Q' G : Prop} (h1 : P → P' → G) (h2 : Q → Q' → G) : (if c then P else Q) → (if c then P' else Q') → G := by
  by_cases hc : c
  · rw [if_pos hc, if_pos hc]
    exact h1
  · rw [if_neg hc, if_neg hc]
    exact h2
theorem itn_u {c : Prop} [Decidable c] {P P' Q Q' G : Prop} (h1 : P → P' → G) (h2 : ¬ c → Q → Q' → G) : (if c then P else Q) → (if c then P' else Q') → G := by
  by_cases hc : c
  · rw [if_pos hc, if_pos hc]
    exact h1
  · rw [if_neg hc, if_neg hc]
    exact h2 hc
theorem wrong_u {b : Nat → Nat} {q s C p p' : Nat} (h1 : wrongAt b q s C p) (h2 : wrongAt b q s C p') : p = p' := by
  obtain ⟨a1, a2, a3, a4⟩ := h1
  obtain ⟨b1, b2, b3, b4⟩ := h2
  rcases Nat.lt_trichotomy p p' with h | h | h
  · exact absurd (b4 p a1 h) a3
  · exact h
  · exact absurd (a4 p' b1 h) b3
theorem arQ_ne (si : SI S) {w i j : Nat} (hi : i < 12) (hj : j < 12) (h : ¬ (w = 3 ∧ S.tp j = 0)) : arQ w (S.bt i) (S.tp j) (S.bt j) ≠ 0 := by
  have h1 := (si.2.1 i hi).1
  have h2 := (si.2.1 j hj).1
  unfold arQ
  split
  · rename_i hw
    exact Int.mul_ne_zero (by omega) (fun z => h ⟨hw, z⟩)
  · exact Int.mul_ne_zero (by omega) (by omega)
theorem ixI_lt {N i : Nat} {x : Int32} (h : ixI N x = some i) : i < N := by
  unfold ixI at h
  split at h
  · rename_i hc
    obtain rfl := Option.some.inj h
    omega
  · cases h
theorem u_set {s : Int32} {v : Int64} : Sp_set S s v r S1 → Sp_set S s v r' S2 → r = r' ∧ S1 = S2 := by
  unfold Sp_set
  generalize ixI 24 s = o0
  rcases o0 with _ | i
  · exact bad_u
  · exact eq_u
theorem u_feed {v : Int64} {x : Int32} : Sp_feed S v x r S1 → Sp_feed S v x r' S2 → r = r' ∧ S1 = S2 := by
  unfold Sp_feed
  generalize ixI 9 x = o0
  rcases o0 with _ | N
  · exact bad_u
  · exact ite_u bad_u (ite_u eq_u err_u)
theorem u_read {s b : Int32} : Sp_read S s b r S1 → Sp_read S s b r' S2 → r = r' ∧ S1 = S2 := by
  unfold Sp_read
  generalize ixI 24 s = o0
  generalize bsI b = o1
  rcases o0 with _ | i
  · exact bad_u
  · rcases o1 with _ | q
    · exact bad_u
    · rintro (⟨a1, rfl, rfl⟩ | ⟨a1, p, a2, rfl, rfl⟩ | ⟨a1, a2, a3⟩) (⟨b1, rfl, rfl⟩ | ⟨b1, p', b2, rfl, rfl⟩ | ⟨b1, b2, b3⟩)
      · exact ⟨rfl, rfl⟩
      · exact absurd a1 b1
      · exact absurd a1 b1
      · exact absurd b1 a1
      · obtain rfl := wrong_u a2 b2
        exact ⟨rfl, rfl⟩
      · exact absurd (b2 p a2.1 a2.2.1) a2.2.2.1
      · exact absurd b1 a1
      · exact absurd (a2 p' b2.1 b2.2.1) b2.2.2.1
      · exact kp_uniq a3 b3
theorem u_write {s b : Int32} : Sp_write S s b r S1 → Sp_write S s b r' S2 → r = r' ∧ S1 = S2 := by
  unfold Sp_write
  generalize ixI 24 s = o0
  generalize bsI b = o1
  rcases o0 with _ | i
  · exact bad_u
  · rcases o1 with _ | q
    · exact bad_u
    · rintro ⟨L, a, rfl, rfl⟩ ⟨K, b, rfl, rfl⟩
      obtain rfl := isLen_uniq a b
      exact ⟨rfl, rfl⟩
theorem u_act {y a b c : Int32} : Sp_act S y a b c r S1 → Sp_act S y a b c r' S2 → r = r' ∧ S1 = S2 := by
  unfold Sp_act
  generalize ixI 3 y = o0
  generalize ix3 a b c = o1
  rcases o0 with _ | w
  · exact bad_u
  · rcases o1 with _ | ⟨i, j, k⟩
    · exact bad_u
    · exact kp_uniq
theorem u_over {y a b c e : Int32} : Sp_over S y a b c e r S1 → Sp_over S y a b c e r' S2 → r = r' ∧ S1 = S2 := by
  unfold Sp_over
  generalize ixI 3 y = o0
  generalize ix3 a b c = o1
  generalize ixI 24 e = o2
  rcases o0 with _ | w
  · exact bad_u
  · rcases o1 with _ | ⟨i, j, k⟩
    · exact bad_u
    · rcases o2 with _ | l
      · exact bad_u
      · exact ite_u bad_u (ite_u err_u (ite_u eq_u err_u))
theorem u_divisor {a b c : Int32} : Sp_divisor S a b c r S1 → Sp_divisor S a b c r' S2 → r = r' ∧ S1 = S2 := by
  unfold Sp_divisor
  generalize ix3 a b c = o0
  rcases o0 with _ | ⟨i, j, k⟩
  · exact bad_u
  · exact kp_uniq
theorem u_power {a e c : Int32} : Sp_power S a e c r S1 → Sp_power S a e c r' S2 → r = r' ∧ S1 = S2 := by
  unfold Sp_power
  generalize ix2 a c = o0
  generalize ixI 2001 e = o1
  rcases o0 with _ | ⟨i, k⟩
  · exact bad_u
  · rcases o1 with _ | N
    · exact bad_u
    · exact kp_uniq
theorem u_root {a e c : Int32} : Sp_root S a e c r S1 → Sp_root S a e c r' S2 → r = r' ∧ S1 = S2 := by
  unfold Sp_root
  generalize ix2 a c = o0
  generalize rtI e = o1
  rcases o0 with _ | ⟨i, k⟩
  · exact bad_u
  · rcases o1 with _ | N
    · exact bad_u
    · refine ite_u err_u ?_
      rintro ⟨R, a1, rfl, rfl⟩ ⟨R', b1, rfl, rfl⟩
      obtain rfl := isRoot_uniq a1 b1
      exact ⟨rfl, rfl⟩
theorem u_rest {a e m c : Int32} : Sp_rest S a e m c r S1 → Sp_rest S a e m c r' S2 → r = r' ∧ S1 = S2 := by
  unfold Sp_rest
  generalize ix3 a m c = o0
  generalize ixI 1000001 e = o1
  rcases o0 with _ | ⟨i, j, k⟩
  · exact bad_u
  · rcases o1 with _ | E
    · exact bad_u
    · exact ite_u eq_u err_u
theorem u_inverse {a m c : Int32} : Sp_inverse S a m c r S1 → Sp_inverse S a m c r' S2 → r = r' ∧ S1 = S2 := by
  unfold Sp_inverse
  generalize ix3 a m c = o0
  rcases o0 with _ | ⟨i, j, k⟩
  · exact bad_u
  · refine ite_u (ite_u ?_ err_u) err_u
    rintro ⟨R, a1, rfl, rfl⟩ ⟨R', b1, rfl, rfl⟩
    obtain rfl := isInv_uniq a1 b1
    exact ⟨rfl, rfl⟩
theorem u_bits {y a b c : Int32} : Sp_bits S y a b c r S1 → Sp_bits S y a b c r' S2 → r = r' ∧ S1 = S2 := by
  unfold Sp_bits
  generalize ixI 4 y = o0
  generalize ix3 a b c = o1
  rcases o0 with _ | w
  · exact bad_u
  · rcases o1 with _ | ⟨i, j, k⟩
    · exact bad_u
    · rintro ⟨R, a1, a2⟩ ⟨R', b1, b2⟩
      obtain rfl : R = R' := bI_ext (fun x => by rw [a1, b1])
      exact kp_uniq a2 b2
theorem u_shift {a e c : Int32} : Sp_shift S a e c r S1 → Sp_shift S a e c r' S2 → r = r' ∧ S1 = S2 := by
  unfold Sp_shift
  generalize ix2 a c = o0
  rcases o0 with _ | ⟨i, k⟩
  · exact bad_u
  · exact ite_u kp_uniq bad_u
theorem u_ratio {a b q : Int32} : Sp_ratio S a b q r S1 → Sp_ratio S a b q r' S2 → r = r' ∧ S1 = S2 := by
  unfold Sp_ratio
  generalize ix2 a b = o0
  generalize ixI 12 q = o1
  rcases o0 with _ | ⟨i, j⟩
  · exact bad_u
  · rcases o1 with _ | k
    · exact bad_u
    · refine itn_u err_u (fun hc => ?_)
      rintro ⟨t, u, a1, a2⟩ ⟨t', u', b1, b2⟩
      obtain ⟨rfl, rfl⟩ := isRat_uniq hc a1 b1
      exact kpR_uniq a2 b2
theorem u_actRatio {y p q z : Int32} (si : SI S) : Sp_actRatio S y p q z r S1 → Sp_actRatio S y p q z r' S2 → r = r' ∧ S1 = S2 := by
  unfold Sp_actRatio
  generalize ixI 4 y = o0
  generalize h1 : ixI 12 p = o1
  generalize h2 : ixI 12 q = o2
  generalize ixI 12 z = o3
  rcases o0 with _ | w
  · exact bad_u
  · rcases o1 with _ | i
    · exact bad_u
    · rcases o2 with _ | j
      · exact bad_u
      · rcases o3 with _ | k
        · exact bad_u
        · refine itn_u err_u (fun hc => ?_)
          rintro ⟨t, u, a1, a2⟩ ⟨t', u', b1, b2⟩
          obtain ⟨rfl, rfl⟩ := isRat_uniq (arQ_ne si (ixI_lt h1) (ixI_lt h2) hc) a1 b1
          exact kpR_uniq a2 b2
theorem u_part {q y s : Int32} : Sp_part S q y s r S1 → Sp_part S q y s r' S2 → r = r' ∧ S1 = S2 := by
  unfold Sp_part
  generalize ixI 12 q = o0
  generalize ixI 4 y = o1
  generalize ixI 24 s = o2
  rcases o0 with _ | i
  · exact bad_u
  · rcases o1 with _ | w
    · exact bad_u
    · rcases o2 with _ | k
      · exact bad_u
      · exact kp_uniq
theorem u_digits {q b : Int32} : Sp_digits S q b r S1 → Sp_digits S q b r' S2 → r = r' ∧ S1 = S2 := by
  unfold Sp_digits
  generalize ixI 12 q = o0
  generalize bsI b = o1
  rcases o0 with _ | i
  · exact bad_u
  · rcases o1 with _ | g
    · exact bad_u
    · rintro (⟨A, m, a1, a2, rfl, rfl⟩ | ⟨a1, a2⟩) (⟨A', m', b1, b2, rfl, rfl⟩ | ⟨b1, b2⟩)
      · obtain ⟨rfl, rfl⟩ := isExp_uniq a1 b1
        exact ⟨rfl, rfl⟩
      · exact (isExp_no a1 a2 b1).elim
      · exact (isExp_no b1 b2 a1).elim
      · exact err_u a2 b2
end Uq
section Uqq
variable {S : AS}
theorem u_low {s : Int32} {r r' : Int64} : Sp_low S s r → Sp_low S s r' → r = r' := by
  unfold Sp_low
  generalize ixI 24 s = o0
  rcases o0 with _ | i
  · exact eqq_u
  · exact eqq_u
theorem u_limbs {s : Int32} {r r' : Int32} : Sp_limbs S s r → Sp_limbs S s r' → r = r' := by
  unfold Sp_limbs
  generalize ixI 24 s = o0
  rcases o0 with _ | i
  · exact eqq_u
  · refine ite_u eqq_u ?_
    rintro ⟨k, a, rfl⟩ ⟨l, b, rfl⟩
    rw [isSz_uniq a b]
theorem u_limb {s k : Int32} {r r' : Int64} : Sp_limb S s k r → Sp_limb S s k r' → r = r' := by
  unfold Sp_limb
  generalize ixI 24 s = o0
  rcases o0 with _ | i
  · exact eqq_u
  · exact eqq_u
theorem u_compare {a b : Int32} {r r' : Int32} : Sp_compare S a b r → Sp_compare S a b r' → r = r' := by
  unfold Sp_compare
  generalize ix2 a b = o0
  rcases o0 with _ | ⟨i, j⟩
  · exact eqq_u
  · exact eqq_u
theorem u_bit {a k : Int32} {r r' : Int32} : Sp_bit S a k r → Sp_bit S a k r' → r = r' := by
  unfold Sp_bit
  generalize ixI 24 a = o0
  rcases o0 with _ | i
  · exact eqq_u
  · exact ite_u eqq_u eqq_u
theorem u_length {a : Int32} {r r' : Int32} : Sp_length S a r → Sp_length S a r' → r = r' := by
  unfold Sp_length
  generalize ixI 24 a = o0
  rcases o0 with _ | i
  · exact eqq_u
  · exact eqq_u
theorem u_ones {a : Int32} {r r' : Int32} : Sp_ones S a r → Sp_ones S a r' → r = r' := by
  unfold Sp_ones
  generalize ixI 24 a = o0
  rcases o0 with _ | i
  · exact eqq_u
  · exact eqq_u
theorem u_compareRatio {p q : Int32} {r r' : Int32} : Sp_compareRatio S p q r → Sp_compareRatio S p q r' → r = r' := by
  unfold Sp_compareRatio
  generalize ixI 12 p = o0
  generalize ixI 12 q = o1
  rcases o0 with _ | i
  · exact eqq_u
  · rcases o1 with _ | j
    · exact eqq_u
    · exact eqq_u
theorem u_digit {x r r' : Int32} : Sp_digit S x r → Sp_digit S x r' → r = r' := by
  unfold Sp_digit
  refine ite_u eqq_u (ite_u eqq_u ?_)
  generalize ixI (S.eA + S.eM) x = o0
  rcases o0 with _ | j
  · exact eqq_u
  · exact eqq_u
end Uqq
section Pf
variable {h : AH} {n m : Nat} {S : AS}
theorem two_set (I : PI n m h S) (a : Int32) (b : Int64) : ∃ r h1 h2 S', zs_X9_set h n a b = some (r, h1) ∧ zs_X11_set h1 m a b = some (r, h2) ∧ PI n m h2 S' ∧ KP n m h h2 ∧ chk h n 9 = some () ∧ chk h1 m 11 = some () := pairS (fx := fun h => zs_X9_set h n a b) (fm := fun h => zs_X11_set h m a b) (Sp := Sp_set S a b) (fun I => c_set I a b) (fun I => r_set I a b) u_set I
theorem two_feed (I : PI n m h S) (a : Int64) (b : Int32) : ∃ r h1 h2 S', zs_X9_feed h n a b = some (r, h1) ∧ zs_X11_feed h1 m a b = some (r, h2) ∧ PI n m h2 S' ∧ KP n m h h2 ∧ chk h n 9 = some () ∧ chk h1 m 11 = some () := pairS (fx := fun h => zs_X9_feed h n a b) (fm := fun h => zs_X11_feed h m a b) (Sp := Sp_feed S a b) (fun I => c_feed I a b) (fun I => r_feed I a b) u_feed I
theorem two_read (I : PI n m h S) (a : Int32) (b : Int32) : ∃ r h1 h2 S', zs_X9_read h n a b = some (r, h1) ∧ zs_X11_read h1 m a b = some (r, h2) ∧ PI n m h2 S' ∧ KP n m h h2 ∧ chk h n 9 = some () ∧ chk h1 m 11 = some () := pairS (fx := fun h => zs_X9_read h n a b) (fm := fun h => zs_X11_read h m a b) (Sp := Sp_read S a b) (fun I => c_read I a b) (fun I => r_read I a b) u_read I
theorem two_write (I : PI n m h S) (a : Int32) (b : Int32) : ∃ r h1 h2 S', zs_X9_write h n a b = some (r, h1) ∧ zs_X11_write h1 m a b = some (r, h2) ∧ PI n m h2 S' ∧ KP n m h h2 ∧ chk h n 9 = some () ∧ chk h1 m 11 = some () := pairS (fx := fun h => zs_X9_write h n a b) (fm := fun h => zs_X11_write h m a b) (Sp := Sp_write S a b) (fun I => c_write I a b) (fun I => r_write I a b) u_write I
theorem two_low (I : PI n m h S) (a : Int32) : ∃ r h2, zs_X9_low h n a = some r ∧ zs_X11_low h m a = some (r, h2) ∧ PI n m h2 S ∧ KP n m h h2 ∧ chk h n 9 = some () ∧ chk h m 11 = some () := pairQ (fx := fun h => zs_X9_low h n a) (fm := fun h => zs_X11_low h m a) (Sp := Sp_low S a) (fun I => c_low I a) (fun I => r_low I a) u_low I
theorem two_limbs (I : PI n m h S) (a : Int32) : ∃ r h2, zs_X9_limbs h n a = some r ∧ zs_X11_limbs h m a = some (r, h2) ∧ PI n m h2 S ∧ KP n m h h2 ∧ chk h n 9 = some () ∧ chk h m 11 = some () := pairQ (fx := fun h => zs_X9_limbs h n a) (fm := fun h => zs_X11_limbs h m a) (Sp := Sp_limbs S a) (fun I => c_limbs I a) (fun I => r_limbs I a) u_limbs I
theorem two_limb (I : PI n m h S) (a : Int32) (b : Int32) : ∃ r h2, zs_X9_limb h n a b = some r ∧ zs_X11_limb h m a b = some (r, h2) ∧ PI n m h2 S ∧ KP n m h h2 ∧ chk h n 9 = some () ∧ chk h m 11 = some () := pairQ (fx := fun h => zs_X9_limb h n a b) (fm := fun h => zs_X11_limb h m a b) (Sp := Sp_limb S a b) (fun I => c_limb I a b) (fun I => r_limb I a b) u_limb I
theorem two_compare (I : PI n m h S) (a : Int32) (b : Int32) : ∃ r h2, zs_X9_compare h n a b = some r ∧ zs_X11_compare_ h m a b = some (r, h2) ∧ PI n m h2 S ∧ KP n m h h2 ∧ chk h n 9 = some () ∧ chk h m 11 = some () := pairQ (fx := fun h => zs_X9_compare h n a b) (fm := fun h => zs_X11_compare_ h m a b) (Sp := Sp_compare S a b) (fun I => c_compare I a b) (fun I => r_compare I a b) u_compare I
theorem two_act (I : PI n m h S) (a : Int32) (b : Int32) (c : Int32) (d : Int32) : ∃ r h1 h2 S', zs_X9_act h n a b c d = some (r, h1) ∧ zs_X11_act h1 m a b c d = some (r, h2) ∧ PI n m h2 S' ∧ KP n m h h2 ∧ chk h n 9 = some () ∧ chk h1 m 11 = some () := pairS (fx := fun h => zs_X9_act h n a b c d) (fm := fun h => zs_X11_act h m a b c d) (Sp := Sp_act S a b c d) (fun I => c_act I a b c d) (fun I => r_act I a b c d) u_act I
theorem two_over (I : PI n m h S) (a : Int32) (b : Int32) (c : Int32) (d : Int32) (e : Int32) : ∃ r h1 h2 S', zs_X9_over h n a b c d e = some (r, h1) ∧ zs_X11_over_ h1 m a b c d e = some (r, h2) ∧ PI n m h2 S' ∧ KP n m h h2 ∧ chk h n 9 = some () ∧ chk h1 m 11 = some () := pairS (fx := fun h => zs_X9_over h n a b c d e) (fm := fun h => zs_X11_over_ h m a b c d e) (Sp := Sp_over S a b c d e) (fun I => c_over I a b c d e) (fun I => r_over I a b c d e) u_over I
theorem two_divisor (I : PI n m h S) (a : Int32) (b : Int32) (c : Int32) : ∃ r h1 h2 S', zs_X9_divisor h n a b c = some (r, h1) ∧ zs_X11_divisor h1 m a b c = some (r, h2) ∧ PI n m h2 S' ∧ KP n m h h2 ∧ chk h n 9 = some () ∧ chk h1 m 11 = some () := pairS (fx := fun h => zs_X9_divisor h n a b c) (fm := fun h => zs_X11_divisor h m a b c) (Sp := Sp_divisor S a b c) (fun I => c_divisor I a b c) (fun I => r_divisor I a b c) u_divisor I
theorem two_power (I : PI n m h S) (a : Int32) (b : Int32) (c : Int32) : ∃ r h1 h2 S', zs_X9_power h n a b c = some (r, h1) ∧ zs_X11_power h1 m a b c = some (r, h2) ∧ PI n m h2 S' ∧ KP n m h h2 ∧ chk h n 9 = some () ∧ chk h1 m 11 = some () := pairS (fx := fun h => zs_X9_power h n a b c) (fm := fun h => zs_X11_power h m a b c) (Sp := Sp_power S a b c) (fun I => c_power I a b c) (fun I => r_power I a b c) u_power I
theorem two_root (I : PI n m h S) (a : Int32) (b : Int32) (c : Int32) : ∃ r h1 h2 S', zs_X9_root h n a b c = some (r, h1) ∧ zs_X11_root h1 m a b c = some (r, h2) ∧ PI n m h2 S' ∧ KP n m h h2 ∧ chk h n 9 = some () ∧ chk h1 m 11 = some () := pairS (fx := fun h => zs_X9_root h n a b c) (fm := fun h => zs_X11_root h m a b c) (Sp := Sp_root S a b c) (fun I => c_root I a b c) (fun I => r_root I a b c) u_root I
theorem two_rest (I : PI n m h S) (a : Int32) (b : Int32) (c : Int32) (d : Int32) : ∃ r h1 h2 S', zs_X9_rest h n a b c d = some (r, h1) ∧ zs_X11_rest h1 m a b c d = some (r, h2) ∧ PI n m h2 S' ∧ KP n m h h2 ∧ chk h n 9 = some () ∧ chk h1 m 11 = some () := pairS (fx := fun h => zs_X9_rest h n a b c d) (fm := fun h => zs_X11_rest h m a b c d) (Sp := Sp_rest S a b c d) (fun I => c_rest I a b c d) (fun I => r_rest I a b c d) u_rest I
theorem two_inverse (I : PI n m h S) (a : Int32) (b : Int32) (c : Int32) : ∃ r h1 h2 S', zs_X9_inverse h n a b c = some (r, h1) ∧ zs_X11_inverse h1 m a b c = some (r, h2) ∧ PI n m h2 S' ∧ KP n m h h2 ∧ chk h n 9 = some () ∧ chk h1 m 11 = some () := pairS (fx := fun h => zs_X9_inverse h n a b c) (fm := fun h => zs_X11_inverse h m a b c) (Sp := Sp_inverse S a b c) (fun I => c_inverse I a b c) (fun I => r_inverse I a b c) u_inverse I
theorem two_bits (I : PI n m h S) (a : Int32) (b : Int32) (c : Int32) (d : Int32) : ∃ r h1 h2 S', zs_X9_bits h n a b c d = some (r, h1) ∧ zs_X11_bits h1 m a b c d = some (r, h2) ∧ PI n m h2 S' ∧ KP n m h h2 ∧ chk h n 9 = some () ∧ chk h1 m 11 = some () := pairS (fx := fun h => zs_X9_bits h n a b c d) (fm := fun h => zs_X11_bits h m a b c d) (Sp := Sp_bits S a b c d) (fun I => c_bits I a b c d) (fun I => r_bits I a b c d) u_bits I
theorem two_shift (I : PI n m h S) (a : Int32) (b : Int32) (c : Int32) : ∃ r h1 h2 S', zs_X9_shift h n a b c = some (r, h1) ∧ zs_X11_shift h1 m a b c = some (r, h2) ∧ PI n m h2 S' ∧ KP n m h h2 ∧ chk h n 9 = some () ∧ chk h1 m 11 = some () := pairS (fx := fun h => zs_X9_shift h n a b c) (fm := fun h => zs_X11_shift h m a b c) (Sp := Sp_shift S a b c) (fun I => c_shift I a b c) (fun I => r_shift I a b c) u_shift I
theorem two_bit (I : PI n m h S) (a : Int32) (b : Int32) : ∃ r h1 h2, zs_X9_bit h n a b = some (r, h1) ∧ zs_X11_bit h1 m a b = some (r, h2) ∧ PI n m h2 S ∧ KP n m h h2 ∧ chk h n 9 = some () ∧ chk h1 m 11 = some () := pairQ2 (fx := fun h => zs_X9_bit h n a b) (fm := fun h => zs_X11_bit h m a b) (Sp := Sp_bit S a b) (fun I => c_bit I a b) (fun I => r_bit I a b) u_bit I
theorem two_length (I : PI n m h S) (a : Int32) : ∃ r h2, zs_X9_length h n a = some r ∧ zs_X11_length h m a = some (r, h2) ∧ PI n m h2 S ∧ KP n m h h2 ∧ chk h n 9 = some () ∧ chk h m 11 = some () := pairQ (fx := fun h => zs_X9_length h n a) (fm := fun h => zs_X11_length h m a) (Sp := Sp_length S a) (fun I => c_length I a) (fun I => r_length I a) u_length I
theorem two_ones (I : PI n m h S) (a : Int32) : ∃ r h1 h2, zs_X9_ones h n a = some (r, h1) ∧ zs_X11_ones h1 m a = some (r, h2) ∧ PI n m h2 S ∧ KP n m h h2 ∧ chk h n 9 = some () ∧ chk h1 m 11 = some () := pairQ2 (fx := fun h => zs_X9_ones h n a) (fm := fun h => zs_X11_ones h m a) (Sp := Sp_ones S a) (fun I => c_ones I a) (fun I => r_ones I a) u_ones I
theorem two_ratio (I : PI n m h S) (a : Int32) (b : Int32) (c : Int32) : ∃ r h1 h2 S', zs_X9_ratio h n a b c = some (r, h1) ∧ zs_X11_ratio h1 m a b c = some (r, h2) ∧ PI n m h2 S' ∧ KP n m h h2 ∧ chk h n 9 = some () ∧ chk h1 m 11 = some () := pairS (fx := fun h => zs_X9_ratio h n a b c) (fm := fun h => zs_X11_ratio h m a b c) (Sp := Sp_ratio S a b c) (fun I => c_ratio I a b c) (fun I => r_ratio I a b c) u_ratio I
theorem two_actRatio (I : PI n m h S) (a : Int32) (b : Int32) (c : Int32) (d : Int32) : ∃ r h1 h2 S', zs_X9_actRatio h n a b c d = some (r, h1) ∧ zs_X11_actRatio h1 m a b c d = some (r, h2) ∧ PI n m h2 S' ∧ KP n m h h2 ∧ chk h n 9 = some () ∧ chk h1 m 11 = some () := pairS (fx := fun h => zs_X9_actRatio h n a b c d) (fm := fun h => zs_X11_actRatio h m a b c d) (Sp := Sp_actRatio S a b c d) (fun I => c_actRatio I a b c d) (fun I => r_actRatio I a b c d) (u_actRatio I.1.choose_spec.choose_spec.2.2.2) I
theorem two_compareRatio (I : PI n m h S) (a : Int32) (b : Int32) : ∃ r h1 h2, zs_X9_compareRatio h n a b = some (r, h1) ∧ zs_X11_compareRatio h1 m a b = some (r, h2) ∧ PI n m h2 S ∧ KP n m h h2 ∧ chk h n 9 = some () ∧ chk h1 m 11 = some () := pairQ2 (fx := fun h => zs_X9_compareRatio h n a b) (fm := fun h => zs_X11_compareRatio h m a b) (Sp := Sp_compareRatio S a b) (fun I => c_compareRatio I a b) (fun I => r_compareRatio I a b) u_compareRatio I
theorem two_part (I : PI n m h S) (a : Int32) (b : Int32) (c : Int32) : ∃ r h1 h2 S', zs_X9_part h n a b c = some (r, h1) ∧ zs_X11_part h1 m a b c = some (r, h2) ∧ PI n m h2 S' ∧ KP n m h h2 ∧ chk h n 9 = some () ∧ chk h1 m 11 = some () := pairS (fx := fun h => zs_X9_part h n a b c) (fm := fun h => zs_X11_part h m a b c) (Sp := Sp_part S a b c) (fun I => c_part I a b c) (fun I => r_part I a b c) u_part I
theorem two_digits (I : PI n m h S) (a : Int32) (b : Int32) : ∃ r h1 h2 S', zs_X9_digits h n a b = some (r, h1) ∧ zs_X11_digits h1 m a b = some (r, h2) ∧ PI n m h2 S' ∧ KP n m h h2 ∧ chk h n 9 = some () ∧ chk h1 m 11 = some () := pairS (fx := fun h => zs_X9_digits h n a b) (fm := fun h => zs_X11_digits h m a b) (Sp := Sp_digits S a b) (fun I => c_digits I a b) (fun I => r_digits I a b) u_digits I
theorem two_digit (I : PI n m h S) (a : Int32) : ∃ r h2, zs_X9_digit h n a = some r ∧ zs_X11_digit h m a = some (r, h2) ∧ PI n m h2 S ∧ KP n m h h2 ∧ chk h n 9 = some () ∧ chk h m 11 = some () := pairQ (fx := fun h => zs_X9_digit h n a) (fm := fun h => zs_X11_digit h m a) (Sp := Sp_digit S a) (fun I => c_digit I a) (fun I => r_digit I a) u_digit I
end Pf
