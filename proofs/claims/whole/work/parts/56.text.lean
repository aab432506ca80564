/-! the text -/
def lets (v : Nat) : Nat := if v < 10 then 48 + v else 87 + v
/-- how many digits: one at least -/
def isLen (v base L : Nat) : Prop := 1 ≤ L ∧ v / base ^ L = 0 ∧ ∀ j, 1 ≤ j → j < L → v / base ^ j ≠ 0
theorem isLen_uniq {v base L K : Nat} (h1 : isLen v base L) (h2 : isLen v base K) : L = K := by
  rcases Nat.lt_trichotomy L K with h | h | h
  · exact absurd h1.2.1 (h2.2.2 L h1.1 h)
  · exact h
  · exact absurd h2.2.1 (h1.2.2 K h2.1 h)
/-- the bytes before they are turned round -/
def outB (v base L j : Nat) : Nat := if j < L then lets (v / base ^ j % base) else 45
def isNeg (a : Int) : Nat := if a < 0 then 1 else 0
theorem letter_ok (h : AH) {v : Nat} (hv : v < 36) : zs_X6_letter h (nI v) = some (nI (lets v)) := by
  unfold zs_X6_letter lets
  by_cases h1 : v < 10
  · rw [if_neg (show ¬ (10 : Int32) ≤ nI v from nI_ge (b := 10) h1 (by decide)), if_pos h1]
    exact congrArg some (nI_add 48 v)
  · rw [if_pos (show (10 : Int32) ≤ nI v from nI_le (a := 10) (by omega) (by omega)), if_neg h1]
    have e1 : (97 : Int32) + nI v = nI (97 + v) := nI_add 97 v
    have e2 : nI (97 + v) - (10 : Int32) = nI (97 + v - 10) := pk_sub (b := 10) (by omega)
    rw [e1, e2, show 97 + v - 10 = 87 + v by omega]
theorem dv_s (v base t : Nat) : v / base ^ (t + 1) = v / base ^ t / base := by rw [Nat.pow_succ, Nat.div_div_eq_div_mul]
section Txt
variable {B h : AH} {n : Nat} {d : DS} {M : Nat → Int} {i : Nat}
theorem CW.add (c : CW B n d h M) {k : Nat} (hx : d.xc = nI k) (hk : k < 385) (x : Int32) : ∃ h', zs_X6_add h (n + 113) x = some h' ∧ CW B n (d.setX (nI (k + 1)) (upd d.xb k x)) h' M := by
  unfold zs_X6_add
  simp only [c.rd6, Option.bind_some]
  rw [hx, if_neg (show ¬ (385 : Int32) ≤ nI k from nI_ge (b := 385) hk (by decide))]
  obtain ⟨g1, e1, c1⟩ := c.putXb hk x
  rw [e1]
  simp only [c1.rd6, Option.bind_some]
  have ec : (d.setX d.xc (upd d.xb k x)).xc = nI k := hx
  rw [ec, show nI k + (1 : Int32) = nI (k + 1) from nI_1 k]
  obtain ⟨g2, e2, c2⟩ := c1.putXc (nI (k + 1))
  rw [e2]
  exact ⟨g2, rfl, c2⟩
theorem CW.turnRound (c : CW B n d h M) {k : Nat} (hx : d.xc = nI k) (h1 : 1 ≤ k) (hk : k ≤ 385) : ∃ h' f, zs_X6_turnRound h (n + 113) = some h' ∧ CW B n (d.setX d.xc f) h' M ∧ ∀ j, j < k → f j = d.xb (k - 1 - j) := by
  unfold zs_X6_turnRound
  simp only [c.rd6, Option.bind_some, lt_]
  obtain ⟨m, rfl⟩ : ∃ m, k = m + 1 := ⟨k - 1, by omega⟩
  rw [hx, nI_pred]
  obtain ⟨r, hr, f, c', hf⟩ := iter_FU (B := fun q : AH × Int32 × Int32 => zb_X6_turnRound_9 (n + 113) q.1 q.2.1 q.2.2)
    (fun t z => z.2.1 = nI t ∧ z.2.2 = nI (m - t) ∧ 2 * t ≤ m + 1 ∧ ∃ f, CW B n (d.setX (nI (m + 1)) f) z.1 M ∧ ∀ j, j < m + 1 → f j = if j < t ∨ m - t < j then d.xb (m - j) else d.xb j)
    (fun r => ∃ f, CW B n (d.setX (nI (m + 1)) f) r M ∧ ∀ j, j < m + 1 → f j = d.xb (m - j))
    (m + 1) (by omega) (s := (h, (0 : Int32), nI m)) ⟨rfl, rfl, by omega, d.xb, by rw [← hx]; exact c, fun j hj => by rw [if_neg (by omega)]⟩ (by
    rintro t ⟨g, z1, z2⟩ ht ⟨hz1, hz2, h2, f, k1, hf⟩
    dsimp only at hz1 hz2 k1 ⊢
    subst hz1 hz2
    unfold zb_X6_turnRound_9
    by_cases hle : m - t ≤ t
    · rw [if_pos (nI_le hle (by omega))]
      refine ⟨_, rfl, fun s' hs => by (cases hs), fun r hr => ?_⟩
      obtain rfl := Sum.inr.inj hr
      refine ⟨f, k1, fun j hj => ?_⟩
      rw [hf j hj]
      by_cases hj2 : j < t ∨ m - t < j
      · rw [if_pos hj2]
      · rw [if_neg hj2, show m - j = j by omega]
    · rw [if_neg (nI_ge (by omega) (by omega))]
      simp only [k1.rd6, Option.bind_some, k1.getXb (show t < 385 by omega), k1.getXb (show m - t < 385 by omega)]
      obtain ⟨g2, e2, k2⟩ := k1.putXb (k := t) (by omega) ((d.setX (nI (m + 1)) f).xb (m - t))
      rw [e2]
      simp only [k2.rd6, Option.bind_some]
      obtain ⟨g3, e3, k3⟩ := k2.putXb (k := m - t) (by omega) ((d.setX (nI (m + 1)) f).xb t)
      rw [e3]
      simp only [Option.bind_some]
      refine ⟨_, rfl, fun s' hs' => ?_, fun r hr => by (cases hr)⟩
      obtain rfl := Sum.inl.inj hs'
      refine ⟨by omega, nI_1 _, ?_, by omega, _, k3, fun j hj => ?_⟩
      · dsimp only
        rw [show m - t = (m - (t + 1)) + 1 by omega]
        exact pk_m1 _
      · show upd (upd f t (f (m - t))) (m - t) (f t) j = _
        by_cases ja : j = m - t
        · subst ja
          rw [pk_us, hf t (by omega), if_neg (by omega), if_pos (by omega), show m - (m - t) = t by omega]
        · rw [pk_un ja]
          by_cases jb : j = t
          · subst jb
            rw [pk_us, hf (m - j) (by omega), if_neg (by omega), if_pos (by omega)]
          · rw [pk_un jb, hf j hj]
            by_cases h3 : j < t ∨ m - t < j
            · rw [if_pos h3, if_pos (by omega)]
            · rw [if_neg h3, if_neg (by omega)])
  rw [hr]
  refine ⟨r, f, rfl, c', fun j hj => ?_⟩
  rw [hf j hj, show m + 1 - 1 - j = m - j by omega]
theorem CW.spell (c : CW B n d h M) (hi : i < 24) (xa : (M i).natAbs < B32 ^ 12) {base : Nat} (h2 : 2 ≤ base) (hb : base ≤ 36) :
    ∃ h' d' M' L, zs_X6_spell h (n + 113) (aw n i) (nI base) = some h' ∧ CW B n d' h' M' ∧ d'.1 = d.1 ∧ d'.2.2 = d.2.2 ∧ (∀ x, x ≠ 48 → M' x = M x) ∧ isLen (M i).natAbs base L ∧ L ≤ 384 ∧ d'.xc = nI (L + isNeg (M i)) ∧ ∀ k, k < L + isNeg (M i) → d'.xb k = nI (outB (M i).natAbs base L (L + isNeg (M i) - 1 - k)) := by
  unfold zs_X6_spell
  have hi70 : i < 70 := by omega
  simp only [c.rd6, Option.bind_some, c.chk8 (show 48 < 70 by decide)]
  obtain ⟨g1, e1, c1⟩ := c.copy (k := 48) (i := i) (by decide) hi70
  rw [e1]
  simp only [Option.bind_some]
  obtain ⟨g2, e2, c2⟩ := c1.putXc 0
  rw [e2]
  simp only [Option.bind_some]
  generalize hv : (M i).natAbs = v at xa
  have hpow : ∀ t, v / base ^ t ≠ 0 → t < 384 := by
    intro t ht
    have h5 : 2 ^ t ≤ base ^ t := Nat.pow_le_pow_left h2 t
    have h6 : base ^ t ≤ v := by
      rcases Nat.lt_or_ge v (base ^ t) with h7 | h7
      · exact absurd (Nat.div_eq_of_lt h7) ht
      · exact h7
    rw [B32_two] at xa
    rcases Nat.lt_or_ge t 384 with h7 | h7
    · exact h7
    · have : 2 ^ (32 * 12) ≤ 2 ^ t := Nat.pow_le_pow_right (by decide) (by omega)
      omega
  obtain ⟨r, hr, d3, M3, L, c3, p1, p2, f3, hL, hx, hbt⟩ := iter_FU (B := fun q : AH => zb_X6_spell_13 (n + 113) (aw n i) (nI base) q)
    (fun t z => ∃ d' M', CW B n d' z M' ∧ d'.1 = d.1 ∧ d'.2.2 = d.2.2 ∧ (∀ x, x ≠ 48 → M' x = M x) ∧ (M' 48).natAbs = v / base ^ t ∧ d'.xc = nI t ∧ (∀ j, j < t → d'.xb j = nI (lets (v / base ^ j % base))) ∧ (∀ j, 1 ≤ j → j ≤ t → v / base ^ j ≠ 0))
    (fun r => ∃ d' M' L, CW B n d' r M' ∧ d'.1 = d.1 ∧ d'.2.2 = d.2.2 ∧ (∀ x, x ≠ 48 → M' x = M x) ∧ isLen v base L ∧ d'.xc = nI L ∧ (∀ j, j < L → d'.xb j = nI (lets (v / base ^ j % base))))
    384 (by omega) (s := g2) ⟨_, _, c2, rfl, rfl, fun x hx => va_un hx, by rw [va_us, Nat.pow_zero, Nat.div_one]; exact hv, rfl, fun j hj => by omega, fun j h1 h2 => by omega⟩ (by
    rintro t g ht ⟨d1, M1, k1, p1, p2, f1, m1, x1, b1, z1⟩
    unfold zb_X6_spell_13
    simp only [k1.rd6, Option.bind_some, k1.chk8 (show 48 < 70 by decide)]
    rw [nI_l (by omega)]
    have u1 : uN (lN base) = base := uN_lN (by omega)
    obtain ⟨g2, e2, k2⟩ := k1.shrink (k := 48) (by decide) (lN base) (by rw [u1]; omega) (by rw [u1]; unfold B32; omega)
    rw [u1, m1] at k2 e2
    rw [e2]
    simp only [Option.bind_some]
    have hml := Nat.mod_lt (v / base ^ t) (show 0 < base by omega)
    rw [lN_i, letter_ok _ (by omega)]
    simp only [k2.rd6, Option.bind_some]
    obtain ⟨g3, e3, k3⟩ := k2.add x1 (by
      rcases Nat.lt_or_ge t 1 with h7 | h7
      · omega
      · have := hpow t (z1 t h7 (Nat.le_refl _)); omega) (nI (lets (v / base ^ t % base)))
    rw [e3]
    simp only [k3.rd6, Option.bind_some, k3.chk8 (show 48 < 70 by decide), k3.isZero (show 48 < 70 by decide)]
    rw [va_us]
    generalize hM48 : (if M1 48 < 0 then -((v / base ^ t / base : Nat) : Int) else ((v / base ^ t / base : Nat) : Int)) = w at k3
    have hw : w.natAbs = v / base ^ (t + 1) := by
      rw [dv_s, ← hM48]
      split
      · rw [Int.natAbs_neg, Int.natAbs_natCast]
      · rw [Int.natAbs_natCast]
    have hxb : ∀ j, j < t + 1 → upd d1.xb t (nI (lets (v / base ^ t % base))) j = nI (lets (v / base ^ j % base)) := by
      intro j hj
      by_cases hjt : j = t
      · subst hjt; exact pk_us
      · rw [pk_un hjt]; exact b1 j (by omega)
    have hfr : ∀ x, x ≠ 48 → va_up M1 48 w x = M x := fun x hx => by rw [va_un hx]; exact f1 x hx
    by_cases hz : w = 0
    · rw [if_pos hz, if_neg (by decide)]
      refine ⟨_, rfl, fun s' hs => by (cases hs), fun r hr => ?_⟩
      obtain rfl := Sum.inr.inj hr
      refine ⟨_, _, t + 1, k3, p1, p2, hfr, ⟨by omega, by omega, fun j h1 h2 => z1 j h1 (by omega)⟩, rfl, hxb⟩
    · rw [if_neg hz, if_pos rfl]
      have hnz : v / base ^ (t + 1) ≠ 0 := by omega
      have ht1 := hpow (t + 1) hnz
      have ec : (d1.setX (nI (t + 1)) (upd d1.xb t (nI (lets (v / base ^ t % base))))).xc = nI (t + 1) := rfl
      rw [ec, if_pos (show nI (t + 1) < (385 : Int32) from nI_lt (b := 385) (by omega) (by decide))]
      refine ⟨_, rfl, fun s' hs' => ?_, fun r hr => by (cases hr)⟩
      obtain rfl := Sum.inl.inj hs'
      refine ⟨by omega, _, _, k3, p1, p2, hfr, by rw [va_us]; exact hw, rfl, hxb, fun j h1 h2 => ?_⟩
      by_cases hj : j = t + 1
      · subst hj; exact hnz
      · exact z1 j h1 (by omega))
  rw [hr]
  have hL4 : L ≤ 384 := by
    rcases Nat.lt_or_ge 1 L with h7 | h7
    · have := hpow (L - 1) (hL.2.2 (L - 1) (by omega) (by omega))
      omega
    · omega
  simp only [Option.bind_some, c3.below hi70]
  rw [f3 i (by omega)]
  have hL1 := hL.1
  by_cases hn : M i < 0
  · rw [if_pos hn, if_neg (by decide)]
    simp only [c3.rd6, Option.bind_some]
    obtain ⟨g4, e4, c4⟩ := c3.add hx (by omega) 45
    rw [e4]
    simp only [Option.bind_some]
    unfold zj_X6_spell_63
    simp only [c4.rd6, Option.bind_some]
    obtain ⟨g5, f, e5, c5, hf⟩ := c4.turnRound (k := L + 1) rfl (by omega) (by omega)
    rw [e5]
    have hng : isNeg (M i) = 1 := if_pos hn
    rw [hng]
    refine ⟨g5, _, M3, L, rfl, c5, p1, p2, f3, hL, hL4, rfl, fun k hk => ?_⟩
    show f k = _
    rw [hf k hk]
    show upd d3.xb L 45 _ = _
    unfold outB
    by_cases hk0 : L + 1 - 1 - k = L
    · rw [hk0, pk_us, if_neg (by omega)]
      rfl
    · rw [pk_un hk0, if_pos (by omega)]
      exact hbt _ (by omega)
  · rw [if_neg hn, if_pos rfl]
    unfold zj_X6_spell_63
    simp only [c3.rd6, Option.bind_some]
    obtain ⟨g5, f, e5, c5, hf⟩ := c3.turnRound hx (by omega) (by omega)
    rw [e5]
    have hng : isNeg (M i) = 0 := if_neg hn
    simp only [hng, Nat.add_zero]
    refine ⟨g5, _, M3, L, rfl, c5, p1, p2, f3, hL, hL4, hx, fun k hk => ?_⟩
    show f k = _
    rw [hf k hk]
    unfold outB
    rw [if_pos (by omega)]
    exact hbt _ (by omega)
end Txt
