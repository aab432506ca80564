/-! the reference: digits, digit -/
section Rdt
variable {B h : AH} {n : Nat} {d : RD} {M : Nat → Int} {S : AS} {i j k T : Nat}
theorem RV.putF (c : RV B n d h M) (hk : k < 201) (x : Int32) : ∃ h', sI h (n + 18) 0 (nI k) x = some h' ∧ RV B n (d.set7 d.dg (upd d.fo k x)) h' M := by
  obtain ⟨σ, c, hσ⟩ := c
  refine ⟨_, sI_go (c.2.1 18 _ rfl) hk (by decide) x, σ, c.on (o := 18) (by omega) (on_hset _ _ _) (fun e he => ?_) (fun o' ho => ?_), hσ⟩
  · refine (hset_at _ _ _).trans ?_
    exact he
  · unfold crt
    refine ite_r (ite_r (ite_r (ite_r (ite_r (ite_r (ite_r (ite_r (ite_r (ite_r ?_)))))))))
    rw [if_neg ho, if_neg ho]
theorem RV.getD (c : RV B n d h M) (hk : k < 201) : aI h (n + 17) 0 (nI k) = some (d.dg k) := by
  obtain ⟨σ, c, hσ⟩ := c
  exact aI_go (c.2.1 17 _ rfl) hk (by decide)
theorem RV.told (c : RV B n d h M) (A m : Nat) : ∃ h' f, zs_X11_told h n (nI A) (nI m) = some (nI (A + m), h') ∧ RV B n ((d.set7 f d.fo).set4 (nI A) (nI m)) h' M ∧ ∀ y, y < 200 → f y = d.fo y := by
  unfold zs_X11_told
  simp only [c.rm, Option.bind_some]
  obtain ⟨σ, c0, hσ⟩ := c
  have a1 : h.1 (n + 18) = some (.inl (0, 201, .inl d.fo)) := c0.2.1 18 _ rfl
  have a2 : h.1 (n + 17) = some (.inl (0, 201, .inl d.dg)) := c0.2.1 17 _ rfl
  have hcp : cpI h (n + 18) (0 : Int32) (n + 17) (0 : Int32) (200 : Int32) = some (hset h (n + 17) (.inl (0, 201, .inl (va_cpy d.fo d.dg 0 0 200)))) := by
    unfold cpI
    rw [a1, a2]
    show (if (0 : Nat) = 0 ∧ (0 : Nat) = 0 ∧ 0 ≤ (0 : Int32).toInt ∧ 0 ≤ (0 : Int32).toInt ∧ 0 ≤ (200 : Int32).toInt ∧ (0 : Int32).toInt + (200 : Int32).toInt ≤ ((201 : Nat) : Int) ∧ (0 : Int32).toInt + (200 : Int32).toInt ≤ ((201 : Nat) : Int) then some (hset h (n + 17) (.inl (0, 201, .inl (va_cpy d.fo d.dg (0 : Int32).toNatClampNeg (0 : Int32).toNatClampNeg (200 : Int32).toNatClampNeg)))) else none) = _
    rw [if_pos (by decide)]
    rfl
  rw [hcp]
  simp only [Option.bind_some]
  have c1 : RV B n (d.set7 (va_cpy d.fo d.dg 0 0 200) d.fo) (hset h (n + 17) (.inl (0, 201, .inl (va_cpy d.fo d.dg 0 0 200)))) M := by
    refine ⟨σ, c0.on (o := 17) (by omega) (on_hset _ _ _) (fun e he => ?_) (fun o' ho => ?_), hσ⟩
    · refine (hset_at _ _ _).trans ?_
      exact he
    · unfold crt
      refine ite_r (ite_r (ite_r (ite_r (ite_r (ite_r (ite_r (ite_r (ite_r ?_))))))))
      rw [if_neg ho, if_neg ho]
      rfl
  obtain ⟨g2, e2, c2⟩ := c1.main (k := 21) (v := .int (nI A)) (d' := (d.set7 (va_cpy d.fo d.dg 0 0 200) d.fo).set4 (nI A) d.rd) (by decide) rfl rfl
  rw [e2]
  simp only [Option.bind_some]
  obtain ⟨g3, e3, c3⟩ := c2.main (k := 22) (v := .int (nI m)) (d' := (d.set7 (va_cpy d.fo d.dg 0 0 200) d.fo).set4 (nI A) (nI m)) (by decide) rfl rfl
  rw [e3]
  have e4 : gI g3 n 11 21 = some (nI A) := c3.rm.2.2.2.2.2.2.2.2.2.2.2.2.2.2.2.2.2.2.2.2.1
  have e5 : gI g3 n 11 22 = some (nI m) := c3.rm.2.2.2.2.2.2.2.2.2.2.2.2.2.2.2.2.2.2.2.2.2
  simp only [e4, e5, Option.bind_some]
  rw [nI_add]
  exact ⟨g3, va_cpy d.fo d.dg 0 0 200, rfl, c3, fun y hy => va_cpy0 hy⟩
theorem spb_digits {q b : Int32} (hb : ixI 12 q = none ∨ bsI b = none) : Sp_digits S q b (-1) S := by
  unfold Sp_digits
  rcases hb with hb | hb
  · rw [hb]; exact ⟨rfl, rfl⟩
  · rw [hb]; cases ixI 12 q <;> exact ⟨rfl, rfl⟩
theorem RV.seen (c : RV B n d h M) {t : Nat} (ht : t ≤ 200) {r : Nat → Nat} (hr : ∀ y, y ≤ t → M (116 + y) = (r y : Int)) (w1 : Int32) (w3 : Nat) (w4 : Int32) :
    ∃ o, iter (fun q : Int32 => zb_X11_digits_98 h n w1 w3 w4 (nI t) q) FU (0 : Int32) = some o ∧ match o with
      | .inl w => ∃ y, y < t ∧ w = nI y ∧ r y = r t
      | .inr _ => ∀ y, y < t → r y ≠ r t := by
  refine iter_FU (B := fun q : Int32 => zb_X11_digits_98 h n w1 w3 w4 (nI t) q)
    (fun y s => s = nI y ∧ ∀ u, u < y → r u ≠ r t)
    (fun o => match o with
      | .inl w => ∃ y, y < t ∧ w = nI y ∧ r y = r t
      | .inr _ => ∀ y, y < t → r y ≠ r t)
    t (by omega) (s := (0 : Int32)) ⟨rfl, fun u hu => absurd hu (Nat.not_lt_zero u)⟩ (by
    rintro y s hy ⟨rfl, hn⟩
    unfold zb_X11_digits_98
    by_cases hlt : y < t
    · rw [if_neg (nI_ge hlt (by omega))]
      simp only [c.rm, c.rests (show y < 201 by omega), c.rests (show t < 201 by omega), c.cmp (show 116 + y < 317 by omega) (show 116 + t < 317 by omega), hr y (by omega), hr t (Nat.le_refl t), Option.bind_some]
      by_cases he : r y = r t
      · have hc : cmpZ (r y : Int) (r t : Int) = 0 := by
          unfold cmpZ
          rw [if_neg (by omega), if_pos (by omega)]
        rw [hc, if_pos (by decide)]
        refine ⟨_, rfl, fun s' hs => by (cases hs), fun o ho => ?_⟩
        obtain rfl := Sum.inr.inj ho
        exact ⟨y, hlt, rfl, he⟩
      · have hc : ¬ cmpZ (r y : Int) (r t : Int) = 0 := by
          unfold cmpZ
          by_cases hl : (r y : Int) < (r t : Int)
          · rw [if_pos hl]; decide
          · rw [if_neg hl, if_neg (by omega)]; decide
        rw [if_neg hc]
        refine ⟨_, rfl, fun s' hs => ?_, fun o ho => by (cases ho)⟩
        obtain rfl := Sum.inl.inj hs
        refine ⟨hlt, nI_1 y, fun u hu => ?_⟩
        by_cases e : u = y
        · rw [e]; exact he
        · exact hn u (by omega)
    · rw [if_pos (nI_le (by omega) (by omega))]
      refine ⟨_, rfl, fun s' hs => by (cases hs), fun o ho => ?_⟩
      obtain rfl := Sum.inr.inj ho
      exact fun u hu => hn u (by omega))
theorem r_digits (I : RI B n h S) (q b : Int32) : ∃ r h', zs_X11_digits h n q b = some (r, h') ∧ ∃ S', RI B n h' S' ∧ Sp_digits S q b r S' := by
  obtain ⟨d, M, c, m, dd, si⟩ := I
  unfold zs_X11_digits
  refine c.ratio1 (fun g h1 c1 => ⟨S, ⟨_, M, c1, m, dd, si⟩, spb_digits (Or.inl h1)⟩) (fun i g h1 hi ha c1 => ?_)
  subst ha
  dsimp only
  have I1 : RI B n g S := ⟨_, M, c1, m, dd, si⟩
  cases h2 : bsI b with
  | none =>
    by_cases h3 : b < (2 : Int32)
    · rw [if_pos h3]; exact ⟨-1, g, rfl, S, I1, spb_digits (Or.inr h2)⟩
    · have h4 : ¬ b ≤ (36 : Int32) := fun z => by
        unfold bsI at h2
        rw [if_pos ⟨by have a : ¬ b.toInt < 2 := fun u => h3 (i32_lt.mpr u); omega, i32_le.mp z⟩] at h2
        cases h2
      rw [if_neg h3, if_neg h4]; exact ⟨-1, g, rfl, S, I1, spb_digits (Or.inr h2)⟩
  | some w =>
    obtain ⟨rfl, hw2, hw⟩ := bsI_some h2
    rw [if_neg (show ¬ nI w < (2 : Int32) from nI_nlt (b := 2) hw2 (by omega)), if_pos (show nI w ≤ (36 : Int32) from nI_le (b := 36) hw (by decide))]
    obtain ⟨pi1, pi2, pi3⟩ := m.ratLt si hi
    have mi := m.2.2 i hi
    obtain ⟨t, ht⟩ : ∃ t, t = (S.tp i).natAbs := ⟨_, rfl⟩
    obtain ⟨u, hu⟩ : ∃ u, u = (S.bt i).natAbs := ⟨_, rfl⟩
    rw [mi.1, ← ht] at pi1
    rw [mi.2, ← hu] at pi2
    rw [mi.2] at pi3
    have hu0 : 0 < u := by omega
    have eu : S.bt i = (u : Int) := by omega
    have hsp : ∀ r S', ((∃ A m, isExp (rmS t u w) A m ∧ A + m ≤ 200 ∧ r = nI (A + m) ∧ S' = setEx S A m (dgS t u w)) ∨ (noExp (rmS t u w) ∧ errC S (-4) r S')) → Sp_digits S (nI i) (nI w) r S' := by
      intro r S' hh
      unfold Sp_digits
      rw [h1, h2]
      rw [ht, hu] at hh
      exact hh
    simp only [c1.rm, Option.bind_some]
    rw [nI_l (by omega)]
    obtain ⟨g2, e2, c2⟩ := c1.ofL (T := 0) rfl (by decide) (lN w)
    rw [pf_lI (by omega)] at c2
    rw [e2]
    simp only [c2.rm, c2.above hi, c2.below hi, Option.bind_some]
    have m2a : va_up M 0 (w : Int) (92 + i) = S.tp i := by rw [va_un (by omega)]; exact mi.1
    have m2b : va_up M 0 (w : Int) (104 + i) = (u : Int) := by rw [va_un (by omega), mi.2]; exact eu
    have h2497 : C16 ^ 24 < C16 ^ 97 := Nat.pow_lt_pow_right (by decide) (by decide)
    obtain ⟨g3, M3, Q3, R3, T3, e3, c3, hQ3, hR3, hQR3, hT3, mQ3, mR3, f3⟩ := c2.divide (T := 1) (i := 92 + i) (j := 104 + i) rfl (by decide) (by omega) (by omega) (by omega) (by omega) (by rw [m2b]; omega) (by rw [m2a, ← ht]; omega) (by rw [va_un (by decide)]; exact m.1.1)
    rw [m2a, m2b, ← ht, Int.natAbs_natCast] at mR3
    rw [e3]
    have e116 : aR g3 (n + 19) 5 (0 : Int32) = some (ar n 116) := c3.rests (k := 0) (by decide)
    simp only [c3.rm, c3.qr, e116, c3.ck (show 116 < 317 by decide), Option.bind_some]
    obtain ⟨g4, e4, c4⟩ := c3.become (i := 116) (j := R3) (by decide) (by omega)
    rw [mR3] at c4
    rw [e4]
    simp only [c4.rm, Option.bind_some]
    have etop : ((d.set1 0 0).tt (0 + 1) |>.dz n Q3 R3 T3).top = nI T3 := rfl
    rw [etop]
    have hrl : ∀ y, rmS t u w y < u := fun y => Nat.mod_lt _ hu0
    have key : ∀ (M' : Nat → Int), (∀ x, 64 ≤ x → x < 116 → M' x = M x) → RM M' S := fun M' hf => ⟨⟨(hf _ (by omega) (by omega)).trans m.1.1, (hf _ (by omega) (by omega)).trans m.1.2⟩, fun y hy => (hf _ (by omega) (by omega)).trans (m.2.1 y hy), fun y hy => ⟨(hf _ (by omega) (by omega)).trans (m.2.2 y hy).1, (hf _ (by omega) (by omega)).trans (m.2.2 y hy).2⟩⟩
    obtain ⟨r, hr, hz⟩ := iter_FU (B := fun x : AH × Int32 => zb_X11_digits_66 n (nI i) (ar n 0) (nI T3) x.1 x.2)
      (fun y s => s.2 = nI y ∧ (∀ a b, a < b → b < y → rmS t u w a ≠ rmS t u w b) ∧ (∀ a, a < y → rmS t u w a ≠ 0) ∧ ∃ d' M', RV B n d' s.1 M' ∧ d'.top = nI T3 ∧ RDD d' S ∧ M' 0 = (w : Int) ∧ (∀ x, 64 ≤ x → x < 116 → M' x = M x) ∧ (∀ a, a ≤ y → a ≤ 200 → M' (116 + a) = ((rmS t u w a : Nat) : Int)) ∧ ∀ a, a < y → a < 200 → d'.fo a = nI (dgS t u w a))
      (fun o => match o with
        | .inl x => ∃ y, x.2 = nI y ∧ y ≤ 200 ∧ isExp (rmS t u w) y 0 ∧ ∃ d' M', RV B n d' x.1 M' ∧ RDD d' S ∧ (∀ x, 64 ≤ x → x < 116 → M' x = M x) ∧ ∀ a, a < y → d'.fo a = nI (dgS t u w a)
        | .inr (.inl x) => ∃ y a, x.2.1 = nI y ∧ x.2.2 = nI a ∧ a < y ∧ y ≤ 200 ∧ isExp (rmS t u w) a (y - a) ∧ ∃ d' M', RV B n d' x.1 M' ∧ RDD d' S ∧ (∀ x, 64 ≤ x → x < 116 → M' x = M x) ∧ ∀ a, a < y → d'.fo a = nI (dgS t u w a)
        | .inr (.inr x) => noExp (rmS t u w) ∧ ∃ d' M', RV B n d' x M' ∧ RDD d' S ∧ (∀ x, 64 ≤ x → x < 116 → M' x = M x))
      201 (by omega) (s := (g4, (0 : Int32))) ⟨rfl, fun a b _ hb => absurd hb (Nat.not_lt_zero b), fun a ha => absurd ha (Nat.not_lt_zero a), _, _, c4, rfl, dd, by rw [va_un (by decide), f3 0 (by omega), va_us], fun x h5 h6 => by rw [va_un (by omega), f3 x (Or.inr h5), va_un (by omega)], fun a ha _ => by
        have e : a = 0 := by omega
        subst e
        rw [va_us]
        unfold rmS
        rw [Nat.pow_zero, Nat.mul_one], fun a ha => absurd ha (Nat.not_lt_zero a)⟩ (by
      rintro y ⟨g5, z⟩ hy ⟨hz, hne, hn0, d5, M5, k5, t5, dd5, w5, f5, v5, o5⟩
      dsimp only at hz k5 ⊢
      subst hz
      unfold zb_X11_digits_66
      by_cases h200 : 200 < y
      · rw [if_pos (show (200 : Int32) < nI y from nI_lt (a := 200) h200 (by omega))]
        refine ⟨_, rfl, fun s' hs => by (cases hs), fun o ho => ?_⟩
        obtain rfl := Sum.inr.inj ho
        exact ⟨⟨fun a b h5 h6 => hne a b h5 (by omega), fun a h5 => hn0 a (by omega)⟩, d5, M5, k5, dd5, f5⟩
      · rw [if_neg (show ¬ (200 : Int32) < nI y from nI_nlt (a := 200) (by omega) (by decide))]
        have v5y := v5 y (Nat.le_refl y) (by omega)
        simp only [k5.rm, k5.rests (show y < 201 by omega), k5.ck (show 116 + y < 317 by omega), k5.isZero (show 116 + y < 317 by omega), v5y, Option.bind_some]
        by_cases hz0 : rmS t u w y = 0
        · rw [if_pos (show ((rmS t u w y : Nat) : Int) = 0 by omega), if_neg (by decide)]
          refine ⟨_, rfl, fun s' hs => by (cases hs), fun o ho => ?_⟩
          obtain rfl := Sum.inr.inj ho
          exact ⟨y, rfl, by omega, ⟨fun a b h5 h6 => hne a b h5 (by omega), fun a h5 => hn0 a (by omega), Or.inl ⟨rfl, hz0⟩⟩, d5, M5, k5, dd5, f5, fun a h5 => o5 a h5 (by omega)⟩
        · rw [if_neg (show ¬ ((rmS t u w y : Nat) : Int) = 0 by omega), if_pos (by decide)]
          obtain ⟨o, eo, ho⟩ := k5.seen (t := y) (r := rmS t u w) (by omega) (fun a h5 => v5 a h5 (by omega)) (nI i) (ar n 0) (nI T3)
          rw [eo]
          simp only [Option.bind_some]
          cases o with
          | inl x =>
            obtain ⟨a, h5, rfl, h6⟩ := ho
            refine ⟨_, rfl, fun s' hs => by (cases hs), fun o ho => ?_⟩
            obtain rfl := Sum.inr.inj ho
            refine ⟨y, a, rfl, rfl, h5, by omega, ⟨fun a b h7 h8 => hne a b h7 (by omega), fun a h7 => hn0 a (by omega), Or.inr ⟨by omega, ?_, ?_⟩⟩, d5, M5, k5, dd5, f5, fun a h7 => o5 a h7 (by omega)⟩
            · rw [show a + (y - a) = y by omega]; exact h6.symm
            · rw [show a + (y - a) = y by omega]; exact hz0
          | inr x =>
            dsimp only
            have hne' : ∀ a b, a < b → b < y + 1 → rmS t u w a ≠ rmS t u w b := fun a b h7 h8 => by
              by_cases e : b = y
              · rw [e]; rw [e] at h7; exact ho a h7
              · exact hne a b h7 (by omega)
            have hn0' : ∀ a, a < y + 1 → rmS t u w a ≠ 0 := fun a h7 => by
              by_cases e : a = y
              · rw [e]; exact hz0
              · exact hn0 a (by omega)
            by_cases h20 : 200 ≤ y
            · rw [if_pos (show (200 : Int32) ≤ nI y from nI_le (a := 200) h20 (by omega))]
              refine ⟨_, rfl, fun s' hs => ?_, fun o ho => by (cases ho)⟩
              obtain rfl := Sum.inl.inj hs
              exact ⟨by omega, nI_1 y, hne', hn0', d5, M5, k5, t5, dd5, w5, f5, fun a h7 h8 => v5 a (by omega) h8, fun a h7 h8 => o5 a (by omega) h8⟩
            · rw [if_neg (show ¬ (200 : Int32) ≤ nI y from nI_ge (b := 200) (by omega) (by decide))]
              have hry := hrl y
              obtain ⟨g6, e6, k6⟩ := k5.times (T := T3) (i := 116 + y) (j := 0) t5 (by omega) (by omega) (by decide) (by omega) (by omega) (na := 24) (nb := 1) (by rw [v5y, Int.natAbs_natCast]; omega) (by rw [w5, Int.natAbs_natCast, Nat.pow_one]; show w < 65536; omega) (by decide)
              rw [v5y, w5, ← Int.natCast_mul] at k6
              rw [e6]
              simp only [k6.rm, k6.below hi, Option.bind_some]
              have m6b : va_up M5 T3 ((rmS t u w y * w : Nat) : Int) (104 + i) = (u : Int) := by rw [va_un (by omega), f5 _ (by omega) (by omega), mi.2]; exact eu
              have hmul : rmS t u w y * w < C16 ^ 97 := by
                have h9 : rmS t u w y * w < C16 ^ 24 * 65536 := Nat.mul_lt_mul_of_lt_of_lt (by omega) (by omega)
                have h10 : C16 ^ 24 * 65536 = C16 ^ 25 := by rw [show (25 : Nat) = 24 + 1 from rfl, Nat.pow_succ]; rfl
                have h11 : C16 ^ 25 ≤ C16 ^ 97 := Nat.pow_le_pow_right (by decide) (by decide)
                rw [h10] at h9
                exact Nat.lt_of_lt_of_le h9 h11
              obtain ⟨g7, M7, Q7, R7, T7, e7, k7, hQ7, hR7, hQR7, hT7, mQ7, mR7, f7⟩ := k6.divide (T := T3 + 1) (i := T3) (j := 104 + i) rfl (by omega) (by omega) (by omega) (by omega) (by omega) (by rw [m6b]; omega) (by rw [va_us, Int.natAbs_natCast]; exact hmul) (by rw [va_un (by omega), f5 64 (by omega) (by omega)]; exact m.1.1)
              rw [va_us, m6b, Int.natAbs_natCast, Int.natAbs_natCast] at mQ7 mR7
              have hdg : rmS t u w y * w / u = dgS t u w y := rfl
              rw [hdg] at mQ7
              rw [← rm_s] at mR7
              have hdl : dgS t u w y < w := dgS_lt hu0 (by omega)
              rw [e7]
              have hQ73 : Q7 < 317 := by omega
              simp only [k7.rm, k7.qr, k7.ck hQ73, k7.isZero hQ73, mQ7, Option.bind_some]
              have fin : ∃ o, zj_X11_digits_202 n (nI i) (ar n 0) (nI T3) g7 (nI y) (nI (dgS t u w y)) (nI y) (n + 18) = some o ∧ (∀ s', o = Sum.inl s' → y < 201 ∧ s'.2 = nI (y + 1) ∧ (∀ a b, a < b → b < y + 1 → rmS t u w a ≠ rmS t u w b) ∧ (∀ a, a < y + 1 → rmS t u w a ≠ 0) ∧ ∃ d' M', RV B n d' s'.1 M' ∧ d'.top = nI T3 ∧ RDD d' S ∧ M' 0 = (w : Int) ∧ (∀ x, 64 ≤ x → x < 116 → M' x = M x) ∧ (∀ a, a ≤ y + 1 → a ≤ 200 → M' (116 + a) = ((rmS t u w a : Nat) : Int)) ∧ ∀ a, a < y + 1 → a < 200 → d'.fo a = nI (dgS t u w a)) ∧ (∀ r, o = Sum.inr r → False) := by
                unfold zj_X11_digits_202
                obtain ⟨g8, e8, k8⟩ := k7.putF (k := y) (by omega) (nI (dgS t u w y))
                rw [e8]
                have eq6 : gR g8 n 11 6 = some (ar n R7) := k8.mR rfl
                have eq20 : gR g8 n 11 20 = some (n + 19) := k8.mR rfl
                simp only [eq20, Option.bind_some]
                rw [nI_1]
                simp only [k8.rests (show y + 1 < 201 by omega), eq6, k8.ck (show 116 + (y + 1) < 317 by omega), Option.bind_some]
                obtain ⟨g9, e9, k9⟩ := k8.become (i := 116 + (y + 1)) (j := R7) (by omega) (by omega)
                rw [mR7] at k9
                rw [e9]
                simp only [Option.bind_some]
                obtain ⟨g10, e10, k10⟩ := k9.top_ T3
                rw [e10]
                refine ⟨_, rfl, fun s' hs => ?_, fun o ho => by (cases ho)⟩
                obtain rfl := Sum.inl.inj hs
                refine ⟨by omega, rfl, hne', hn0', _, _, k10, rfl, dd5, ?_, fun x h7 h8 => ?_, fun a h7 h8 => ?_, fun a h7 h8 => ?_⟩
                · rw [va_un (by omega), f7 0 (by omega), va_un (by omega)]; exact w5
                · rw [va_un (by omega), f7 x (Or.inr h7), va_un (by omega)]; exact f5 x h7 h8
                · by_cases e : a = y + 1
                  · subst e; rw [va_us]
                  · rw [va_un (by omega), f7 _ (by omega), va_un (by omega)]
                    exact v5 a (by omega) h8
                · show upd d5.fo y (nI (dgS t u w y)) a = _
                  by_cases e : a = y
                  · subst e; rw [pk_us]
                  · rw [pk_un e]; exact o5 a (by omega) h8
              have fin2 : ∀ (P : (AH × Int32) ⊕ (AH × Int32 × Int32) ⊕ AH → Prop), ∃ o, zj_X11_digits_202 n (nI i) (ar n 0) (nI T3) g7 (nI y) (nI (dgS t u w y)) (nI y) (n + 18) = some o ∧ (∀ s', o = Sum.inl s' → y < 201 ∧ s'.2 = nI (y + 1) ∧ (∀ a b, a < b → b < y + 1 → rmS t u w a ≠ rmS t u w b) ∧ (∀ a, a < y + 1 → rmS t u w a ≠ 0) ∧ ∃ d' M', RV B n d' s'.1 M' ∧ d'.top = nI T3 ∧ RDD d' S ∧ M' 0 = (w : Int) ∧ (∀ x, 64 ≤ x → x < 116 → M' x = M x) ∧ (∀ a, a ≤ y + 1 → a ≤ 200 → M' (116 + a) = ((rmS t u w a : Nat) : Int)) ∧ ∀ a, a < y + 1 → a < 200 → d'.fo a = nI (dgS t u w a)) ∧ (∀ r, o = Sum.inr r → P r) := by
                intro P
                obtain ⟨o, e11, p1, p2⟩ := fin
                exact ⟨o, e11, p1, fun r hr => (p2 r hr).elim⟩
              by_cases hd0 : dgS t u w y = 0
              · rw [if_pos (show ((dgS t u w y : Nat) : Int) = 0 by omega), if_neg (by decide)]
                have e12 : (0 : Int32) = nI (dgS t u w y) := by rw [hd0]; rfl
                rw [e12]
                exact fin2 _
              · rw [if_neg (show ¬ ((dgS t u w y : Nat) : Int) = 0 by omega), if_pos (by decide)]
                simp only [k7.rw hQ73, Option.bind_some]
                have hcs : 0 < cs (M7 Q7).natAbs := by
                  rw [mQ7, Int.natAbs_natCast]
                  rcases Nat.eq_zero_or_pos (cs (dgS t u w y)) with e | e
                  · exact absurd (cs_z.mp e) hd0
                  · exact e
                have e0 : aI g7 (ar n Q7 + 1) 0 (0 : Int32) = some (nI (dgS t u w y)) := by
                  have := k7.at hQ73 hcs
                  rw [mQ7, Int.natAbs_natCast] at this
                  have hp : PX (dgS t u w y) 0 = dgS t u w y := by
                    unfold PX
                    rw [Nat.pow_zero, Nat.div_one]
                    exact Nat.mod_eq_of_lt (show dgS t u w y < 65536 by omega)
                  rw [hp] at this
                  exact this
                rw [e0]
                exact fin2 _)
    rw [hr]
    simp only [Option.bind_some]
    have told : ∀ (g5 : AH) (d5 : RD) (M5 : Nat → Int) (A e : Nat), RV B n d5 g5 M5 → RDD d5 S → (∀ x, 64 ≤ x → x < 116 → M5 x = M x) → isExp (rmS t u w) A e → A + e ≤ 200 → (∀ a, a < A + e → d5.fo a = nI (dgS t u w a)) → ∃ r h', ((chk g5 n 11).bind fun _ => (zs_X11_told g5 n (nI A) (nI e)).bind fun x => some (x.1, x.2)) = some (r, h') ∧ ∃ S', RI B n h' S' ∧ Sp_digits S (nI i) (nI w) r S' := by
      intro g5 d5 M5 A e c5 dd5 f5 hex hle ho
      simp only [c5.rm, Option.bind_some]
      obtain ⟨g6, f, e6, c6, hf⟩ := c5.told A e
      rw [e6]
      refine ⟨_, g6, rfl, setEx S A e (dgS t u w), ⟨_, M5, c6, key M5 f5, ⟨dd5.1, dd5.2.1, rfl, rfl, fun a h7 => ?_⟩, si.1, si.2.1, si.2.2.1, si.2.2.2.1, hle, fun a h7 => ?_⟩, hsp _ _ (Or.inl ⟨A, e, hex, hle, rfl, rfl⟩)⟩
      · have h8 : a < A + e := h7
        show f a = nI (dgS t u w a)
        rw [hf a (by omega)]
        exact ho a h8
      · show dgS t u w a < 36
        have := dgS_lt (t := t) (b := u) (q := w) (i := a) hu0 (by omega)
        omega
    rcases r with x | x | x
    · obtain ⟨y, e5, h5, hex, d5, M5, c5, dd5, f5, o5⟩ := hz
      dsimp only
      rw [e5]
      exact told x.1 d5 M5 y 0 c5 dd5 f5 hex (by omega) o5
    · obtain ⟨y, a, e5, e6, h5, h6, hex, d5, M5, c5, dd5, f5, o5⟩ := hz
      dsimp only
      rw [e5, e6, pk_sub (by omega)]
      exact told x.1 d5 M5 a (y - a) c5 dd5 f5 hex (by omega) (fun z hz => o5 z (by omega))
    · obtain ⟨hno, d5, M5, c5, dd5, f5⟩ := hz
      exact ⟨-4, x, rfl, S, ⟨d5, M5, c5, key M5 f5, dd5, si⟩, hsp _ _ (Or.inr ⟨hno, rfl, rfl⟩)⟩
theorem r_digit (I : RI B n h S) (x : Int32) : ∃ r h', zs_X11_digit h n x = some (r, h') ∧ RI B n h' S ∧ Sp_digit S x r := by
  obtain ⟨d, M, c, m, dd, si⟩ := I
  unfold zs_X11_digit Sp_digit
  obtain ⟨g1, e1, c1⟩ := c.main (k := 0) (v := .int 0) (d' := d.set1 0 d.top) (by decide) rfl rfl
  rw [e1]
  have I1 : RI B n g1 S := ⟨_, M, c1, m, dd, si⟩
  have e21 : gI g1 n 11 21 = some (nI S.eA) := by
    rw [← dd.2.2.1]
    exact c1.rm.2.2.2.2.2.2.2.2.2.2.2.2.2.2.2.2.2.2.2.2.1
  have e22 : gI g1 n 11 22 = some (nI S.eM) := by
    rw [← dd.2.2.2.1]
    exact c1.rm.2.2.2.2.2.2.2.2.2.2.2.2.2.2.2.2.2.2.2.2.2
  simp only [e21, e22, Option.bind_some]
  have hle := si.2.2.2.2.1
  by_cases h1 : x = -1
  · rw [if_pos h1]
    exact ⟨_, g1, rfl, I1, by rw [if_pos h1]⟩
  · rw [if_neg h1]
    by_cases h2 : x = -2
    · rw [if_pos h2]
      exact ⟨_, g1, rfl, I1, by rw [if_neg h1, if_pos h2]⟩
    · rw [if_neg h2]
      simp only [if_neg h1, if_neg h2]
      by_cases h0 : x < 0
      · rw [if_pos h0]
        have hn : ixI (S.eA + S.eM) x = none := by
          unfold ixI
          rw [if_neg (fun q => by have := i32_lt0.mp h0; omega)]
        exact ⟨-1, g1, rfl, I1, by rw [hn]⟩
      · obtain ⟨k, hk, rfl⟩ := nI_of h0
        rw [if_neg h0, nI_add]
        by_cases hlt : k < S.eA + S.eM
        · rw [if_neg (nI_ge hlt (by omega)), ixI_nI hlt (by omega)]
          simp only [c1.rm, Option.bind_some]
          rw [c1.getD (show k < 201 by omega)]
          exact ⟨_, g1, rfl, I1, dd.2.2.2.2 k hlt⟩
        · rw [if_pos (nI_le (by omega) (by omega))]
          have hn : ixI (S.eA + S.eM) (nI k) = none := by
            unfold ixI
            rw [if_neg (fun q => by have h5 := q.2; rw [nI_toInt hk] at h5; omega)]
          exact ⟨-1, g1, rfl, I1, by rw [hn]⟩
end Rdt
