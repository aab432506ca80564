/-! the reference: read, write, out -/
theorem b8_45 : ∀ b, b < 256 → ((nI b).toInt8.toInt32 = (45 : Int32) ↔ b = 45) := by decide +kernel
theorem b8_id : ∀ b, b < 128 → (nI b).toInt8.toInt32 = nI b := by decide +kernel
theorem digitOf_ok (h : AH) : ∀ b, b < 256 → zs_X11_digitOf h ((nI b).toInt8.toInt32) = some (nI (dg b)) := by
  unfold zs_X11_digitOf zj_X11_digitOf_19
  decide +kernel
section Rtx
variable {B h : AH} {n : Nat} {d : RD} {M : Nat → Int} {S : AS} {i j k T : Nat}
theorem spl_C {b : Nat → Nat} {q s : Nat} (hq : q ≤ 36) {k : Nat} (hk : k ≤ 120) (ha : ∀ i, i < k → dg (b (s + i)) < q) : spl b q s k < C16 ^ 45 := by
  refine Nat.lt_of_lt_of_le (spl_lt hq k ha) ?_
  have h1 : 36 ^ k ≤ 36 ^ 120 := Nat.pow_le_pow_right (by decide) hk
  have h2 : 36 ^ 120 ≤ 64 ^ 120 := Nat.pow_le_pow_left (by decide) 120
  have h3 : 64 ^ 120 = C16 ^ 45 := by
    rw [C16_two, show (64 : Nat) = 2 ^ 6 from rfl, ← Nat.pow_mul]
  omega
theorem r_read (I : RI B n h S) (s base : Int32) : ∃ r h', zs_X11_read h n s base = some (r, h') ∧ ∃ S', RI B n h' S' ∧ Sp_read S s base r S' := by
  obtain ⟨d, M, c, m, dd, si⟩ := I
  unfold zs_X11_read
  refine c.slot1 (fun g h1 c1 => ⟨S, ⟨_, M, c1, m, dd, si⟩, by unfold Sp_read; rw [h1]; exact ⟨rfl, rfl⟩⟩) (fun i g h1 hi ha c1 => ?_)
  subst ha
  dsimp only
  have I1 : RI B n g S := ⟨_, M, c1, m, dd, si⟩
  cases h2 : bsI base with
  | none =>
    have hsp : Sp_read S (nI i) base (-1) S := by unfold Sp_read; rw [h1, h2]; exact ⟨rfl, rfl⟩
    by_cases h3 : base < (2 : Int32)
    · rw [if_pos h3]; exact ⟨-1, g, rfl, S, I1, hsp⟩
    · have h4 : ¬ base ≤ (36 : Int32) := fun z => by
        unfold bsI at h2
        rw [if_pos ⟨by have a : ¬ base.toInt < 2 := fun q => h3 (i32_lt.mpr q); omega, i32_le.mp z⟩] at h2
        cases h2
      rw [if_neg h3, if_neg h4]; exact ⟨-1, g, rfl, S, I1, hsp⟩
  | some q =>
    obtain ⟨rfl, hq2, hq⟩ := bsI_some h2
    rw [if_neg (show ¬ nI q < (2 : Int32) from nI_nlt (b := 2) hq2 (by omega)), if_pos (show nI q ≤ (36 : Int32) from nI_le (b := 36) hq (by decide))]
    simp only [c1.rm, Option.bind_some]
    have et : (d.set1 0 0).tpd = nI S.tC := dd.1.1
    rw [et]
    have hC := si.2.2.1.1
    have hB := si.2.2.1.2
    obtain ⟨g2, e2, c2⟩ := c1.main (k := 13) (v := .int 0) (d' := (d.set1 0 0).set3 0 d.osz) (by decide) rfl rfl
    rw [e2]
    simp only [Option.bind_some]
    have ddc : RDD ((d.set1 0 0).set3 0 d.osz) (clr S) := ⟨⟨rfl, fun k hk => absurd hk (Nat.not_lt_zero k)⟩, dd.2.1, dd.2.2⟩
    have sic : SI (clr S) := ⟨si.1, si.2.1, ⟨by show 0 ≤ 120; omega, fun k hk => absurd hk (Nat.not_lt_zero k)⟩, si.2.2.2⟩
    have mc : RM M (clr S) := m
    obtain ⟨C, hCC⟩ : ∃ C, C = S.tC := ⟨_, rfl⟩
    obtain ⟨b, hbb⟩ : ∃ b, b = S.tB := ⟨_, rfl⟩
    have hsp : ∀ r S', ((sgn1 C b = C ∧ r = -10 - nI C ∧ S' = clr S) ∨ (sgn1 C b ≠ C ∧ ∃ p, wrongAt b q (sgn1 C b) C p ∧ r = -10 - nI p ∧ S' = clr S) ∨ (sgn1 C b ≠ C ∧ (∀ k, sgn1 C b ≤ k → k < C → dg (b k) < q) ∧ kp (clr S) i (sgv (nI (sgn1 C b)) (spl b q (sgn1 C b) (C - sgn1 C b))) r S')) → Sp_read S (nI i) (nI q) r S' := by
      intro r S' hh
      unfold Sp_read
      rw [h1, h2]
      rw [hCC, hbb] at hh
      exact hh
    have hdt : ∀ k, k < C → d.tp k = (nI (b k)).toInt8.toInt32 := by rw [hCC, hbb]; exact dd.1.2
    rw [← hCC] at hC hB ⊢
    rw [← hbb] at hB
    have hs1 := sgn1_le C b
    have key : ∃ r h', zj_X11_read_51 g2 n (nI i) (nI q) (nI C) (nI (sgn1 C b)) = some (r, h') ∧ ∃ S', RI B n h' S' ∧ Sp_read S (nI i) (nI q) r S' := by
      have e51 : zj_X11_read_51 g2 n (nI i) (nI q) (nI C) (nI (sgn1 C b)) = zj_X11_read_63 g2 n (nI i) (nI q) (nI C) (nI (sgn1 C b)) (nI (sgn1 C b)) := by
        unfold zj_X11_read_51
        rcases (show sgn1 C b = 0 ∨ sgn1 C b = 1 by omega) with e | e
        · rw [e, if_pos (by decide)]; rfl
        · rw [e, if_neg (by decide)]; rfl
      rw [e51]
      unfold zj_X11_read_63
      simp only [c2.rm, Option.bind_some]
      obtain ⟨g3, e3, c3⟩ := c2.copy (T := 0) rfl (by decide) (show 64 < 317 by decide)
      rw [m.1.1] at c3
      rw [e3]
      simp only [c3.rm, Option.bind_some]
      rw [nI_l (by omega)]
      obtain ⟨g4, e4, c4⟩ := c3.ofL (T := 1) rfl (by decide) (lN q)
      rw [pf_lI (by omega)] at c4
      rw [e4]
      simp only [Option.bind_some]
      have m4 : RM (va_up (va_up M 0 0) 1 (q : Int)) S := (m.up (by decide) _).up (by decide) _
      by_cases hall : sgn1 C b = C
      · rw [if_pos (by rw [hall])]
        exact ⟨_, g4, rfl, clr S, ⟨_, _, c4, m4, ddc, sic⟩, hsp _ _ (Or.inl ⟨hall, rfl, rfl⟩)⟩
      · rw [if_neg (fun z => hall ((nI_eq (by omega) (by omega)).mp z))]
        simp only [c4.rm, Option.bind_some]
        obtain ⟨sg, hsg⟩ : ∃ sg, sg = sgn1 C b := ⟨_, rfl⟩
        rw [← hsg] at hs1 hall ⊢
        rw [← hsg] at hsp
        obtain ⟨r, hr, hz⟩ := iter_FU (B := fun x : AH × Int32 => zb_X11_read_100 n (nI i) (nI q) (nI C) (nI sg) (ar n 0) (ar n 1) (nI 2) x.1 x.2)
          (fun t s => s.2 = nI (sg + t) ∧ (∀ y, y < t → dg (b (sg + y)) < q) ∧ ∃ M', RV B n (((d.set1 0 0).set3 0 d.osz).tt 2) s.1 M' ∧ M' 0 = ((spl b q sg t : Nat) : Int) ∧ M' 1 = (q : Int) ∧ ∀ x, 64 ≤ x → M' x = M x)
          (fun r => match r with
            | .inl w => ∃ p, w.2 = nI p ∧ wrongAt b q sg C p ∧ ∃ M', RV B n (((d.set1 0 0).set3 0 d.osz).tt 2) w.1 M' ∧ ∀ x, 64 ≤ x → M' x = M x
            | .inr w => (∀ y, y < C - sg → dg (b (sg + y)) < q) ∧ ∃ M', RV B n (((d.set1 0 0).set3 0 d.osz).tt 2) w M' ∧ M' 0 = ((spl b q sg (C - sg) : Nat) : Int) ∧ ∀ x, 64 ≤ x → M' x = M x)
          (C - sg) (by omega) (s := (g4, nI sg)) ⟨rfl, fun y hy => absurd hy (Nat.not_lt_zero y), _, c4, by rw [va_un (by decide), va_us]; rfl, va_us _ _ _, fun x hx => by rw [va_un (by omega), va_un (by omega)]⟩ (by
          rintro t ⟨g5, z⟩ ht ⟨hz, hd, M5, k5, v5, w5, f5⟩
          dsimp only at hz k5 ⊢
          subst hz
          unfold zb_X11_read_100
          by_cases hlt : t < C - sg
          · have ea : aI g5 (n + 13) 2 (nI (sg + t)) = some ((nI (b (sg + t))).toInt8.toInt32) := by
              rw [k5.getT (by omega)]
              exact congrArg some (hdt (sg + t) (by omega))
            have hdl := dg_le (b (sg + t))
            rw [if_neg (nI_ge (by omega) (by omega))]
            simp only [k5.rm, Option.bind_some]
            rw [ea]
            simp only [Option.bind_some]
            rw [digitOf_ok _ _ (hB (sg + t) (by omega))]
            simp only [Option.bind_some]
            by_cases hv : dg (b (sg + t)) < q
            · rw [if_pos (nI_lt hv (by omega))]
              have hsl := spl_C (b := b) (s := sg) hq (k := t) (by omega) hd
              obtain ⟨g6, e6, k6⟩ := k5.times (T := 2) (i := 0) (j := 1) rfl (by decide) (by decide) (by decide) (by decide) (by decide) (na := 45) (nb := 1) (by rw [v5, Int.natAbs_natCast]; exact hsl) (by rw [w5, Int.natAbs_natCast, Nat.pow_one]; show q < 65536; omega) (by decide)
              rw [v5, w5] at k6
              rw [e6]
              simp only [k6.rm, Option.bind_some]
              rw [nI_l (by omega)]
              obtain ⟨g7, e7, k7⟩ := k6.ofL (T := 3) rfl (by decide) (lN (dg (b (sg + t))))
              rw [pf_lI (by omega)] at k7
              rw [e7]
              simp only [k7.rm, Option.bind_some]
              have hlt46 : spl b q sg t * q < C16 ^ 46 := by
                rw [Nat.pow_succ]
                exact Nat.mul_lt_mul_of_lt_of_lt hsl (show q < 65536 by omega)
              have h46 : C16 ^ 46 ≤ C16 ^ 99 := Nat.pow_le_pow_right (by decide) (by decide)
              have h1c : C16 ^ 1 ≤ C16 ^ 99 := Nat.pow_le_pow_right (by decide) (by decide)
              have h1d : C16 ^ 1 = 65536 := by decide
              obtain ⟨g8, e8, k8⟩ := k7.sum (T := 4) (i := 2) (j := 3) rfl (by decide) (by decide) (by decide) (by decide) (by decide) (by rw [va_un (by decide), va_us, Int.natAbs_mul, Int.natAbs_natCast, Int.natAbs_natCast]; omega) (by rw [va_us, Int.natAbs_natCast]; omega)
              rw [va_un (show 2 ≠ 3 by decide), va_us, va_us] at k8
              rw [e8]
              simp only [k8.ck (show 0 < 317 by decide), Option.bind_some]
              obtain ⟨g9, e9, k9⟩ := k8.become (i := 0) (j := 4) (by decide) (by decide)
              rw [va_us] at k9
              rw [e9]
              simp only [Option.bind_some]
              obtain ⟨g10, e10, k10⟩ := k9.top_ 2
              rw [e10]
              refine ⟨_, rfl, fun s' hs => ?_, fun r hr => by (cases hr)⟩
              obtain rfl := Sum.inl.inj hs
              refine ⟨hlt, nI_1 _, fun y hy => ?_, _, k10, ?_, ?_, fun x hx => ?_⟩
              · by_cases e : y = t
                · rw [e]; exact hv
                · exact hd y (by omega)
              · rw [va_us, ← Int.natCast_mul, ← Int.natCast_add]
                rfl
              · rw [va_un (by decide), va_un (by decide), va_un (by decide), va_un (by decide)]
                exact w5
              · rw [va_un (by omega), va_un (by omega), va_un (by omega), va_un (by omega)]
                exact f5 x hx
            · rw [if_neg (nI_nlt (by omega) (by omega))]
              refine ⟨_, rfl, fun s' hs => by (cases hs), fun r hr => ?_⟩
              obtain rfl := Sum.inr.inj hr
              refine ⟨sg + t, rfl, ⟨by omega, by omega, hv, fun y h3 h4 => ?_⟩, M5, k5, f5⟩
              have := hd (y - sg) (by omega)
              rw [show sg + (y - sg) = y by omega] at this
              exact this
          · have e : t = C - sg := by omega
            subst e
            rw [if_pos (nI_le (by omega) (by omega))]
            refine ⟨_, rfl, fun s' hs => by (cases hs), fun r hr => ?_⟩
            obtain rfl := Sum.inr.inj hr
            exact ⟨hd, M5, k5, v5, f5⟩)
        have etop : ((((d.set1 0 0).set3 0 d.osz).tt (0 + 1)).tt (1 + 1)).top = nI 2 := rfl
        rw [etop, hr]
        simp only [Option.bind_some]
        cases r with
        | inl w =>
          obtain ⟨p, hp, hw, M5, k5, f5⟩ := hz
          dsimp only
          rw [hp]
          exact ⟨_, w.1, rfl, clr S, ⟨_, M5, k5, m.fr (fun x hx _ _ => f5 x hx), ddc, sic⟩, hsp _ _ (Or.inr (Or.inl ⟨hall, p, hw, rfl, rfl⟩))⟩
        | inr w =>
          obtain ⟨hd, M5, k5, v5, f5⟩ := hz
          dsimp only
          have m5 : RM M5 (clr S) := m.fr (fun x hx _ _ => f5 x hx)
          have hdall : ∀ k, sg ≤ k → k < C → dg (b k) < q := fun k h3 h4 => by
            have := hd (k - sg) (by omega)
            rw [show sg + (k - sg) = k by omega] at this
            exact this
          rcases (show sg = 0 ∨ sg = 1 by omega) with e | e
          · rw [if_pos (by rw [e]; decide)]
            unfold zj_X11_read_184
            simp only [k5.rm, Option.bind_some]
            obtain ⟨r, h', S', e9, I9, k9⟩ := k5.keep m5 ddc sic (k := 0) (by decide) hi
            rw [v5] at k9
            rw [e9]
            refine ⟨r, h', rfl, S', I9, hsp _ _ (Or.inr (Or.inr ⟨hall, hdall, ?_⟩))⟩
            have : sgv (nI sg) (spl b q sg (C - sg)) = ((spl b q sg (C - sg) : Nat) : Int) := by rw [e]; rfl
            rw [this]
            exact k9
          · rw [if_neg (by rw [e]; decide)]
            simp only [k5.rm, Option.bind_some]
            obtain ⟨g6, e6, k6⟩ := k5.negative (T := 2) (i := 0) rfl (by decide) (by decide) (by decide)
            rw [v5] at k6
            rw [e6]
            simp only [Option.bind_some]
            unfold zj_X11_read_184
            simp only [k6.rm, Option.bind_some]
            obtain ⟨r, h', S', e9, I9, k9⟩ := k6.keep (m5.up (by decide) _) ddc sic (k := 2) (by decide) hi
            rw [va_us] at k9
            rw [e9]
            refine ⟨r, h', rfl, S', I9, hsp _ _ (Or.inr (Or.inr ⟨hall, hdall, ?_⟩))⟩
            have : sgv (nI sg) (spl b q sg (C - sg)) = -((spl b q sg (C - sg) : Nat) : Int) := by rw [e]; rfl
            rw [this]
            exact k9
    by_cases hC0 : C = 0
    · rw [if_pos (by rw [hC0]; decide)]
      have e0 : sgn1 C b = 0 := by unfold sgn1; rw [if_neg (by omega)]
      rw [e0] at key
      exact key
    · rw [if_neg (nI_nle (by omega) (by omega))]
      simp only [c2.rm, Option.bind_some]
      have ea : aI g2 (n + 13) 2 (0 : Int32) = some ((nI (b 0)).toInt8.toInt32) := by
        have := c2.getT (k := 0) (by decide)
        rw [show nI 0 = (0 : Int32) from rfl] at this
        rw [this]
        exact congrArg some (hdt 0 (by omega))
      rw [ea]
      simp only [Option.bind_some]
      by_cases h45 : b 0 = 45
      · rw [if_pos ((b8_45 _ (hB 0 (by omega))).mpr h45)]
        have e0 : sgn1 C b = 1 := by unfold sgn1; rw [if_pos ⟨by omega, h45⟩]
        rw [e0] at key
        exact key
      · rw [if_neg (fun z => h45 ((b8_45 _ (hB 0 (by omega))).mp z))]
        have e0 : sgn1 C b = 0 := by unfold sgn1; rw [if_neg (fun z => h45 z.2)]
        rw [e0] at key
        exact key
theorem RV.putO (c : RV B n d h M) (hk : k < 400) (x : Int32) : ∃ h', sI h (n + 14) 2 (nI k) x = some h' ∧ RV B n (d.set5 d.tp (upd d.ou k x)) h' M := by
  obtain ⟨σ, c, hσ⟩ := c
  refine ⟨_, sI_go (c.2.1 14 _ rfl) hk (by decide) x, σ, c.on (o := 14) (by omega) (on_hset _ _ _) (fun e he => ?_) (fun o' ho => ?_), hσ⟩
  · refine (hset_at _ _ _).trans ?_
    exact he
  · unfold crt
    refine ite_r (ite_r (ite_r (ite_r (ite_r (ite_r ?_)))))
    rw [if_neg ho, if_neg ho]
    rfl
theorem RV.getO (c : RV B n d h M) (hk : k < 400) : aI h (n + 14) 2 (nI k) = some (d.ou k) := by
  obtain ⟨σ, c, hσ⟩ := c
  exact aI_go (c.2.1 14 _ rfl) hk (by decide)
/-- what stands apart from the text -/
def exO (d d' : RD) : Prop := d'.2.2.1.1 = d.2.2.1.1 ∧ d'.2.2.2.1 = d.2.2.2.1 ∧ d'.tp = d.tp ∧ d'.2.2.2.2.2 = d.2.2.2.2.2
theorem exO.rf : exO d d := ⟨rfl, rfl, rfl, rfl⟩
theorem exO.tr {d d' d'' : RD} (a : exO d d') (b : exO d' d'') : exO d d'' := ⟨b.1.trans a.1, b.2.1.trans a.2.1, b.2.2.1.trans a.2.2.1, b.2.2.2.trans a.2.2.2⟩
theorem RV.turn (c : RV B n d h M) {N : Nat} (h1 : 1 ≤ N) (hN : N ≤ 385) (hb : ∀ j, j < N → d.ou j = (d.ou j).toInt8.toInt32) : ∃ h' d', zj_X11_write_161 h n (nI N) = some (nI N, h') ∧ RV B n d' h' M ∧ exO d d' ∧ d'.osz = nI N ∧ ∀ j, j < N → d'.ou j = d.ou (N - 1 - j) := by
  unfold zj_X11_write_161
  obtain ⟨m, rfl⟩ : ∃ m, N = m + 1 := ⟨N - 1, by omega⟩
  obtain ⟨r, hr, d', c', ex, hf⟩ := iter_FU (B := fun q : AH × Int32 => zb_X11_write_164 n (nI (m + 1)) q.1 q.2)
    (fun t z => z.2 = nI t ∧ 2 * t ≤ m + 1 ∧ ∃ d', RV B n d' z.1 M ∧ exO d d' ∧ ∀ j, j < m + 1 → d'.ou j = if j < t ∨ m - t < j then d.ou (m - j) else d.ou j)
    (fun r => ∃ d', RV B n d' r M ∧ exO d d' ∧ ∀ j, j < m + 1 → d'.ou j = d.ou (m - j))
    (m + 1) (by omega) (s := (h, (0 : Int32))) ⟨rfl, by omega, d, c, exO.rf, fun j hj => by rw [if_neg (by omega)]⟩ (by
    rintro t ⟨g, z1⟩ ht ⟨hz1, h2, d1, k1, ex1, hf⟩
    dsimp only at hz1 k1 ⊢
    subst hz1
    unfold zb_X11_write_164
    have e2 : (2 : Int32) * nI t = nI (2 * t) := pk_mul 2 t
    rw [e2, nI_1]
    by_cases hle : m + 1 ≤ 2 * t + 1
    · rw [if_pos (nI_le hle (by omega))]
      refine ⟨_, rfl, fun s' hs => by (cases hs), fun r hr => ?_⟩
      obtain rfl := Sum.inr.inj hr
      refine ⟨d1, k1, ex1, fun j hj => ?_⟩
      rw [hf j hj]
      by_cases hj2 : j < t ∨ m - t < j
      · rw [if_pos hj2]
      · rw [if_neg hj2, show m - j = j by omega]
    · rw [if_neg (nI_ge (by omega) (by omega))]
      have em : nI (m + 1) - (1 : Int32) - nI t = nI (m - t) := by rw [nI_pred, pk_sub (by omega)]
      simp only [k1.rm, Option.bind_some]
      rw [em, k1.getO (show t < 400 by omega), k1.getO (show m - t < 400 by omega)]
      simp only [Option.bind_some]
      have vt : d1.ou t = d.ou t := by rw [hf t (by omega), if_neg (by omega)]
      have vm : d1.ou (m - t) = d.ou (m - t) := by rw [hf (m - t) (by omega), if_neg (by omega)]
      rw [vt, vm, ← hb t (by omega), ← hb (m - t) (by omega)]
      obtain ⟨g2, e3, k2⟩ := k1.putO (k := t) (by omega) (d.ou (m - t))
      rw [e3]
      simp only [k2.rm, Option.bind_some]
      obtain ⟨g3, e4, k3⟩ := k2.putO (k := m - t) (by omega) (d.ou t)
      rw [e4]
      simp only [Option.bind_some]
      refine ⟨_, rfl, fun s' hs' => ?_, fun r hr => by (cases hr)⟩
      obtain rfl := Sum.inl.inj hs'
      refine ⟨by omega, nI_1 _, by omega, _, k3, ex1.tr ⟨rfl, rfl, rfl, rfl⟩, fun j hj => ?_⟩
      show upd (upd d1.ou t (d.ou (m - t))) (m - t) (d.ou t) j = _
      by_cases ja : j = m - t
      · subst ja
        rw [pk_us, if_pos (by omega), show m - (m - t) = t by omega]
      · rw [pk_un ja]
        by_cases jb : j = t
        · subst jb
          rw [pk_us, if_pos (by omega)]
        · rw [pk_un jb, hf j hj]
          by_cases h3 : j < t ∨ m - t < j
          · rw [if_pos h3, if_pos (by omega)]
          · rw [if_neg h3, if_neg (by omega)])
  rw [hr]
  simp only [Option.bind_some]
  obtain ⟨g3, e3, c3⟩ := c'.main (k := 15) (v := .int (nI (m + 1))) (d' := d'.set3 d'.tpd (nI (m + 1))) (by decide) rfl rfl
  rw [e3]
  refine ⟨g3, _, rfl, c3, ex.tr ⟨rfl, rfl, rfl, rfl⟩, rfl, fun j hj => ?_⟩
  rw [show m + 1 - 1 - j = m - j by omega]
  exact hf j hj
theorem exO.dd {d' : RD} (dd : RDD d S) (ex : exO d d') {N : Nat} {b : Nat → Nat} (h1 : d'.osz = nI N) (h2 : ∀ k, k < N → d'.ou k = nI (b k)) : RDD d' (setO S N b) := by
  obtain ⟨a1, a2, a3, a4⟩ := ex
  refine ⟨?_, ⟨h1, h2⟩, ?_⟩
  · have := dd.1
    unfold RD.tpd at this ⊢
    rw [a1, a3]
    exact this
  · have := dd.2.2
    unfold RD.hd RD.rd RD.dg at this ⊢
    rw [a2, a4]
    exact this
theorem r_write (I : RI B n h S) (s base : Int32) : ∃ r h', zs_X11_write h n s base = some (r, h') ∧ ∃ S', RI B n h' S' ∧ Sp_write S s base r S' := by
  obtain ⟨d, M, c, m, dd, si⟩ := I
  unfold zs_X11_write
  refine c.slot1 (fun g h1 c1 => ⟨S, ⟨_, M, c1, m, dd, si⟩, by unfold Sp_write; rw [h1]; exact ⟨rfl, rfl⟩⟩) (fun i g h1 hi ha c1 => ?_)
  subst ha
  dsimp only
  have I1 : RI B n g S := ⟨_, M, c1, m, dd, si⟩
  cases h2 : bsI base with
  | none =>
    have hsp : Sp_write S (nI i) base (-1) S := by unfold Sp_write; rw [h1, h2]; exact ⟨rfl, rfl⟩
    by_cases h3 : base < (2 : Int32)
    · rw [if_pos h3]; exact ⟨-1, g, rfl, S, I1, hsp⟩
    · have h4 : ¬ base ≤ (36 : Int32) := fun z => by
        unfold bsI at h2
        rw [if_pos ⟨by have a : ¬ base.toInt < 2 := fun q => h3 (i32_lt.mpr q); omega, i32_le.mp z⟩] at h2
        cases h2
      rw [if_neg h3, if_neg h4]; exact ⟨-1, g, rfl, S, I1, hsp⟩
  | some q =>
    obtain ⟨rfl, hq2, hq⟩ := bsI_some h2
    rw [if_neg (show ¬ nI q < (2 : Int32) from nI_nlt (b := 2) hq2 (by omega)), if_pos (show nI q ≤ (36 : Int32) from nI_le (b := 36) hq (by decide))]
    have hi3 : 68 + i < 317 := by omega
    simp only [c1.rm, c1.slot hi, Option.bind_some]
    obtain ⟨g2, e2, c2⟩ := c1.sized (T := 0) rfl (by decide) hi3
    rw [e2]
    simp only [c2.rm, Option.bind_some]
    rw [nI_l (by omega)]
    obtain ⟨g3, e3, c3⟩ := c2.ofL (T := 1) rfl (by decide) (lN q)
    rw [pf_lI (by omega)] at c3
    rw [e3]
    simp only [c3.rm, Option.bind_some]
    obtain ⟨v, hv⟩ : ∃ v, v = (S.sl i).natAbs := ⟨_, rfl⟩
    rw [m.2.1 i hi, ← hv] at c3
    have xa := si.1 i hi
    rw [← hv] at xa
    have hpow : ∀ t, v / q ^ t ≠ 0 → t < 384 := by
      intro t ht
      have h5 : 2 ^ t ≤ q ^ t := Nat.pow_le_pow_left hq2 t
      have h6 : q ^ t ≤ v := by
        rcases Nat.lt_or_ge v (q ^ t) with h7 | h7
        · exact absurd (Nat.div_eq_of_lt h7) ht
        · exact h7
      rw [B32_two] at xa
      rcases Nat.lt_or_ge t 384 with h7 | h7
      · exact h7
      · have : 2 ^ (32 * 12) ≤ 2 ^ t := Nat.pow_le_pow_right (by decide) (by omega)
        omega
    have h97 : B32 ^ 12 < C16 ^ 97 := by rw [← C24]; exact Nat.pow_lt_pow_right (by decide) (by decide)
    have etop : (((d.set1 0 0).tt (0 + 1)).tt (1 + 1)).top = nI 2 := rfl
    rw [etop]
    obtain ⟨r, hr, L, hrL, hL, d4, M4, c4, t4, ex4, f4, b4⟩ := iter_FU (B := fun x : AH × Int32 => zb_X11_write_49 n (nI i) (ar n 0) (ar n 1) (nI 2) x.1 x.2)
      (fun t s => s.2 = nI t ∧ (∀ j, 1 ≤ j → j ≤ t → v / q ^ j ≠ 0) ∧ ∃ d' M', RV B n d' s.1 M' ∧ d'.top = nI 2 ∧ exO d d' ∧ M' 0 = ((v / q ^ t : Nat) : Int) ∧ M' 1 = (q : Int) ∧ (∀ x, 64 ≤ x → M' x = M x) ∧ ∀ j, j < t → d'.ou j = nI (lets (v / q ^ j % q)))
      (fun r => ∃ L, r.2 = nI L ∧ isLen v q L ∧ ∃ d' M', RV B n d' r.1 M' ∧ d'.top = nI 2 ∧ exO d d' ∧ (∀ x, 64 ≤ x → M' x = M x) ∧ ∀ j, j < L → d'.ou j = nI (lets (v / q ^ j % q)))
      384 (by omega) (s := (g3, (0 : Int32))) ⟨rfl, fun j h3 h4 => by omega, _, _, c3, rfl, ⟨rfl, rfl, rfl, rfl⟩, by rw [va_un (by decide), va_us, Nat.pow_zero, Nat.div_one], va_us _ _ _, fun x hx => by rw [va_un (by omega), va_un (by omega)], fun j hj => absurd hj (Nat.not_lt_zero j)⟩ (by
      rintro t ⟨g5, z⟩ ht ⟨hz, hnz, d5, M5, k5, t5, ex5, v5, w5, f5, b5⟩
      dsimp only at hz k5 ⊢
      subst hz
      unfold zb_X11_write_49
      simp only [k5.rm, Option.bind_some]
      have hle : v / q ^ t ≤ v := Nat.div_le_self _ _
      obtain ⟨g6, M6, Q, R, T1, e6, k6, hQ, hR, hQR, hT1, mQ, mR, f6⟩ := k5.divide (T := 2) (i := 0) (j := 1) t5 (by decide) (by decide) (by decide) (by decide) (by decide) (by rw [w5]; omega) (by rw [v5, Int.natAbs_natCast]; omega) ((f5 64 (by omega)).trans m.1.1)
      rw [v5, w5, Int.natAbs_natCast, Int.natAbs_natCast] at mQ mR
      rw [e6]
      have hR3 : R < 317 := by omega
      simp only [k6.qr, k6.ck hR3, k6.isZero hR3, Option.bind_some]
      have hml := Nat.mod_lt (v / q ^ t) (show 0 < q by omega)
      obtain ⟨w, hw⟩ : ∃ w, w = v / q ^ t % q := ⟨_, rfl⟩
      rw [← hw] at mR hml
      have ht384 : t < 384 := by
        rcases Nat.lt_or_ge t 1 with h7 | h7
        · omega
        · exact hpow t (hnz t h7 (Nat.le_refl _))
      have key : ∃ o, zj_X11_write_80 n (nI i) (ar n 0) (ar n 1) (nI 2) g6 (nI t) (nI w) = some o ∧ (∀ s', o = Sum.inl s' → t < 384 ∧ s'.2 = nI (t + 1) ∧ (∀ j, 1 ≤ j → j ≤ t + 1 → v / q ^ j ≠ 0) ∧ ∃ d' M', RV B n d' s'.1 M' ∧ d'.top = nI 2 ∧ exO d d' ∧ M' 0 = ((v / q ^ (t + 1) : Nat) : Int) ∧ M' 1 = (q : Int) ∧ (∀ x, 64 ≤ x → M' x = M x) ∧ ∀ j, j < t + 1 → d'.ou j = nI (lets (v / q ^ j % q))) ∧ (∀ r, o = Sum.inr r → ∃ L, r.2 = nI L ∧ isLen v q L ∧ ∃ d' M', RV B n d' r.1 M' ∧ d'.top = nI 2 ∧ exO d d' ∧ (∀ x, 64 ≤ x → M' x = M x) ∧ ∀ j, j < L → d'.ou j = nI (lets (v / q ^ j % q))) := by
        have key2 : ∃ o, zj_X11_write_110 n (nI i) (ar n 0) (ar n 1) (nI 2) g6 (nI t) (nI (lets w)) (nI t) (n + 14) = some o ∧ (∀ s', o = Sum.inl s' → t < 384 ∧ s'.2 = nI (t + 1) ∧ (∀ j, 1 ≤ j → j ≤ t + 1 → v / q ^ j ≠ 0) ∧ ∃ d' M', RV B n d' s'.1 M' ∧ d'.top = nI 2 ∧ exO d d' ∧ M' 0 = ((v / q ^ (t + 1) : Nat) : Int) ∧ M' 1 = (q : Int) ∧ (∀ x, 64 ≤ x → M' x = M x) ∧ ∀ j, j < t + 1 → d'.ou j = nI (lets (v / q ^ j % q))) ∧ (∀ r, o = Sum.inr r → ∃ L, r.2 = nI L ∧ isLen v q L ∧ ∃ d' M', RV B n d' r.1 M' ∧ d'.top = nI 2 ∧ exO d d' ∧ (∀ x, 64 ≤ x → M' x = M x) ∧ ∀ j, j < L → d'.ou j = nI (lets (v / q ^ j % q))) := by
          unfold zj_X11_write_110
          have hlet := lets_lt (v := w) (by omega)
          rw [b8_id _ hlet, b8_id _ hlet]
          obtain ⟨g7, e7, k7⟩ := k6.putO (k := t) (by omega) (nI (lets w))
          rw [e7]
          have hqr : gR g7 n 11 5 = some (ar n Q) := k7.mR rfl
          simp only [hqr, k7.ck (show 0 < 317 by decide), Option.bind_some]
          obtain ⟨g8, e8, k8⟩ := k7.become (i := 0) (j := Q) (by decide) (by omega)
          rw [mQ] at k8
          rw [e8]
          simp only [Option.bind_some]
          obtain ⟨g9, e9, k9⟩ := k8.top_ 2
          rw [e9]
          simp only [k9.ck (show 0 < 317 by decide), k9.isZero (show 0 < 317 by decide), Option.bind_some]
          rw [va_us, ← dv_s]
          have hfr : ∀ x, 64 ≤ x → va_up M6 0 ((v / q ^ t / q : Nat) : Int) x = M x := fun x hx => by rw [va_un (by omega), f6 x (Or.inr hx)]; exact f5 x hx
          have hbt : ∀ j, j < t + 1 → upd d5.ou t (nI (lets w)) j = nI (lets (v / q ^ j % q)) := fun j hj => by
            by_cases e : j = t
            · subst e; rw [pk_us, hw]
            · rw [pk_un e]; exact b5 j (by omega)
          by_cases hzz : v / q ^ (t + 1) = 0
          · rw [if_pos (show ((v / q ^ (t + 1) : Nat) : Int) = 0 by omega), if_neg (by decide), nI_1]
            refine ⟨_, rfl, fun s' hs => by (cases hs), fun r hr => ?_⟩
            obtain rfl := Sum.inr.inj hr
            exact ⟨t + 1, rfl, ⟨by omega, hzz, fun j h3 h4 => hnz j h3 (by omega)⟩, _, _, k9, rfl, ex5.tr ⟨rfl, rfl, rfl, rfl⟩, hfr, hbt⟩
          · rw [if_neg (show ¬ ((v / q ^ (t + 1) : Nat) : Int) = 0 by omega), if_pos (by decide), nI_1]
            refine ⟨_, rfl, fun s' hs => ?_, fun r hr => by (cases hr)⟩
            obtain rfl := Sum.inl.inj hs
            refine ⟨ht384, rfl, fun j h3 h4 => ?_, _, _, k9, rfl, ex5.tr ⟨rfl, rfl, rfl, rfl⟩, by rw [va_us, dv_s], ?_, hfr, hbt⟩
            · by_cases e : j = t + 1
              · rw [e]; exact hzz
              · exact hnz j h3 (by omega)
            · rw [va_un (by decide), f6 1 (by omega)]
              exact w5
        unfold zj_X11_write_80
        simp only [k6.rm, Option.bind_some]
        by_cases h10 : 10 ≤ w
        · rw [if_pos (show (10 : Int32) ≤ nI w from nI_le (a := 10) h10 (by omega))]
          have el : ((97 : Int32) + nI w) - (10 : Int32) = nI (lets w) := by
            have a1 : (97 : Int32) + nI w = nI (97 + w) := nI_add 97 w
            have a2 := pk_sub (a := 97 + w) (b := 10) (by omega)
            unfold lets
            rw [a1, if_neg (by omega), show 87 + w = 97 + w - 10 by omega]
            exact a2
          rw [el]
          exact key2
        · rw [if_neg (show ¬ (10 : Int32) ≤ nI w from nI_ge (b := 10) (by omega) (by decide))]
          have el : (48 : Int32) + nI w = nI (lets w) := by
            have a1 : (48 : Int32) + nI w = nI (48 + w) := nI_add 48 w
            unfold lets
            rw [a1, if_pos (by omega)]
          rw [el]
          exact key2
      rw [mR]
      by_cases hw0 : w = 0
      · rw [if_pos (show ((w : Nat) : Int) = 0 by omega), if_neg (by decide)]
        rw [hw0] at key
        exact key
      · rw [if_neg (show ¬ ((w : Nat) : Int) = 0 by omega), if_pos (by decide)]
        simp only [k6.rw hR3, Option.bind_some]
        have hcs : 0 < cs (M6 R).natAbs := by
          rw [mR, Int.natAbs_natCast]
          rcases Nat.eq_zero_or_pos (cs w) with e | e
          · exact absurd (cs_z.mp e) hw0
          · exact e
        have e0 : aI g6 (ar n R + 1) 0 (0 : Int32) = some (nI w) := by
          have := k6.at hR3 hcs
          rw [mR, Int.natAbs_natCast] at this
          have hp : PX w 0 = w := by
            unfold PX
            rw [Nat.pow_zero, Nat.div_one]
            exact Nat.mod_eq_of_lt (show w < 65536 by omega)
          rw [hp] at this
          exact this
        rw [e0]
        exact key)
    rw [hr]
    have hL4 : L ≤ 384 := by
      rcases Nat.lt_or_ge 1 L with h7 | h7
      · have := hpow (L - 1) (hL.2.2 (L - 1) (by omega) (by omega))
        omega
      · omega
    have hL1 := hL.1
    have m4 : RM M4 S := m.fr (fun x hx _ _ => f4 x hx)
    simp only [c4.rm, c4.slot hi, c4.sg hi3, m4.2.1 i hi, Option.bind_some]
    rw [hrL]
    have hlets : ∀ j, lets (v / q ^ j % q) < 128 := fun j => lets_lt (Nat.lt_of_lt_of_le (Nat.mod_lt _ (by omega)) hq)
    have hsp : ∀ S', S' = setO S (L + isNeg (S.sl i)) (fun k => outB v q L (L + isNeg (S.sl i) - 1 - k)) → Sp_write S (nI i) (nI q) (nI (L + isNeg (S.sl i))) S' := by
      intro S' hS
      unfold Sp_write
      rw [h1, h2]
      rw [hv] at hS hL
      exact ⟨L, hL, rfl, hS⟩
    have hsi : ∀ N, N ≤ 385 → SI (setO S N (fun k => outB v q L (N - 1 - k))) := fun N hN => ⟨si.1, si.2.1, si.2.2.1, ⟨hN, fun k hk => by
      show outB _ _ _ _ < 128
      unfold outB
      split
      · exact hlets _
      · omega⟩, si.2.2.2.2⟩
    by_cases hn : S.sl i < 0
    · have hng : isNeg (S.sl i) = 1 := if_pos hn
      rw [if_pos hn, if_neg (by decide)]
      obtain ⟨g5, e5, c5⟩ := c4.putO (k := L) (by omega) 45
      rw [show ((45 : Int32)).toInt8.toInt32 = 45 by decide, e5]
      simp only [Option.bind_some]
      rw [nI_1]
      have hou : ∀ j, j < L + 1 → upd d4.ou L 45 j = nI (outB v q L j) := fun j hj => by
        unfold outB
        by_cases e : j = L
        · subst e; rw [pk_us, if_neg (by omega)]; rfl
        · rw [pk_un e, if_pos (by omega)]; exact b4 j (by omega)
      have hol : ∀ j, outB v q L j < 128 := fun j => by
        unfold outB
        split
        · exact hlets _
        · omega
      obtain ⟨g6, d6, e6, c6, ex6, z6, b6⟩ := c5.turn (N := L + 1) (by omega) (by omega) (fun j hj => by
        show upd d4.ou L 45 j = (upd d4.ou L 45 j).toInt8.toInt32
        rw [hou j hj, b8_id _ (hol j)])
      rw [e6]
      rw [hng] at hsp
      refine ⟨_, g6, rfl, setO S (L + 1) (fun k => outB v q L (L + 1 - 1 - k)), ⟨d6, M4, c6, m4, ?_, hsi (L + 1) (by omega)⟩, hsp _ rfl⟩
      refine exO.dd dd ((ex4.tr (⟨rfl, rfl, rfl, rfl⟩ : exO d4 (d4.set5 d4.tp (upd d4.ou L 45)))).tr ex6) z6 (fun k hk => ?_)
      rw [b6 k hk]
      exact hou _ (by omega)
    · have hng : isNeg (S.sl i) = 0 := if_neg hn
      rw [if_neg hn, if_pos (by decide)]
      obtain ⟨g6, d6, e6, c6, ex6, z6, b6⟩ := c4.turn (N := L) (by omega) (by omega) (fun j hj => by rw [b4 j hj, b8_id _ (hlets j)])
      rw [e6]
      rw [hng, Nat.add_zero] at hsp
      refine ⟨_, g6, rfl, setO S L (fun k => outB v q L (L - 1 - k)), ⟨d6, M4, c6, m4, ?_, hsi L (by omega)⟩, hsp _ rfl⟩
      refine exO.dd dd (ex4.tr ex6) z6 (fun k hk => ?_)
      rw [b6 k hk, b4 _ (by omega)]
      unfold outB
      rw [if_pos (by omega)]
theorem r_out (I : RI B n h S) (x : Int32) : ∃ r h', zs_X11_out h n x = some (r, h') ∧ RI B n h' S ∧ match ixI S.oN x with
    | some j => r = nI (S.oB j) ∧ gI h' n 11 0 = some 0
    | none => gI h' n 11 0 = some 1 := by
  obtain ⟨d, M, c, m, dd, si⟩ := I
  unfold zs_X11_out
  have hoN := si.2.2.2.1.1
  have e15 : gI h n 11 15 = some (nI S.oN) := by
    rw [← dd.2.1.1]
    exact c.rm.2.2.2.2.2.2.2.2.2.2.2.2.2.2.1
  have bad : ∃ r h', zj_X11_out_18 h n x 1 n = some (r, h') ∧ RI B n h' S ∧ gI h' n 11 0 = some 1 := by
    unfold zj_X11_out_18
    obtain ⟨g1, e1, c1⟩ := c.main (k := 0) (v := .int 1) (d' := d.set1 1 d.top) (by decide) rfl rfl
    rw [e1]
    have ec : gI g1 n 11 0 = some 1 := c1.rm.2.1
    simp only [ec, Option.bind_some]
    rw [if_neg (by decide)]
    exact ⟨0, g1, rfl, ⟨_, M, c1, m, dd, si⟩, ec⟩
  cases h1 : ixI S.oN x with
  | none =>
    by_cases h0 : x < 0
    · rw [if_pos h0]
      exact bad
    · rw [if_neg h0, e15]
      simp only [Option.bind_some]
      rw [if_pos]
      · exact bad
      · rcases ixI_none h1 with h2 | h2
        · exact absurd (i32_lt0.mpr h2) h0
        · refine i32_le.mpr ?_
          rw [nI_toInt (by omega)]
          exact h2
  | some j =>
    obtain ⟨rfl, hj⟩ := ixI_some h1
    rw [if_neg (nI_pos (by omega)), e15]
    simp only [Option.bind_some]
    rw [if_neg (nI_ge hj (by omega))]
    unfold zj_X11_out_18
    obtain ⟨g1, e1, c1⟩ := c.main (k := 0) (v := .int 0) (d' := d.set1 0 d.top) (by decide) rfl rfl
    rw [e1]
    have ec : gI g1 n 11 0 = some 0 := c1.rm.2.1
    simp only [ec, c1.rm, Option.bind_some]
    rw [if_pos (by decide), c1.getO (show j < 400 by omega)]
    exact ⟨_, g1, rfl, ⟨_, M, c1, m, dd, si⟩, dd.2.1.2 j hj, ec⟩
end Rtx
