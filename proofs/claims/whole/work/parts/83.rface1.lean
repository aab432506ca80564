/-! the reference's methods keep to the calls: first part -/
theorem ix2_n {a b : Int32} (h : ixI 24 a = none ∨ ixI 24 b = none) : ix2 a b = none := by
  unfold ix2
  rcases h with h | h
  · rw [h]
  · cases ixI 24 a with
    | none => rfl
    | some x => rw [h]
theorem ix2_y {a b : Int32} {i j : Nat} (ha : ixI 24 a = some i) (hb : ixI 24 b = some j) : ix2 a b = some (i, j) := by
  unfold ix2
  rw [ha, hb]
theorem ix3_n {a b c : Int32} (h : ixI 24 a = none ∨ ixI 24 b = none ∨ ixI 24 c = none) : ix3 a b c = none := by
  unfold ix3
  cases h1 : ixI 24 a with
  | none => rfl
  | some x =>
    cases h2 : ixI 24 b with
    | none => rfl
    | some y =>
      rcases h with h | h | h
      · rw [h1] at h; cases h
      · rw [h2] at h; cases h
      · rw [h]
theorem ix3_y {a b c : Int32} {i j k : Nat} (ha : ixI 24 a = some i) (hb : ixI 24 b = some j) (hc : ixI 24 c = some k) : ix3 a b c = some (i, j, k) := by
  unfold ix3
  rw [ha, hb, hc]
section Rf1
variable {B h : AH} {n : Nat} {d : RD} {M : Nat → Int} {S : AS} {i j k T : Nat}
theorem RV.slot1 {β : Type} (c : RV B n d h M) {a : Int32} {bad : β} {K : Int32 × AH → Option (β × AH)} {P : β → AH → Prop} (hbad : ∀ g, ixI 24 a = none → RV B n (d.set1 0 0) g M → P bad g) (hgo : ∀ i g, ixI 24 a = some i → i < 24 → a = nI i → RV B n (d.set1 0 0) g M → ∃ r h', K (1, g) = some (r, h') ∧ P r h') :
    ∃ r h', ((chk h n 11).bind fun _ => (zs_X11_isSlot h n a).bind fun x2 => if x2.1 = 0 then some (bad, x2.2) else K x2) = some (r, h') ∧ P r h' := by
  simp only [c.rm, Option.bind_some]
  cases h1 : ixI 24 a with
  | none =>
    obtain ⟨g, e1, c1⟩ := c.slotN h1
    rw [e1]
    exact ⟨bad, g, rfl, hbad g h1 c1⟩
  | some i =>
    obtain ⟨rfl, hi⟩ := ixI_some h1
    obtain ⟨g, e1, c1⟩ := c.slotY hi
    rw [e1]
    exact hgo i g h1 hi rfl c1
theorem RV.ratio1 {β : Type} (c : RV B n d h M) {a : Int32} {bad : β} {K : Int32 × AH → Option (β × AH)} {P : β → AH → Prop} (hbad : ∀ g, ixI 12 a = none → RV B n (d.set1 0 0) g M → P bad g) (hgo : ∀ i g, ixI 12 a = some i → i < 12 → a = nI i → RV B n (d.set1 0 0) g M → ∃ r h', K (1, g) = some (r, h') ∧ P r h') :
    ∃ r h', ((chk h n 11).bind fun _ => (zs_X11_isRatio h n a).bind fun x2 => if x2.1 = 0 then some (bad, x2.2) else K x2) = some (r, h') ∧ P r h' := by
  simp only [c.rm, Option.bind_some]
  cases h1 : ixI 12 a with
  | none =>
    obtain ⟨g, e1, c1⟩ := c.ratioN h1
    rw [e1]
    exact ⟨bad, g, rfl, hbad g h1 c1⟩
  | some i =>
    obtain ⟨rfl, hi⟩ := ixI_some h1
    obtain ⟨g, e1, c1⟩ := c.ratioY hi
    rw [e1]
    exact hgo i g h1 hi rfl c1
theorem r_set (I : RI B n h S) (s : Int32) (v : Int64) : ∃ r h', zs_X11_set h n s v = some (r, h') ∧ ∃ S', RI B n h' S' ∧ Sp_set S s v r S' := by
  obtain ⟨d, M, c, m, dd, si⟩ := I
  unfold zs_X11_set
  refine c.slot1 (fun g h1 c1 => ⟨S, ⟨_, M, c1, m, dd, si⟩, by unfold Sp_set; rw [h1]; exact ⟨rfl, rfl⟩⟩) (fun i g h1 hi ha c1 => ?_)
  subst ha
  dsimp only
  simp only [c1.rm, Option.bind_some]
  obtain ⟨g2, e2, c2⟩ := c1.ofL (T := 0) rfl (by decide) v
  rw [e2]
  simp only [c2.rm, Option.bind_some]
  obtain ⟨r, h', S', e3, I3, k3⟩ := c2.keep (m.up (by decide) _) dd si (k := 0) (by decide) hi
  rw [va_us] at k3
  rw [e3]
  refine ⟨r, h', rfl, S', I3, ?_⟩
  unfold Sp_set
  rw [h1]
  rcases k3 with ⟨-, k1, k2⟩ | ⟨k1, -⟩
  · exact ⟨k1, k2⟩
  · exact absurd (i64_abs v) k1
theorem byteR (w : Int64) {k : Nat} (hk : k < 8) : (((w >>> ((((8 : Int32)) * nI k).toInt64 &&& 63)).toInt32).toInt8.toInt32).toInt8.toInt32 = (nI (uN w / 2 ^ (8 * k) % 256)).toInt8.toInt32 := by
  have h8 : (8 : Int32) * nI k = nI (8 * k) := pk_mul 8 k
  rw [h8, Int8.toInt8_toInt32, Int64.toInt8_toInt32, wb_c (8 * k) (by omega)]
  congr 1
  refine Int8.toInt_inj.mp ?_
  have hD : ((lN (8 * k)).toBitVec.smod 64).toNat = 8 * k := by
    rw [wb_tb, wb_sm (8 * k) (by omega), BitVec.toNat_ofNat]
    exact Nat.mod_eq_of_lt (by omega)
  have hml : uN w / 2 ^ (8 * k) % 256 < 256 := Nat.mod_lt _ (by decide)
  rw [Int64.toInt_toInt8, Int32.toInt_toInt8, sshr64 hD, Int.shiftRight_eq_div_pow, nI_toInt (by omega), ← Int.emod_bmod, ← Int.emod_bmod ((uN w / 2 ^ (8 * k) % 256 : Nat) : Int)]
  congr 1
  have hi := uN_int w
  have hl := uN_lt w
  have e256 : ((2 ^ 8 : Nat) : Int) = 256 := by decide
  rw [e256]
  have hp : (0 : Int) < ((2 ^ (8 * k) : Nat) : Int) := by
    have := Nat.two_pow_pos (8 * k)
    omega
  rw [hi]
  by_cases hh : 2 * uN w < 18446744073709551616
  · rw [if_pos hh, ← Int.natCast_ediv]
    omega
  · rw [if_neg hh]
    have e64 : (18446744073709551616 : Int) = ((2 ^ (8 * k) : Nat) : Int) * ((2 ^ (64 - 8 * k) : Nat) : Int) := by
      rw [← Int.natCast_mul, ← Nat.pow_add, show 8 * k + (64 - 8 * k) = 64 by omega]
      decide
    have e56 : ((2 ^ (64 - 8 * k) : Nat) : Int) = 256 * ((2 ^ (56 - 8 * k) : Nat) : Int) := by
      have : 2 ^ (64 - 8 * k) = 256 * 2 ^ (56 - 8 * k) := by
        rw [show 64 - 8 * k = 8 + (56 - 8 * k) by omega, Nat.pow_add]
      rw [this, Int.natCast_mul]
      rfl
    rw [e64, Int.sub_eq_add_neg, ← Int.mul_neg, Int.add_mul_ediv_left _ _ (by omega), ← Int.natCast_ediv, e56]
    omega
theorem RV.putT (c : RV B n d h M) (hk : k < 120) (x : Int32) : ∃ h', sI h (n + 13) 2 (nI k) x = some h' ∧ RV B n (d.set5 (upd d.tp k x) d.ou) h' M := by
  obtain ⟨σ, c, hσ⟩ := c
  refine ⟨_, sI_go (c.2.1 13 _ rfl) hk (by decide) x, σ, c.on (o := 13) (by omega) (on_hset _ _ _) (fun e he => ?_) (fun o' ho => ?_), hσ⟩
  · refine (hset_at _ _ _).trans ?_
    exact he
  · unfold crt
    refine ite_r (ite_r (ite_r (ite_r (ite_r ?_))))
    rw [if_neg ho, if_neg ho]
    rfl
theorem RV.getT (c : RV B n d h M) (hk : k < 120) : aI h (n + 13) 2 (nI k) = some (d.tp k) := by
  obtain ⟨σ, c, hσ⟩ := c
  exact aI_go (c.2.1 13 _ rfl) hk (by decide)
theorem r_feed (I : RI B n h S) (w : Int64) (x : Int32) : ∃ r h', zs_X11_feed h n w x = some (r, h') ∧ ∃ S', RI B n h' S' ∧ Sp_feed S w x r S' := by
  obtain ⟨d, M, c, m, dd, si⟩ := I
  unfold zs_X11_feed Sp_feed
  obtain ⟨g1, e1, c1⟩ := c.main (k := 0) (v := .int 0) (d' := d.set1 0 d.top) (by decide) rfl rfl
  rw [e1]
  simp only [Option.bind_some]
  have I1 : RI B n g1 S := ⟨_, M, c1, m, dd, si⟩
  cases h1 : ixI 9 x with
  | none =>
    rcases ixI_rng (N := 8) (by decide) h1 with h2 | ⟨h2, h3, h4⟩
    · have : x < (1 : Int32) := i32_lt.mpr (by have := i32_lt0.mp h2; show _ < (1 : Int); omega)
      rw [if_pos this]
      exact ⟨-1, g1, rfl, S, I1, rfl, rfl⟩
    · have h5 : ¬ x < (1 : Int32) := fun z => by
        have a := i32_lt.mp z
        have b := i32_lt.mp h3
        rw [nI_toInt (by decide)] at b
        have : x.toInt < 1 := a
        omega
      rw [if_neg h5, if_neg (show ¬ x ≤ (8 : Int32) from h4)]
      exact ⟨-1, g1, rfl, S, I1, rfl, rfl⟩
  | some N =>
    obtain ⟨rfl, hN⟩ := ixI_some h1
    dsimp only
    by_cases h0 : N = 0
    · subst h0
      rw [if_pos (by decide)]
      exact ⟨-1, g1, rfl, S, I1, by rw [if_pos rfl]; exact ⟨rfl, rfl⟩⟩
    · have hC := si.2.2.1.1
      rw [if_neg (show ¬ nI N < (1 : Int32) from nI_nlt (b := 1) (by omega) (by omega)), if_pos (show nI N ≤ (8 : Int32) from nI_le (b := 8) (by omega) (by decide))]
      simp only [c1.rm, Option.bind_some]
      have et : (d.set1 0 d.top).tpd = nI S.tC := dd.1.1
      rw [et, nI_add]
      simp only [if_neg h0]
      by_cases hf : S.tC + N ≤ 120
      · rw [if_pos (show nI (S.tC + N) ≤ (120 : Int32) from nI_le (b := 120) hf (by decide))]
        simp only [lt_, if_pos hf]
        obtain ⟨N', rfl⟩ : ∃ N', N = N' + 1 := ⟨N - 1, by omega⟩
        rw [nI_pred]
        obtain ⟨r, hr, d', k', e', q1, q2⟩ := iter_FU (B := fun q : AH × Int32 => zb_X11_feed_37 n w q.1 q.2)
          (fun t s => s.2 = nI (N' + 1 - t) - 1 ∧ ∃ d', RV B n d' s.1 M ∧ (d'.2.2.2.1 = d.2.2.2.1 ∧ d'.osz = d.osz ∧ d'.ou = d.ou ∧ d'.dg = d.dg) ∧ d'.tpd = nI (S.tC + t) ∧ ∀ k, k < S.tC + t → d'.tp k = (nI (fedB S.tB S.tC (N' + 1) w k)).toInt8.toInt32)
          (fun r => ∃ d', RV B n d' r M ∧ (d'.2.2.2.1 = d.2.2.2.1 ∧ d'.osz = d.osz ∧ d'.ou = d.ou ∧ d'.dg = d.dg) ∧ d'.tpd = nI (S.tC + (N' + 1)) ∧ ∀ k, k < S.tC + (N' + 1) → d'.tp k = (nI (fedB S.tB S.tC (N' + 1) w k)).toInt8.toInt32)
          (N' + 1) (by omega) (s := (g1, nI N')) ⟨by dsimp only; rw [Nat.sub_zero, nI_pred], _, c1, ⟨rfl, rfl, rfl, rfl⟩, et, fun k hk => by unfold fedB; rw [if_pos (by omega)]; exact dd.1.2 k (by omega)⟩ (by
          rintro t ⟨g, z⟩ ht ⟨hz, d1, k1, e1, p1, p2⟩
          dsimp only at hz k1 ⊢
          subst hz
          unfold zb_X11_feed_37
          by_cases h9 : N' + 1 - t = 0
          · rw [h9, if_pos (by decide)]
            refine ⟨_, rfl, fun s' hs => by (cases hs), fun r hr => ?_⟩
            obtain rfl := Sum.inr.inj hr
            have e : t = N' + 1 := by omega
            subst e
            exact ⟨d1, k1, e1, p1, p2⟩
          · obtain ⟨j, hj⟩ : ∃ j, N' + 1 - t = j + 1 := ⟨N' + 1 - t - 1, by omega⟩
            rw [hj, nI_pred, if_neg (nI_pos (by omega))]
            simp only [k1.rm, Option.bind_some]
            rw [p1, byteR w (k := j) (by omega)]
            obtain ⟨g2, e2, k2⟩ := k1.putT (k := S.tC + t) (by omega) ((nI (uN w / 2 ^ (8 * j) % 256)).toInt8.toInt32)
            rw [e2]
            simp only [k2.rm, Option.bind_some]
            have ep : (d1.set5 (upd d1.tp (S.tC + t) ((nI (uN w / 2 ^ (8 * j) % 256)).toInt8.toInt32)) d1.ou).tpd = nI (S.tC + t) := p1
            rw [ep, nI_1]
            obtain ⟨g3, e3, k3⟩ := k2.main (k := 13) (v := .int (nI (S.tC + t + 1))) (d' := (d1.set5 (upd d1.tp (S.tC + t) ((nI (uN w / 2 ^ (8 * j) % 256)).toInt8.toInt32)) d1.ou).set3 (nI (S.tC + t + 1)) d1.osz) (by decide) rfl rfl
            rw [e3]
            refine ⟨_, rfl, fun s' hs => ?_, fun r hr => by (cases hr)⟩
            obtain rfl := Sum.inl.inj hs
            refine ⟨by omega, ?_, _, k3, ⟨e1.1, e1.2.1, e1.2.2.1, e1.2.2.2⟩, rfl, fun k hk => ?_⟩
            · rw [show N' + 1 - (t + 1) = j by omega, Int32.sub_eq_add_neg]
            · show upd d1.tp (S.tC + t) _ k = _
              by_cases e : k = S.tC + t
              · subst e
                rw [pk_us]
                unfold fedB
                rw [if_neg (by omega), show S.tC + (N' + 1) - 1 - (S.tC + t) = j by omega]
              · rw [pk_un e]
                exact p2 k (by omega))
        rw [hr]
        simp only [k'.rm, Option.bind_some]
        rw [q1]
        refine ⟨_, r, rfl, setT S (S.tC + (N' + 1)) (fedB S.tB S.tC (N' + 1) w), ⟨d', M, k', m, ⟨⟨q1, q2⟩, ?_, ?_⟩, si.1, si.2.1, ⟨hf, fun k hk => ?_⟩, si.2.2.2⟩, rfl, rfl⟩
        · have := dd.2.1
          rw [← e'.2.1, ← e'.2.2.1] at this
          exact this
        · have h7 := dd.2.2
          rw [← e'.2.2.2] at h7
          have h8 : d'.hd = d.hd := by unfold RD.hd; rw [e'.1]
          have h9 : d'.rd = d.rd := by unfold RD.rd; rw [e'.1]
          rw [← h8, ← h9] at h7
          exact h7
        · show fedB _ _ _ _ k < 256
          unfold fedB
          split
          · rename_i hlt
            exact si.2.2.1.2 k hlt
          · exact Nat.mod_lt _ (by decide)
      · rw [if_neg (show ¬ nI (S.tC + N) ≤ (120 : Int32) from nI_ge (a := 120) (by omega) (by omega))]
        simp only [if_neg hf]
        exact ⟨-5, g1, rfl, S, I1, rfl, rfl⟩
theorem RV.lowest (c : RV B n d h M) (hi : i < 317) : zs_X11_lowest h (ar n i) = some (Int64.ofInt (M i)) := by
  unfold zs_X11_lowest
  have l1 := c.le100 hi
  obtain ⟨A, hA⟩ : ∃ A, A = (M i).natAbs := ⟨_, rfl⟩
  have p4 : C16 ^ 4 = 18446744073709551616 := by decide
  obtain ⟨r, hr, hz⟩ := iter_FU (B := fun q : Int64 × Int32 => zb_X11_lowest_4 h (ar n i) q.1 q.2)
    (fun t s => s.2 = nI t ∧ s.1 = lN (vC (PX A) t))
    (fun r => r = lN A)
    4 (by omega) (s := ((0 : Int64), (0 : Int32))) ⟨rfl, rfl⟩ (by
    rintro t ⟨v, z⟩ ht ⟨hz, hv⟩
    dsimp only at hz hv ⊢
    subst hz
    subst hv
    unfold zb_X11_lowest_4
    by_cases h4 : t < 4
    · rw [if_neg (show ¬ (4 : Int32) ≤ nI t from nI_ge (b := 4) h4 (by decide)), c.n_ hi]
      simp only [Option.bind_some]
      by_cases hc : t < cs (M i).natAbs
      · rw [if_neg (nI_ge hc (by omega)), c.rw hi]
        simp only [Option.bind_some, lt_]
        rw [c.at hi hc, ← hA]
        simp only [Option.bind_some]
        have pb := PX_31 A t
        have vl := vC_lt (d := PX A) (k := t) (fun x _ => PX_lt A x)
        have e16 : (16 : Int32) * nI t = nI (16 * t) := pk_mul 16 t
        have hbig : vC (PX A) t + PX A t * 2 ^ (16 * t) < 2 ^ 64 := by
          have h5 := vC_lt (d := PX A) (k := t + 1) (fun x _ => PX_lt A x)
          have h6 : C16 ^ (t + 1) ≤ C16 ^ 4 := Nat.pow_le_pow_right (by decide) (by omega)
          have h7 : vC (PX A) (t + 1) = vC (PX A) t + PX A t * C16 ^ t := rfl
          rw [C16_two t] at h7
          omega
        rw [nI_l (by omega), e16, wb_shl _ (show 16 * t < 64 by omega), g_or' (k := 16 * t) rfl (by rw [← C16_two]; exact vl) hbig]
        refine ⟨_, rfl, fun s' hs => ?_, fun r hr => by (cases hr)⟩
        obtain rfl := Sum.inl.inj hs
        refine ⟨h4, nI_1 t, ?_⟩
        show lN _ = lN (vC (PX A) t + PX A t * C16 ^ t)
        rw [C16_two]
      · rw [if_pos (nI_le (by omega) (by omega))]
        refine ⟨_, rfl, fun s' hs => by (cases hs), fun r hr => ?_⟩
        obtain rfl := Sum.inr.inj hr
        rw [vC_PXs (by rw [hA]; omega)]
    · have e : t = 4 := by omega
      subst e
      rw [if_pos (by decide)]
      refine ⟨_, rfl, fun s' hs => by (cases hs), fun r hr => ?_⟩
      obtain rfl := Sum.inr.inj hr
      have h5 : vC (PX A) 4 = A % 2 ^ 64 := by
        have h6 : vC (PX A) 4 = vC (PX (A % 2 ^ 64)) 4 := vC_congr (fun x hx => by
          unfold PX
          rw [C16_two, show C16 = 2 ^ 16 from rfl]
          apply Nat.eq_of_testBit_eq
          intro y
          rw [Nat.testBit_mod_two_pow, Nat.testBit_mod_two_pow, Nat.testBit_div_two_pow, Nat.testBit_div_two_pow, Nat.testBit_mod_two_pow]
          by_cases hy : y < 16
          · rw [decide_eq_true (show y + 16 * x < 64 by omega)]
            rfl
          · rw [decide_eq_false hy]
            rfl)
        rw [h6]
        exact vC_PX (by rw [p4]; exact Nat.mod_lt _ (by decide))
      rw [h5]
      exact (wb_mod A).symm)
  rw [hr, hz]
  simp only [c.sg hi, Option.bind_some]
  rw [lN_ofInt]
  by_cases hn : M i < 0
  · rw [if_pos hn, if_neg (by decide), ← Int64.ofInt_neg]
    congr 2
    omega
  · rw [if_neg hn, if_pos (by decide)]
    congr 2
    omega
theorem r_low (I : RI B n h S) (s : Int32) : ∃ r h', zs_X11_low h n s = some (r, h') ∧ RI B n h' S ∧ Sp_low S s r := by
  obtain ⟨d, M, c, m, dd, si⟩ := I
  unfold zs_X11_low
  refine c.slot1 (fun g h1 c1 => ⟨⟨_, M, c1, m, dd, si⟩, by unfold Sp_low; rw [h1]⟩) (fun i g h1 hi ha c1 => ?_)
  subst ha
  dsimp only
  simp only [c1.rm, c1.slot hi, c1.lowest (show 68 + i < 317 by omega), Option.bind_some]
  exact ⟨_, g, rfl, ⟨_, M, c1, m, dd, si⟩, by unfold Sp_low; rw [h1, m.2.1 i hi]⟩
theorem cs_sz {v : Nat} (h : cs v ≤ 52) : isSz v ((cs v + 1) / 2) := by
  refine ⟨by omega, ?_, fun h0 => ?_⟩
  · rw [← C16_B]
    exact Nat.lt_of_lt_of_le (cs_lt v) (Nat.pow_le_pow_right (by decide) (by omega))
  · rw [← C16_B]
    exact Nat.le_trans (Nat.pow_le_pow_right (by decide) (by omega)) (cs_ge (by omega))
theorem r_limbs (I : RI B n h S) (s : Int32) : ∃ r h', zs_X11_limbs h n s = some (r, h') ∧ RI B n h' S ∧ Sp_limbs S s r := by
  obtain ⟨d, M, c, m, dd, si⟩ := I
  unfold zs_X11_limbs
  refine c.slot1 (fun g h1 c1 => ⟨⟨_, M, c1, m, dd, si⟩, by unfold Sp_limbs; rw [h1]⟩) (fun i g h1 hi ha c1 => ?_)
  subst ha
  dsimp only
  have hi3 : 68 + i < 317 := by omega
  have hcs := cs_le (m.lt si hi)
  unfold zs_X11_isShort
  simp only [c1.rm, c1.slot hi, c1.lowest hi3, Option.bind_some]
  obtain ⟨g2, e2, c2⟩ := c1.ofL (T := 0) rfl (by decide) (Int64.ofInt (M (68 + i)))
  rw [e2]
  simp only [Option.bind_some, c2.cmp (show 0 < 317 by decide) hi3]
  rw [va_us, va_un (show 68 + i ≠ 0 by omega)]
  have hM2 : va_up M 0 (Int64.ofInt (M (68 + i))).toInt (68 + i) = M (68 + i) := va_un (by omega)
  have I2 : RI B n g2 S := ⟨_, _, c2, m.up (by decide) _, dd, si⟩
  have hb : (Int64.ofInt (M (68 + i))).toInt = M (68 + i) ↔ (-9223372036854775808 ≤ S.sl i ∧ S.sl i ≤ 9223372036854775807) := by
    rw [Int64.toInt_ofInt, m.2.1 i hi]
    have hsz : (Int64.size : Nat) = 18446744073709551616 := rfl
    rw [hsz]
    refine ⟨fun e => ?_, fun e => Int.bmod_eq_of_le (by omega) (by omega)⟩
    have h3 := @Int.bmod_lt (S.sl i) 18446744073709551616 (by decide)
    have h4 := @Int.le_bmod (S.sl i) 18446744073709551616 (by decide)
    omega
  by_cases hs : -9223372036854775808 ≤ S.sl i ∧ S.sl i ≤ 9223372036854775807
  · have e3 : cmpZ (Int64.ofInt (M (68 + i))).toInt (M (68 + i)) = 0 := by
      unfold cmpZ
      rw [hb.mpr hs, if_neg (by omega), if_pos rfl]
    rw [e3, if_pos (by decide)]
    simp only [Option.bind_some]
    rw [if_neg (by decide)]
    exact ⟨0, g2, rfl, I2, by unfold Sp_limbs; rw [h1]; dsimp only; rw [if_pos hs]⟩
  · have e3 : ¬ cmpZ (Int64.ofInt (M (68 + i))).toInt (M (68 + i)) = 0 := by
      unfold cmpZ
      have hne : ¬ (Int64.ofInt (M (68 + i))).toInt = M (68 + i) := fun e => hs (hb.mp e)
      by_cases hl : (Int64.ofInt (M (68 + i))).toInt < M (68 + i)
      · rw [if_pos hl]; decide
      · rw [if_neg hl, if_neg hne]; decide
    rw [if_neg e3]
    simp only [Option.bind_some]
    rw [if_pos (by decide)]
    simp only [c2.rm, c2.slot hi, c2.n_ hi3, hM2, Option.bind_some]
    have e4 : (nI (cs (M (68 + i)).natAbs) + (1 : Int32)) / (2 : Int32) = nI ((cs (M (68 + i)).natAbs + 1) / 2) := by
      rw [nI_1]
      exact pk_div (d := 2) (by omega) (by decide) (by decide)
    rw [e4]
    refine ⟨_, g2, rfl, I2, ?_⟩
    unfold Sp_limbs
    rw [h1]
    dsimp only
    rw [if_neg hs, ← m.2.1 i hi]
    exact ⟨_, cs_sz (by omega), rfl⟩
theorem limb_pair (v k : Nat) : PX v (2 * k + 1) * 65536 + PX v (2 * k) = v / B32 ^ k % B32 := by
  unfold PX
  rw [Nat.pow_succ, C16_B, ← Nat.div_div_eq_div_mul]
  generalize v / B32 ^ k = x
  show x / 65536 % 65536 * 65536 + x % 65536 = x % 4294967296
  omega
theorem r_limb (I : RI B n h S) (s x : Int32) : ∃ r h', zs_X11_limb h n s x = some (r, h') ∧ RI B n h' S ∧ Sp_limb S s x r := by
  obtain ⟨d, M, c, m, dd, si⟩ := I
  unfold zs_X11_limb
  refine c.slot1 (fun g h1 c1 => ⟨⟨_, M, c1, m, dd, si⟩, by unfold Sp_limb; rw [h1]⟩) (fun i g h1 hi ha c1 => ?_)
  subst ha
  dsimp only
  have hi3 : 68 + i < 317 := by omega
  have I1 : RI B n g S := ⟨_, M, c1, m, dd, si⟩
  have hsp : ∀ r, r = lN (PZ (S.sl i).natAbs x.toInt) → Sp_limb S (nI i) x r := fun r hr => by unfold Sp_limb; rw [h1]; exact hr
  by_cases h0 : x < 0
  · rw [if_pos h0]
    refine ⟨_, g, rfl, I1, hsp _ ?_⟩
    unfold PZ
    rw [if_pos (i32_lt0.mp h0)]
    rfl
  · rw [if_neg h0]
    obtain ⟨k, hk, rfl⟩ := nI_of h0
    have hPZ : PZ (S.sl i).natAbs (nI k).toInt = (S.sl i).natAbs / B32 ^ k % B32 := by
      unfold PZ
      rw [nI_toInt hk, if_neg (by omega)]
      rfl
    rw [hPZ] at hsp
    by_cases h20 : k ≤ 20
    · rw [if_pos (show nI k ≤ (20 : Int32) from nI_le (b := 20) h20 (by decide))]
      simp only [c1.rm, c1.slot hi, c1.n_ hi3, Option.bind_some]
      have e2 : (2 : Int32) * nI k = nI (2 * k) := pk_mul 2 k
      have hcs := cs_le (m.lt si hi)
      rw [e2]
      have p0 := PX_31 (M (68 + i)).natAbs (2 * k)
      have p1 := PX_31 (M (68 + i)).natAbs (2 * k + 1)
      have key : ∃ r h', zj_X11_limb_50 g (nI k) (ar n (68 + i)) (lN (PX (M (68 + i)).natAbs (2 * k))) = some (r, h') ∧ RI B n h' S ∧ Sp_limb S (nI i) (nI k) r := by
        have hl := limb_pair (M (68 + i)).natAbs k
        rw [m.2.1 i hi] at hl
        unfold zj_X11_limb_50
        rw [c1.n_ hi3, e2, nI_1]
        simp only [Option.bind_some]
        by_cases hc : 2 * k + 1 < cs (M (68 + i)).natAbs
        · rw [if_neg (nI_ge hc (by omega)), c1.rw hi3]
          simp only [Option.bind_some]
          rw [c1.at hi3 hc]
          simp only [Option.bind_some]
          rw [nI_l (by omega), lcat (by omega) p0]
          exact ⟨_, g, rfl, I1, hsp _ (by rw [m.2.1 i hi, hl])⟩
        · rw [if_pos (nI_le (by omega) (by omega))]
          have hz : (0 : Int64) = lN (PX (M (68 + i)).natAbs (2 * k + 1)) := by rw [PX_hi (by omega)]; rfl
          rw [hz, lcat (by omega) p0]
          exact ⟨_, g, rfl, I1, hsp _ (by rw [m.2.1 i hi, hl])⟩
      by_cases hc : 2 * k < cs (M (68 + i)).natAbs
      · rw [if_neg (nI_ge hc (by omega)), c1.rw hi3]
        simp only [Option.bind_some]
        rw [c1.at hi3 hc]
        simp only [Option.bind_some]
        rw [nI_l (by omega)]
        exact key
      · rw [if_pos (nI_le (by omega) (by omega))]
        have hz : (0 : Int64) = lN (PX (M (68 + i)).natAbs (2 * k)) := by rw [PX_hi (by omega)]; rfl
        rw [hz]
        exact key
    · rw [if_neg (show ¬ nI k ≤ (20 : Int32) from nI_ge (a := 20) (by omega) hk)]
      refine ⟨_, g, rfl, I1, hsp _ ?_⟩
      have h2 := si.1 i hi
      have h3 : B32 ^ 12 ≤ B32 ^ k := Nat.pow_le_pow_right (by decide) (by omega)
      rw [Nat.div_eq_of_lt (by omega)]
      rfl
theorem r_compare (I : RI B n h S) (a b : Int32) : ∃ r h', zs_X11_compare_ h n a b = some (r, h') ∧ RI B n h' S ∧ Sp_compare S a b r := by
  obtain ⟨d, M, c, m, dd, si⟩ := I
  unfold zs_X11_compare_
  refine c.slot1 (fun g h1 c1 => ⟨⟨_, M, c1, m, dd, si⟩, by unfold Sp_compare; rw [ix2_n (Or.inl h1)]⟩) (fun i g h1 hi ha c1 => ?_)
  dsimp only
  refine c1.slot1 (fun g h2 c2 => ⟨⟨_, M, c2, m, dd, si⟩, by unfold Sp_compare; rw [ix2_n (Or.inr h2)]⟩) (fun j g h2 hj hb c2 => ?_)
  subst ha
  subst hb
  dsimp only
  simp only [c2.rm, c2.slot hi, c2.slot hj, c2.cmp (show 68 + i < 317 by omega) (show 68 + j < 317 by omega), Option.bind_some]
  refine ⟨_, g, rfl, ⟨_, M, c2, m, dd, si⟩, ?_⟩
  unfold Sp_compare
  rw [ix2_y h1 h2, m.2.1 i hi, m.2.1 j hj]
  exact Int32.add_comm _ _
theorem r_length (I : RI B n h S) (a : Int32) : ∃ r h', zs_X11_length h n a = some (r, h') ∧ RI B n h' S ∧ Sp_length S a r := by
  obtain ⟨d, M, c, m, dd, si⟩ := I
  unfold zs_X11_length
  refine c.slot1 (fun g h1 c1 => ⟨⟨_, M, c1, m, dd, si⟩, by unfold Sp_length; rw [h1]⟩) (fun i g h1 hi ha c1 => ?_)
  subst ha
  dsimp only
  simp only [c1.rm, c1.slot hi, c1.ck (show 68 + i < 317 by omega), c1.bits (show 68 + i < 317 by omega), Option.bind_some]
  exact ⟨_, g, rfl, ⟨_, M, c1, m, dd, si⟩, by unfold Sp_length; rw [h1, m.2.1 i hi]⟩
theorem RV.acted (c : RV B n d h M) (hT : d.top = nI T) (hl : T < 64) (hi : i < 317) (hj : j < 317) (hiT : i ≠ T) (hjT : j ≠ T) {na : Nat} (xa : (M i).natAbs < C16 ^ na) (xb : (M j).natAbs < C16 ^ na) (hn : na + na ≤ 100) (hn0 : na ≤ 99) {w : Nat} (hw : w < 3) :
    ∃ h', zs_X11_acted h n (nI w) (ar n i) (ar n j) = some (ar n T, h') ∧ RV B n (d.tt (T + 1)) h' (va_up M T (if w = 0 then M i + M j else if w = 1 then M i - M j else M i * M j)) := by
  unfold zs_X11_acted
  have h99 : C16 ^ na ≤ C16 ^ 99 := Nat.pow_le_pow_right (by decide) hn0
  rcases (show w = 0 ∨ w = 1 ∨ w = 2 by omega) with rfl | rfl | rfl
  · rw [if_pos (by decide), if_pos rfl]
    simp only [c.rm, Option.bind_some]
    obtain ⟨g1, e1, c1⟩ := c.sum hT hl hi hj hiT hjT (by omega) (by omega)
    rw [e1]
    exact ⟨g1, rfl, c1⟩
  · rw [if_neg (by decide), if_pos (by decide), if_neg (by decide), if_pos rfl]
    simp only [c.rm, Option.bind_some]
    obtain ⟨g1, e1, c1⟩ := c.less hT hl hi hj hiT hjT (by omega) (by omega)
    rw [e1]
    exact ⟨g1, rfl, c1⟩
  · rw [if_neg (by decide), if_neg (by decide), if_neg (by decide), if_neg (by decide)]
    simp only [c.rm, Option.bind_some]
    obtain ⟨g1, e1, c1⟩ := c.times hT hl hi hj hiT hjT xa xb hn
    rw [e1]
    exact ⟨g1, rfl, c1⟩
theorem spb_act {how a b z : Int32} (hb : ixI 3 how = none ∨ ix3 a b z = none) : Sp_act S how a b z (-1) S := by
  unfold Sp_act
  rcases hb with hb | hb
  · rw [hb]; exact ⟨rfl, rfl⟩
  · rw [hb]; cases ixI 3 how <;> exact ⟨rfl, rfl⟩
theorem r_act (I : RI B n h S) (how a b z : Int32) : ∃ r h', zs_X11_act h n how a b z = some (r, h') ∧ ∃ S', RI B n h' S' ∧ Sp_act S how a b z r S' := by
  obtain ⟨d, M, c, m, dd, si⟩ := I
  unfold zs_X11_act
  refine c.slot1 (fun g h1 c1 => ⟨S, ⟨_, M, c1, m, dd, si⟩, spb_act (Or.inr (ix3_n (Or.inl h1)))⟩) (fun i g h1 hi ha c1 => ?_)
  dsimp only
  refine c1.slot1 (fun g h2 c2 => ⟨S, ⟨_, M, c2, m, dd, si⟩, spb_act (Or.inr (ix3_n (Or.inr (Or.inl h2))))⟩) (fun j g h2 hj hb c2 => ?_)
  dsimp only
  refine c2.slot1 (fun g h3 c3 => ⟨S, ⟨_, M, c3, m, dd, si⟩, spb_act (Or.inr (ix3_n (Or.inr (Or.inr h3))))⟩) (fun k g h3 hk hc c3 => ?_)
  subst ha
  subst hb
  subst hc
  dsimp only
  have I3 : RI B n g S := ⟨_, M, c3, m, dd, si⟩
  cases h4 : ixI 3 how with
  | none =>
    rcases ixI_rng (N := 2) (by decide) h4 with h5 | ⟨h5, h6, h7⟩
    · rw [if_pos h5]; exact ⟨-1, g, rfl, S, I3, spb_act (Or.inl h4)⟩
    · rw [if_neg h5, if_pos (show (2 : Int32) < how from h6)]; exact ⟨-1, g, rfl, S, I3, spb_act (Or.inl h4)⟩
  | some w =>
    obtain ⟨rfl, hw⟩ := ixI_some h4
    rw [if_neg (nI_pos (by omega)), if_neg (show ¬ (2 : Int32) < nI w from nI_nlt (a := 2) (by omega) (by decide))]
    simp only [c3.rm, c3.slot hi, c3.slot hj, Option.bind_some]
    obtain ⟨g2, e2, c4⟩ := c3.acted (T := 0) (i := 68 + i) (j := 68 + j) rfl (by decide) (by omega) (by omega) (by omega) (by omega) (m.lt si hi) (m.lt si hj) (by decide) (by decide) hw
    rw [e2]
    simp only [c4.rm, Option.bind_some]
    obtain ⟨r, h', S', e3, I4, k3⟩ := c4.keep (m.up (by decide) _) dd si (k := 0) (by decide) hk
    rw [va_us, m.2.1 i hi, m.2.1 j hj] at k3
    rw [e3]
    refine ⟨r, h', rfl, S', I4, ?_⟩
    unfold Sp_act
    rw [h4, ix3_y h1 h2 h3]
    exact k3
theorem spb_over {way a b z e : Int32} (hb : ixI 3 way = none ∨ ix3 a b z = none ∨ ixI 24 e = none) : Sp_over S way a b z e (-1) S := by
  unfold Sp_over
  rcases hb with hb | hb | hb
  · rw [hb]; exact ⟨rfl, rfl⟩
  · rw [hb]; cases ixI 3 way <;> exact ⟨rfl, rfl⟩
  · rw [hb]; cases ixI 3 way <;> cases ix3 a b z <;> exact ⟨rfl, rfl⟩
theorem r_over (I : RI B n h S) (way a b z e : Int32) : ∃ r h', zs_X11_over_ h n way a b z e = some (r, h') ∧ ∃ S', RI B n h' S' ∧ Sp_over S way a b z e r S' := by
  obtain ⟨d, M, c, m, dd, si⟩ := I
  unfold zs_X11_over_
  refine c.slot1 (fun g h1 c1 => ⟨S, ⟨_, M, c1, m, dd, si⟩, spb_over (Or.inr (Or.inl (ix3_n (Or.inl h1))))⟩) (fun i g h1 hi ha c1 => ?_)
  dsimp only
  refine c1.slot1 (fun g h2 c2 => ⟨S, ⟨_, M, c2, m, dd, si⟩, spb_over (Or.inr (Or.inl (ix3_n (Or.inr (Or.inl h2)))))⟩) (fun j g h2 hj hb c2 => ?_)
  dsimp only
  refine c2.slot1 (fun g h3 c3 => ⟨S, ⟨_, M, c3, m, dd, si⟩, spb_over (Or.inr (Or.inl (ix3_n (Or.inr (Or.inr h3)))))⟩) (fun k g h3 hk hc c3 => ?_)
  dsimp only
  refine c3.slot1 (fun g h4 c4 => ⟨S, ⟨_, M, c4, m, dd, si⟩, spb_over (Or.inr (Or.inr h4))⟩) (fun l g h4 hl he c4 => ?_)
  subst ha
  subst hb
  subst hc
  subst he
  dsimp only
  have I4 : RI B n g S := ⟨_, M, c4, m, dd, si⟩
  have hsp : ∀ (w : Nat) r S', ixI 3 way = some w → (if k = l then badC S r S' else if S.sl j = 0 then errC S (-2) r S' else if (dvQ way (S.sl i) (S.sl j)).natAbs < B32 ^ 12 ∧ (dvR way (S.sl i) (S.sl j)).natAbs < B32 ^ 12 then r = 1 ∧ S' = setS (setS S k (dvQ way (S.sl i) (S.sl j))) l (dvR way (S.sl i) (S.sl j)) else errC S (-5) r S') → Sp_over S way (nI i) (nI j) (nI k) (nI l) r S' := by
    intro w r S' hw hh
    unfold Sp_over
    rw [hw, ix3_y h1 h2 h3, h4]
    exact hh
  by_cases hkl : k = l
  · rw [if_pos (by rw [hkl])]
    refine ⟨-1, g, rfl, S, I4, ?_⟩
    cases h5 : ixI 3 way with
    | none => exact spb_over (Or.inl h5)
    | some w => exact hsp w _ _ h5 (by rw [if_pos hkl]; exact ⟨rfl, rfl⟩)
  · rw [if_neg (fun q => hkl ((nI_eq (by omega) (by omega)).mp q))]
    cases h5 : ixI 3 way with
    | none =>
      rcases ixI_rng (N := 2) (by decide) h5 with h6 | ⟨h6, h7, h8⟩
      · rw [if_pos h6]; exact ⟨-1, g, rfl, S, I4, spb_over (Or.inl h5)⟩
      · rw [if_neg h6, if_neg (show ¬ way ≤ (2 : Int32) from h8)]; exact ⟨-1, g, rfl, S, I4, spb_over (Or.inl h5)⟩
    | some w =>
      have hsp2 := fun r S' => hsp w r S' h5
      simp only [if_neg hkl] at hsp2
      have hway := ixI_some h5
      rw [if_neg (by rw [hway.1]; exact nI_pos (by omega)), if_pos (show way ≤ (2 : Int32) by rw [hway.1]; exact nI_le (b := 2) (by omega) (by decide))]
      have hi3 : 68 + i < 317 := by omega
      have hj3 : 68 + j < 317 := by omega
      simp only [c4.rm, c4.slot hj, c4.ck hj3, c4.isZero hj3, Option.bind_some]
      rw [m.2.1 j hj]
      by_cases hz : S.sl j = 0
      · rw [if_pos hz, if_neg (by decide)]
        exact ⟨-2, g, rfl, S, I4, hsp2 _ _ (by rw [if_pos hz]; exact ⟨rfl, rfl⟩)⟩
      · rw [if_neg hz, if_pos (by decide)]
        simp only [if_neg hz] at hsp2
        simp only [c4.slot hi, Option.bind_some]
        obtain ⟨g5, e5, M5, Q, R, T5, c5, hQ, hR, hT5, mQ, mR, f5⟩ := c4.over (T := 0) (i := 68 + i) (j := 68 + j) rfl (by decide) hi3 hj3 (by omega) (by omega) (by rw [m.2.1 j hj]; exact hz) (m.lt si hi) (m.lt si hj) (by decide) (by decide) m.1.1 m.1.2 way
        rw [m.2.1 i hi, m.2.1 j hj] at mQ mR
        have m5 : RM M5 S := m.fr (fun x h1 _ _ => f5 x (Or.inr h1))
        rw [e5]
        simp only [c5.qr, c5.fits (show Q < 317 by omega), c5.fits (show R < 317 by omega), mQ, mR, Option.bind_some]
        by_cases hq : (dvQ way (S.sl i) (S.sl j)).natAbs < B32 ^ 12
        · rw [if_pos hq, if_neg (by decide)]
          by_cases hr : (dvR way (S.sl i) (S.sl j)).natAbs < B32 ^ 12
          · rw [if_pos hr, if_neg (by decide)]
            simp only [c5.rm, c5.slot hk, c5.ck (show 68 + k < 317 by omega), Option.bind_some]
            obtain ⟨g6, e6, c6⟩ := c5.become (i := 68 + k) (j := Q) (by omega) (by omega)
            rw [mQ] at c6
            rw [e6]
            simp only [c6.rm, c6.qr, c6.slot hl, c6.ck (show 68 + l < 317 by omega), Option.bind_some]
            obtain ⟨g7, e7, c7⟩ := c6.become (i := 68 + l) (j := R) (by omega) (by omega)
            rw [va_un (show R ≠ 68 + k by omega), mR] at c7
            rw [e7]
            exact ⟨1, g7, rfl, _, ⟨_, _, c7, (m5.set hk _).set hl _, dd, (si.set hk hq).set hl hr⟩, hsp2 _ _ (by rw [if_pos ⟨hq, hr⟩]; exact ⟨rfl, rfl⟩)⟩
          · rw [if_neg hr, if_pos (by decide)]
            exact ⟨-5, g5, rfl, S, ⟨_, M5, c5, m5, dd, si⟩, hsp2 _ _ (by rw [if_neg (fun q => hr q.2)]; exact ⟨rfl, rfl⟩)⟩
        · rw [if_neg hq, if_pos (by decide)]
          exact ⟨-5, g5, rfl, S, ⟨_, M5, c5, m5, dd, si⟩, hsp2 _ _ (by rw [if_neg (fun q => hq q.1)]; exact ⟨rfl, rfl⟩)⟩
theorem r_divisor (I : RI B n h S) (a b z : Int32) : ∃ r h', zs_X11_divisor h n a b z = some (r, h') ∧ ∃ S', RI B n h' S' ∧ Sp_divisor S a b z r S' := by
  obtain ⟨d, M, c, m, dd, si⟩ := I
  unfold zs_X11_divisor
  refine c.slot1 (fun g h1 c1 => ⟨S, ⟨_, M, c1, m, dd, si⟩, by unfold Sp_divisor; rw [ix3_n (Or.inl h1)]; exact ⟨rfl, rfl⟩⟩) (fun i g h1 hi ha c1 => ?_)
  dsimp only
  refine c1.slot1 (fun g h2 c2 => ⟨S, ⟨_, M, c2, m, dd, si⟩, by unfold Sp_divisor; rw [ix3_n (Or.inr (Or.inl h2))]; exact ⟨rfl, rfl⟩⟩) (fun j g h2 hj hb c2 => ?_)
  dsimp only
  refine c2.slot1 (fun g h3 c3 => ⟨S, ⟨_, M, c3, m, dd, si⟩, by unfold Sp_divisor; rw [ix3_n (Or.inr (Or.inr h3))]; exact ⟨rfl, rfl⟩⟩) (fun k g h3 hk hc c3 => ?_)
  subst ha
  subst hb
  subst hc
  dsimp only
  simp only [c3.rm, c3.slot hi, c3.slot hj, Option.bind_some]
  have h52 : C16 ^ 24 ≤ C16 ^ 52 := Nat.pow_le_pow_right (by decide) (by decide)
  have bi := m.lt si hi
  have bj := m.lt si hj
  obtain ⟨g4, M4, q, r, e4, c4, v4, f4⟩ := c3.gcd (T := 0) (i := 68 + i) (j := 68 + j) rfl (by decide) (by omega) (by omega) (by omega) (by omega) (by omega) m.1.1
  rw [e4]
  simp only [c4.rm, Option.bind_some]
  obtain ⟨r, h', S', e3, I4, k3⟩ := c4.keep (m.fr (fun x h1 h2 h3 => f4 x (Or.inr h1) h2 h3)) dd si (k := 0) (by decide) hk
  rw [v4, m.2.1 i hi, m.2.1 j hj] at k3
  rw [e3]
  refine ⟨r, h', rfl, S', I4, ?_⟩
  unfold Sp_divisor
  rw [ix3_y h1 h2 h3]
  exact k3
end Rf1
