/-! the reference: power, root, rest, inverse -/
section Rpw
variable {B h : AH} {n : Nat} {d : RD} {M : Nat → Int} {S : AS} {i j k T : Nat}
theorem ovE.c {B : AH} {n : Nat} {d : RD} {M : Nat → Int} {T : Nat} {q r : Int} {h' : AH} (o : ovE B n d M T q r h') : ∃ M' Q R T', RV B n (d.dz n Q R T') h' M' ∧ (T ≤ Q ∧ Q < T') ∧ (T ≤ R ∧ R < T') ∧ T' ≤ T + 7 ∧ M' Q = q ∧ M' R = r ∧ ∀ x, (x < T ∨ 64 ≤ x) → M' x = M x := o
theorem RV.powered (c : RV B n d h M) (hT : d.top = nI T) (hl : T + 2 ≤ 64) (hi : i < 317) (iT : i < T ∨ 64 ≤ i) {N : Nat} (hN : N ≤ 2000) {na nb : Nat} (xb : (M i).natAbs < C16 ^ nb) (xa : ∀ k, k < N → ((M i) ^ k).natAbs < C16 ^ na) (hn : na + nb ≤ 100) (ho : M 65 = 1) :
    ∃ h' M', zs_X11_powered h n (ar n i) (nI N) = some (ar n T, h') ∧ RV B n (d.tt (T + 1)) h' M' ∧ M' T = M i ^ N ∧ ∀ x, (x < T ∨ 64 ≤ x) → M' x = M x := by
  unfold zs_X11_powered
  simp only [c.rm, Option.bind_some]
  obtain ⟨g1, e1, c1⟩ := c.copy hT (by omega) (show 65 < 317 by decide)
  rw [ho] at c1
  rw [e1]
  simp only [c1.rm, Option.bind_some]
  have etop : (d.tt (T + 1)).top = nI (T + 1) := rfl
  rw [etop]
  obtain ⟨r, hr, M2, c2, v2, f2⟩ := iter_FU (B := fun q : AH × Int32 => zb_X11_powered_18 n (ar n i) (nI N) (ar n T) (nI (T + 1)) q.1 q.2)
    (fun t s => s.2 = nI t ∧ ∃ M', RV B n (d.tt (T + 1)) s.1 M' ∧ M' T = M i ^ t ∧ ∀ x, (x < T ∨ 64 ≤ x) → M' x = M x)
    (fun s => ∃ M', RV B n (d.tt (T + 1)) s M' ∧ M' T = M i ^ N ∧ ∀ x, (x < T ∨ 64 ≤ x) → M' x = M x)
    N (by omega) (s := (g1, (0 : Int32))) ⟨rfl, _, c1, by rw [va_us, Int.pow_zero], fun x hx => va_un (by omega)⟩ (by
    rintro t ⟨g, z⟩ ht ⟨hz, M1, k1, v1, f1⟩
    dsimp only at hz k1 ⊢
    subst hz
    unfold zb_X11_powered_18
    by_cases hlt : t < N
    · rw [if_neg (nI_ge hlt (by omega))]
      simp only [k1.rm, Option.bind_some]
      obtain ⟨g2, e2, k2⟩ := k1.times (T := T + 1) (i := T) (j := i) rfl (by omega) (by omega) hi (by omega) (by omega) (by rw [v1]; exact xa t hlt) (by rw [f1 i iT]; exact xb) hn
      rw [v1, f1 i iT] at k2
      rw [e2]
      simp only [k2.ck (show T < 317 by omega), Option.bind_some]
      obtain ⟨g3, e3, k3⟩ := k2.become (i := T) (j := T + 1) (by omega) (by omega)
      rw [va_us] at k3
      rw [e3]
      simp only [Option.bind_some]
      obtain ⟨g4, e4, k4⟩ := k3.top_ (T + 1)
      rw [e4]
      refine ⟨_, rfl, fun s' hs => ?_, fun r hr => by (cases hr)⟩
      obtain rfl := Sum.inl.inj hs
      refine ⟨hlt, nI_1 t, _, k4, by rw [va_us, Int.pow_succ], fun x hx => ?_⟩
      rw [va_un (by omega), va_un (by omega)]
      exact f1 x hx
    · have e : t = N := by omega
      subst e
      rw [if_pos (nI_le (by omega) (by omega))]
      refine ⟨_, rfl, fun s' hs => by (cases hs), fun r hr => ?_⟩
      obtain rfl := Sum.inr.inj hr
      exact ⟨M1, k1, v1, f1⟩)
  rw [hr]
  exact ⟨r, M2, rfl, c2, v2, f2⟩
theorem bl_1 {v : Nat} : bl v ≤ 1 ↔ v ≤ 1 := by
  refine ⟨fun h => ?_, fun h => bl_le (show v < 2 ^ 1 by omega)⟩
  have h1 := bl_lt v
  have h2 : 2 ^ bl v ≤ 2 ^ 1 := Nat.pow_le_pow_right (by decide) h
  omega
theorem spb_power {a e z : Int32} (hb : ix2 a z = none ∨ ixI 2001 e = none) : Sp_power S a e z (-1) S := by
  unfold Sp_power
  rcases hb with hb | hb
  · rw [hb]; exact ⟨rfl, rfl⟩
  · rw [hb]; cases ix2 a z <;> exact ⟨rfl, rfl⟩
theorem r_power (I : RI B n h S) (a e z : Int32) : ∃ r h', zs_X11_power h n a e z = some (r, h') ∧ ∃ S', RI B n h' S' ∧ Sp_power S a e z r S' := by
  obtain ⟨d, M, c, m, dd, si⟩ := I
  unfold zs_X11_power
  refine c.slot1 (fun g h1 c1 => ⟨S, ⟨_, M, c1, m, dd, si⟩, spb_power (Or.inl (ix2_n (Or.inl h1)))⟩) (fun i g h1 hi ha c1 => ?_)
  dsimp only
  refine c1.slot1 (fun g h2 c2 => ⟨S, ⟨_, M, c2, m, dd, si⟩, spb_power (Or.inl (ix2_n (Or.inr h2)))⟩) (fun k g h2 hk hb c2 => ?_)
  subst ha
  subst hb
  dsimp only
  have I2 : RI B n g S := ⟨_, M, c2, m, dd, si⟩
  cases h3 : ixI 2001 e with
  | none =>
    rcases ixI_rng (N := 2000) (by decide) h3 with h4 | ⟨h4, h5, h6⟩
    · rw [if_pos h4]; exact ⟨-1, g, rfl, S, I2, spb_power (Or.inr h3)⟩
    · rw [if_neg h4, if_neg (show ¬ e ≤ (2000 : Int32) from h6)]; exact ⟨-1, g, rfl, S, I2, spb_power (Or.inr h3)⟩
  | some N =>
    obtain ⟨rfl, hN⟩ := ixI_some h3
    have hsp : ∀ r S', kp S k (S.sl i ^ N) r S' → Sp_power S (nI i) (nI N) (nI k) r S' := by
      intro r S' hh
      unfold Sp_power
      rw [ix2_y h1 h2, h3]
      exact hh
    rw [if_neg (nI_pos (by omega)), if_pos (show nI N ≤ (2000 : Int32) from nI_le (b := 2000) (by omega) (by decide))]
    have hi3 : 68 + i < 317 := by omega
    have hb24 := m.lt si hi
    have hbl := bl1600 (c2.le100 hi3)
    simp only [c2.rm, c2.slot hi, c2.ck hi3, c2.bits hi3, Option.bind_some]
    by_cases hbig : 1 < bl (M (68 + i)).natAbs
    · rw [if_pos (show (1 : Int32) < nI (bl (M (68 + i)).natAbs) from nI_lt (a := 1) hbig (by omega))]
      have hx2 : 2 ≤ (M (68 + i)).natAbs := by
        rcases Nat.lt_or_ge 1 (M (68 + i)).natAbs with z | z
        · exact z
        · have := bl_1.mpr z; omega
      obtain ⟨g3, e3, c3⟩ := c2.copy (T := 0) rfl (by decide) (show 65 < 317 by decide)
      rw [m.1.2] at c3
      rw [e3]
      simp only [c3.rm, Option.bind_some]
      have etop : ∀ d : RD, (d.tt (0 + 1)).top = nI 1 := fun _ => rfl
      rw [etop]
      obtain ⟨x, hx⟩ : ∃ x, x = M (68 + i) := ⟨_, rfl⟩
      rw [← hx] at hx2 hb24
      obtain ⟨r, hr, hz⟩ := iter_FU (B := fun q : AH × Int32 => zb_X11_power_105 n (nI N) (nI k) (ar n (68 + i)) (ar n 0) (nI 1) q.1 q.2)
        (fun t s => s.2 = nI t ∧ (x ^ t).natAbs < B32 ^ 12 ∧ ∃ M', RV B n ((d.set1 0 0).tt 1) s.1 M' ∧ M' 0 = x ^ t ∧ ∀ y, 64 ≤ y → M' y = M y)
        (fun r => match r with
          | .inl w => (∃ t, t ≤ N ∧ ¬ (x ^ t).natAbs < B32 ^ 12) ∧ ∃ M', RV B n ((d.set1 0 0).tt 1) w M' ∧ ∀ y, 64 ≤ y → M' y = M y
          | .inr w => ∃ M', RV B n ((d.set1 0 0).tt 1) w M' ∧ M' 0 = x ^ N ∧ ∀ y, 64 ≤ y → M' y = M y)
        N (by omega) (s := (g3, (0 : Int32))) ⟨rfl, by rw [Int.pow_zero]; decide, _, c3, by rw [va_us, Int.pow_zero], fun y hy => va_un (by omega)⟩ (by
        rintro t ⟨g4, z⟩ ht ⟨hz, hfit, M1, k1, v1, f1⟩
        dsimp only at hz k1 ⊢
        subst hz
        unfold zb_X11_power_105
        by_cases hlt : t < N
        · rw [if_neg (nI_ge hlt (by omega))]
          simp only [k1.rm, Option.bind_some]
          obtain ⟨g5, e5, k2⟩ := k1.times (T := 1) (i := 0) (j := 68 + i) rfl (by decide) (by decide) hi3 (by decide) (by omega) (na := 24) (nb := 24) (by rw [v1, C24]; exact hfit) (by rw [f1 _ (by omega), ← hx]; exact hb24) (by decide)
          rw [v1, f1 _ (show 64 ≤ 68 + i by omega), ← hx] at k2
          rw [e5]
          simp only [k2.ck (show 0 < 317 by decide), Option.bind_some]
          obtain ⟨g6, e6, k3⟩ := k2.become (i := 0) (j := 1) (by decide) (by decide)
          rw [va_us] at k3
          rw [e6]
          simp only [Option.bind_some]
          obtain ⟨g7, e7, k4⟩ := k3.top_ 1
          rw [e7]
          simp only [k4.fits (show 0 < 317 by decide), Option.bind_some]
          rw [va_us, ← Int.pow_succ]
          have hfr : ∀ y, 64 ≤ y → va_up (va_up M1 1 (x ^ (t + 1))) 0 (x ^ (t + 1)) y = M y := fun y hy => by rw [va_un (by omega), va_un (by omega)]; exact f1 y hy
          rw [← Int.pow_succ] at k4
          by_cases hf : (x ^ (t + 1)).natAbs < B32 ^ 12
          · rw [if_pos hf, if_neg (by decide)]
            refine ⟨_, rfl, fun s' hs => ?_, fun r hr => by (cases hr)⟩
            obtain rfl := Sum.inl.inj hs
            exact ⟨hlt, nI_1 t, hf, _, k4, va_us _ _ _, hfr⟩
          · rw [if_neg hf, if_pos (by decide)]
            refine ⟨_, rfl, fun s' hs => by (cases hs), fun r hr => ?_⟩
            obtain rfl := Sum.inr.inj hr
            exact ⟨⟨t + 1, by omega, hf⟩, _, k4, hfr⟩
        · have e : t = N := by omega
          subst e
          rw [if_pos (nI_le (by omega) (by omega))]
          refine ⟨_, rfl, fun s' hs => by (cases hs), fun r hr => ?_⟩
          obtain rfl := Sum.inr.inj hr
          exact ⟨M1, k1, v1, f1⟩)
      rw [hr]
      simp only [Option.bind_some]
      rw [← m.2.1 i hi, ← hx] at hsp
      cases r with
      | inl w =>
        obtain ⟨⟨t, htN, ht⟩, M5, k5, f5⟩ := hz
        refine ⟨-5, w, rfl, S, ⟨_, M5, k5, m.fr (fun y hy _ _ => f5 y hy), dd, si⟩, hsp _ _ (Or.inr ⟨fun z => ht ?_, rfl, rfl⟩)⟩
        rw [Int.natAbs_pow] at z ⊢
        rcases Nat.lt_or_ge (x.natAbs ^ t) (B32 ^ 12) with q | q
        · exact q
        · have := pow_big htN q; omega
      | inr w =>
        obtain ⟨M5, k5, v5, f5⟩ := hz
        dsimp only
        simp only [k5.rm, Option.bind_some]
        obtain ⟨r, h', S', e6, I6, k6⟩ := k5.keep (m.fr (fun y hy _ _ => f5 y hy)) dd si (k := 0) (by decide) hk
        rw [v5] at k6
        rw [e6]
        exact ⟨r, h', rfl, S', I6, hsp _ _ k6⟩
    · rw [if_neg (show ¬ (1 : Int32) < nI (bl (M (68 + i)).natAbs) from nI_nlt (a := 1) (by omega) (by decide))]
      have hx1 : (M (68 + i)).natAbs ≤ 1 := bl_1.mp (by omega)
      have fin : ∀ (g4 : AH) (d4 : RD) (M4 : Nat → Int) (t : Nat), RV B n d4 g4 M4 → RM M4 S → RDD d4 S → t < 317 → M4 t = S.sl i ^ N → ∃ r h', zj_X11_power_82 g4 (ar n t) (nI k) n = some (r, h') ∧ ∃ S', RI B n h' S' ∧ Sp_power S (nI i) (nI N) (nI k) r S' := by
        intro g4 d4 M4 t c4 m4 dd4 ht hv
        unfold zj_X11_power_82
        simp only [c4.rm, Option.bind_some]
        obtain ⟨r, h', S', e6, I6, k6⟩ := c4.keep m4 dd4 si (k := t) ht hk
        rw [hv] at k6
        rw [e6]
        exact ⟨r, h', rfl, S', I6, hsp _ _ k6⟩
      have hx3 : M (68 + i) = 0 ∨ M (68 + i) = 1 ∨ M (68 + i) = -1 := by omega
      rw [m.2.1 i hi] at hx3
      by_cases hN0 : N = 0
      · subst hN0
        rw [if_pos (by decide)]
        exact fin g _ M 65 c2 m dd (by decide) (by rw [m.1.2, Int.pow_zero])
      · rw [if_neg (nI_ne0 (by omega) (by omega))]
        have er : nI N - nI N / (2 : Int32) * (2 : Int32) = nI (N % 2) := pk_rem (a := N) (d := 2) (by omega) (by decide) (by decide)
        rw [er]
        by_cases hev : N % 2 = 0
        · rw [if_pos (by rw [hev]; decide)]
          obtain ⟨g4, e4, c4⟩ := c2.times (T := 0) (i := 68 + i) (j := 68 + i) rfl (by decide) hi3 hi3 (by omega) (by omega) hb24 hb24 (by decide)
          rw [e4]
          simp only [Option.bind_some]
          refine fin g4 _ _ 0 c4 (m.up (by decide) _) dd (by decide) ?_
          rw [va_us, m.2.1 i hi]
          obtain ⟨H, rfl⟩ : ∃ H, N = 2 * H := ⟨N / 2, by omega⟩
          rw [Int.pow_mul]
          have h2 : S.sl i ^ 2 = S.sl i * S.sl i := by rw [Int.pow_succ, Int.pow_succ, Int.pow_zero, Int.one_mul]
          rw [h2]
          rcases hx3 with e | e | e
          · rw [e]
            show (0 : Int) = 0 ^ H
            rw [Int.zero_pow (by omega)]
          · rw [e]
            show (1 : Int) = 1 ^ H
            rw [Int.one_pow]
          · rw [e]
            show (1 : Int) = 1 ^ H
            rw [Int.one_pow]
        · rw [if_neg (nI_ne0 (by omega) (by omega))]
          obtain ⟨g4, e4, c4⟩ := c2.copy (T := 0) rfl (by decide) hi3
          rw [e4]
          simp only [Option.bind_some]
          refine fin g4 _ _ 0 c4 (m.up (by decide) _) dd (by decide) ?_
          rw [va_us, m.2.1 i hi]
          obtain ⟨H, rfl⟩ : ∃ H, N = 2 * H + 1 := ⟨N / 2, by omega⟩
          rw [Int.pow_succ, Int.pow_mul]
          have h2 : S.sl i ^ 2 = S.sl i * S.sl i := by rw [Int.pow_succ, Int.pow_succ, Int.pow_zero, Int.one_mul]
          rw [h2]
          rcases hx3 with e | e | e
          · rw [e, Int.mul_zero]
          · rw [e]
            show (1 : Int) = 1 ^ H * 1
            rw [Int.one_pow]
            rfl
          · rw [e]
            show (-1 : Int) = 1 ^ H * -1
            rw [Int.one_pow]
            rfl
theorem spb_root {a e z : Int32} (hb : ix2 a z = none ∨ rtI e = none) : Sp_root S a e z (-1) S := by
  unfold Sp_root
  rcases hb with hb | hb
  · rw [hb]; exact ⟨rfl, rfl⟩
  · rw [hb]; cases ix2 a z <;> exact ⟨rfl, rfl⟩
theorem r_root (I : RI B n h S) (a e z : Int32) : ∃ r h', zs_X11_root h n a e z = some (r, h') ∧ ∃ S', RI B n h' S' ∧ Sp_root S a e z r S' := by
  obtain ⟨d, M, c, m, dd, si⟩ := I
  unfold zs_X11_root
  refine c.slot1 (fun g h1 c1 => ⟨S, ⟨_, M, c1, m, dd, si⟩, spb_root (Or.inl (ix2_n (Or.inl h1)))⟩) (fun i g h1 hi ha c1 => ?_)
  dsimp only
  refine c1.slot1 (fun g h2 c2 => ⟨S, ⟨_, M, c2, m, dd, si⟩, spb_root (Or.inl (ix2_n (Or.inr h2)))⟩) (fun k g h2 hk hb c2 => ?_)
  subst ha
  subst hb
  dsimp only
  have I2 : RI B n g S := ⟨_, M, c2, m, dd, si⟩
  cases h3 : rtI e with
  | none =>
    rcases rtI_none h3 with h4 | ⟨h4, h5⟩
    · rw [if_pos h4]; exact ⟨-1, g, rfl, S, I2, spb_root (Or.inr h3)⟩
    · rw [if_neg h4, if_neg h5]; exact ⟨-1, g, rfl, S, I2, spb_root (Or.inr h3)⟩
  | some N =>
    obtain ⟨rfl, hN2, hN9⟩ := rtI_some h3
    have hsp : ∀ r S', (if S.sl i < 0 then errC S (-3) r S' else ∃ R, isRoot (S.sl i) N R ∧ r = (if R ^ N = S.sl i then 1 else 0) ∧ S' = setS S k R) → Sp_root S (nI i) (nI N) (nI k) r S' := by
      intro r S' hh
      unfold Sp_root
      rw [ix2_y h1 h2, h3]
      exact hh
    rw [if_neg (show ¬ nI N < (2 : Int32) from nI_nlt (b := 2) hN2 (by omega)), if_pos (show nI N ≤ (9 : Int32) from nI_le (b := 9) hN9 (by decide))]
    have hi3 : 68 + i < 317 := by omega
    simp only [c2.rm, c2.slot hi, c2.sg hi3, m.2.1 i hi, Option.bind_some]
    by_cases hneg : S.sl i < 0
    · rw [if_pos hneg, if_neg (by decide)]
      exact ⟨-3, g, rfl, S, I2, hsp _ _ (by rw [if_pos hneg]; exact ⟨rfl, rfl⟩)⟩
    · simp only [if_neg hneg] at hsp
      rw [if_neg hneg, if_pos (by decide)]
      obtain ⟨g3, e3, c3⟩ := c2.copy (T := 0) rfl (by decide) hi3
      rw [e3]
      simp only [c3.rm, Option.bind_some]
      obtain ⟨g4, e4, c4⟩ := c3.copy (T := 1) rfl (by decide) (show 64 < 317 by decide)
      rw [va_un (show 64 ≠ 0 by decide), m.1.1, m.2.1 i hi] at c4
      rw [e4]
      have hnz : nz (nI N) = some () := by unfold nz; rw [if_neg (nI_ne0 (by omega) (by omega))]
      simp only [c4.rm, hnz, Option.bind_some, lt_]
      have ediv : (384 : Int32) / nI N = nI (384 / N) := pk_div (a := 384) (by decide) (by omega) (by omega)
      rw [ediv, nI_1]
      obtain ⟨K, hK⟩ : ∃ K, K = 384 / N + 1 := ⟨_, rfl⟩
      rw [← hK]
      have hK193 : K ≤ 193 := by
        have : 384 / N ≤ 384 / 2 := Nat.div_le_div_left hN2 (by decide)
        omega
      have hNK : 384 ≤ N * K := by
        rw [hK, Nat.mul_add, Nat.mul_one]
        have := Nat.div_add_mod 384 N
        have := Nat.mod_lt 384 (show 0 < N by omega)
        omega
      have hNK2 : N * (K + 1) ≤ 402 := by
        rw [hK, Nat.mul_add, Nat.mul_add]
        have := Nat.div_add_mod 384 N
        omega
      obtain ⟨X, hX⟩ := Int.eq_ofNat_of_zero_le (show 0 ≤ S.sl i by omega)
      have hXl : X < 2 ^ 384 := by
        have := si.1 i hi
        rw [hX, Int.natAbs_natCast, B32_two] at this
        exact this
      have pwb : ∀ (R t : Nat), t ≤ N → R < 2 ^ (K + 1) → R ^ t < C16 ^ 26 := by
        intro R t ht hR
        have h4 : R ^ t ≤ (2 ^ (K + 1)) ^ t := Nat.pow_le_pow_left (by omega) t
        rw [← Nat.pow_mul] at h4
        have h5 : (K + 1) * t ≤ N * (K + 1) := by rw [Nat.mul_comm]; exact Nat.mul_le_mul_right _ ht
        have h6 : 2 ^ ((K + 1) * t) ≤ 2 ^ 402 := Nat.pow_le_pow_right (by decide) (by omega)
        have h7 : 2 ^ 402 < 2 ^ (16 * 26) := Nat.pow_lt_pow_right (by decide) (by decide)
        rw [C16_two]
        omega
      have pb1 : ∀ R : Nat, R < 2 ^ (K + 1) → R < C16 ^ 13 := by
        intro R hR
        rw [C16_two]
        have : 2 ^ (K + 1) ≤ 2 ^ (16 * 13) := Nat.pow_le_pow_right (by decide) (by omega)
        omega
      have h99 : C16 ^ 13 ≤ C16 ^ 99 := Nat.pow_le_pow_right (by decide) (by decide)
      have etop : ∀ d : RD, (d.tt (1 + 1)).top = nI 2 := fun _ => rfl
      rw [etop]
      obtain ⟨r, hr, R, M5, c5, v5, w5, f5, hR1, hR2, hR3⟩ := iter_FU (B := fun q : AH × Int32 => zb_X11_root_81 n (nI N) (nI k) (ar n 0) (ar n 1) (nI 2) q.1 q.2)
        (fun t s => s.2 = nI (K + 1 - t) - 1 ∧ ∃ (R : Nat) (M' : Nat → Int), RV B n ((d.set1 0 0).tt 2) s.1 M' ∧ M' 0 = (X : Int) ∧ M' 1 = (R : Int) ∧ (∀ x, 64 ≤ x → M' x = M x) ∧ R ^ N ≤ X ∧ X < (R + 2 ^ (K + 1 - t)) ^ N ∧ R + 2 ^ (K + 1 - t) ≤ 2 ^ (K + 1))
        (fun r => ∃ (R : Nat) (M' : Nat → Int), RV B n ((d.set1 0 0).tt 2) r M' ∧ M' 0 = (X : Int) ∧ M' 1 = (R : Int) ∧ (∀ x, 64 ≤ x → M' x = M x) ∧ R ^ N ≤ X ∧ X < (R + 1) ^ N ∧ R + 1 ≤ 2 ^ (K + 1))
        (K + 1) (by omega) (s := (g4, nI K)) ⟨by dsimp only; rw [Nat.sub_zero, nI_pred], 0, _, c4, by rw [va_un (by decide), va_us, hX], va_us _ _ _, fun x hx => by rw [va_un (by omega), va_un (by omega)], by rw [Nat.zero_pow (by omega)]; omega, by
          rw [Nat.sub_zero, Nat.zero_add, ← Nat.pow_mul]
          have : 2 ^ 384 ≤ 2 ^ ((K + 1) * N) := Nat.pow_le_pow_right (by decide) (by rw [Nat.mul_comm, Nat.mul_add]; omega)
          omega, by rw [Nat.sub_zero]; omega⟩ (by
        rintro t ⟨g5, z⟩ ht ⟨hz, R, M5, k5, v5, w5, f5, hR1, hR2, hR3⟩
        dsimp only at hz k5 ⊢
        subst hz
        unfold zb_X11_root_81
        by_cases h9 : K + 1 - t = 0
        · rw [h9] at hR2 hR3 ⊢
          rw [if_pos (by decide)]
          refine ⟨_, rfl, fun s' hs => by (cases hs), fun r hr => ?_⟩
          obtain rfl := Sum.inr.inj hr
          exact ⟨R, M5, k5, v5, w5, f5, hR1, hR2, hR3⟩
        · obtain ⟨p, hp⟩ : ∃ p, K + 1 - t = p + 1 := ⟨K + 1 - t - 1, by omega⟩
          rw [hp] at hR2 hR3 ⊢
          have ep : K + 1 - (t + 1) = p := by omega
          have h2p : 2 ^ (p + 1) = 2 ^ p + 2 ^ p := by rw [Nat.pow_succ]; omega
          have h2pos := Nat.two_pow_pos p
          rw [nI_pred p, if_neg (nI_pos (by omega))]
          simp only [k5.rm, Option.bind_some]
          have m65 : M5 65 = 1 := (f5 65 (by omega)).trans m.1.2
          have hpi : (nI p).toInt = (p : Int) := nI_toInt (by omega)
          have hcs1 : cs (1 : Int).natAbs ≤ 1 := cs_le (show 1 < C16 ^ 1 by decide)
          obtain ⟨g6, e6, k6⟩ := k5.moved (T := 2) (i := 65) rfl (by decide) (by decide) (by decide) (x := nI p) (by rw [hpi]; omega) (by rw [hpi]; omega) (by rw [hpi, m65]; omega)
          have hmv : sgv (if M5 65 < 0 then 1 else 0) (mvN (M5 65).natAbs (nI p).toInt) = ((2 ^ p : Nat) : Int) := by
            rw [m65, hpi]
            unfold mvN
            rw [if_neg (by decide), if_pos (by omega)]
            show ((1 * 2 ^ p : Nat) : Int) = _
            rw [Nat.one_mul]
          rw [hmv] at k6
          rw [e6]
          simp only [k6.rm, Option.bind_some]
          have hRp : R + 2 ^ p < 2 ^ (K + 1) := by omega
          have hRb := pb1 _ hRp
          obtain ⟨g7, e7, k7⟩ := k6.sum (T := 3) (i := 1) (j := 2) rfl (by decide) (by decide) (by decide) (by decide) (by decide) (by rw [va_un (by decide), w5, Int.natAbs_natCast]; omega) (by rw [va_us, Int.natAbs_natCast]; omega)
          rw [va_un (show 1 ≠ 2 by decide), va_us, w5, ← Int.natCast_add] at k7
          rw [e7]
          simp only [k7.rm, Option.bind_some]
          obtain ⟨g8, M8, e8, k8, v8, f8⟩ := k7.powered (T := 4) (i := 3) rfl (by decide) (by decide) (by decide) (N := N) (by omega) (na := 26) (nb := 13) (by rw [va_us, Int.natAbs_natCast]; exact hRb) (fun y hy => by rw [va_us, ← Int.natCast_pow, Int.natAbs_natCast]; exact pwb _ y (by omega) hRp) (by decide) (by rw [va_un (by decide), va_un (by decide)]; exact m65)
          rw [va_us, ← Int.natCast_pow] at v8
          rw [e8]
          simp only [k8.cmp (show 4 < 317 by decide) (show 0 < 317 by decide), Option.bind_some]
          have m80 : M8 0 = (X : Int) := by rw [f8 0 (by decide), va_un (by decide), va_un (by decide)]; exact v5
          have m81 : M8 1 = (R : Int) := by rw [f8 1 (by decide), va_un (by decide), va_un (by decide)]; exact w5
          have m83 : M8 3 = ((R + 2 ^ p : Nat) : Int) := by rw [f8 3 (by decide), va_us]
          have f9 : ∀ x, 64 ≤ x → M8 x = M x := fun x hx => by rw [f8 x (Or.inr hx), va_un (by omega), va_un (by omega)]; exact f5 x hx
          rw [v8, m80]
          by_cases hle : (R + 2 ^ p) ^ N ≤ X
          · have hc : ¬ (0 : Int32) < cmpZ (((R + 2 ^ p) ^ N : Nat) : Int) (X : Int) := by
              unfold cmpZ
              by_cases hl : (((R + 2 ^ p) ^ N : Nat) : Int) < (X : Int)
              · rw [if_pos hl]; decide
              · rw [if_neg hl, if_pos (by omega)]; decide
            rw [if_neg hc]
            simp only [k8.ck (show 1 < 317 by decide), Option.bind_some]
            obtain ⟨g10, e10, k10⟩ := k8.become (i := 1) (j := 3) (by decide) (by decide)
            rw [m83] at k10
            rw [e10]
            simp only [Option.bind_some]
            unfold zj_X11_root_126
            obtain ⟨g11, e11, k11⟩ := k10.top_ 2
            rw [e11]
            refine ⟨_, rfl, fun s' hs => ?_, fun r hr => by (cases hr)⟩
            obtain rfl := Sum.inl.inj hs
            rw [ep]
            refine ⟨by omega, by dsimp only; rw [Int32.sub_eq_add_neg], R + 2 ^ p, _, k11, by rw [va_un (by decide)]; exact m80, va_us _ _ _, fun x hx => by rw [va_un (by omega)]; exact f9 x hx, hle, ?_, by omega⟩
            rw [show R + 2 ^ p + 2 ^ p = R + 2 ^ (p + 1) by omega]
            exact hR2
          · have hc : (0 : Int32) < cmpZ (((R + 2 ^ p) ^ N : Nat) : Int) (X : Int) := by
              unfold cmpZ
              rw [if_neg (by omega), if_neg (by omega)]; decide
            rw [if_pos hc]
            unfold zj_X11_root_126
            obtain ⟨g11, e11, k11⟩ := k8.top_ 2
            rw [e11]
            refine ⟨_, rfl, fun s' hs => ?_, fun r hr => by (cases hr)⟩
            obtain rfl := Sum.inl.inj hs
            rw [ep]
            exact ⟨by omega, by dsimp only; rw [Int32.sub_eq_add_neg], R, _, k11, m80, m81, f9, hR1, by omega, by omega⟩)
      rw [hr]
      simp only [c5.rm, c5.slot hk, c5.ck (show 68 + k < 317 by omega), Option.bind_some]
      obtain ⟨g6, e6, c6⟩ := c5.become (i := 68 + k) (j := 1) (by omega) (by decide)
      rw [w5] at c6
      rw [e6]
      simp only [c6.rm, Option.bind_some]
      have hRl : R < 2 ^ (K + 1) := by omega
      have m61 : va_up M5 (68 + k) (R : Int) 1 = (R : Int) := by rw [va_un (by omega)]; exact w5
      obtain ⟨g7, M7, e7, c7, v7, f7⟩ := c6.powered (T := 2) (i := 1) rfl (by decide) (by decide) (by decide) (N := N) (by omega) (na := 26) (nb := 13) (by rw [m61, Int.natAbs_natCast]; exact pb1 _ hRl) (fun y hy => by rw [m61, ← Int.natCast_pow, Int.natAbs_natCast]; exact pwb _ y (by omega) hRl) (by decide) (by rw [va_un (by omega)]; exact (f5 65 (by omega)).trans m.1.2)
      rw [m61, ← Int.natCast_pow] at v7
      have m70 : M7 0 = (X : Int) := by rw [f7 0 (by decide), va_un (by omega)]; exact v5
      rw [e7]
      simp only [c7.cmp (show 2 < 317 by decide) (show 0 < 317 by decide), Option.bind_some]
      rw [v7, m70]
      have hroot : isRoot (S.sl i) N (R : Int) := by
        rw [hX]
        refine ⟨by omega, ?_, ?_⟩
        · show (R : Int) ^ N ≤ (X : Int)
          rw [← Int.natCast_pow]
          exact Int.ofNat_le.mpr hR1
        · show (X : Int) < ((R : Int) + 1) ^ N
          have : ((R : Int) + 1) = ((R + 1 : Nat) : Int) := by omega
          rw [this, ← Int.natCast_pow]
          exact Int.ofNat_lt.mpr hR2
      have hRb : (R : Int).natAbs < B32 ^ 12 := by
        rw [Int.natAbs_natCast, ← C24]
        have := pb1 _ hRl
        have h24 : C16 ^ 13 ≤ C16 ^ 24 := Nat.pow_le_pow_right (by decide) (by decide)
        omega
      have m5 : RM M5 S := m.fr (fun x hx _ _ => f5 x hx)
      have m7 : RM M7 (setS S k (R : Int)) := (m5.set hk (R : Int)).fr (fun x hx _ _ => f7 x (Or.inr hx))
      have I7 : RI B n g7 (setS S k (R : Int)) := ⟨_, M7, c7, m7, dd, si.set hk hRb⟩
      by_cases hx : R ^ N = X
      · have hc : cmpZ ((R ^ N : Nat) : Int) (X : Int) = 0 := by
          unfold cmpZ
          rw [if_neg (by omega), if_pos (by omega)]
        rw [hc, if_pos (by decide)]
        exact ⟨1, g7, rfl, _, I7, hsp _ _ ⟨_, hroot, by rw [hX, if_pos (by show (R : Int) ^ N = (X : Int); rw [← Int.natCast_pow, hx])], rfl⟩⟩
      · have hc : ¬ cmpZ ((R ^ N : Nat) : Int) (X : Int) = 0 := by
          unfold cmpZ
          by_cases hl : ((R ^ N : Nat) : Int) < (X : Int)
          · rw [if_pos hl]; decide
          · rw [if_neg hl, if_neg (by omega)]; decide
        rw [if_neg hc]
        refine ⟨0, g7, rfl, _, I7, hsp _ _ ⟨_, hroot, ?_, rfl⟩⟩
        rw [hX, if_neg]
        intro hh
        have hh2 : (R : Int) ^ N = (X : Int) := hh
        rw [← Int.natCast_pow] at hh2
        omega
theorem RV.wrongRest (c : RV B n d h M) (hj : j < 317) : zs_X11_wrongRest h n (ar n j) = some (mdE (M j)) := by
  unfold zs_X11_wrongRest mdE
  have hb := bl1600 (c.le100 hj)
  simp only [c.ck hj, c.isZero hj, c.sg hj, c.bits hj, Option.bind_some]
  by_cases hz : M j = 0
  · rw [if_pos hz, if_neg (by decide), if_pos hz]
  · rw [if_neg hz, if_pos (by decide), if_neg hz]
    by_cases hn : M j < 0
    · rw [if_pos hn, if_neg (by decide), if_pos (Or.inl hn)]
    · rw [if_neg hn, if_pos (by decide)]
      by_cases h8 : 128 < bl (M j).natAbs
      · rw [if_neg (show ¬ nI (bl (M j).natAbs) ≤ (128 : Int32) from nI_ge (a := 128) h8 (by omega)), if_pos (Or.inr h8)]
      · rw [if_pos (show nI (bl (M j).natAbs) ≤ (128 : Int32) from nI_le (b := 128) (by omega) (by decide)), if_neg (show ¬ (M j < 0 ∨ 128 < bl (M j).natAbs) by omega)]
theorem mdE_128 {y : Int} (h : mdE y = 1) : 0 < y ∧ y.natAbs < C16 ^ 8 := by
  refine ⟨mdE_ok h, ?_⟩
  have h0 := mdE_ok h
  unfold mdE at h
  rw [if_neg (by omega)] at h
  by_cases hn : y < 0 ∨ 128 < bl y.natAbs
  · rw [if_pos hn] at h; exact absurd h (by decide)
  · rw [C16_two]
    exact Nat.lt_of_lt_of_le (bl_lt _) (Nat.pow_le_pow_right (by decide) (by omega))
theorem mdE_neg {y : Int} (h : ¬ mdE y = 1) : ¬ (0 : Int32) ≤ mdE y := by
  rw [mdE_no h]
  by_cases hz : y = 0
  · rw [if_pos hz]; decide
  · rw [if_neg hz]; decide
theorem spb_rest {a e b z : Int32} (hb : ix3 a b z = none ∨ ixI 1000001 e = none) : Sp_rest S a e b z (-1) S := by
  unfold Sp_rest
  rcases hb with hb | hb
  · rw [hb]; exact ⟨rfl, rfl⟩
  · rw [hb]; cases ix3 a b z <;> exact ⟨rfl, rfl⟩
/-- r times x, what is left by y -/
theorem RV.mulMod (c : RV B n d h M) (hT : d.top = nI T) (hl : T + 8 ≤ 64) (hi : i < 317) (hj : j < 317) (hk : k < 317) (iT : i < T ∨ 64 ≤ i) (jT : j < T ∨ 64 ≤ j) (kT : k < T ∨ 64 ≤ k) {a b y : Nat} (ha : M i = (a : Int)) (hb : M j = (b : Int)) (hy : M k = (y : Int)) (y0 : 0 < y) (xa : a < C16 ^ 8) (xb : b < C16 ^ 8) (xy : y < C16 ^ 8) (hz : M 64 = 0) (ho : M 65 = 1) {α : Type} (F : AH → Option α) :
    ∃ g M' Q R T', ((zs_X11_times h n (ar n i) (ar n j)).bind fun x => (chk x.2 n 11).bind fun _ => (zs_X11_over x.2 n (2 : Int32) x.1 (ar n k)).bind F) = F g ∧ RV B n (d.dz n Q R T') g M' ∧ (T ≤ R ∧ R < T') ∧ T' ≤ T + 8 ∧ M' R = ((a * b % y : Nat) : Int) ∧ ∀ x, (x < T ∨ 64 ≤ x) → M' x = M x := by
  obtain ⟨g1, e1, c1⟩ := c.times hT (by omega) hi hj (by omega) (by omega) (na := 8) (nb := 8) (by rw [ha, Int.natAbs_natCast]; exact xa) (by rw [hb, Int.natAbs_natCast]; exact xb) (by decide)
  rw [ha, hb, ← Int.natCast_mul] at c1
  rw [e1]
  simp only [c1.rm, Option.bind_some]
  have hab : a * b < C16 ^ 16 := by
    have : C16 ^ 8 * C16 ^ 8 = C16 ^ 16 := by rw [← Nat.pow_add]
    rw [← this]
    exact Nat.mul_lt_mul_of_lt_of_lt xa xb
  have m1k : va_up M T ((a * b : Nat) : Int) k = (y : Int) := by rw [va_un (by omega)]; exact hy
  obtain ⟨g2, e2, M2, Q, R, T2, c2, hQ, hR, hT2, mQ, mR, f2⟩ := c1.over (T := T + 1) (i := T) (j := k) rfl (by omega) (by omega) hk (by omega) (by omega) (by rw [m1k]; omega) (na := 16) (nb := 8) (by rw [va_us, Int.natAbs_natCast]; exact hab) (by rw [m1k, Int.natAbs_natCast]; exact xy) (by decide) (by decide) (by rw [va_un (by omega)]; exact hz) (by rw [va_un (by omega)]; exact ho) 2
  rw [va_us, m1k, dvR2 (by omega)] at mR
  rw [e2]
  refine ⟨g2, M2, Q, R, T2, rfl, c2, by omega, by omega, ?_, fun x hx => ?_⟩
  · rw [mR]
    exact (Int.natCast_emod (a * b) y).symm
  · rw [f2 x (by omega), va_un (by omega)]
theorem r_rest (I : RI B n h S) (a e b z : Int32) : ∃ r h', zs_X11_rest h n a e b z = some (r, h') ∧ ∃ S', RI B n h' S' ∧ Sp_rest S a e b z r S' := by
  obtain ⟨d, M, c, m, dd, si⟩ := I
  unfold zs_X11_rest
  refine c.slot1 (fun g h1 c1 => ⟨S, ⟨_, M, c1, m, dd, si⟩, spb_rest (Or.inl (ix3_n (Or.inl h1)))⟩) (fun i g h1 hi ha c1 => ?_)
  dsimp only
  refine c1.slot1 (fun g h2 c2 => ⟨S, ⟨_, M, c2, m, dd, si⟩, spb_rest (Or.inl (ix3_n (Or.inr (Or.inl h2))))⟩) (fun j g h2 hj hb c2 => ?_)
  dsimp only
  refine c2.slot1 (fun g h3 c3 => ⟨S, ⟨_, M, c3, m, dd, si⟩, spb_rest (Or.inl (ix3_n (Or.inr (Or.inr h3))))⟩) (fun k g h3 hk hc c3 => ?_)
  subst ha
  subst hb
  subst hc
  dsimp only
  have I3 : RI B n g S := ⟨_, M, c3, m, dd, si⟩
  cases h4 : ixI 1000001 e with
  | none =>
    rcases ixI_rng (N := 1000000) (by decide) h4 with h5 | ⟨h5, h6, h7⟩
    · rw [if_pos h5]; exact ⟨-1, g, rfl, S, I3, spb_rest (Or.inr h4)⟩
    · rw [if_neg h5, if_neg (show ¬ e ≤ (1000000 : Int32) from h7)]; exact ⟨-1, g, rfl, S, I3, spb_rest (Or.inr h4)⟩
  | some E =>
    obtain ⟨rfl, hE⟩ := ixI_some h4
    have hsp : ∀ r S', (if mdE (S.sl j) = 1 then r = 1 ∧ S' = setS S k ((S.sl i % S.sl j) ^ E % S.sl j) else errC S (mdE (S.sl j)) r S') → Sp_rest S (nI i) (nI E) (nI j) (nI k) r S' := by
      intro r S' hh
      unfold Sp_rest
      rw [ix3_y h1 h2 h3, h4]
      exact hh
    rw [if_neg (nI_pos (by omega)), if_pos (show nI E ≤ (1000000 : Int32) from nI_le (b := 1000000) (by omega) (by decide))]
    have hi3 : 68 + i < 317 := by omega
    have hj3 : 68 + j < 317 := by omega
    simp only [c3.rm, c3.slot hj, c3.wrongRest hj3, m.2.1 j hj, Option.bind_some]
    by_cases hm : mdE (S.sl j) = 1
    · simp only [if_pos hm] at hsp
      rw [if_pos (by rw [hm]; decide)]
      obtain ⟨hy0, hyb⟩ := mdE_128 hm
      obtain ⟨Y, hY⟩ := Int.eq_ofNat_of_zero_le (show 0 ≤ S.sl j by omega)
      rw [hY, Int.natAbs_natCast] at hyb
      have hY0 : 0 < Y := by omega
      obtain ⟨X, hX⟩ := Int.eq_ofNat_of_zero_le (Int.emod_nonneg (S.sl i) (show S.sl j ≠ 0 by omega))
      have hXl : X < Y := by
        have := Int.emod_lt_of_pos (S.sl i) hy0
        omega
      simp only [c3.slot hi, Option.bind_some]
      obtain ⟨g4, e4, M4, Q4, R4, T4, c4, hQ4, hR4, hT4, mQ4, mR4, f4⟩ := c3.over (T := 0) (i := 68 + i) (j := 68 + j) rfl (by decide) hi3 hj3 (by omega) (by omega) (by rw [m.2.1 j hj]; omega) (m.lt si hi) (m.lt si hj) (by decide) (by decide) m.1.1 m.1.2 2
      rw [m.2.1 i hi, m.2.1 j hj, dvR2 hy0, hX] at mR4
      rw [e4]
      simp only [c4.qr, c4.rm, Option.bind_some]
      obtain ⟨g5, e5, c5⟩ := c4.copy (T := T4) (i := R4) rfl (by omega) (by omega)
      rw [mR4] at c5
      rw [e5]
      simp only [c5.rm, Option.bind_some]
      obtain ⟨M5, hM5⟩ : ∃ M5, M5 = va_up M4 T4 (X : Int) := ⟨_, rfl⟩
      have c5' : RV B n ((d.set1 0 0).dz n Q4 R4 (T4 + 1)) g5 M5 := by rw [hM5]; exact c5
      have f5 : ∀ x, 64 ≤ x → M5 x = M x := fun x hx => by rw [hM5, va_un (by omega)]; exact f4 x (Or.inr hx)
      have m5j : M5 (68 + j) = (Y : Int) := by rw [f5 _ (by omega), m.2.1 j hj]; exact hY
      have m565 : M5 65 = 1 := (f5 65 (by omega)).trans m.1.2
      have m564 : M5 64 = 0 := (f5 64 (by omega)).trans m.1.1
      obtain ⟨g6, e6, M6, Q6, R6, T6, c6, hQ6, hR6, hT6, mQ6, mR6, f6⟩ := c5'.over (T := T4 + 1) (i := 65) (j := 68 + j) rfl (by omega) (by decide) hj3 (by omega) (by omega) (by rw [m5j]; omega) (na := 8) (nb := 8) (by rw [m565]; exact Nat.lt_of_lt_of_le (show 1 < C16 ^ 1 by decide) (Nat.pow_le_pow_right (by decide) (by decide))) (by rw [m5j, Int.natAbs_natCast]; exact hyb) (by decide) (by decide) m564 m565 2
      rw [m565, m5j, dvR2 (by omega)] at mR6
      rw [e6]
      simp only [c6.qr, c6.rm, Option.bind_some]
      obtain ⟨g7, e7, c7⟩ := c6.copy (T := T6) (i := R6) rfl (by omega) (by omega)
      rw [mR6] at c7
      rw [e7]
      simp only [c7.rm, Option.bind_some]
      obtain ⟨M7, hM7⟩ : ∃ M7, M7 = va_up M6 T6 ((1 : Int) % (Y : Int)) := ⟨_, rfl⟩
      have c7' : RV B n ((d.set1 0 0).dz n Q6 R6 (T6 + 1)) g7 M7 := by rw [hM7]; exact c7
      have f7 : ∀ x, 64 ≤ x → M7 x = M x := fun x hx => by rw [hM7, va_un (by omega), f6 x (Or.inr hx)]; exact f5 x hx
      have m7x : M7 T4 = (X : Int) := by rw [hM7, va_un (by omega), f6 T4 (by omega), hM5, va_us]
      have m7r : M7 T6 = ((1 % Y : Nat) : Int) := by rw [hM7, va_us]; exact (Int.natCast_emod 1 Y).symm
      have etop : ∀ d : RD, (d.tt (T6 + 1)).top = nI (T6 + 1) := fun _ => rfl
      rw [etop]
      obtain ⟨r, hr, d8, M8, c8, dd8, v8, f8⟩ := iter_FU (B := fun q : AH × Int32 => zb_X11_rest_115 n (nI E) (nI k) (ar n (68 + j)) (ar n T4) (ar n T6) (nI (T6 + 1)) q.1 q.2)
        (fun t s => s.2 = nI (31 - t) - 1 ∧ ∃ d' M', RV B n d' s.1 M' ∧ d'.top = nI (T6 + 1) ∧ RDD d' S ∧ M' T4 = (X : Int) ∧ M' T6 = ((X ^ (E / 2 ^ (31 - t)) % Y : Nat) : Int) ∧ ∀ x, 64 ≤ x → M' x = M x)
        (fun r => ∃ d' M', RV B n d' r M' ∧ RDD d' S ∧ M' T6 = ((X ^ E % Y : Nat) : Int) ∧ ∀ x, 64 ≤ x → M' x = M x)
        31 (by omega) (s := (g7, (30 : Int32))) ⟨by dsimp only; decide, _, M7, c7', rfl, dd, m7x, by rw [m7r, Nat.sub_zero, Nat.div_eq_of_lt (by omega), Nat.pow_zero], f7⟩ (by
        rintro t ⟨g8, w⟩ ht ⟨hw, d8, M8, k8, t8, dd8, x8, r8, f8⟩
        dsimp only at hw k8 ⊢
        subst hw
        unfold zb_X11_rest_115
        by_cases h9 : 31 - t = 0
        · rw [h9] at r8 ⊢
          rw [if_pos (by decide)]
          refine ⟨_, rfl, fun s' hs => by (cases hs), fun r hr => ?_⟩
          obtain rfl := Sum.inr.inj hr
          rw [Nat.pow_zero, Nat.div_one] at r8
          exact ⟨d8, M8, k8, dd8, r8, f8⟩
        · obtain ⟨p, hp⟩ : ∃ p, 31 - t = p + 1 := ⟨31 - t - 1, by omega⟩
          rw [hp] at r8 ⊢
          have ep : 31 - (t + 1) = p := by omega
          rw [nI_pred p, if_neg (nI_pos (by omega))]
          simp only [k8.rm, Option.bind_some]
          have hrl := Nat.mod_lt (X ^ (E / 2 ^ (p + 1))) hY0
          obtain ⟨P, hP⟩ : ∃ P, P = X ^ (E / 2 ^ (p + 1)) % Y := ⟨_, rfl⟩
          rw [← hP] at r8 hrl
          have hdd : N_half E p := N_half_all E p
          unfold N_half at hdd
          have h2m : P * P % Y = X ^ (2 * (E / 2 ^ (p + 1))) % Y := by
            rw [hP, ← Nat.mul_mod, ← Nat.pow_add]
            congr 2
            omega
          have m8j : M8 (68 + j) = (Y : Int) := by rw [f8 _ (by omega), m.2.1 j hj]; exact hY
          obtain ⟨g9, M9, Q9, R9, T9, e9, k9, hR9, hT9, mR9, f9⟩ := k8.mulMod (T := T6 + 1) (i := T6) (j := T6) (k := 68 + j) t8 (by omega) (by omega) (by omega) hj3 (by omega) (by omega) (by omega) r8 r8 m8j hY0 (by omega) (by omega) hyb ((f8 64 (by omega)).trans m.1.1) ((f8 65 (by omega)).trans m.1.2) (fun g36 => (gR g36 n 11 6).bind fun x37 => (chk g36 (ar n T6) 10).bind fun _ => (zs_X10_become g36 (ar n T6) x37).bind fun g39 => (if (nI E >>> (nI p &&& 31)) &&& ((1 : Int32)) = (1 : Int32) then (chk g39 n 11).bind fun _ => (zs_X11_times g39 n (ar n T6) (ar n T4)).bind fun x44 => (chk x44.2 n 11).bind fun _ => (zs_X11_over x44.2 n ((2 : Int32)) x44.1 (ar n (68 + j))).bind fun g46 => (gR g46 n 11 6).bind fun x47 => (chk g46 (ar n T6) 10).bind fun _ => (zs_X10_become g46 (ar n T6) x47).bind fun g49 => zj_X11_rest_178 n (nI E) (nI k) (ar n (68 + j)) (ar n T4) (ar n T6) (nI (T6 + 1)) g49 (nI p) else zj_X11_rest_178 n (nI E) (nI k) (ar n (68 + j)) (ar n T4) (ar n T6) (nI (T6 + 1)) g39 (nI p)))
          rw [e9]
          simp only [k9.qr, k9.ck (show T6 < 317 by omega), Option.bind_some]
          obtain ⟨g10, e10, k10⟩ := k9.become (i := T6) (j := R9) (by omega) (by omega)
          rw [mR9] at k10
          rw [e10]
          simp only [Option.bind_some]
          obtain ⟨M10, hM10⟩ : ∃ M10, M10 = va_up M9 T6 ((P * P % Y : Nat) : Int) := ⟨_, rfl⟩
          rw [← hM10] at k10
          have f10 : ∀ x, 64 ≤ x → M10 x = M x := fun x hx => by rw [hM10, va_un (by omega), f9 x (Or.inr hx)]; exact f8 x hx
          have x10 : M10 T4 = (X : Int) := by rw [hM10, va_un (by omega), f9 T4 (by omega)]; exact x8
          have r10 : M10 T6 = ((P * P % Y : Nat) : Int) := by rw [hM10, va_us]
          have fin : ∀ (g11 : AH) (d11 : RD) (M11 : Nat → Int), RV B n d11 g11 M11 → RDD d11 S → M11 T4 = (X : Int) → M11 T6 = ((X ^ (E / 2 ^ p) % Y : Nat) : Int) → (∀ x, 64 ≤ x → M11 x = M x) → ∃ o, zj_X11_rest_178 n (nI E) (nI k) (ar n (68 + j)) (ar n T4) (ar n T6) (nI (T6 + 1)) g11 (nI p) = some o ∧ (∀ s', o = Sum.inl s' → t < 31 ∧ s'.2 = nI (31 - (t + 1)) - 1 ∧ ∃ d' M', RV B n d' s'.1 M' ∧ d'.top = nI (T6 + 1) ∧ RDD d' S ∧ M' T4 = (X : Int) ∧ M' T6 = ((X ^ (E / 2 ^ (31 - (t + 1))) % Y : Nat) : Int) ∧ ∀ x, 64 ≤ x → M' x = M x) ∧ (∀ r, o = Sum.inr r → ∃ d' M', RV B n d' r M' ∧ RDD d' S ∧ M' T6 = ((X ^ E % Y : Nat) : Int) ∧ ∀ x, 64 ≤ x → M' x = M x) := by
            intro g11 d11 M11 c11 dd11 x11 r11 f11
            unfold zj_X11_rest_178
            obtain ⟨g12, e12, c12⟩ := c11.top_ (T6 + 1)
            rw [e12]
            refine ⟨_, rfl, fun s' hs => ?_, fun r hr => by (cases hr)⟩
            obtain rfl := Sum.inl.inj hs
            rw [ep]
            exact ⟨by omega, by dsimp only; rw [Int32.sub_eq_add_neg], _, M11, c12, rfl, dd11, x11, r11, f11⟩
          by_cases hbit : E / 2 ^ p % 2 = 1
          · rw [if_pos ((bitI1 (by omega) (by omega)).mpr hbit)]
            simp only [k10.rm, Option.bind_some]
            have hPP := Nat.mod_lt (P * P) hY0
            obtain ⟨g11, M11, Q11, R11, T11, e11, k11, hR11, hT11, mR11, f11⟩ := k10.mulMod (T := T9) (i := T6) (j := T4) (k := 68 + j) rfl (by omega) (by omega) (by omega) hj3 (by omega) (by omega) (by omega) r10 x10 (by rw [f10 _ (by omega), m.2.1 j hj]; exact hY) hY0 (by omega) (by omega) hyb ((f10 64 (by omega)).trans m.1.1) ((f10 65 (by omega)).trans m.1.2) (fun g46 => (gR g46 n 11 6).bind fun x47 => (chk g46 (ar n T6) 10).bind fun _ => (zs_X10_become g46 (ar n T6) x47).bind fun g49 => zj_X11_rest_178 n (nI E) (nI k) (ar n (68 + j)) (ar n T4) (ar n T6) (nI (T6 + 1)) g49 (nI p))
            rw [e11]
            simp only [k11.qr, k11.ck (show T6 < 317 by omega), Option.bind_some]
            obtain ⟨g12, e12, k12⟩ := k11.become (i := T6) (j := R11) (by omega) (by omega)
            rw [mR11] at k12
            rw [e12]
            simp only [Option.bind_some]
            refine fin g12 _ _ k12 dd8 (by rw [va_un (by omega), f11 T4 (by omega)]; exact x10) ?_ (fun x hx => by rw [va_un (by omega), f11 x (Or.inr hx)]; exact f10 x hx)
            rw [va_us, h2m, Nat.mul_mod, Nat.mod_mod, ← Nat.mul_mod, ← Nat.pow_succ]
            have ehalf : 2 * (E / 2 ^ (p + 1)) + 1 = E / 2 ^ p := by omega
            rw [Nat.succ_eq_add_one, ehalf]
          · rw [if_neg (fun z => hbit ((bitI1 (by omega) (by omega)).mp z))]
            refine fin g10 _ M10 k10 dd8 x10 ?_ f10
            have ehalf : 2 * (E / 2 ^ (p + 1)) = E / 2 ^ p := by omega
            rw [r10, h2m, ehalf])
      rw [hr]
      simp only [c8.rm, c8.slot hk, c8.ck (show 68 + k < 317 by omega), Option.bind_some]
      obtain ⟨g9, e9, c9⟩ := c8.become (i := 68 + k) (j := T6) (by omega) (by omega)
      rw [v8] at c9
      rw [e9]
      have hval : ((X ^ E % Y : Nat) : Int) = (S.sl i % S.sl j) ^ E % S.sl j := by
        rw [hX, hY]
        show _ = (X : Int) ^ E % (Y : Int)
        rw [← Int.natCast_pow]
        exact Int.natCast_emod (X ^ E) Y
      have hbd : ((X ^ E % Y : Nat) : Int).natAbs < B32 ^ 12 := by
        rw [Int.natAbs_natCast, ← C24]
        have := Nat.mod_lt (X ^ E) hY0
        have h24 : C16 ^ 8 ≤ C16 ^ 24 := Nat.pow_le_pow_right (by decide) (by decide)
        omega
      have m8 : RM M8 S := m.fr (fun x hx _ _ => f8 x hx)
      exact ⟨1, g9, rfl, _, ⟨_, _, c9, m8.set hk _, dd8, si.set hk hbd⟩, hsp _ _ ⟨rfl, by rw [hval]⟩⟩
    · simp only [if_neg hm] at hsp
      rw [if_neg (mdE_neg hm)]
      exact ⟨_, g, rfl, S, I3, hsp _ _ ⟨rfl, rfl⟩⟩
end Rpw
