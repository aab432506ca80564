/-! the reference's common divisor; its object holds the state -/
theorem RD.same {d : RD} {T : Nat} (hT : d.top = nI T) : (d.set2 d.quo d.rst).tt T = d := by
  show ((d.code, nI T), (d.quo, d.rst), d.2.2) = d
  rw [← hT]
  rfl
theorem C24 : C16 ^ 24 = B32 ^ 12 := C16_B 12
theorem C52 : C16 ^ 52 = B32 ^ 26 := C16_B 26
theorem sg0 (x : Nat) : sgv 0 x = (x : Int) := rfl
section Rgc
variable {B h : AH} {n : Nat} {d : RD} {M : Nat → Int} {i j k Q R T T' : Nat}
theorem RV.top_ (c : RV B n d h M) (T : Nat) : ∃ h', pV h n 11 2 (.int (nI T)) = some h' ∧ RV B n (d.tt T) h' M := c.main (k := 2) (by decide) rfl rfl
theorem RV.gcd (c : RV B n d h M) (hT : d.top = nI T) (hl : T + 5 ≤ 64) (hi : i < 317) (hj : j < 317) (j1 : j ≠ 66) (xa : (M i).natAbs < C16 ^ 52) (xb : (M j).natAbs < C16 ^ 52) (hz : M 64 = 0) :
    ∃ h' M' q r, zs_X11_gcd h n (ar n i) (ar n j) = some (ar n T, h') ∧ RV B n ((d.set2 q r).tt (T + 1)) h' M' ∧ M' T = ((Nat.gcd (M i).natAbs (M j).natAbs : Nat) : Int) ∧ ∀ x, (x < T ∨ 64 ≤ x) → x ≠ 66 → x ≠ 67 → M' x = M x := by
  unfold zs_X11_gcd
  simp only [c.rm, c.ck (show 66 < 317 by decide), Option.bind_some]
  obtain ⟨g1, e1, c1⟩ := c.become (i := 66) (by decide) hi
  rw [e1]
  simp only [c1.rm, c1.ck (show 67 < 317 by decide), Option.bind_some]
  obtain ⟨g2, e2, c2⟩ := c1.become (i := 67) (by decide) hj
  rw [va_un j1] at c2
  rw [e2]
  simp only [c2.rm, Option.bind_some]
  obtain ⟨g3, e3, c3⟩ := c2.putS (i := 66) (s := 0) (by decide) (Or.inl rfl)
  rw [va_un (show 66 ≠ 67 by decide), va_us] at c3
  rw [e3]
  simp only [c3.rm, Option.bind_some]
  obtain ⟨g4, e4, c4⟩ := c3.putS (i := 67) (s := 0) (by decide) (Or.inl rfl)
  rw [va_un (show 67 ≠ 66 by decide), va_us] at c4
  rw [e4]
  simp only [Option.bind_some]
  rw [sg0, sg0] at c4
  rw [C52] at xa xb
  obtain ⟨A, hA⟩ : ∃ A, A = (M i).natAbs := ⟨_, rfl⟩
  obtain ⟨C, hC⟩ : ∃ C, C = (M j).natAbs := ⟨_, rfl⟩
  rw [← hA] at xa
  rw [← hC] at xb
  rw [← hA, ← hC] at c4
  rw [← hA, ← hC]
  have b97 : B32 ^ 26 < C16 ^ 97 := by rw [← C52]; exact Nat.pow_lt_pow_right (by decide) (by decide)
  rw [hT]
  obtain ⟨r, hr, q, rr, M5, c5, f5, v5⟩ := iter_FU (B := fun q : AH => zb_X11_gcd_37 n (nI T) q)
    (fun t s => ∃ (q r : Value) (M' : Nat → Int) (a b : Nat), RV B n ((d.set2 q r).tt T) s M' ∧ (∀ x, (x < T ∨ 64 ≤ x) → x ≠ 66 → x ≠ 67 → M' x = M x) ∧ M' 66 = (a : Int) ∧ M' 67 = (b : Int) ∧ a < B32 ^ 26 ∧ b < B32 ^ 26 ∧ euB t a b ∧ Nat.gcd a b = Nat.gcd A C)
    (fun s => ∃ (q r : Value) (M' : Nat → Int), RV B n ((d.set2 q r).tt T) s M' ∧ (∀ x, (x < T ∨ 64 ≤ x) → x ≠ 66 → x ≠ 67 → M' x = M x) ∧ M' 66 = ((Nat.gcd A C : Nat) : Int))
    2000 (by omega) (s := g4) ⟨d.quo, d.rst, _, A, C, by rw [RD.same hT]; exact c4, fun x _ h1 h2 => by rw [va_un h2, va_un h1, va_un h2, va_un h1], by rw [va_un (by decide), va_us], va_us _ _ _, xa, xb, Or.inl ⟨rfl, xa, xb⟩, rfl⟩ (by
    rintro t g ht ⟨q, r, M1, a, b, k1, f1, m1, m2, ba, bb, eu, gg⟩
    unfold zb_X11_gcd_37
    have hend : b = 0 → a = Nat.gcd A C := fun hb => by rw [← gg, hb, Nat.gcd_zero_right]
    simp only [k1.rm, k1.ck (show 67 < 317 by decide), k1.isZero (show 67 < 317 by decide), m2, Option.bind_some]
    by_cases hb : b = 0
    · rw [if_pos (show ((b : Nat) : Int) = 0 by omega), if_neg (by decide)]
      refine ⟨_, rfl, fun s' hs => by (cases hs), fun r hr => ?_⟩
      obtain rfl := Sum.inr.inj hr
      exact ⟨q, _, M1, k1, f1, by rw [m1, hend hb]⟩
    · rw [if_neg (show ¬ ((b : Nat) : Int) = 0 by omega), if_pos (by decide)]
      have ht2 : t < 2000 := by
        rcases Nat.lt_or_ge t 2000 with z | z
        · exact z
        · exact absurd (euB_e eu (by omega)) hb
      obtain ⟨g5, M2, Q, R, T1, e5, k2, hQ, hR, hQR, hT1, mQ, mR, f2⟩ := k1.divide (T := T) (i := 66) (j := 67) rfl (by omega) (by decide) (by decide) (by omega) (by omega) (by rw [m2]; omega) (by rw [m1, Int.natAbs_natCast]; omega) ((f1 64 (by omega) (by decide) (by decide)).trans hz)
      rw [m1, m2, Int.natAbs_natCast, Int.natAbs_natCast] at mR
      rw [e5]
      simp only [k2.rm, k2.ck (show 66 < 317 by decide), Option.bind_some]
      obtain ⟨g6, e6, k3⟩ := k2.become (i := 66) (j := 67) (by decide) (by decide)
      rw [e6]
      simp only [k3.rm, k3.qr, k3.ck (show 67 < 317 by decide), Option.bind_some]
      obtain ⟨g7, e7, k4⟩ := k3.become (i := 67) (j := R) (by decide) (by omega)
      rw [e7]
      simp only [Option.bind_some]
      obtain ⟨g8, e8, k5⟩ := k4.top_ T
      rw [e8]
      refine ⟨_, rfl, fun s' hs' => ?_, fun r hr => by (cases hr)⟩
      obtain rfl := Sum.inl.inj hs'
      refine ⟨ht2, .ref (ar n Q), .ref (ar n R), _, b, a % b, k5, ?_, ?_, ?_, bb, ?_, euB_s eu (by omega), ?_⟩
      · intro x hx h1 h2
        rw [va_un h2, va_un h1, f2 x hx]
        exact f1 x hx h1 h2
      · rw [va_un (by decide), va_us, f2 67 (by omega)]
        exact m2
      · rw [va_us, va_un (by omega)]
        exact mR
      · have := Nat.mod_lt a (show 0 < b by omega)
        omega
      · rw [← gg, Nat.gcd_comm b, ← Nat.gcd_rec, Nat.gcd_comm])
  rw [hr]
  simp only [c5.rm, Option.bind_some]
  obtain ⟨g6, e6, c6⟩ := c5.copy (T := T) rfl (by omega) (show 66 < 317 by decide)
  rw [e6]
  refine ⟨g6, _, q, rr, rfl, c6, by rw [va_us]; exact v5, fun x hx h1 h2 => ?_⟩
  rw [va_un (by omega)]
  exact f5 x hx h1 h2
end Rgc
/-! the reference holds the state -/
def RM (M : Nat → Int) (S : AS) : Prop := (M 64 = 0 ∧ M 65 = 1) ∧ (∀ i, i < 24 → M (68 + i) = S.sl i) ∧ ∀ r, r < 12 → M (92 + r) = S.tp r ∧ M (104 + r) = S.bt r
def RDD (d : RD) (S : AS) : Prop := (d.tpd = nI S.tC ∧ ∀ k, k < S.tC → d.tp k = (nI (S.tB k)).toInt8.toInt32) ∧ (d.osz = nI S.oN ∧ ∀ k, k < S.oN → d.ou k = nI (S.oB k)) ∧ (d.hd = nI S.eA ∧ d.rd = nI S.eM ∧ ∀ j, j < S.eA + S.eM → d.dg j = nI (S.eD j))
def RI (B : AH) (n : Nat) (h : AH) (S : AS) : Prop := ∃ d M, RV B n d h M ∧ RM M S ∧ RDD d S ∧ SI S
section Rst
variable {B h : AH} {n : Nat} {d : RD} {M M' : Nat → Int} {S : AS} {i j k c T : Nat}
theorem RM.fr (m : RM M S) (hf : ∀ x, 64 ≤ x → x ≠ 66 → x ≠ 67 → M' x = M x) : RM M' S := ⟨⟨(hf _ (by omega) (by omega) (by omega)).trans m.1.1, (hf _ (by omega) (by omega) (by omega)).trans m.1.2⟩, fun i hi => (hf _ (by omega) (by omega) (by omega)).trans (m.2.1 i hi), fun r hr => ⟨(hf _ (by omega) (by omega) (by omega)).trans (m.2.2 r hr).1, (hf _ (by omega) (by omega) (by omega)).trans (m.2.2 r hr).2⟩⟩
theorem RM.set (m : RM M S) (hc : c < 24) (x : Int) : RM (va_up M (68 + c) x) (setS S c x) := by
  refine ⟨⟨?_, ?_⟩, fun i hi => ?_, fun r hr => ⟨?_, ?_⟩⟩
  · rw [va_un (by omega)]; exact m.1.1
  · rw [va_un (by omega)]; exact m.1.2
  · show va_up M (68 + c) x (68 + i) = va_up S.sl c x i
    by_cases e : i = c
    · subst e; rw [va_us, va_us]
    · rw [va_un (by omega), va_un e]; exact m.2.1 i hi
  · rw [va_un (by omega)]; exact (m.2.2 r hr).1
  · rw [va_un (by omega)]; exact (m.2.2 r hr).2
theorem RM.up (m : RM M S) (hT : T < 64) (x : Int) : RM (va_up M T x) S := m.fr (fun y hy _ _ => va_un (by omega))
theorem RM.lt (m : RM M S) (si : SI S) (hi : i < 24) : (M (68 + i)).natAbs < C16 ^ 24 := by
  rw [m.2.1 i hi, C24]
  exact si.1 i hi
theorem RV.slot (c : RV B n d h M) (hk : k < 24) : aR h (n + 10) 5 (nI k) = some (ar n (68 + k)) := by
  obtain ⟨σ, c, -⟩ := c
  exact c.slot hk
theorem RV.above (c : RV B n d h M) (hk : k < 12) : aR h (n + 11) 5 (nI k) = some (ar n (92 + k)) := by
  obtain ⟨σ, c, -⟩ := c
  exact c.above hk
theorem RV.below (c : RV B n d h M) (hk : k < 12) : aR h (n + 12) 5 (nI k) = some (ar n (104 + k)) := by
  obtain ⟨σ, c, -⟩ := c
  exact c.below hk
theorem RV.rests (c : RV B n d h M) (hk : k < 201) : aR h (n + 19) 5 (nI k) = some (ar n (116 + k)) := by
  obtain ⟨σ, c, -⟩ := c
  exact c.rests hk
theorem RV.clr (c : RV B n d h M) : ∃ g1 h', pV h n 11 0 (.int 0) = some g1 ∧ pV g1 n 11 2 (.int 0) = some h' ∧ RV B n (d.set1 0 0) h' M := by
  obtain ⟨g1, e1, c1⟩ := c.main (k := 0) (v := .int 0) (d' := d.set1 0 d.top) (by decide) rfl rfl
  obtain ⟨g2, e2, c2⟩ := c1.main (k := 2) (v := .int 0) (d' := d.set1 0 0) (by decide) rfl rfl
  exact ⟨g1, g2, e1, e2, c2⟩
theorem RV.slotY (c : RV B n d h M) (hi : i < 24) : ∃ h', zs_X11_isSlot h n (nI i) = some (1, h') ∧ RV B n (d.set1 0 0) h' M := by
  unfold zs_X11_isSlot
  obtain ⟨g1, g2, e1, e2, c2⟩ := c.clr
  rw [e1]
  simp only [Option.bind_some]
  rw [e2]
  simp only [Option.bind_some]
  rw [if_neg (nI_pos (by omega)), if_neg (show ¬ (24 : Int32) ≤ nI i from nI_ge (b := 24) hi (by decide))]
  exact ⟨g2, rfl, c2⟩
theorem RV.slotN (c : RV B n d h M) {x : Int32} (hx : ixI 24 x = none) : ∃ h', zs_X11_isSlot h n x = some (0, h') ∧ RV B n (d.set1 0 0) h' M := by
  unfold zs_X11_isSlot
  obtain ⟨g1, g2, e1, e2, c2⟩ := c.clr
  rw [e1]
  simp only [Option.bind_some]
  rw [e2]
  simp only [Option.bind_some]
  refine ⟨g2, ?_, c2⟩
  by_cases h0 : x < 0
  · rw [if_pos h0]
  · rw [if_neg h0, if_pos]
    rcases ixI_none hx with h1 | h1
    · exact absurd (i32_lt0.mpr h1) h0
    · exact i32_le.mpr h1
theorem RV.ratioY (c : RV B n d h M) (hi : i < 12) : ∃ h', zs_X11_isRatio h n (nI i) = some (1, h') ∧ RV B n (d.set1 0 0) h' M := by
  unfold zs_X11_isRatio
  obtain ⟨g1, g2, e1, e2, c2⟩ := c.clr
  rw [e1]
  simp only [Option.bind_some]
  rw [e2]
  simp only [Option.bind_some]
  rw [if_neg (nI_pos (by omega)), if_neg (show ¬ (12 : Int32) ≤ nI i from nI_ge (b := 12) hi (by decide))]
  exact ⟨g2, rfl, c2⟩
theorem RV.ratioN (c : RV B n d h M) {x : Int32} (hx : ixI 12 x = none) : ∃ h', zs_X11_isRatio h n x = some (0, h') ∧ RV B n (d.set1 0 0) h' M := by
  unfold zs_X11_isRatio
  obtain ⟨g1, g2, e1, e2, c2⟩ := c.clr
  rw [e1]
  simp only [Option.bind_some]
  rw [e2]
  simp only [Option.bind_some]
  refine ⟨g2, ?_, c2⟩
  by_cases h0 : x < 0
  · rw [if_pos h0]
  · rw [if_neg h0, if_pos]
    rcases ixI_none hx with h1 | h1
    · exact absurd (i32_lt0.mpr h1) h0
    · exact i32_le.mpr h1
theorem bl384 {v : Nat} : bl v ≤ 384 ↔ v < B32 ^ 12 := by
  have e : B32 ^ 12 = 2 ^ 384 := B32_two 12
  refine ⟨fun h => ?_, fun h => bl_le (by rw [← e]; exact h)⟩
  rw [e]
  exact Nat.lt_of_lt_of_le (bl_lt v) (Nat.pow_le_pow_right (by decide) h)
theorem bl1600 {v : Nat} (h : cs v ≤ 100) : bl v ≤ 1600 := by
  unfold cs at h
  omega
theorem RV.fits (c : RV B n d h M) (hi : i < 317) : zs_X11_fits h (ar n i) = some (if (M i).natAbs < B32 ^ 12 then 1 else 0) := by
  unfold zs_X11_fits
  simp only [c.ck hi, c.bits hi, Option.bind_some]
  have hb := bl1600 (c.le100 hi)
  by_cases hx : (M i).natAbs < B32 ^ 12
  · rw [if_pos hx, if_neg (show ¬ (384 : Int32) < nI (bl (M i).natAbs) from nI_nlt (a := 384) (bl384.mpr hx) (by decide))]
  · rw [if_neg hx, if_pos (show (384 : Int32) < nI (bl (M i).natAbs) from nI_lt (a := 384) (by have : ¬ bl (M i).natAbs ≤ 384 := fun z => hx (bl384.mp z); omega) (by omega))]
theorem RV.keep (c' : RV B n d h M) (m : RM M S) (dd : RDD d S) (s : SI S) (hk : k < 317) (hc : c < 24) : ∃ r h' S', zs_X11_keep h n (nI c) (ar n k) = some (r, h') ∧ RI B n h' S' ∧ kp S c (M k) r S' := by
  unfold zs_X11_keep
  simp only [c'.fits hk, Option.bind_some]
  by_cases hx : (M k).natAbs < B32 ^ 12
  · rw [if_pos hx, if_neg (by decide)]
    simp only [c'.rm, c'.slot hc, c'.ck (show 68 + c < 317 by omega), Option.bind_some]
    obtain ⟨g1, e1, c1⟩ := c'.become (i := 68 + c) (j := k) (by omega) hk
    rw [e1]
    exact ⟨1, g1, _, rfl, ⟨d, _, c1, m.set hc _, dd, s.set hc hx⟩, Or.inl ⟨hx, rfl, rfl⟩⟩
  · rw [if_neg hx, if_pos (by decide)]
    exact ⟨-5, h, S, rfl, ⟨d, M, c', m, dd, s⟩, Or.inr ⟨hx, rfl, rfl⟩⟩
end Rst
