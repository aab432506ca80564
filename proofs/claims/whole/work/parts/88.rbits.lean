/-! the reference: bits, bit, ones -/
def bopN (w p q : Nat) : Nat := if w = 0 then p &&& q else if w = 1 then p ||| q else if w = 2 then p ^^^ q else p &&& (65535 - q)
theorem bopN_lt {w p q : Nat} (hp : p < 65536) (hq : q < 65536) : bopN w p q < 65536 := by
  unfold bopN
  by_cases h0 : w = 0
  · rw [if_pos h0]
    exact Nat.lt_of_le_of_lt Nat.and_le_left hp
  · rw [if_neg h0]
    by_cases h1 : w = 1
    · rw [if_pos h1]
      exact Nat.or_lt_two_pow (n := 16) hp hq
    · rw [if_neg h1]
      by_cases h2 : w = 2
      · rw [if_pos h2]
        exact Nat.xor_lt_two_pow (n := 16) hp hq
      · rw [if_neg h2]
        exact Nat.lt_of_le_of_lt Nat.and_le_left hp
theorem bopN_tb {w p q r : Nat} (hw : w < 4) (hq : q < 65536) (hr : r < 16) : (bopN w p q).testBit r = bop w (p.testBit r) (q.testBit r) := by
  unfold bopN bop
  rcases (show w = 0 ∨ w = 1 ∨ w = 2 ∨ w = 3 by omega) with h | h | h | h
  · subst h
    rw [if_pos rfl, if_pos rfl, Nat.testBit_and]
  · subst h
    rw [if_neg (by decide), if_pos rfl, if_neg (by decide), if_pos rfl, Nat.testBit_or]
  · subst h
    rw [if_neg (by decide), if_neg (by decide), if_pos rfl, if_neg (by decide), if_neg (by decide), if_pos rfl, Nat.testBit_xor]
  · subst h
    rw [if_neg (by decide), if_neg (by decide), if_neg (by decide), if_neg (by decide), if_neg (by decide), if_neg (by decide), Nat.testBit_and]
    have e : 65535 - q = 2 ^ 16 - (q + 1) := by
      show _ = 65536 - _
      omega
    rw [e, Nat.testBit_two_pow_sub_succ (show q < 2 ^ 16 from hq), decide_eq_true hr]
    rfl
theorem unW_lt {x : Int} (hx : x.natAbs < B32 ^ 12) : unW x < 2 ^ 384 := by
  have e : B32 ^ 12 = 2 ^ 384 := B32_two 12
  unfold unW
  split <;> omega
theorem twS63 {x : Int} (hx : x.natAbs < B32 ^ 12) : tw x 63 = if x < 0 then 65535 else 0 := by
  have h0 : PX (unW x) 63 = 0 := by
    refine PX_hi (cs_le ?_)
    rw [C16_two]
    exact Nat.lt_of_lt_of_le (unW_lt hx) (Nat.pow_le_pow_right (by decide) (by decide))
  unfold tw
  rw [h0]
theorem bop_63 : ∀ w, w < 4 → ∀ p q : Bool, bopN w (if p then 65535 else 0) (if q then 65535 else 0) = if bop w p q then 65535 else 0 := by decide
section Rbb
variable {B h : AH} {n : Nat} {d : RD} {M : Nat → Int} {S : AS} {i j k T : Nat}
theorem RV.bitsLoop (c : RV B n d h M) {w : Nat} (hw : w < 4) {p q : Nat → Nat} (hp : ∀ y, y < 64 → d.tx y = nI (p y) ∧ p y < 65536) (hq : ∀ y, y < 64 → d.ty y = nI (q y) ∧ q y < 65536) (w4 : Int32) :
    ∃ (r : AH) (f : Nat → Int32), iter (fun x : AH × Int32 => zb_X11_bits_71 n (nI w) w4 (n + 15) (n + 16) x.1 x.2) FU (h, (0 : Int32)) = some r ∧ RV B n (d.set6 f d.ty) r M ∧ ∀ y, y < 64 → f y = nI (bopN w (p y) (q y)) := by
  obtain ⟨r, hr, f, c1, hf⟩ := iter_FU (B := fun x : AH × Int32 => zb_X11_bits_71 n (nI w) w4 (n + 15) (n + 16) x.1 x.2)
    (fun t z => z.2 = nI t ∧ ∃ f, RV B n (d.set6 f d.ty) z.1 M ∧ (∀ y, y < t → f y = nI (bopN w (p y) (q y))) ∧ ∀ y, t ≤ y → y < 64 → f y = nI (p y))
    (fun r => ∃ f, RV B n (d.set6 f d.ty) r M ∧ ∀ y, y < 64 → f y = nI (bopN w (p y) (q y)))
    64 (by omega) (s := (h, (0 : Int32))) ⟨rfl, d.tx, c, fun y hy => absurd hy (Nat.not_lt_zero y), fun y _ hy => (hp y hy).1⟩ (by
    rintro t ⟨g, z⟩ ht ⟨hz, f, k1, hf, hg⟩
    dsimp only at hz k1 ⊢
    subst hz
    unfold zb_X11_bits_71
    by_cases h4 : t < 64
    · rw [if_neg (show ¬ (64 : Int32) ≤ nI t from nI_ge (b := 64) h4 (by decide))]
      have ex : aI g (n + 15) 0 (nI t) = some (nI (p t)) := (k1.getX h4).trans (congrArg some (hg t (Nat.le_refl t) h4))
      have ey : aI g (n + 16) 0 (nI t) = some (nI (q t)) := (k1.getY h4).trans (congrArg some (hq t h4).1)
      simp only [ex, ey, Option.bind_some]
      have fin : ∀ x : Int32, x = nI (bopN w (p t) (q t)) → ∃ o, zj_X11_bits_152 n (nI w) w4 (n + 15) (n + 16) g (nI t) x (nI t) (n + 15) = some o ∧ (∀ s', o = Sum.inl s' → t < 64 ∧ s'.2 = nI (t + 1) ∧ ∃ f, RV B n (d.set6 f d.ty) s'.1 M ∧ (∀ y, y < t + 1 → f y = nI (bopN w (p y) (q y))) ∧ ∀ y, t + 1 ≤ y → y < 64 → f y = nI (p y)) ∧ (∀ r, o = Sum.inr r → ∃ f, RV B n (d.set6 f d.ty) r M ∧ ∀ y, y < 64 → f y = nI (bopN w (p y) (q y))) := by
        intro x hx
        unfold zj_X11_bits_152
        obtain ⟨g2, e2, k2⟩ := k1.putX h4 x
        rw [e2]
        refine ⟨_, rfl, fun s' hs' => ?_, fun r hr => by (cases hr)⟩
        obtain rfl := Sum.inl.inj hs'
        refine ⟨h4, nI_1 t, upd f t x, k2, fun y hy => ?_, fun y h5 h6 => ?_⟩
        · by_cases e : y = t
          · subst e; rw [pk_us]; exact hx
          · rw [pk_un e]; exact hf y (by omega)
        · rw [pk_un (by omega)]; exact hg y (by omega) h6
      unfold bopN at fin
      rcases (show w = 0 ∨ w = 1 ∨ w = 2 ∨ w = 3 by omega) with e | e | e | e
      · subst e
        rw [if_pos (by decide)]
        exact fin _ (by rw [if_pos rfl]; exact nx_and _ _)
      · subst e
        rw [if_neg (by decide), if_pos (by decide)]
        exact fin _ (by rw [if_neg (by decide), if_pos rfl]; exact nx_or _ _)
      · subst e
        rw [if_neg (by decide), if_neg (by decide), if_pos (by decide)]
        exact fin _ (by rw [if_neg (by decide), if_neg (by decide), if_pos rfl]; exact nx_xor _ _)
      · subst e
        rw [if_neg (by decide), if_neg (by decide), if_neg (by decide)]
        have e5 : (65535 : Int32) - nI (q t) = nI (65535 - q t) := pk_sub (a := 65535) (by have := (hq t h4).2; omega)
        rw [e5]
        exact fin _ (by rw [if_neg (by decide), if_neg (by decide), if_neg (by decide)]; exact nx_and _ _)
    · rw [if_pos (show (64 : Int32) ≤ nI t from nI_le (a := 64) (by omega) (by omega))]
      refine ⟨_, rfl, fun s' hs => by (cases hs), fun r hr => ?_⟩
      obtain rfl := Sum.inr.inj hr
      exact ⟨f, k1, fun y hy => hf y (by omega)⟩)
  exact ⟨r, f, hr, c1, hf⟩
theorem spb_bits {how a b z : Int32} (hb : ixI 4 how = none ∨ ix3 a b z = none) : Sp_bits S how a b z (-1) S := by
  unfold Sp_bits
  rcases hb with hb | hb
  · rw [hb]; exact ⟨rfl, rfl⟩
  · rw [hb]; cases ixI 4 how <;> exact ⟨rfl, rfl⟩
theorem r_bits (I : RI B n h S) (how a b z : Int32) : ∃ r h', zs_X11_bits h n how a b z = some (r, h') ∧ ∃ S', RI B n h' S' ∧ Sp_bits S how a b z r S' := by
  obtain ⟨d, M, c, m, dd, si⟩ := I
  unfold zs_X11_bits
  refine c.slot1 (fun g h1 c1 => ⟨S, ⟨_, M, c1, m, dd, si⟩, spb_bits (Or.inr (ix3_n (Or.inl h1)))⟩) (fun i g h1 hi ha c1 => ?_)
  dsimp only
  refine c1.slot1 (fun g h2 c2 => ⟨S, ⟨_, M, c2, m, dd, si⟩, spb_bits (Or.inr (ix3_n (Or.inr (Or.inl h2))))⟩) (fun j g h2 hj hb c2 => ?_)
  dsimp only
  refine c2.slot1 (fun g h3 c3 => ⟨S, ⟨_, M, c3, m, dd, si⟩, spb_bits (Or.inr (ix3_n (Or.inr (Or.inr h3))))⟩) (fun k g h3 hk hc c3 => ?_)
  subst ha
  subst hb
  subst hc
  dsimp only
  have I3 : RI B n g S := ⟨_, M, c3, m, dd, si⟩
  cases h4 : ixI 4 how with
  | none =>
    rcases ixI_rng (N := 3) (by decide) h4 with h5 | ⟨h5, h6, h7⟩
    · rw [if_pos h5]; exact ⟨-1, g, rfl, S, I3, spb_bits (Or.inl h4)⟩
    · rw [if_neg h5, if_neg (show ¬ how ≤ (3 : Int32) from h7)]; exact ⟨-1, g, rfl, S, I3, spb_bits (Or.inl h4)⟩
  | some w =>
    obtain ⟨rfl, hw⟩ := ixI_some h4
    rw [if_neg (nI_pos (by omega)), if_pos (show nI w ≤ (3 : Int32) from nI_le (b := 3) (by omega) (by decide))]
    have hi3 : 68 + i < 317 := by omega
    have hj3 : 68 + j < 317 := by omega
    have h2464 : C16 ^ 24 ≤ C16 ^ 64 := Nat.pow_le_pow_right (by decide) (by decide)
    have bi := m.lt si hi
    have bj := m.lt si hj
    simp only [c3.rm, c3.slot hi, Option.bind_some]
    obtain ⟨g4, d4, M4, f4, T4, e4, c4, hd4, hT4, hf4, fr4⟩ := c3.twosX (T := 0) (i := 68 + i) rfl (by decide) hi3 (by omega) (by omega) m.1.2
    rw [m.2.1 i hi] at hf4
    rw [e4]
    simp only [c4.rm, c4.slot hj, Option.bind_some]
    have m4 : RM M4 S := m.fr (fun x hx _ _ => fr4 x (Or.inr hx))
    have m4j : M4 (68 + j) = S.sl j := m4.2.1 j hj
    obtain ⟨g5, d5, M5, f5, T5, e5, c5, hd5, hT5, hf5, fr5⟩ := c4.twosY (T := T4) (i := 68 + j) hT4.2.2 (by omega) hj3 (by omega) (by rw [m4j, ← m.2.1 j hj]; omega) m4.1.2
    rw [m4j] at hf5
    rw [e5]
    simp only [Option.bind_some]
    have m5 : RM M5 S := m4.fr (fun x hx _ _ => fr5 x (Or.inr hx))
    have etx : (d5.set6 d5.tx f5).tx = f4 := by
      rcases hd5 with rfl | rfl
      · rfl
      · rfl
    have dd5 : RDD (d5.set6 d5.tx f5) S := by
      rcases hd5 with rfl | rfl
      · rcases hd4 with rfl | rfl
        · exact dd
        · exact dd
      · rcases hd4 with rfl | rfl
        · exact dd
        · exact dd
    obtain ⟨D, hD⟩ : ∃ D, D = d5.set6 d5.tx f5 := ⟨_, rfl⟩
    have ety : (d5.set6 d5.tx f5).ty = f5 := rfl
    have etop : (d5.set6 d5.tx f5).top = nI T5 := hT5.2.2
    rw [← hD] at c5 etx dd5 ety etop
    obtain ⟨r6, f6, e6, c6, hf6⟩ := c5.bitsLoop hw (p := fun y => tw (S.sl i) y) (q := fun y => tw (S.sl j) y) (fun y hy => by rw [etx]; exact ⟨hf4 y hy, tw_lt _ _⟩) (fun y hy => by rw [ety]; exact ⟨hf5 y hy, tw_lt _ _⟩) (nI k)
    rw [e6]
    simp only [c6.rm, Option.bind_some]
    have xi := si.1 i hi
    have xj := si.1 j hj
    obtain ⟨sg, hsg⟩ : ∃ sg, sg = bop w (decide (S.sl i < 0)) (decide (S.sl j < 0)) := ⟨_, rfl⟩
    obtain ⟨z, hz⟩ : ∃ z : Nat → Nat, z = fun y => bopN w (tw (S.sl i) y) (tw (S.sl j) y) := ⟨_, rfl⟩
    have hzl : ∀ y, z y < 65536 := fun y => by rw [hz]; exact bopN_lt (tw_lt _ _) (tw_lt _ _)
    have h63 : z 63 = if sg then 65535 else 0 := by
      rw [hz]
      dsimp only
      rw [twS63 xi, twS63 xj, hsg, ← bop_63 w hw]
      by_cases p1 : S.sl i < 0
      · by_cases p2 : S.sl j < 0
        · simp only [p1, p2, decide_true, if_true]
        · simp only [p1, p2, decide_true, decide_false, if_true, if_false]; rfl
      · by_cases p2 : S.sl j < 0
        · simp only [p1, p2, decide_true, decide_false, if_true, if_false]; rfl
        · simp only [p1, p2, decide_false, if_false]; rfl
    obtain ⟨g7, M7, W, T7, e7, c7, hW, v7, fr7⟩ := c6.fromTwos (T := T5) (z := z) (s := sg) etop (by omega) (fun y hy => ⟨(hf6 y hy).trans (by rw [hz]), hzl y⟩) h63 m5.1.2
    rw [e7]
    simp only [c7.rm, Option.bind_some]
    obtain ⟨r, h', S', e8, I8, k8⟩ := c7.keep (m5.fr (fun x hx _ _ => fr7 x (Or.inr hx))) dd5 si (k := W) (by omega) hk
    rw [v7] at k8
    rw [e8]
    refine ⟨r, h', rfl, S', I8, ?_⟩
    unfold Sp_bits
    rw [h4, ix3_y h1 h2 h3]
    refine ⟨ftV sg z, fun x => ?_, k8⟩
    rw [ft_bit (fun y _ => hzl y)]
    by_cases hx : x < 1024
    · rw [if_pos hx, hz]
      dsimp only
      rw [bopN_tb hw (tw_lt _ _) (by omega), tw_tb _ _ (by omega), tw_tb _ _ (by omega), show 16 * (x / 16) + x % 16 = x by omega]
    · rw [if_neg hx, hsg, bI_sg xi x (by omega), bI_sg xj x (by omega)]
theorem r_bit (I : RI B n h S) (a x : Int32) : ∃ r h', zs_X11_bit h n a x = some (r, h') ∧ RI B n h' S ∧ Sp_bit S a x r := by
  obtain ⟨d, M, c, m, dd, si⟩ := I
  unfold zs_X11_bit
  refine c.slot1 (fun g h1 c1 => ⟨⟨_, M, c1, m, dd, si⟩, by unfold Sp_bit; rw [h1]⟩) (fun i g h1 hi ha c1 => ?_)
  subst ha
  dsimp only
  have I1 : RI B n g S := ⟨_, M, c1, m, dd, si⟩
  have hsp : ∀ r, (if x.toInt < 0 then r = -1 else r = if bI (S.sl i) x.toInt.toNat then 1 else 0) → Sp_bit S (nI i) x r := fun r hr => by unfold Sp_bit; rw [h1]; exact hr
  by_cases h0 : x < 0
  · have h0' := i32_lt0.mp h0
    rw [if_neg (fun q : (0 : Int32) ≤ x => by have := i32_le.mp q; have e : (0 : Int32).toInt = 0 := rfl; omega)]
    exact ⟨-1, g, rfl, I1, hsp _ (by rw [if_pos h0'])⟩
  · obtain ⟨k, hk, rfl⟩ := nI_of h0
    simp only [nI_toInt hk, if_neg (show ¬ (k : Int) < 0 by omega)] at hsp
    rw [if_pos (nI_pos' hk)]
    have hi3 : 68 + i < 317 := by omega
    have h2464 : C16 ^ 24 ≤ C16 ^ 64 := Nat.pow_le_pow_right (by decide) (by decide)
    have bi := m.lt si hi
    simp only [c1.rm, c1.slot hi, Option.bind_some]
    obtain ⟨g4, d4, M4, f4, T4, e4, c4, hd4, hT4, hf4, fr4⟩ := c1.twosX (T := 0) (i := 68 + i) rfl (by decide) hi3 (by omega) (by omega) m.1.2
    rw [m.2.1 i hi] at hf4
    rw [e4]
    simp only [Option.bind_some, lt_]
    obtain ⟨w, hw⟩ : ∃ w, w = if 1023 < k then 1023 else k := ⟨_, rfl⟩
    have hw1 : w ≤ 1023 := by rw [hw]; split <;> omega
    have ew : (if (1023 : Int32) < nI k then (1023 : Int32) else nI k) = nI w := by
      rw [hw]
      by_cases hc : 1023 < k
      · rw [if_pos (show (1023 : Int32) < nI k from nI_lt (a := 1023) hc hk), if_pos hc]
        rfl
      · rw [if_neg (show ¬ (1023 : Int32) < nI k from nI_nlt (a := 1023) (by omega) (by decide)), if_neg hc]
    have ed : nI w / (16 : Int32) = nI (w / 16) := pk_div (d := 16) (by omega) (by decide) (by decide)
    have er : nI w - nI (w / 16) * (16 : Int32) = nI (w % 16) := by
      have := pk_rem (a := w) (d := 16) (by omega) (by decide) (by decide)
      rw [show nI 16 = (16 : Int32) from rfl, ed] at this
      exact this
    have egx : aI g4 (n + 15) 0 (nI (w / 16)) = some (nI (tw (S.sl i) (w / 16))) := (c4.getX (show w / 16 < 64 by omega)).trans (congrArg some (hf4 _ (by omega)))
    rw [ew, ed, er, egx]
    simp only [Option.bind_some]
    have htl := tw_lt (S.sl i) (w / 16)
    rw [bitI (by omega) (by omega)]
    have dd4 : RDD (d4.set6 f4 d4.ty) S := by
      rcases hd4 with rfl | rfl
      · exact dd
      · exact dd
    refine ⟨_, g4, rfl, ⟨_, M4, c4, m.fr (fun y hy _ _ => fr4 y (Or.inr hy)), dd4, si⟩, hsp _ ?_⟩
    have hb1 := tw_tb (S.sl i) (w / 16) (r := w % 16) (by omega)
    rw [show 16 * (w / 16) + w % 16 = w by omega, Nat.testBit_eq_decide_div_mod_eq] at hb1
    have hb2 : bI (S.sl i) (Int.toNat (k : Int)) = bI (S.sl i) w := by
      rw [hw, Int.toNat_natCast]
      by_cases hc : 1023 < k
      · rw [if_pos hc, bI_sg (si.1 i hi) k (by omega), bI_sg (si.1 i hi) 1023 (by omega)]
      · rw [if_neg hc]
    rw [hb2, ← hb1]
    rcases Nat.mod_two_eq_zero_or_one (tw (S.sl i) (w / 16) / 2 ^ (w % 16)) with e | e
    · rw [e]; rfl
    · rw [e]; rfl
theorem bc32 (h : AH) {x : Nat} (hx : x < 2 ^ 32) : zs_J6_bitCount_0f7a4 h (nI x) = some (nI (pcN 32 x)) := by
  unfold zs_J6_bitCount_0f7a4
  simp only [lt_]
  have c1 : (1431655765 : Int32) = nI 1431655765 := rfl
  have c3 : (858993459 : Int32) = nI 858993459 := rfl
  have cF : (252645135 : Int32) = nI 252645135 := rfl
  have s1 : ∀ y, y < 2 ^ 32 → ((nI y).toUInt32 >>> (((1 : Int32)).toUInt32 &&& Int32.toUInt32 31)).toInt32 = nI (y / 2) := fun y hy => pk_ushrN hy 1 1 (by decide)
  have s2 : ∀ y, y < 2 ^ 32 → ((nI y).toUInt32 >>> (((2 : Int32)).toUInt32 &&& Int32.toUInt32 31)).toInt32 = nI (y / 4) := fun y hy => pk_ushrN hy 2 2 (by decide)
  have s4 : ∀ y, y < 2 ^ 32 → ((nI y).toUInt32 >>> (((4 : Int32)).toUInt32 &&& Int32.toUInt32 31)).toInt32 = nI (y / 16) := fun y hy => pk_ushrN hy 4 4 (by decide)
  have s8 : ∀ y, y < 2 ^ 32 → ((nI y).toUInt32 >>> (((8 : Int32)).toUInt32 &&& Int32.toUInt32 31)).toInt32 = nI (y / 256) := fun y hy => pk_ushrN hy 8 8 (by decide)
  have s16 : ∀ y, y < 2 ^ 32 → ((nI y).toUInt32 >>> (((16 : Int32)).toUInt32 &&& Int32.toUInt32 31)).toInt32 = nI (y / 65536) := fun y hy => pk_ushrN hy 16 16 (by decide)
  have hm := M4v
  rw [s1 x hx, c1, c3, cF, nx_and, ← hm.1, ← hm.2.1, ← hm.2.2]
  have hle : x / 2 &&& M5 4 ≤ x := Nat.le_trans Nat.and_le_left (Nat.div_le_self _ _)
  rw [pk_sub hle]
  have d1 : x - (x / 2 &&& M5 4) = sw1 4 x := rfl
  rw [d1]
  have h1 : sw1 4 x < 2 ^ 32 := by rw [← d1]; omega
  have hsw := sw32 hx
  generalize sw1 4 x = y at h1 hsw
  rw [s2 y h1, nx_and, nx_and, nI_add]
  have e2 : (y &&& M3 4) + (y / 4 &&& M3 4) = sw2 4 y := rfl
  rw [e2]
  have h2' : sw2 4 y ≤ 2 * M3 4 := by
    unfold sw2
    have a1 : y &&& M3 4 ≤ M3 4 := Nat.and_le_right
    have a2 : y / 4 &&& M3 4 ≤ M3 4 := Nat.and_le_right
    omega
  rw [hm.2.1] at h2'
  generalize sw2 4 y = z at h2' hsw
  rw [s4 z (by omega), nI_add, nx_and]
  have e3 : (z + z / 16) &&& MF 4 = sw3 4 z := rfl
  rw [e3, hsw]
  have p1 := pcN_le (x % 256) 8
  have p2 := pcN_le (x / 256 % 256) 8
  have p3 := pcN_le (x / 65536 % 256) 8
  have p4 := pcN_le (x / 16777216 % 256) 8
  rw [pc32 x]
  generalize pcN 8 (x % 256) = b0 at *
  generalize pcN 8 (x / 256 % 256) = b1 at *
  generalize pcN 8 (x / 65536 % 256) = b2 at *
  generalize pcN 8 (x / 16777216 % 256) = b3 at *
  have q8 : (b0 + 256 * b1 + 65536 * b2 + 16777216 * b3) / 256 = b1 + 256 * b2 + 65536 * b3 := by omega
  have q16 : (b0 + 256 * b1 + 65536 * b2 + 16777216 * b3 + (b1 + 256 * b2 + 65536 * b3)) / 65536 = b2 + b3 + 256 * b3 := by omega
  rw [s8 _ (by omega), q8, nI_add, s16 _ (by omega), q16, nI_add, pk_andN (by omega) 6 (by decide)]
  congr 2
  show _ % 64 = _
  omega
theorem bc16 (h : AH) {x : Nat} (hx : x < 65536) : zs_J6_bitCount_0f7a4 h (nI x) = some (nI (pcN 16 x)) := by
  rw [bc32 h (by omega), show 32 = 16 + 16 from rfl, pcN_hi (show x < 2 ^ 16 from hx)]
theorem r_ones (I : RI B n h S) (a : Int32) : ∃ r h', zs_X11_ones h n a = some (r, h') ∧ RI B n h' S ∧ Sp_ones S a r := by
  obtain ⟨d, M, c, m, dd, si⟩ := I
  unfold zs_X11_ones
  refine c.slot1 (fun g h1 c1 => ⟨⟨_, M, c1, m, dd, si⟩, by unfold Sp_ones; rw [h1]⟩) (fun i g h1 hi ha c1 => ?_)
  subst ha
  dsimp only
  have hi3 : 68 + i < 317 := by omega
  have h2464 : C16 ^ 24 ≤ C16 ^ 64 := Nat.pow_le_pow_right (by decide) (by decide)
  have bi := m.lt si hi
  simp only [c1.rm, c1.slot hi, Option.bind_some]
  obtain ⟨g4, d4, M4, f4, T4, e4, c4, hd4, hT4, hf4, fr4⟩ := c1.twosX (T := 0) (i := 68 + i) rfl (by decide) hi3 (by omega) (by omega) m.1.2
  rw [m.2.1 i hi] at hf4
  rw [e4]
  simp only [Option.bind_some]
  have m4 : RM M4 S := m.fr (fun y hy _ _ => fr4 y (Or.inr hy))
  obtain ⟨r, hr, hz⟩ := iter_FU (B := fun q : Int32 × Int32 => zb_X11_ones_30 g4 n (nI i) (n + 15) q.1 q.2)
    (fun t s => s.2 = nI t ∧ s.1 = nI (pcN (16 * t) (unW (S.sl i))))
    (fun r => r = nI (pcN 1024 (unW (S.sl i))))
    64 (by omega) (s := ((0 : Int32), (0 : Int32))) ⟨rfl, rfl⟩ (by
    rintro t ⟨v, w⟩ ht ⟨hw, hv⟩
    dsimp only at hw hv ⊢
    subst hw
    subst hv
    unfold zb_X11_ones_30
    by_cases h4 : t < 64
    · rw [if_neg (show ¬ (64 : Int32) ≤ nI t from nI_ge (b := 64) h4 (by decide))]
      have egx : aI g4 (n + 15) 0 (nI t) = some (nI (tw (S.sl i) t)) := (c4.getX h4).trans (congrArg some (hf4 t h4))
      simp only [c4.rm, c4.slot hi, c4.sg hi3, m4.2.1 i hi, egx, Option.bind_some]
      have hpx := PX_31 (unW (S.sl i)) t
      have fin : ∀ x : Int32, x = nI (PX (unW (S.sl i)) t) → ∃ o, zj_X11_ones_64 g4 n (nI i) (n + 15) (nI t) x (nI (pcN (16 * t) (unW (S.sl i)))) = some o ∧ (∀ s', o = Sum.inl s' → t < 64 ∧ s'.2 = nI (t + 1) ∧ s'.1 = nI (pcN (16 * (t + 1)) (unW (S.sl i)))) ∧ (∀ r, o = Sum.inr r → r = nI (pcN 1024 (unW (S.sl i)))) := by
        intro x hx
        subst hx
        unfold zj_X11_ones_64
        rw [bc16 g4 hpx]
        simp only [Option.bind_some, lt_]
        refine ⟨_, rfl, fun s' hs' => ?_, fun r hr => by (cases hr)⟩
        obtain rfl := Sum.inl.inj hs'
        refine ⟨h4, nI_1 t, ?_⟩
        rw [nI_add, show 16 * (t + 1) = 16 * t + 16 by omega, pcN_add]
        unfold PX
        rw [C16_two, show C16 = 2 ^ 16 from rfl, pcN_mod]
      unfold tw
      by_cases hn : S.sl i < 0
      · rw [if_pos hn, if_neg (by decide), if_pos hn]
        refine fin _ ?_
        have e5 := pk_sub (a := 65535) (b := 65535 - PX (unW (S.sl i)) t) (by omega)
        rw [show 65535 - (65535 - PX (unW (S.sl i)) t) = PX (unW (S.sl i)) t by omega] at e5
        exact e5
      · rw [if_neg hn, if_pos (by decide), if_neg hn]
        exact fin _ rfl
    · have e : t = 64 := by omega
      subst e
      rw [if_pos (by decide)]
      refine ⟨_, rfl, fun s' hs => by (cases hs), fun r hr => ?_⟩
      obtain rfl := Sum.inr.inj hr
      rfl)
  rw [hr, hz]
  have dd4 : RDD (d4.set6 f4 d4.ty) S := by
    rcases hd4 with rfl | rfl
    · exact dd
    · exact dd
  refine ⟨_, g4, rfl, ⟨_, M4, c4, m4, dd4, si⟩, ?_⟩
  unfold Sp_ones
  rw [h1]
  have hu := unW_lt (si.1 i hi)
  show nI (pcN 1024 (unW (S.sl i))) = nI (pcN 416 (unW (S.sl i)))
  rw [show 1024 = 384 + 640 from rfl, pcN_hi hu, show 416 = 384 + 32 from rfl, pcN_hi hu]
end Rbb
