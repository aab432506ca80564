/-! bits of two rows; back to a whole -/
theorem uN_andN (x y : Int64) : uN (x &&& y) = uN x &&& uN y := by
  have h := wb_and (uN_lt x) (uN_lt y)
  rw [lN_uN, lN_uN] at h
  rw [h]
  exact uN_lN (Nat.lt_of_le_of_lt Nat.and_le_left (uN_lt x))
theorem uN_xorN (x y : Int64) : uN (x ^^^ y) = uN x ^^^ uN y := by
  have h := lN_xor (uN x) (uN y)
  rw [lN_uN, lN_uN] at h
  rw [h]
  exact uN_lN (Nat.xor_lt_two_pow (n := 64) (uN_lt x) (uN_lt y))
theorem uN_m1 : uN (-1 : Int64) = 2 ^ 64 - 1 := by decide
section Bts
variable {B h : AH} {n : Nat} {d : DS} {M : Nat → Int} {i k : Nat} {β γ : Nat → Bool}
theorem opn0 {x y : Int64} (hx : uN x < B32) : uN (x &&& y) < B32 ∧ ∀ r, r < 32 → (uN (x &&& y)).testBit r = bop 0 ((uN x).testBit r) ((uN y).testBit r) := by
  rw [uN_andN]
  exact ⟨Nat.lt_of_le_of_lt Nat.and_le_left hx, fun r _ => by rw [Nat.testBit_and]; rfl⟩
theorem opn1 {x y : Int64} (hx : uN x < B32) (hy : uN y < B32) : uN (x ||| y) < B32 ∧ ∀ r, r < 32 → (uN (x ||| y)).testBit r = bop 1 ((uN x).testBit r) ((uN y).testBit r) := by
  rw [uN_orN]
  exact ⟨Nat.or_lt_two_pow (n := 32) hx hy, fun r _ => by rw [Nat.testBit_or]; rfl⟩
theorem opn2 {x y : Int64} (hx : uN x < B32) (hy : uN y < B32) : uN (x ^^^ y) < B32 ∧ ∀ r, r < 32 → (uN (x ^^^ y)).testBit r = bop 2 ((uN x).testBit r) ((uN y).testBit r) := by
  rw [uN_xorN]
  exact ⟨Nat.xor_lt_two_pow (n := 32) hx hy, fun r _ => by rw [Nat.testBit_xor]; rfl⟩
theorem opn3 {x y : Int64} (hx : uN x < B32) : uN (x &&& (y ^^^ (-1 : Int64))) < B32 ∧ ∀ r, r < 32 → (uN (x &&& (y ^^^ (-1 : Int64)))).testBit r = bop 3 ((uN x).testBit r) ((uN y).testBit r) := by
  rw [uN_andN, uN_xorN, uN_m1]
  refine ⟨Nat.lt_of_le_of_lt Nat.and_le_left hx, fun r hr => ?_⟩
  rw [Nat.testBit_and, Nat.testBit_xor, Nat.testBit_two_pow_sub_one, decide_eq_true (show r < 64 by omega), Bool.xor_true]
  rfl
theorem CW.join (c : CW B n d h M) (h1 : RB d.r1 β) (h2 : RB d.r2 γ) {H : Nat} (hH : H ≤ 3) :
    ∃ h' f, zs_X7_join h (n + 163) (nI H) (n + 165) = some h' ∧ CW B n (d.setR f d.r2) h' M ∧ RB f (fun j => bop H (β j) (γ j)) := by
  unfold zs_X7_join
  obtain ⟨r, hr, f, c1, hf⟩ := iter_FU (B := fun q : AH × Int32 => zb_X7_join_2 (n + 163) (nI H) (n + 165) q.1 q.2)
    (fun t z => z.2 = nI t ∧ ∃ f, CW B n (d.setR f d.r2) z.1 M ∧ (∀ j, t ≤ j → f j = d.r1 j) ∧ ∀ j, j < t → j < 13 → uN (f j) < B32 ∧ ∀ r, r < 32 → (uN (f j)).testBit r = bop H ((uN (d.r1 j)).testBit r) ((uN (d.r2 j)).testBit r))
    (fun r => ∃ f, CW B n (d.setR f d.r2) r M ∧ ∀ j, j < 13 → uN (f j) < B32 ∧ ∀ r, r < 32 → (uN (f j)).testBit r = bop H ((uN (d.r1 j)).testBit r) ((uN (d.r2 j)).testBit r))
    13 (by omega) (s := (h, (0 : Int32))) ⟨rfl, d.r1, c, fun _ _ => rfl, fun j hj => by omega⟩ (by
    rintro t ⟨g, z⟩ ht ⟨hz, f, k1, f0, f1⟩
    dsimp only at hz k1 ⊢
    subst hz
    unfold zb_X7_join_2
    by_cases h13 : t = 13
    · subst h13
      rw [if_pos (by decide)]
      refine ⟨_, rfl, fun s' hs => by (cases hs), fun r hr => ?_⟩
      obtain rfl := Sum.inr.inj hr
      exact ⟨f, k1, fun j hj => f1 j hj hj⟩
    · rw [if_neg (show ¬ (12 : Int32) < nI t from nI_nlt (a := 12) (by omega) (by decide))]
      simp only [k1.rd7, Option.bind_some, k1.getR1 (show t < 13 by omega), k1.getR2 (show t < 13 by omega)]
      have e1 : (d.setR f d.r2).r1 t = d.r1 t := f0 t (Nat.le_refl _)
      have e2 : (d.setR f d.r2).r2 t = d.r2 t := rfl
      rw [e1, e2]
      have hx := h1.1 t (by omega)
      have hy := h2.1 t (by omega)
      have fin : ∀ w : Int64, (uN w < B32 ∧ ∀ r, r < 32 → (uN w).testBit r = bop H ((uN (d.r1 t)).testBit r) ((uN (d.r2 t)).testBit r)) →
          ∃ g2, sJ g (n + 164) 1 (nI t) w = some g2 ∧ (t < 13 ∧ nI t + (1 : Int32) = nI (t + 1) ∧ ∃ f, CW B n (d.setR f d.r2) g2 M ∧ (∀ j, t + 1 ≤ j → f j = d.r1 j) ∧ ∀ j, j < t + 1 → j < 13 → uN (f j) < B32 ∧ ∀ r, r < 32 → (uN (f j)).testBit r = bop H ((uN (d.r1 j)).testBit r) ((uN (d.r2 j)).testBit r)) := by
        intro w hw
        obtain ⟨g2, e2, k2⟩ := k1.putR1 (k := t) (by omega) w
        refine ⟨g2, e2, by omega, nI_1 t, _, k2, fun j hj => ?_, fun j hj hj3 => ?_⟩
        · show vp_updL f t w j = _
          rw [pk_uLn (by omega)]; exact f0 j (by omega)
        · show uN (vp_updL f t w j) < B32 ∧ ∀ r, r < 32 → (uN (vp_updL f t w j)).testBit r = _
          by_cases hjt : j = t
          · subst hjt; rw [pk_uLs]; exact hw
          · rw [pk_uLn hjt]; exact f1 j (by omega) hj3
      rcases (show H = 0 ∨ H = 1 ∨ H = 2 ∨ H = 3 by omega) with rfl | rfl | rfl | rfl
      · rw [if_pos (by decide)]
        obtain ⟨g2, e2, p⟩ := fin _ (opn0 hx)
        rw [e2]
        exact ⟨_, rfl, fun s' hs' => by obtain rfl := Sum.inl.inj hs'; exact p, fun r hr => by (cases hr)⟩
      · rw [if_neg (by decide), if_pos (by decide)]
        obtain ⟨g2, e2, p⟩ := fin _ (opn1 hx hy)
        rw [e2]
        exact ⟨_, rfl, fun s' hs' => by obtain rfl := Sum.inl.inj hs'; exact p, fun r hr => by (cases hr)⟩
      · rw [if_neg (by decide), if_neg (by decide), if_pos (by decide)]
        obtain ⟨g2, e2, p⟩ := fin _ (opn2 hx hy)
        rw [e2]
        exact ⟨_, rfl, fun s' hs' => by obtain rfl := Sum.inl.inj hs'; exact p, fun r hr => by (cases hr)⟩
      · rw [if_neg (by decide), if_neg (by decide), if_neg (by decide)]
        obtain ⟨g2, e2, p⟩ := fin _ (opn3 hx)
        rw [e2]
        exact ⟨_, rfl, fun s' hs' => by obtain rfl := Sum.inl.inj hs'; exact p, fun r hr => by (cases hr)⟩)
  rw [hr]
  refine ⟨r, f, rfl, c1, fun j hj => (hf j hj).1, fun p q hp hq => ?_⟩
  rw [(hf p hp).2 q hq, h1.2 p q hp hq, h2.2 p q hp hq]
theorem CW.isBelow (c : CW B n d h M) {s : Bool} (h1 : RB d.r1 β) (hs : ∀ j, 384 ≤ j → β j = s) : zs_X7_isBelow h (n + 163) = some (if s then 1 else 0) := by
  unfold zs_X7_isBelow
  simp only [c.rd7, Option.bind_some]
  rw [show aJ h (n + 164) 1 (12 : Int32) = some (d.r1 12) from c.getR1 (k := 12) (by decide), RB_top h1 hs]
  cases s <;> rfl
theorem CW.storeT (c : CW B n d h M) (hd : ∀ i, i < 13 → uN (d.r1 i) < B32) (u : Int32) :
    ∃ h', zj_X7_store_13 h (n + 163) (aw n 68) u = some h' ∧ CW B n d h' (va_up M 68 (if u = 0 then (vN (dgs d.r1) 13 : Int) else -(vN (dgs d.r1) 13 : Int))) := by
  unfold zj_X7_store_13
  obtain ⟨V, W, hV⟩ := c.ws
  have W0 := W
  obtain ⟨σ, H, hσ⟩ := W
  have hL : Lc n (aw n 68) := Lc_m (by decide)
  have o1 := nw_off H (c.ob 163 _ rfl) (ct_all (n := n) (o := 163) c.ko rfl).1
  have o2 := nw_off H (c.ob 164 _ rfl) (ct_all (n := n) (o := 164) c.ko rfl).1
  obtain ⟨r, hr, f, H1, F1, hf⟩ := iter_FU (B := fun q : AH × Int32 => zb_X7_store_15 (n + 163) (aw n 68) u q.1 q.2)
    (fun t z => z.2 = nI t ∧ ∃ f, HW (Lc n) qc z.1 (va_up σ (aw n 68) (f, (σ (aw n 68)).2)) ∧ Fr (Lc n) qc h z.1 ∧ ∀ j, j < t → f j = d.r1 j)
    (fun r => ∃ f, HW (Lc n) qc r (va_up σ (aw n 68) (f, (σ (aw n 68)).2)) ∧ Fr (Lc n) qc h r ∧ ∀ j, j < 13 → f j = d.r1 j)
    13 (by omega) (s := (h, (0 : Int32))) ⟨rfl, (σ (aw n 68)).1, by rw [va_ue]; exact H, Fr.rf, fun j hj => by omega⟩ (by
    rintro t ⟨g, z⟩ ht ⟨hz, f, Hg, Fg, f1⟩
    dsimp only at hz Hg Fg ⊢
    subst hz
    unfold zb_X7_store_15
    by_cases h13 : t = 13
    · subst h13
      rw [if_pos (by decide)]
      refine ⟨_, rfl, fun s' hs => by (cases hs), fun r hr => ?_⟩
      obtain rfl := Sum.inr.inj hr
      exact ⟨f, Hg, Fg, f1⟩
    · rw [if_neg (show ¬ (12 : Int32) < nI t from nI_nlt (a := 12) (by omega) (by decide))]
      rw [Hg.gR0 hL]
      have r1 : gR g (n + 163) 7 0 = some (n + 164) := by
        unfold gR
        rw [Fg.2 _ o1, c.ob 163 _ rfl]
        rfl
      have r2 : aJ g (n + 164) 1 (nI t) = some (d.r1 t) := aJ_go (by rw [Fg.2 _ o2]; exact c.ob 164 _ rfl) (by omega) (by decide)
      simp only [Option.bind_some, r1, r2]
      obtain ⟨g2, e2, H2, F2⟩ := Hg.sJ hL (k := t) (by omega) (d.r1 t)
      rw [e2]
      rw [va_us, va_uu] at H2
      simp only [Option.bind_some]
      refine ⟨_, rfl, fun s' hs' => ?_, fun r hr => by (cases hr)⟩
      obtain rfl := Sum.inl.inj hs'
      refine ⟨by omega, nI_1 t, _, H2, Fg.tr F2, fun j hj => ?_⟩
      dsimp only
      by_cases hjt : j = t
      · subst hjt; rw [pk_uLs]
      · rw [pk_uLn hjt]; exact f1 j (by omega))
  rw [hr]
  simp only [Option.bind_some]
  rw [H1.chk hL]
  obtain ⟨g3, e3, H3, F3⟩ := p_trim H1 hL (c := 13) (by omega)
  rw [show (13 : Int32) = nI 13 from rfl, e3]
  simp only [Option.bind_some]
  rw [va_us, va_uu] at H3
  dsimp only at H3
  rw [H3.chk hL]
  simp only [Option.bind_some]
  obtain ⟨g4, e4, H4, F4⟩ := p_takeSign H3 hL (k := tl f 13) (by rw [va_us]) (by have := tl_le f 13; omega) u
  rw [va_us, va_uu] at H4
  dsimp only at H4
  rw [e4]
  have h9 := WS.up H4 hσ (okW_fin (m := 13) (by omega) (fun i hi => by rw [hf i hi]; exact hd i hi) u)
  have hvv : vN (dgs f) 13 = vN (dgs d.r1) 13 := vN_congr (fun i hi => by show uN (f i) = uN (d.r1 i); rw [hf i hi])
  rw [hvv] at h9
  exact ⟨g4, rfl, c.up W0 hV (k := 68) (by decide) h9 ((F1.tr F3).tr F4)⟩
theorem CW.store (c : CW B n d h M) {s : Bool} (h1 : RB d.r1 β) (hs : ∀ j, 384 ≤ j → β j = s) :
    ∃ h' d' R, zs_X7_store h (n + 163) (aw n 68) = some h' ∧ CW B n d' h' (va_up M 68 R) ∧ d'.1 = d.1 ∧ d'.2.1 = d.2.1 ∧ d'.2.2.2 = d.2.2.2 ∧ ∀ j, bI R j = β j := by
  unfold zs_X7_store
  simp only [c.rd7, Option.bind_some, c.isBelow h1 hs]
  have hNl := vN_lt (d := dgs d.r1) (k := 13) h1.1
  have htb := fun j hj => RB_tb h1 (j := j) hj
  have hsp : vN (dgs d.r1) 13 = vN (dgs d.r1) 12 + uN (d.r1 12) * B32 ^ 12 := rfl
  cases s with
  | false =>
    rw [if_neg (show ¬ (false = true) by decide), if_pos rfl]
    obtain ⟨g1, e1, c1⟩ := c.storeT h1.1 0
    rw [if_pos rfl] at c1
    refine ⟨g1, d, _, e1, c1, rfl, rfl, rfl, fun j => ?_⟩
    unfold bI
    rw [if_neg (by omega), Int.natAbs_natCast]
    by_cases hj : j < 416
    · exact htb j hj
    · have hp : 2 ^ 416 ≤ 2 ^ j := Nat.pow_le_pow_right (by decide) (by omega)
      rw [B32_two] at hNl
      rw [Nat.testBit_lt_two_pow (by omega), hs j (by omega)]
  | true =>
    rw [if_pos (show true = true from rfl), if_neg (show ¬ (1 : Int32) = 0 by decide)]
    obtain ⟨g1, f, e1, c1, b1, v1⟩ := c.negateR1 h1.1
    rw [e1]
    simp only [Option.bind_some]
    obtain ⟨g2, e2, c2⟩ := c1.storeT b1 1
    rw [if_neg (by decide)] at c2
    have htop : d.r1 12 = 4294967295 := RB_top h1 hs
    have hN0 : 0 < vN (dgs d.r1) 13 := by
      rw [hsp, htop, show uN (4294967295 : Int64) = 4294967295 by decide]
      have := B32_pos 12
      omega
    have v2 : vN (dgs (d.setR f d.r2).r1) 13 = B32 ^ 13 - vN (dgs d.r1) 13 := by
      refine Eq.trans (show vN (dgs (d.setR f d.r2).r1) 13 = vN (dgs f) 13 from rfl) ?_
      rw [v1]
      exact Nat.mod_eq_of_lt (by omega)
    rw [v2] at c2
    refine ⟨g2, _, _, e2, c2, rfl, rfl, rfl, fun j => ?_⟩
    unfold bI
    rw [if_pos (by omega), Int.natAbs_neg, Int.natAbs_natCast]
    generalize vN (dgs d.r1) 13 = N at *
    rw [B32_two] at hNl ⊢
    have e5 : 2 ^ (32 * 13) - N - 1 = 2 ^ 416 - (N + 1) := by omega
    rw [e5, Nat.testBit_two_pow_sub_succ hNl]
    by_cases hj : j < 416
    · rw [decide_eq_true hj, Bool.true_and, Bool.not_not]
      exact htb j hj
    · rw [decide_eq_false hj, hs j (by omega)]
      rfl
theorem CW.bitAt (c : CW B n d h M) {s : Bool} (h1 : RB d.r1 β) (hs : ∀ j, 384 ≤ j → β j = s) (hk : k < 2 ^ 31) : zs_X7_bitAt h (n + 163) (nI k) = some (if β k then 1 else 0) := by
  unfold zs_X7_bitAt
  simp only [lt_]
  have e1 : nI k >>> ((5 : Int32) &&& 31) = nI (k / 32) := pk_shrN hk _ 5 (by decide)
  have e2 : nI k &&& (31 : Int32) = nI (k % 32) := pk_andN (by omega) 5 (by decide)
  rw [e1, e2]
  have e3 : (if (12 : Int32) < nI (k / 32) then (12 : Int32) else nI (k / 32)) = nI (if 12 < k / 32 then 12 else k / 32) := by
    by_cases h12 : 12 < k / 32
    · rw [if_pos (show (12 : Int32) < nI (k / 32) from nI_lt (a := 12) h12 (by omega)), if_pos h12]
      rfl
    · rw [if_neg (show ¬ (12 : Int32) < nI (k / 32) from nI_nlt (a := 12) (by omega) (by decide)), if_neg h12]
  rw [e3]
  generalize hp : (if 12 < k / 32 then 12 else k / 32) = p
  have hp13 : p < 13 := by rw [← hp]; split <;> omega
  have e4 : (if (0 : Int32) < nI p then nI p else (0 : Int32)) = nI p := by
    by_cases h0 : p = 0
    · subst h0; rfl
    · rw [if_pos (show (0 : Int32) < nI p from nI_lt (a := 0) (by omega) (by omega))]
  rw [e4]
  simp only [c.rd7, Option.bind_some, c.getR1 hp13]
  have hx := h1.1 p hp13
  have hb := h1.2 p (k % 32) hp13 (Nat.mod_lt _ (by decide))
  have hβ : β (32 * p + k % 32) = β k := by
    by_cases h12 : 12 < k / 32
    · rw [if_pos h12] at hp
      rw [hs k (by omega), hs _ (by omega)]
    · rw [if_neg h12] at hp
      congr 1
      omega
  rw [hβ] at hb
  generalize hX : d.r1 p = x at hx hb
  have hxl : x = lN (uN x) := (lN_uN x).symm
  rw [hxl, wb_bit (uN_lt x) (by omega), lN_i]
  rw [Nat.testBit_eq_decide_div_mod_eq] at hb
  have h2 : uN x / 2 ^ (k % 32) % 2 < 2 := Nat.mod_lt _ (by decide)
  rw [← hb]
  rcases (show uN x / 2 ^ (k % 32) % 2 = 0 ∨ uN x / 2 ^ (k % 32) % 2 = 1 by omega) with h0 | h0
  · rw [h0]; rfl
  · rw [h0]; rfl
end Bts
