theorem vN_lo (d : Nat → Nat) : ∀ n, vN d (n + 1) = d 0 + B32 * vN (fun i => d (i + 1)) n
  | 0 => by show 0 + d 0 * B32 ^ 0 = d 0 + B32 * 0; rw [Nat.pow_zero]; omega
  | n + 1 => by
    show vN d (n + 1) + d (n + 1) * B32 ^ (n + 1) = d 0 + B32 * (vN (fun i => d (i + 1)) n + d (n + 1) * B32 ^ n)
    rw [vN_lo d n, Nat.mul_add, Nat.pow_succ]
    have : d (n + 1) * (B32 ^ n * B32) = B32 * (d (n + 1) * B32 ^ n) := by rw [← Nat.mul_assoc, Nat.mul_comm]
    omega
/-- the digits from j on -/
def vH (d : Nat → Nat) (j k : Nat) : Nat := vN (fun i => d (j + i)) (k - j)
theorem vH_k (d : Nat → Nat) (k : Nat) : vH d k k = 0 := by unfold vH; rw [Nat.sub_self]; rfl
theorem vH_0 (d : Nat → Nat) (k : Nat) : vH d 0 k = vN d k := by
  unfold vH
  exact vN_congr (fun i _ => by rw [Nat.zero_add])
theorem vH_s (d : Nat → Nat) {j k : Nat} (h : j < k) : vH d j k = d j + B32 * vH d (j + 1) k := by
  unfold vH
  rw [show k - j = (k - (j + 1)) + 1 by omega, vN_lo]
  congr 2
  exact vN_congr (fun i _ => by rw [show j + (i + 1) = j + 1 + i by omega])
theorem vH_congr {d e : Nat → Nat} {j k : Nat} (h : ∀ i, j ≤ i → i < k → d i = e i) : vH d j k = vH e j k := by
  unfold vH
  exact vN_congr (fun i hi => h (j + i) (by omega) (by omega))
theorem step_div {l p D B Q A : Nat} (h : Q * D + l = A) : ((l * B + p) / D + B * Q) * D + (l * B + p) % D = p + B * A := by
  have h1 := Nat.div_add_mod (l * B + p) D
  rw [Nat.add_mul, Nat.mul_comm _ D]
  have h2 : B * Q * D = B * (Q * D) := Nat.mul_assoc _ _ _
  have h3 : B * A = B * (Q * D) + B * l := by rw [← h, Nat.mul_add]
  have h4 : B * l = l * B := Nat.mul_comm _ _
  omega
theorem step_lt {l p D B : Nat} (hl : l < D) (hp : p < B) : (l * B + p) / D < B := by
  rw [Nat.div_lt_iff_lt_mul (by omega)]
  have h1 : (l + 1) * B ≤ D * B := Nat.mul_le_mul_right _ hl
  rw [Nat.add_mul, Nat.one_mul] at h1
  rw [Nat.mul_comm B D]
  omega
section Shr
variable {L : Nat → Prop} {q : Nat → Nat} {h h' h'' : AH} {σ : Nat → WR} {V : Nat → Int} {a b c o : Nat}
theorem p_shrink (H : HW L q h σ) (ho : L o) {k : Nat} (hk : (σ o).2.1 = nI k) (hk26 : k ≤ 26) (hd : ∀ i, i < k → uN ((σ o).1 i) < B32) (hs : (σ o).2.2 = 0 ∨ (σ o).2.2 = 1) (D : Int64) (h0 : 0 < uN D) (hD : uN D < B32) :
    ∃ (h' : AH) (f : Nat → Int64), zs_X8_shrink h o D = some (lN (vN (dgs (σ o).1) k % uN D), h') ∧ (∀ i, i < k → uN (f i) < B32) ∧ vN (dgs f) k = vN (dgs (σ o).1) k / uN D ∧ HW L q h' (va_up σ o (f, nI (tl f k), if (σ o).2.2 = 0 ∨ tl f k = 0 then 0 else 1)) ∧ Fr L q h h' := by
  unfold zs_X8_shrink
  rw [H.gI1 ho, hk]
  simp only [Option.bind_some, lt_]
  obtain ⟨r, hr, f, Hr, Fr1, dr, lr, qr⟩ := iter_FU (B := fun x : AH × Int64 × Int32 => zb_X8_shrink_10 o D x.1 x.2.1 x.2.2)
    (fun i s => s.2.2 = nI (k - i) - 1 ∧ ∃ f : Nat → Int64, HW L q s.1 (va_up σ o (f, (σ o).2)) ∧ Fr L q h s.1 ∧ (∀ j, j < k - i → f j = (σ o).1 j) ∧ (∀ j, k - i ≤ j → j < k → uN (f j) < B32) ∧ uN s.2.1 < uN D ∧ vH (dgs f) (k - i) k * uN D + uN s.2.1 = vH (dgs (σ o).1) (k - i) k)
    (fun r => ∃ f : Nat → Int64, HW L q r.1 (va_up σ o (f, (σ o).2)) ∧ Fr L q h r.1 ∧ (∀ j, j < k → uN (f j) < B32) ∧ uN r.2 < uN D ∧ vN (dgs f) k * uN D + uN r.2 = vN (dgs (σ o).1) k)
    k (by omega) (s := (h, (0 : Int64), nI k - 1)) ⟨rfl, (σ o).1, by rw [va_ue]; exact H, Fr.rf, fun _ _ => rfl, fun j h1 h2 => by omega, by rw [uN_0]; exact h0, by rw [Nat.sub_zero, vH_k, uN_0]; omega⟩ (by
    rintro i ⟨s, lf, iv⟩ hi ⟨hiv, f, Hs, Fs, fl, fh, hlf, hq⟩
    dsimp only at hiv Hs Fs hlf hq ⊢
    subst hiv
    unfold zb_X8_shrink_10
    by_cases hz : k - i = 0
    · rw [hz] at fh hq ⊢
      rw [if_pos (by decide)]
      refine ⟨_, rfl, fun s' hs => by (cases hs), fun r hr => ?_⟩
      obtain rfl := Sum.inr.inj hr
      rw [vH_0, vH_0] at hq
      exact ⟨f, Hs, Fs, fun j hj => fh j (by omega) hj, hlf, hq⟩
    · obtain ⟨j, hj⟩ : ∃ j, k - i = j + 1 := ⟨k - i - 1, by omega⟩
      rw [hj] at fl fh hq ⊢
      rw [nI_pred j, if_neg (nI_pos (by omega)), Hs.gR0 ho]
      simp only [Option.bind_some]
      have e1 : aJ s (q o) 1 (nI j) = some ((σ o).1 j) := by
        rw [Hs.aJ ho (by omega), va_us]
        exact congrArg some (fl j (by omega))
      rw [e1]
      simp only [Option.bind_some, lt_]
      have hp := hd j (by omega)
      have hor := or32 (x := lf) (y := (σ o).1 j) (by omega) hp
      generalize ((lf <<< (((32 : Int32)).toInt64 &&& 63)) ||| (σ o).1 j) = hi9 at hor ⊢
      rw [p_qob s hi9 D h0 hD]
      simp only [Option.bind_some]
      have hq1 := step_lt (l := uN lf) (p := uN ((σ o).1 j)) (D := uN D) (B := B32) hlf hp
      have hdm := Nat.div_add_mod (uN hi9) (uN D)
      have hml := Nat.mod_lt (uN hi9) h0
      have hq2 : uN (lN (uN hi9 / uN D)) = uN hi9 / uN D := by rw [hor]; exact uN_lN (Nat.lt_trans hq1 (by decide))
      have hh9 := uN_lt hi9
      have hmul : uN (lN (uN hi9 / uN D) * D) = uN D * (uN hi9 / uN D) := by
        rw [uN_mulE (by rw [hq2, Nat.mul_comm]; omega), hq2, Nat.mul_comm]
      have hleft : uN (hi9 - lN (uN hi9 / uN D) * D) = uN hi9 % uN D := by
        rw [uN_subE (by rw [hmul]; omega), hmul]; omega
      obtain ⟨g, eg, Hg, Fg⟩ := Hs.sJ ho (k := j) (by omega) (lN (uN hi9 / uN D))
      rw [eg]
      simp only [Option.bind_some]
      refine ⟨_, rfl, fun s' hs => ?_, fun r hr => by (cases hr)⟩
      obtain rfl := Sum.inl.inj hs
      rw [va_us, va_uu] at Hg
      dsimp only at Hg ⊢
      have ej : k - (i + 1) = j := by omega
      rw [ej]
      refine ⟨by omega, by rw [Int32.sub_eq_add_neg], _, Hg, Fs.tr Fg, fun x hx => ?_, fun x h1 h2 => ?_, by rw [hleft]; exact hml, ?_⟩
      · rw [pk_uLn (by omega)]; exact fl x (by omega)
      · by_cases hxj : x = j
        · subst hxj; rw [pk_uLs, hq2, hor]; exact hq1
        · rw [pk_uLn hxj]; exact fh x (by omega) h2
      · rw [vH_s _ (show j < k by omega), vH_s _ (show j < k by omega), hleft]
        have e5 : vH (dgs (vp_updL f j (lN (uN hi9 / uN D)))) (j + 1) k = vH (dgs f) (j + 1) k := vH_congr (fun x h1 h2 => by show uN _ = uN _; rw [pk_uLn (by omega)])
        rw [e5]
        show (uN (vp_updL f j (lN (uN hi9 / uN D)) j) + _) * _ + _ = uN ((σ o).1 j) + _
        rw [pk_uLs, hq2, hor]
        exact step_div hq)
  rw [hr]
  simp only [Option.bind_some]
  have e1 : gI r.1 o 8 1 = some (nI k) := by rw [Hr.gI1 ho, va_us]; exact congrArg some hk
  rw [e1, Hr.chk ho]
  simp only [Option.bind_some]
  obtain ⟨g, eg, Hg, Fg⟩ := p_trim Hr ho (c := k) hk26
  rw [eg]
  simp only [Option.bind_some]
  rw [va_us, va_uu] at Hg
  dsimp only at Hg
  have e2 : gI g o 8 2 = some (σ o).2.2 := by rw [Hg.gI2 ho, va_us]
  rw [e2, Hg.chk ho]
  simp only [Option.bind_some]
  obtain ⟨g2, eg2, Hg2, Fg2⟩ := p_takeSign Hg ho (k := tl f k) (by rw [va_us]) (by have := tl_le f k; omega) (σ o).2.2
  rw [eg2]
  simp only [Option.bind_some]
  rw [va_us, va_uu] at Hg2
  dsimp only at Hg2
  have em : vN (dgs (σ o).1) k / uN D = vN (dgs f) k := by
    rw [← qr, Nat.mul_comm, Nat.mul_add_div h0, Nat.div_eq_of_lt lr, Nat.add_zero]
  have er : vN (dgs (σ o).1) k % uN D = uN r.2 := by
    rw [← qr, Nat.mul_comm, Nat.mul_add_mod, Nat.mod_eq_of_lt lr]
  refine ⟨g2, f, ?_, dr, em.symm, Hg2, Fr1.tr (Fg.tr Fg2)⟩
  rw [er, lN_uN]
theorem v_shrink (W : WS L q h V) (ho : L o) (D : Int64) (h0 : 0 < uN D) (hD : uN D < B32) :
    ∃ h', zs_X8_shrink h o D = some (lN ((V o).natAbs % uN D), h') ∧ WS L q h' (va_up V o (if V o < 0 then -(((V o).natAbs / uN D : Nat) : Int) else ((V o).natAbs / uN D : Nat))) ∧ Fr L q h h' := by
  obtain ⟨σ, H, hV⟩ := id W
  obtain ⟨k, a1, a2, a3, a4, a5, a6, a7⟩ := okW_sg (hV o ho)
  obtain ⟨g, f, e1, df, vf, Hg, Fg⟩ := p_shrink H ho a1 a2 a3 a5 D h0 hD
  have h9 := WS.up Hg hV (okW_fin a2 df (σ o).2.2)
  have hb := v_below W ho
  rw [H.gI2 ho] at hb
  have hb := Option.some.inj hb
  refine ⟨g, by rw [e1, a7], ?_, Fg⟩
  rw [vf, ← a7, hb] at h9
  by_cases hn : V o < 0
  · rw [if_pos hn] at h9 ⊢
    rw [if_neg i10] at h9
    exact h9
  · rw [if_neg hn] at h9 ⊢
    rw [if_pos rfl] at h9
    exact h9
theorem p_leftBy (H : HW L q h σ) (ho : L o) {k : Nat} (hk : (σ o).2.1 = nI k) (hk26 : k ≤ 26) (hd : ∀ i, i < k → uN ((σ o).1 i) < B32) (D : Int64) (h0 : 0 < uN D) (hD : uN D < B32) :
    zs_X8_leftBy h o D = some (lN (vN (dgs (σ o).1) k % uN D)) := by
  unfold zs_X8_leftBy
  rw [H.gI1 ho, hk]
  simp only [Option.bind_some, lt_]
  obtain ⟨r, hr, lr, Q, qr⟩ := iter_FU (B := fun x : Int64 × Int32 => zb_X8_leftBy_10 h o D x.1 x.2)
    (fun i s => s.2 = nI (k - i) - 1 ∧ uN s.1 < uN D ∧ ∃ Q, Q * uN D + uN s.1 = vH (dgs (σ o).1) (k - i) k)
    (fun r => uN r < uN D ∧ ∃ Q, Q * uN D + uN r = vN (dgs (σ o).1) k)
    k (by omega) (s := ((0 : Int64), nI k - 1)) ⟨rfl, by rw [uN_0]; exact h0, 0, by rw [Nat.sub_zero, vH_k, uN_0]; omega⟩ (by
    rintro i ⟨lf, iv⟩ hi ⟨hiv, hlf, Q, hq⟩
    dsimp only at hiv hlf hq ⊢
    subst hiv
    unfold zb_X8_leftBy_10
    by_cases hz : k - i = 0
    · rw [hz] at hq ⊢
      rw [if_pos (by decide)]
      refine ⟨_, rfl, fun s' hs => by (cases hs), fun r hr => ?_⟩
      obtain rfl := Sum.inr.inj hr
      rw [vH_0] at hq
      exact ⟨hlf, Q, hq⟩
    · obtain ⟨j, hj⟩ : ∃ j, k - i = j + 1 := ⟨k - i - 1, by omega⟩
      rw [hj] at hq ⊢
      rw [nI_pred j, if_neg (nI_pos (by omega)), H.gR0 ho]
      simp only [Option.bind_some]
      rw [H.aJ ho (k := j) (by omega)]
      simp only [Option.bind_some, lt_]
      have hp := hd j (by omega)
      have hor := or32 (x := lf) (y := (σ o).1 j) (by omega) hp
      generalize ((lf <<< (((32 : Int32)).toInt64 &&& 63)) ||| (σ o).1 j) = hi9 at hor ⊢
      rw [p_qob h hi9 D h0 hD]
      simp only [Option.bind_some]
      have hq1 := step_lt (l := uN lf) (p := uN ((σ o).1 j)) (D := uN D) (B := B32) hlf hp
      have hdm := Nat.div_add_mod (uN hi9) (uN D)
      have hml := Nat.mod_lt (uN hi9) h0
      have hq2 : uN (lN (uN hi9 / uN D)) = uN hi9 / uN D := by rw [hor]; exact uN_lN (Nat.lt_trans hq1 (by decide))
      have hh9 := uN_lt hi9
      have hmul : uN (lN (uN hi9 / uN D) * D) = uN D * (uN hi9 / uN D) := by
        rw [uN_mulE (by rw [hq2, Nat.mul_comm]; omega), hq2, Nat.mul_comm]
      have hleft : uN (hi9 - lN (uN hi9 / uN D) * D) = uN hi9 % uN D := by
        rw [uN_subE (by rw [hmul]; omega), hmul]; omega
      refine ⟨_, rfl, fun s' hs => ?_, fun r hr => by (cases hr)⟩
      obtain rfl := Sum.inl.inj hs
      dsimp only
      have ej : k - (i + 1) = j := by omega
      rw [ej]
      refine ⟨by omega, by rw [Int32.sub_eq_add_neg], by rw [hleft]; exact hml, (uN lf * B32 + uN ((σ o).1 j)) / uN D + B32 * Q, ?_⟩
      rw [vH_s _ (show j < k by omega), hleft, hor]
      exact step_div hq)
  rw [hr]
  simp only [Option.bind_some]
  have er : vN (dgs (σ o).1) k % uN D = uN r := by
    rw [← qr, Nat.mul_comm, Nat.mul_add_mod, Nat.mod_eq_of_lt lr]
  rw [er, lN_uN]
theorem v_leftBy (W : WS L q h V) (ho : L o) (D : Int64) (h0 : 0 < uN D) (hD : uN D < B32) : zs_X8_leftBy h o D = some (lN ((V o).natAbs % uN D)) := by
  obtain ⟨σ, H, hV⟩ := id W
  obtain ⟨k, a1, a2, a3, a4, a5, a6, a7⟩ := okW_sg (hV o ho)
  rw [p_leftBy H ho a1 a2 a3 D h0 hD, a7]
end Shr
