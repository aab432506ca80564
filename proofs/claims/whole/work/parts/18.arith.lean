theorem i10 : ¬ ((1 : Int32) = 0) := by decide
theorem sgv_add {s : Int32} {x y z : Nat} (h : z = x + y) : (if s = 0 then (z : Int) else -(z : Int)) = sgv s x + sgv s y := by
  unfold sgv
  split <;> omega
theorem sgv_sub1 {s t : Int32} (hs : s = 0 ∨ s = 1) (ht : t = 0 ∨ t = 1) (hne : ¬ s = t) {x y z : Nat} (hxy : x ≤ y) (h : z = y - x) : (if t = 0 then (z : Int) else -(z : Int)) = sgv s x + sgv t y := by
  unfold sgv
  rcases hs with rfl | rfl <;> rcases ht with rfl | rfl
  · exact absurd rfl hne
  · rw [if_neg i10, if_neg i10, if_pos rfl]; omega
  · rw [if_neg i10, if_pos rfl, if_pos rfl]; omega
  · exact absurd rfl hne
theorem sgv_sub2 {s t : Int32} (hs : s = 0 ∨ s = 1) (ht : t = 0 ∨ t = 1) (hne : ¬ s = t) {x y z : Nat} (hyx : y ≤ x) (h : z = x - y) : (if s = 0 then (z : Int) else -(z : Int)) = sgv s x + sgv t y := by
  unfold sgv
  rcases hs with rfl | rfl <;> rcases ht with rfl | rfl
  · exact absurd rfl hne
  · rw [if_neg i10, if_pos rfl, if_pos rfl]; omega
  · rw [if_neg i10, if_neg i10, if_pos rfl]; omega
  · exact absurd rfl hne
theorem cmpI_nlt {x y : Nat} (h : y ≤ x) : ¬ cmpI x y < 0 := by
  unfold cmpI
  rw [if_neg (by omega)]
  split <;> decide
section Vals2
variable {L : Nat → Prop} {q : Nat → Nat} {h h' h'' : AH} {σ : Nat → WR} {V : Nat → Int} {a b c o : Nat}
theorem v_combine (W : WS L q h V) (ha : L a) (hb : L b) (hc : L c) (xa : (V a).natAbs < B32 ^ 25) (xb : (V b).natAbs < B32 ^ 25) (s2 : Int32) (hs2 : s2 = 0 ∨ s2 = 1) :
    ∃ h', zs_X8_combine h a b s2 c = some h' ∧ WS L q h' (va_up V c (V a + sgv s2 (V b).natAbs)) ∧ Fr L q h h' := by
  obtain ⟨σ, H, hV⟩ := W
  obtain ⟨ka, a1, a2, a3, a4, a5, a6, a7⟩ := okW_sg (hV a ha)
  obtain ⟨kb, b1, b2, b3, b4, b5, b6, b7⟩ := okW_sg (hV b hb)
  have ka25 : ka ≤ 25 := vN_kle (d := dgs (σ a).1) (fun h0 => nz_uN (a4 h0)) (by rw [← a7]; exact xa)
  have kb25 : kb ≤ 25 := vN_kle (d := dgs (σ b).1) (fun h0 => nz_uN (b4 h0)) (by rw [← b7]; exact xb)
  unfold zs_X8_combine
  rw [H.gI2 ha]
  simp only [Option.bind_some]
  by_cases hs : (σ a).2.2 = s2
  · rw [if_pos hs]
    obtain ⟨g, f, m, e1, hm, Hg, df, vf, Fg⟩ := p_addSizes H ha hb hc a1 b1 ka25 kb25 a3 b3
    rw [e1]
    simp only [Option.bind_some]
    rw [Hg.chk hc]
    simp only [Option.bind_some]
    obtain ⟨g2, e2, Hg2, Fg2⟩ := p_takeSign Hg hc (k := tl f m) (by rw [va_us]) (by have := tl_le f m; omega) (σ a).2.2
    rw [e2]
    rw [va_us, va_uu] at Hg2
    refine ⟨g2, rfl, ?_, Fg.tr Fg2⟩
    have h9 := WS.up Hg2 hV (okW_fin hm df (σ a).2.2)
    rw [sgv_add vf, ← a6, hs, ← b7] at h9
    exact h9
  · rw [if_neg hs, p_orderSizes H ha hb a1 b1 a2 b2 a3 b3 a4 b4]
    simp only [Option.bind_some]
    by_cases hlt : vN (dgs (σ a).1) ka < vN (dgs (σ b).1) kb
    · have hkk : ka ≤ kb := by
        rcases Nat.lt_or_ge kb ka with hk | hk
        · have := vN_len (d := dgs (σ b).1) (e := dgs (σ a).1) hk b3 (nz_uN (a4 (by omega)))
          omega
        · exact hk
      rw [cmpI_lt hlt, if_pos (by decide)]
      obtain ⟨g, f, e1, Hg, df, vf, Fg⟩ := p_subSizes H hb ha hc b1 a1 b2 hkk b3 a3 (Nat.le_of_lt hlt)
      rw [e1]
      simp only [Option.bind_some]
      rw [Hg.chk hc]
      simp only [Option.bind_some]
      obtain ⟨g2, e2, Hg2, Fg2⟩ := p_takeSign Hg hc (k := tl f kb) (by rw [va_us]) (by have := tl_le f kb; omega) s2
      rw [e2]
      rw [va_us, va_uu] at Hg2
      refine ⟨g2, rfl, ?_, Fg.tr Fg2⟩
      have h9 := WS.up Hg2 hV (okW_fin b2 df s2)
      rw [sgv_sub1 a5 hs2 hs (Nat.le_of_lt hlt) vf, ← a6, ← b7] at h9
      exact h9
    · have hkk : kb ≤ ka := by
        rcases Nat.lt_or_ge ka kb with hk | hk
        · have := vN_len (d := dgs (σ a).1) (e := dgs (σ b).1) hk a3 (nz_uN (b4 (by omega)))
          omega
        · exact hk
      rw [if_neg (cmpI_nlt (by omega))]
      obtain ⟨g, f, e1, Hg, df, vf, Fg⟩ := p_subSizes H ha hb hc a1 b1 a2 hkk a3 b3 (by omega)
      rw [e1]
      simp only [Option.bind_some]
      rw [Hg.chk hc]
      simp only [Option.bind_some]
      obtain ⟨g2, e2, Hg2, Fg2⟩ := p_takeSign Hg hc (k := tl f ka) (by rw [va_us]) (by have := tl_le f ka; omega) (σ a).2.2
      rw [e2]
      rw [va_us, va_uu] at Hg2
      refine ⟨g2, rfl, ?_, Fg.tr Fg2⟩
      have h9 := WS.up Hg2 hV (okW_fin a2 df (σ a).2.2)
      rw [sgv_sub2 a5 hs2 hs (by omega) vf, ← a6, ← b7] at h9
      exact h9
theorem v_sum (W : WS L q h V) (ha : L a) (hb : L b) (hc : L c) (xa : (V a).natAbs < B32 ^ 25) (xb : (V b).natAbs < B32 ^ 25) :
    ∃ h', zs_X8_sum h a b c = some h' ∧ WS L q h' (va_up V c (V a + V b)) ∧ Fr L q h h' := by
  obtain ⟨σ, H, hV⟩ := id W
  obtain ⟨kb, b1, b2, b3, b4, b5, b6, b7⟩ := okW_sg (hV b hb)
  unfold zs_X8_sum
  rw [H.gI2 hb]
  simp only [Option.bind_some]
  obtain ⟨g, e1, W1, F1⟩ := v_combine W ha hb hc xa xb (σ b).2.2 b5
  rw [e1]
  rw [b7, ← b6] at W1
  exact ⟨g, rfl, W1, F1⟩
theorem v_difference (W : WS L q h V) (ha : L a) (hb : L b) (hc : L c) (xa : (V a).natAbs < B32 ^ 25) (xb : (V b).natAbs < B32 ^ 25) :
    ∃ h', zs_X8_difference h a b c = some h' ∧ WS L q h' (va_up V c (V a - V b)) ∧ Fr L q h h' := by
  obtain ⟨σ, H, hV⟩ := id W
  obtain ⟨kb, b1, b2, b3, b4, b5, b6, b7⟩ := okW_sg (hV b hb)
  unfold zs_X8_difference zj_X8_difference_14
  rw [H.gI2 hb]
  simp only [Option.bind_some]
  by_cases h0 : (σ b).2.2 = 0
  · rw [if_pos h0]
    obtain ⟨g, e1, W1, F1⟩ := v_combine W ha hb hc xa xb 1 (Or.inr rfl)
    rw [e1]
    have e2 : V a + sgv 1 (V b).natAbs = V a - V b := by
      rw [b7]
      rw [h0] at b6
      unfold sgv at b6 ⊢
      rw [if_pos rfl] at b6
      rw [if_neg i10]
      omega
    rw [e2] at W1
    exact ⟨g, rfl, W1, F1⟩
  · rw [if_neg h0]
    obtain ⟨g, e1, W1, F1⟩ := v_combine W ha hb hc xa xb 0 (Or.inl rfl)
    rw [e1]
    have e2 : V a + sgv 0 (V b).natAbs = V a - V b := by
      rw [b7]
      unfold sgv at b6 ⊢
      rw [if_neg h0] at b6
      rw [if_pos rfl]
      omega
    rw [e2] at W1
    exact ⟨g, rfl, W1, F1⟩
theorem p_copy (H : HW L q h σ) (ho : L o) (ha : L a) {k : Nat} (hk : (σ a).2.1 = nI k) (hk26 : k ≤ 26) (hs : (σ a).2.2 = 0 ∨ (σ a).2.2 = 1) :
    ∃ (h' : AH) (f : Nat → Int64), zs_X8_copy h o a = some h' ∧ HW L q h' (va_up σ o (f, (σ a).2)) ∧ (∀ j, j < k → f j = (σ a).1 j) ∧ Fr L q h h' := by
  unfold zs_X8_copy
  obtain ⟨r, hr, f, Hr, Fr1, fr⟩ := iter_FU (B := fun x : AH × Int32 => zb_X8_copy_2 o a x.1 x.2)
    (fun i s => s.2 = nI i ∧ ∃ f : Nat → Int64, HW L q s.1 (va_up σ o (f, (σ o).2)) ∧ Fr L q h s.1 ∧ (∀ j, j < i → f j = (σ a).1 j) ∧ (∀ j, i ≤ j → f j = (σ o).1 j))
    (fun r => ∃ f : Nat → Int64, HW L q r (va_up σ o (f, (σ o).2)) ∧ Fr L q h r ∧ ∀ j, j < k → f j = (σ a).1 j)
    k (by omega) (s := (h, (0 : Int32))) ⟨rfl, (σ o).1, by rw [va_ue]; exact H, Fr.rf, fun j hj => by omega, fun _ _ => rfl⟩ (by
    rintro i ⟨s, iv⟩ hi ⟨hiv, f, Hs, Fs, fl, fh⟩
    dsimp only at hiv Hs Fs ⊢
    subst hiv
    have e1 : gI s a 8 1 = some (nI k) := by
      rw [Hs.gI1 ha]
      by_cases e : a = o
      · subst e; rw [va_us]; exact congrArg some hk
      · rw [va_un e]; exact congrArg some hk
    unfold zb_X8_copy_2
    rw [e1]
    simp only [Option.bind_some]
    by_cases hlt : i < k
    · rw [if_neg (nI_ge hlt (by omega)), Hs.gR0 ho, Hs.gR0 ha]
      simp only [Option.bind_some]
      have e2 : aJ s (q a) 1 (nI i) = some ((σ a).1 i) := by
        rw [Hs.aJ ha (by omega)]
        by_cases e : a = o
        · subst e; rw [va_us]; exact congrArg some (fh i (Nat.le_refl i))
        · rw [va_un e]
      rw [e2]
      simp only [Option.bind_some]
      obtain ⟨g, eg, Hg, Fg⟩ := Hs.sJ ho (k := i) (by omega) ((σ a).1 i)
      rw [eg]
      simp only [Option.bind_some]
      refine ⟨_, rfl, fun s' hs => ?_, fun r hr => by (cases hr)⟩
      obtain rfl := Sum.inl.inj hs
      rw [va_us, va_uu] at Hg
      refine ⟨hlt, nI_1 i, _, Hg, Fs.tr Fg, fun j hj => ?_, fun j hj => ?_⟩
      · by_cases e : j = i
        · subst e; exact pk_uLs
        · rw [pk_uLn e]; exact fl j (by omega)
      · rw [pk_uLn (by omega)]; exact fh j (by omega)
    · rw [if_pos (nI_le (by omega) (by omega))]
      refine ⟨_, rfl, fun s' hs => by (cases hs), fun r hr => ?_⟩
      obtain rfl := Sum.inr.inj hr
      exact ⟨f, Hs, Fs, fun j hj => fl j (by omega)⟩)
  rw [hr]
  simp only [Option.bind_some]
  have e1 : gI r a 8 1 = some (σ a).2.1 := by
    rw [Hr.gI1 ha]
    by_cases e : a = o
    · subst e; rw [va_us]
    · rw [va_un e]
  rw [e1]
  simp only [Option.bind_some]
  obtain ⟨g, eg, Hg, Fg⟩ := Hr.pN ho (σ a).2.1
  rw [eg]
  simp only [Option.bind_some]
  rw [va_us, va_uu] at Hg
  have e2 : gI g a 8 2 = some (σ a).2.2 := by
    rw [Hg.gI2 ha]
    by_cases e : a = o
    · subst e; rw [va_us]
    · rw [va_un e]
  rw [e2]
  simp only [Option.bind_some]
  rw [show zk (σ a).2.2 = some () by unfold zk; rw [if_pos hs]]
  simp only [Option.bind_some]
  obtain ⟨g2, eg2, Hg2, Fg2⟩ := Hg.pB ho (σ a).2.2
  rw [eg2]
  rw [va_us, va_uu] at Hg2
  exact ⟨g2, f, rfl, Hg2, fr, Fr1.tr (Fg.tr Fg2)⟩
theorem okW_congr {w w' : WR} {x : Int} {k : Nat} (h : okW w x) (hk : w.2.1 = nI k) (hk26 : k ≤ 26) (h2 : w'.2 = w.2) (hf : ∀ j, j < k → w'.1 j = w.1 j) : okW w' x := by
  obtain ⟨k', a1, a2, a3, a4, a5⟩ := h
  have e : k' = k := (nI_eq (by omega) (by omega)).mp (a1.symm.trans hk)
  subst e
  have ev : vN (dgs w'.1) k' = vN (dgs w.1) k' := vN_congr (fun i hi => congrArg uN (hf i hi))
  refine ⟨k', by rw [h2]; exact a1, a2, fun i hi => by rw [hf i hi]; exact a3 i hi, fun h0 => by rw [hf _ (by omega)]; exact a4 h0, ?_⟩
  rw [h2, ev]
  exact a5
theorem v_copy (W : WS L q h V) (ho : L o) (ha : L a) : ∃ h', zs_X8_copy h o a = some h' ∧ WS L q h' (va_up V o (V a)) ∧ Fr L q h h' := by
  obtain ⟨σ, H, hV⟩ := W
  obtain ⟨k, a1, a2, a3, a4, a5, a6, a7⟩ := okW_sg (hV a ha)
  obtain ⟨g, f, e1, Hg, hf, Fg⟩ := p_copy H ho ha a1 a2 a5
  exact ⟨g, e1, WS.up Hg hV (okW_congr (hV a ha) a1 a2 rfl hf), Fg⟩
end Vals2
