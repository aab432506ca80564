def DX (h : AH) (u0 aq al ao ad av : Nat) : Prop := DO h u0 aq al ao ad av ∧ (∃ F, LA h ad F) ∧ (∃ G, LA h av G) ∧ ad ≠ av
section Dvs
variable {L : Nat → Prop} {q : Nat → Nat} {h h' h'' : AH} {σ : Nat → WR} {V : Nat → Int} {a b u0 aq al ao ad av : Nat}
theorem DX.fr (W : WS L q h V) (x : DX h u0 aq al ao ad av) (p : Fr L q h h') : DX h' u0 aq al ao ad av := by
  obtain ⟨σ, H, -⟩ := W
  obtain ⟨d, ⟨F, hF⟩, ⟨G, hG⟩, hne⟩ := x
  exact ⟨Fr.keep H p d, ⟨F, Fr.kla H p hF⟩, ⟨G, Fr.kla H p hG⟩, hne⟩
theorem va_up_c {α : Type} {f : Nat → α} {k j : Nat} {v w : α} (h : k ≠ j) : va_up (va_up f k v) j w = va_up (va_up f j w) k v := by
  funext x
  by_cases e1 : x = j
  · subst e1; rw [va_us, va_un (Ne.symm h), va_us]
  · rw [va_un e1]
    by_cases e2 : x = k
    · subst e2; rw [va_us, va_us]
    · rw [va_un e2, va_un e2, va_un e1]
theorem v_dz78 (W : WS L q h V) (x : DX h u0 aq al ao ad av) (hq : L aq) (hl : L al) (hql : aq ≠ al) :
    ∃ h', zj_X0_divideSizes_78 h u0 = some h' ∧ WS L q h' (va_up (va_up V aq ((V aq).natAbs : Int)) al ((V al).natAbs : Int)) ∧ DX h' u0 aq al ao ad av ∧ Fr L q h h' := by
  unfold zj_X0_divideSizes_78
  rw [x.1.g0]
  simp only [Option.bind_some]
  rw [v_chk W hq]
  simp only [Option.bind_some]
  obtain ⟨g1, e1, W1, F1⟩ := v_takeSign W hq 0
  rw [e1]
  simp only [Option.bind_some]
  have x1 := x.fr W F1
  rw [x1.1.g1]
  simp only [Option.bind_some]
  rw [v_chk W1 hl]
  simp only [Option.bind_some]
  obtain ⟨g2, e2, W2, F2⟩ := v_takeSign W1 hl 0
  rw [e2]
  rw [va_un (Ne.symm hql)] at W2
  exact ⟨g2, rfl, W2, x1.fr W1 F2, F1.tr F2⟩
theorem v_divideSizes (W : WS L q h V) (x : DX h u0 aq al ao ad av) (ha : L a) (hb : L b) (hq : L aq) (hl : L al) (hql : aq ≠ al) (haq : a ≠ aq) (hal : a ≠ al) (hbq : b ≠ aq) (hbl : b ≠ al) (hb0 : V b ≠ 0) :
    ∃ h', zs_X0_divideSizes h u0 a b = some h' ∧ WS L q h' (va_up (va_up V aq (((V a).natAbs / (V b).natAbs : Nat) : Int)) al (((V a).natAbs % (V b).natAbs : Nat) : Int)) ∧ DX h' u0 aq al ao ad av ∧ Fx L q (fun z => z = ad ∨ z = av) h h' := by
  have hbp : 0 < (V b).natAbs := by omega
  unfold zs_X0_divideSizes
  rw [v_chk W hb, v_isZero W hb, if_neg hb0, v_orderSizes W ha hb]
  simp only [Option.bind_some]
  rw [if_pos trivial]
  by_cases hlt : (V a).natAbs < (V b).natAbs
  · rw [cmpI_lt hlt, if_neg (by decide)]
    unfold zj_X0_divideSizes_15
    rw [x.1.g0]
    simp only [Option.bind_some]
    rw [v_chk W hq]
    simp only [Option.bind_some]
    obtain ⟨g1, e1, W1, F1⟩ := v_become W hq 0
    rw [e1]
    simp only [Option.bind_some]
    have x1 := x.fr W F1
    rw [x1.1.g1]
    simp only [Option.bind_some]
    rw [v_chk W1 hl]
    simp only [Option.bind_some]
    obtain ⟨g2, e2, W2, F2⟩ := v_copy W1 hl ha
    rw [e2]
    simp only [Option.bind_some]
    have x2 := x1.fr W1 F2
    obtain ⟨g3, e3, W3, x3, F3⟩ := v_dz78 W2 x2 hq hl hql
    rw [e3]
    refine ⟨g3, rfl, ?_, x3, (F1.tr (F2.tr F3)).fx⟩
    rw [va_us, va_un hql, va_us, va_un haq, va_up_c (Ne.symm hql), va_uu, va_uu] at W3
    rw [Nat.div_eq_of_lt hlt, Nat.mod_eq_of_lt hlt]
    exact W3
  · rw [if_pos (show (0 : Int32) ≤ cmpI (V a).natAbs (V b).natAbs by unfold cmpI; rw [if_neg hlt]; split <;> decide)]
    obtain ⟨σ, H, hV⟩ := id W
    obtain ⟨ka, a1, a2, a3, a4, a5, a6, a7⟩ := okW_sg (hV a ha)
    obtain ⟨kb, b1, b2, b3, b4, b5, b6, b7⟩ := okW_sg (hV b hb)
    rw [H.gI1 hb, b1, show (1 : Int32) = nI 1 from rfl]
    simp only [Option.bind_some]
    by_cases hk1 : kb = 1
    · subst hk1
      rw [if_pos rfl, x.1.g0]
      simp only [Option.bind_some]
      rw [v_chk W hq]
      simp only [Option.bind_some]
      obtain ⟨g1, e1, W1, F1⟩ := v_copy W hq ha
      rw [e1]
      simp only [Option.bind_some]
      have x1 := x.fr W F1
      rw [x1.1.g1, x1.1.g0]
      simp only [Option.bind_some]
      rw [v_chk W1 hb]
      simp only [Option.bind_some]
      have hbB : (V b).natAbs < B32 := by
        have := vN_lt (d := dgs (σ b).1) (k := 1) b3
        rw [← b7, Nat.pow_one] at this
        exact this
      have e9 : zs_X8_partAt g1 b (0 : Int32) = some (lN (V b).natAbs) := by
        have := v_partAt W1 hb (i := 0) (by omega)
        rw [va_un hbq, Nat.pow_zero, Nat.div_one, Nat.mod_eq_of_lt hbB] at this
        exact this
      rw [e9]
      simp only [Option.bind_some]
      rw [v_chk W1 hq]
      simp only [Option.bind_some]
      have hu : uN (lN (V b).natAbs) = (V b).natAbs := uN_lN (Nat.lt_trans hbB (by decide))
      obtain ⟨g2, e2, W2, F2⟩ := v_shrink W1 hq (lN (V b).natAbs) (by rw [hu]; exact hbp) (by rw [hu]; exact hbB)
      rw [e2]
      simp only [Option.bind_some]
      rw [v_chk W2 hl]
      simp only [Option.bind_some]
      rw [va_us, hu]
      rw [va_us, va_uu, hu] at W2
      obtain ⟨g3, e3, W3, F3⟩ := v_become W2 hl (lN ((V a).natAbs % (V b).natAbs))
      rw [e3]
      simp only [Option.bind_some]
      have x3 := (x1.fr W1 F2).fr W2 F3
      obtain ⟨g4, e4, W4, x4, F4⟩ := v_dz78 W3 x3 hq hl hql
      rw [e4]
      refine ⟨g4, rfl, ?_, x4, (F1.tr (F2.tr (F3.tr F4))).fx⟩
      have hml := Nat.mod_lt (V a).natAbs hbp
      have hti : (lN ((V a).natAbs % (V b).natAbs)).toInt = ((V a).natAbs % (V b).natAbs : Nat) := pk_lT (Nat.lt_trans (Nat.lt_trans hml hbB) (by decide))
      rw [va_us, hti, va_un hql, va_us, va_up_c (Ne.symm hql), va_uu, va_uu] at W4
      have hab : (if V a < 0 then -(((V a).natAbs / (V b).natAbs : Nat) : Int) else ((V a).natAbs / (V b).natAbs : Nat)).natAbs = (V a).natAbs / (V b).natAbs := by
        split
        · rw [Int.natAbs_neg, Int.natAbs_natCast]
        · rw [Int.natAbs_natCast]
      rw [hab, Int.natAbs_natCast] at W4
      exact W4
    · have hk0 : kb ≠ 0 := fun e => by subst e; rw [b7] at hbp; exact absurd hbp (show ¬ 0 < vN (dgs (σ b).1) 0 from Nat.lt_irrefl 0)
      rw [if_neg (fun e => hk1 ((nI_eq (by omega) (by omega)).mp e)), x.1.ck]
      simp only [Option.bind_some]
      obtain ⟨n, rfl⟩ : ∃ n, kb = n + 2 := ⟨kb - 2, by omega⟩
      have hkk : n + 2 ≤ ka := by
        rcases Nat.lt_or_ge ka (n + 2) with hk | hk
        · have := vN_len (d := dgs (σ a).1) (e := dgs (σ b).1) hk a3 (nz_uN (b4 (by omega)))
          rw [← a7, ← b7] at this
          omega
        · exact hk
      obtain ⟨d, ⟨F, hF⟩, ⟨G, hG⟩, hne⟩ := x
      have hyt : (σ b).1 (n + 1) ≠ 0 := b4 (by omega)
      obtain ⟨g1, F', G', fq, fl, e1, H1, d1, L1, G1, X1, dq, dl, vq, vl⟩ := p_divideLong H ha hb hq hl d hF hG hne haq (Ne.symm hql) (hV a ha) (hV b hb) a1 b1 a2 hkk b3 (by rw [a7]; exact vN_lt a3) b7 hyt
      rw [e1]
      simp only [Option.bind_some]
      unfold zj_X0_divideSizes_78
      rw [d1.g0]
      simp only [Option.bind_some]
      rw [H1.chk hq]
      simp only [Option.bind_some]
      obtain ⟨g2, e2, H2, F2⟩ := p_takeSign H1 hq (k := tl fq (ka - (n + 2) + 1)) (by rw [va_un hql, va_us]) (by have := tl_le fq (ka - (n + 2) + 1); omega) 0
      rw [e2]
      simp only [Option.bind_some]
      have d2 := Fr.keep H1 F2 d1
      rw [d2.g1]
      simp only [Option.bind_some]
      rw [H2.chk hl]
      simp only [Option.bind_some]
      rw [va_un hql, va_us, va_up_c (Ne.symm hql), va_uu] at H2
      obtain ⟨g3, e3, H3, F3⟩ := p_takeSign H2 hl (k := tl fl (n + 2)) (by rw [va_us]) (by have := tl_le fl (n + 2); omega) 0
      rw [e3]
      rw [va_us, va_uu] at H3
      dsimp only at H3
      have w1 := okW_fin (f := fq) (m := ka - (n + 2) + 1) (by omega) dq 0
      have w2 := okW_fin (f := fl) (m := n + 2) (by omega) dl 0
      rw [if_pos rfl, vq] at w1
      rw [if_pos rfl, vl] at w2
      refine ⟨g3, rfl, WS.up H3 (fun o ho => ?_) w2, ⟨Fr.keep H2 F3 d2, ⟨F', Fr.kla H2 F3 (Fr.kla H1 F2 L1)⟩, ⟨G', Fr.kla H2 F3 (Fr.kla H1 F2 G1)⟩, hne⟩, X1.tr (F2.fx.tr F3.fx)⟩
      by_cases e : o = aq
      · subst e; rw [va_us, va_us]; exact w1
      · rw [va_un e, va_un e]; exact hV o ho
end Dvs
