/-! the reference: ratios -/
theorem qt_cu (p : Int) (g : Nat) : qt p (g : Int) = cu p g := by
  unfold qt cu
  rw [if_neg (show ¬ (g : Int) < 0 by omega), Int.natAbs_natCast]
  by_cases hp : p < 0
  · rw [if_pos hp, if_neg (by decide)]
  · rw [if_neg hp, if_pos rfl]
theorem upT_abs (t b : Int) : (upT t b).natAbs = t.natAbs := by
  unfold upT
  split
  · exact Int.natAbs_neg t
  · rfl
theorem upB_abs (b : Int) : (upB b).natAbs = b.natAbs := by
  unfold upB
  split
  · exact Int.natAbs_neg b
  · rfl
theorem upB_nat (b : Int) : upB b = ((b.natAbs : Nat) : Int) := by
  unfold upB
  split <;> omega
theorem RM.ratLt {M : Nat → Int} {S : AS} (m : RM M S) (si : SI S) {r : Nat} (hr : r < 12) : (M (92 + r)).natAbs < C16 ^ 24 ∧ (M (104 + r)).natAbs < C16 ^ 24 ∧ 0 < M (104 + r) := by
  have h1 := m.2.2 r hr
  have h2 := si.2.1 r hr
  rw [h1.1, h1.2, C24]
  exact ⟨h2.2.2.1, h2.2.2.2, h2.1⟩
section Rrt
variable {B h : AH} {n : Nat} {d : RD} {M : Nat → Int} {S : AS} {i j k T : Nat}
theorem RM.rat {c : Nat} (m : RM M S) (hc : c < 12) (t u : Int) : RM (va_up (va_up M (92 + c) t) (104 + c) u) (setRt S c t u) := by
  refine ⟨⟨?_, ?_⟩, fun i hi => ?_, fun r hr => ⟨?_, ?_⟩⟩
  · rw [va_un (by omega), va_un (by omega)]; exact m.1.1
  · rw [va_un (by omega), va_un (by omega)]; exact m.1.2
  · rw [va_un (by omega), va_un (by omega)]; exact m.2.1 i hi
  · show _ = va_up S.tp c t r
    by_cases e : r = c
    · subst e; rw [va_us, va_un (by omega), va_us]
    · rw [va_un (by omega), va_un (by omega), va_un e]; exact (m.2.2 r hr).1
  · show _ = va_up S.bt c u r
    by_cases e : r = c
    · subst e; rw [va_us, va_us]
    · rw [va_un (by omega), va_un (by omega), va_un e]; exact (m.2.2 r hr).2
theorem SI.rat {c : Nat} (s : SI S) (hc : c < 12) {t u : Int} (h : rOk t u) : SI (setRt S c t u) := by
  refine ⟨s.1, fun r hr => ?_, s.2.2⟩
  show rOk (va_up S.tp c t r) (va_up S.bt c u r)
  by_cases e : r = c
  · subst e; rw [va_us, va_us]; exact h
  · rw [va_un e, va_un e]; exact s.2.1 r hr
theorem RV.keepRatio {c : Nat} (cv : RV B n d h M) (m : RM M S) (dd : RDD d S) (si : SI S) (hT : d.top = nI T) (hl : T + 17 ≤ 64) (hi : i < 317) (hj : j < 317) (iT : i < T ∨ 68 ≤ i) (jT : j < T ∨ 68 ≤ j) (hc : c < 12) (hb : M j ≠ 0) (xa : (M i).natAbs < C16 ^ 49) (xb : (M j).natAbs < C16 ^ 49) :
    ∃ r h', zs_X11_keepRatio h n (nI c) (ar n i) (ar n j) = some (r, h') ∧ ∃ S', RI B n h' S' ∧ ∃ t u, isRat (M i) (M j) t u ∧ kpR S c t u r S' := by
  unfold zs_X11_keepRatio
  simp only [cv.rm, Option.bind_some]
  have h4952 : C16 ^ 49 ≤ C16 ^ 52 := Nat.pow_le_pow_right (by decide) (by decide)
  obtain ⟨g1, M1, q1, r1, e1, c1, v1, f1⟩ := cv.gcd hT (by omega) hi hj (by omega) (by omega) (by omega) m.1.1
  rw [e1]
  simp only [c1.rm, Option.bind_some]
  obtain ⟨G, hG⟩ : ∃ G, G = Nat.gcd (M i).natAbs (M j).natAbs := ⟨_, rfl⟩
  rw [← hG] at v1
  have hG0 : 0 < G := by
    rw [hG]
    exact Nat.gcd_pos_of_pos_right _ (by omega)
  have hGb : G < C16 ^ 49 := by
    have : G ≤ (M j).natAbs := by rw [hG]; exact Nat.gcd_le_right _ (by omega)
    omega
  have m1i : M1 i = M i := f1 i (by omega) (by omega) (by omega)
  have m1j : M1 j = M j := f1 j (by omega) (by omega) (by omega)
  have m1z : M1 64 = 0 := (f1 64 (by omega) (by omega) (by omega)).trans m.1.1
  have m1o : M1 65 = 1 := (f1 65 (by omega) (by omega) (by omega)).trans m.1.2
  obtain ⟨g2, e2, M2, Q2, R2, T2, c2, hQ2, hR2, hT2, mQ2, mR2, f2⟩ := c1.over (T := T + 1) (i := i) (j := T) rfl (by omega) hi (by omega) (by omega) (by omega) (by rw [v1]; omega) (na := 49) (nb := 49) (by rw [m1i]; exact xa) (by rw [v1, Int.natAbs_natCast]; exact hGb) (by decide) (by decide) m1z m1o 0
  rw [m1i, v1, dvQ0, qt_cu] at mQ2
  rw [e2]
  simp only [c2.qr, c2.rm, Option.bind_some]
  have m2j : M2 j = M j := (f2 j (by omega)).trans m1j
  have m2T : M2 T = (G : Int) := (f2 T (by omega)).trans v1
  obtain ⟨g3, e3, M3, Q3, R3, T3, c3, hQ3, hR3, hT3, mQ3, mR3, f3⟩ := c2.over (T := T2) (i := j) (j := T) rfl (by omega) hj (by omega) (by omega) (by omega) (by rw [m2T]; omega) (na := 49) (nb := 49) (by rw [m2j]; exact xb) (by rw [m2T, Int.natAbs_natCast]; exact hGb) (by decide) (by decide) ((f2 64 (by omega)).trans m1z) ((f2 65 (by omega)).trans m1o) 0
  rw [m2j, m2T, dvQ0, qt_cu] at mQ3
  have m3Q : M3 Q2 = cu (M i) G := (f3 Q2 (by omega)).trans mQ2
  rw [e3]
  have hQ23 : Q2 < 317 := by omega
  have hQ33 : Q3 < 317 := by omega
  simp only [c3.qr, c3.fits hQ23, c3.fits hQ33, m3Q, mQ3, Option.bind_some]
  have m3 : RM M3 S := m.fr (fun x h5 h6 h7 => by rw [f3 x (Or.inr h5), f2 x (Or.inr h5)]; exact f1 x (Or.inr h5) h6 h7)
  have hrat := rat_reduce (a := M i) (b := M j) hb
  rw [← hG] at hrat
  obtain ⟨t, ht⟩ : ∃ t, t = upT (cu (M i) G) (cu (M j) G) := ⟨_, rfl⟩
  obtain ⟨u, hu⟩ : ∃ u, u = upB (cu (M j) G) := ⟨_, rfl⟩
  rw [← ht, ← hu] at hrat
  have hta : t.natAbs = (cu (M i) G).natAbs := by rw [ht]; exact upT_abs _ _
  have hua : u.natAbs = (cu (M j) G).natAbs := by rw [hu]; exact upB_abs _
  by_cases hx : (cu (M i) G).natAbs < B32 ^ 12
  · rw [if_pos hx, if_neg (by decide)]
    by_cases hy : (cu (M j) G).natAbs < B32 ^ 12
    · rw [if_pos hy, if_neg (by decide)]
      simp only [c3.rm, c3.above hc, c3.sg hQ33, mQ3, Option.bind_some]
      have fin : ∀ (g4 : AH) (T4 W : Nat) (M4 : Nat → Int), RV B n ((d.set2 (.ref (ar n Q3)) (.ref (ar n R3))).tt T4) g4 M4 → T4 + 1 ≤ 64 → W < 317 → Q3 < T4 → M4 W = t → M4 Q3 = cu (M j) G → (∀ x, 64 ≤ x → M4 x = M3 x) → ∃ r h', zj_X11_keepRatio_80 g4 n (nI c) (ar n Q3) (ar n W) (ar n (92 + c)) = some (r, h') ∧ ∃ S', RI B n h' S' ∧ ∃ t u, isRat (M i) (M j) t u ∧ kpR S c t u r S' := by
        intro g4 T4 W M4 c4 hT4 hW hQT hv hq hf
        unfold zj_X11_keepRatio_80
        simp only [c4.ck (show 92 + c < 317 by omega), Option.bind_some]
        obtain ⟨g5, e5, c5⟩ := c4.become (i := 92 + c) (j := W) (by omega) hW
        rw [hv] at c5
        rw [e5]
        simp only [c5.rm, c5.below hc, Option.bind_some]
        obtain ⟨g6, e6, c6⟩ := c5.sized (T := T4) (i := Q3) rfl (by omega) hQ33
        rw [va_un (show Q3 ≠ 92 + c by omega), hq, ← upB_nat, ← hu] at c6
        rw [e6]
        simp only [c6.ck (show 104 + c < 317 by omega), Option.bind_some]
        obtain ⟨g7, e7, c7⟩ := c6.become (i := 104 + c) (j := T4) (by omega) (by omega)
        rw [va_us] at c7
        rw [e7]
        have m4 : RM M4 S := m3.fr (fun x hx _ _ => hf x hx)
        have hM : va_up (va_up (va_up M4 (92 + c) t) T4 u) (104 + c) u = va_up (va_up (va_up M4 T4 u) (92 + c) t) (104 + c) u := by
          funext x
          by_cases q1 : x = 104 + c
          · rw [q1, va_us, va_us]
          · rw [va_un q1, va_un q1]
            by_cases q2 : x = T4
            · rw [q2, va_us, va_un (by omega), va_us]
            · rw [va_un q2]
              by_cases q3 : x = 92 + c
              · rw [q3, va_us, va_us]
              · rw [va_un q3, va_un q3, va_un q2]
        rw [hM] at c7
        refine ⟨1, g7, rfl, setRt S c t u, ⟨_, _, c7, (m4.up (by omega) _).rat hc t u, dd, si.rat hc ⟨hrat.1, hrat.2.1, by rw [hta]; exact hx, by rw [hua]; exact hy⟩⟩, t, u, hrat, Or.inl ⟨by rw [hta]; exact hx, by rw [hua]; exact hy, rfl, rfl⟩⟩
      by_cases hn : cu (M j) G < 0
      · rw [if_pos hn, if_neg (by decide)]
        obtain ⟨g4, e4, c4⟩ := c3.negative (T := T3) (i := Q2) rfl (by omega) hQ23 (by omega)
        rw [m3Q] at c4
        rw [e4]
        simp only [Option.bind_some]
        refine fin g4 (T3 + 1) T3 _ c4 (by omega) (by omega) (by omega) ?_ ?_ (fun x hx => va_un (by omega))
        · rw [va_us, ht]
          unfold upT
          rw [if_pos hn]
        · rw [va_un (by omega)]; exact mQ3
      · rw [if_neg hn, if_pos (by decide)]
        refine fin g3 T3 Q2 M3 c3 (by omega) hQ23 (by omega) ?_ mQ3 (fun x hx => rfl)
        rw [m3Q, ht]
        unfold upT
        rw [if_neg hn]
    · rw [if_neg hy, if_pos (by decide)]
      exact ⟨-5, g3, rfl, S, ⟨_, M3, c3, m3, dd, si⟩, t, u, hrat, Or.inr ⟨fun q => hy (by rw [← hua]; exact q.2), rfl, rfl⟩⟩
  · rw [if_neg hx, if_pos (by decide)]
    exact ⟨-5, g3, rfl, S, ⟨_, M3, c3, m3, dd, si⟩, t, u, hrat, Or.inr ⟨fun q => hx (by rw [← hta]; exact q.1), rfl, rfl⟩⟩
theorem spb_ratio {a b q : Int32} (hb : ix2 a b = none ∨ ixI 12 q = none) : Sp_ratio S a b q (-1) S := by
  unfold Sp_ratio
  rcases hb with hb | hb
  · rw [hb]; exact ⟨rfl, rfl⟩
  · rw [hb]; cases ix2 a b <;> exact ⟨rfl, rfl⟩
theorem r_ratio (I : RI B n h S) (a b q : Int32) : ∃ r h', zs_X11_ratio h n a b q = some (r, h') ∧ ∃ S', RI B n h' S' ∧ Sp_ratio S a b q r S' := by
  obtain ⟨d, M, c, m, dd, si⟩ := I
  unfold zs_X11_ratio
  refine c.slot1 (fun g h1 c1 => ⟨S, ⟨_, M, c1, m, dd, si⟩, spb_ratio (Or.inl (ix2_n (Or.inl h1)))⟩) (fun i g h1 hi ha c1 => ?_)
  dsimp only
  refine c1.slot1 (fun g h2 c2 => ⟨S, ⟨_, M, c2, m, dd, si⟩, spb_ratio (Or.inl (ix2_n (Or.inr h2)))⟩) (fun j g h2 hj hb c2 => ?_)
  dsimp only
  refine c2.ratio1 (fun g h3 c3 => ⟨S, ⟨_, M, c3, m, dd, si⟩, spb_ratio (Or.inr h3)⟩) (fun k g h3 hk hc c3 => ?_)
  subst ha
  subst hb
  subst hc
  dsimp only
  have hsp : ∀ r S', (if S.sl j = 0 then errC S (-2) r S' else ∃ t u, isRat (S.sl i) (S.sl j) t u ∧ kpR S k t u r S') → Sp_ratio S (nI i) (nI j) (nI k) r S' := by
    intro r S' hh
    unfold Sp_ratio
    rw [ix2_y h1 h2, h3]
    exact hh
  have hi3 : 68 + i < 317 := by omega
  have hj3 : 68 + j < 317 := by omega
  have h2449 : C16 ^ 24 ≤ C16 ^ 49 := Nat.pow_le_pow_right (by decide) (by decide)
  have bi := m.lt si hi
  have bj := m.lt si hj
  simp only [c3.rm, c3.slot hi, c3.slot hj, c3.ck hj3, c3.isZero hj3, m.2.1 j hj, Option.bind_some]
  by_cases hz : S.sl j = 0
  · rw [if_pos hz, if_neg (by decide)]
    exact ⟨-2, g, rfl, S, ⟨_, M, c3, m, dd, si⟩, hsp _ _ (by rw [if_pos hz]; exact ⟨rfl, rfl⟩)⟩
  · rw [if_neg hz, if_pos (by decide)]
    obtain ⟨r, h', e4, S', I4, t, u, hr, hk4⟩ := c3.keepRatio (T := 0) (i := 68 + i) (j := 68 + j) m dd si rfl (by decide) hi3 hj3 (by omega) (by omega) hk (by rw [m.2.1 j hj]; exact hz) (by omega) (by omega)
    rw [m.2.1 i hi, m.2.1 j hj] at hr
    rw [e4]
    exact ⟨r, h', rfl, S', I4, hsp _ _ (by rw [if_neg hz]; exact ⟨t, u, hr, hk4⟩)⟩
theorem spb_actRatio {how p q z : Int32} (hb : ixI 4 how = none ∨ ixI 12 p = none ∨ ixI 12 q = none ∨ ixI 12 z = none) : Sp_actRatio S how p q z (-1) S := by
  unfold Sp_actRatio
  rcases hb with hb | hb | hb | hb
  · rw [hb]; exact ⟨rfl, rfl⟩
  · rw [hb]; cases ixI 4 how <;> exact ⟨rfl, rfl⟩
  · rw [hb]; cases ixI 4 how <;> cases ixI 12 p <;> exact ⟨rfl, rfl⟩
  · rw [hb]; cases ixI 4 how <;> cases ixI 12 p <;> cases ixI 12 q <;> exact ⟨rfl, rfl⟩
theorem r_actRatio (I : RI B n h S) (how p q z : Int32) : ∃ r h', zs_X11_actRatio h n how p q z = some (r, h') ∧ ∃ S', RI B n h' S' ∧ Sp_actRatio S how p q z r S' := by
  obtain ⟨d, M, c, m, dd, si⟩ := I
  unfold zs_X11_actRatio
  refine c.ratio1 (fun g h1 c1 => ⟨S, ⟨_, M, c1, m, dd, si⟩, spb_actRatio (Or.inr (Or.inl h1))⟩) (fun i g h1 hi ha c1 => ?_)
  dsimp only
  refine c1.ratio1 (fun g h2 c2 => ⟨S, ⟨_, M, c2, m, dd, si⟩, spb_actRatio (Or.inr (Or.inr (Or.inl h2)))⟩) (fun j g h2 hj hb c2 => ?_)
  dsimp only
  refine c2.ratio1 (fun g h3 c3 => ⟨S, ⟨_, M, c3, m, dd, si⟩, spb_actRatio (Or.inr (Or.inr (Or.inr h3)))⟩) (fun k g h3 hk hc c3 => ?_)
  subst ha
  subst hb
  subst hc
  dsimp only
  have I3 : RI B n g S := ⟨_, M, c3, m, dd, si⟩
  cases h4 : ixI 4 how with
  | none =>
    rcases ixI_rng (N := 3) (by decide) h4 with h5 | ⟨h5, h6, h7⟩
    · rw [if_pos h5]; exact ⟨-1, g, rfl, S, I3, spb_actRatio (Or.inl h4)⟩
    · rw [if_neg h5, if_neg (show ¬ how ≤ (3 : Int32) from h7)]; exact ⟨-1, g, rfl, S, I3, spb_actRatio (Or.inl h4)⟩
  | some w =>
    obtain ⟨rfl, hw⟩ := ixI_some h4
    have hsp : ∀ r S', (if w = 3 ∧ S.tp j = 0 then errC S (-2) r S' else ∃ t u, isRat (arP w (S.tp i) (S.bt i) (S.tp j) (S.bt j)) (arQ w (S.bt i) (S.tp j) (S.bt j)) t u ∧ kpR S k t u r S') → Sp_actRatio S (nI w) (nI i) (nI j) (nI k) r S' := by
      intro r S' hh
      unfold Sp_actRatio
      rw [h4, h1, h2, h3]
      exact hh
    rw [if_neg (nI_pos (by omega)), if_pos (show nI w ≤ (3 : Int32) from nI_le (b := 3) (by omega) (by decide))]
    obtain ⟨pi1, pi2, pi3⟩ := m.ratLt si hi
    obtain ⟨pj1, pj2, pj3⟩ := m.ratLt si hj
    have mi := m.2.2 i hi
    have mj := m.2.2 j hj
    have pr : ∀ x y : Int, x.natAbs < C16 ^ 24 → y.natAbs < C16 ^ 24 → (x * y).natAbs < C16 ^ 48 := fun x y hx hy => by
      rw [Int.natAbs_mul, show (48 : Nat) = 24 + 24 from rfl, Nat.pow_add]
      exact Nat.mul_lt_mul_of_lt_of_lt hx hy
    have h4849 : C16 ^ 48 * 65536 = C16 ^ 49 := by rw [show (49 : Nat) = 48 + 1 from rfl, Nat.pow_succ]; rfl
    have p48 := C16_pos 48
    have go : ¬ (w = 3 ∧ S.tp j = 0) → ∃ r h', zj_X11_actRatio_56 g n (nI w) (nI i) (nI j) (nI k) = some (r, h') ∧ ∃ S', RI B n h' S' ∧ Sp_actRatio S (nI w) (nI i) (nI j) (nI k) r S' := by
      intro hno
      simp only [if_neg hno] at hsp
      unfold zj_X11_actRatio_56
      by_cases hw2 : w < 2
      · rw [if_neg (show ¬ (2 : Int32) ≤ nI w from nI_ge (b := 2) hw2 (by decide))]
        simp only [c3.rm, c3.above hi, c3.below hj, Option.bind_some]
        obtain ⟨g4, e4, c4⟩ := c3.times (T := 0) (i := 92 + i) (j := 104 + j) rfl (by decide) (by omega) (by omega) (by omega) (by omega) pi1 pj2 (by decide)
        rw [mi.1, mj.2] at c4
        rw [e4]
        simp only [c4.rm, c4.above hj, c4.below hi, Option.bind_some]
        obtain ⟨g5, e5, c5⟩ := c4.times (T := 1) (i := 92 + j) (j := 104 + i) rfl (by decide) (by omega) (by omega) (by omega) (by omega) (na := 24) (nb := 24) (by rw [va_un (by omega)]; exact pj1) (by rw [va_un (by omega)]; exact pi2) (by decide)
        rw [va_un (show 92 + j ≠ 0 by omega), va_un (show 104 + i ≠ 0 by omega), mj.1, mi.2] at c5
        rw [e5]
        simp only [c5.rm, Option.bind_some]
        have b0 := pr (S.tp i) (S.bt j) (by rw [← mi.1]; exact pi1) (by rw [← mj.2]; exact pj2)
        have b1 := pr (S.tp j) (S.bt i) (by rw [← mj.1]; exact pj1) (by rw [← mi.2]; exact pi2)
        obtain ⟨g6, e6, c6⟩ := c5.acted (T := 2) (i := 0) (j := 1) rfl (by decide) (by decide) (by decide) (by decide) (by decide) (na := 48) (by rw [va_un (by decide), va_us]; exact b0) (by rw [va_us]; exact b1) (by decide) (by decide) (w := w) (by omega)
        rw [va_us, va_un (show 0 ≠ 1 by decide), va_us] at c6
        rw [e6]
        simp only [c6.rm, c6.below hi, c6.below hj, Option.bind_some]
        obtain ⟨g7, e7, c7⟩ := c6.times (T := 3) (i := 104 + i) (j := 104 + j) rfl (by decide) (by omega) (by omega) (by omega) (by omega) (na := 24) (nb := 24) (by rw [va_un (by omega), va_un (by omega), va_un (by omega)]; exact pi2) (by rw [va_un (by omega), va_un (by omega), va_un (by omega)]; exact pj2) (by decide)
        rw [va_un (show 104 + i ≠ 2 by omega), va_un (show 104 + i ≠ 1 by omega), va_un (show 104 + i ≠ 0 by omega), va_un (show 104 + j ≠ 2 by omega), va_un (show 104 + j ≠ 1 by omega), va_un (show 104 + j ≠ 0 by omega), mi.2, mj.2] at c7
        rw [e7]
        simp only [c7.rm, Option.bind_some]
        have hP : (if w = 0 then S.tp i * S.bt j + S.tp j * S.bt i else if w = 1 then S.tp i * S.bt j - S.tp j * S.bt i else S.tp i * S.bt j * (S.tp j * S.bt i)) = arP w (S.tp i) (S.bt i) (S.tp j) (S.bt j) := by
          unfold arP
          rcases (show w = 0 ∨ w = 1 by omega) with e | e
          · rw [if_pos e, if_pos e]
          · rw [if_neg (by omega), if_pos e, if_neg (by omega), if_pos e]
        rw [hP] at c7
        have hQ : S.bt i * S.bt j = arQ w (S.bt i) (S.tp j) (S.bt j) := by
          unfold arQ
          rw [if_neg (by omega)]
        rw [hQ] at c7
        have hPb : (arP w (S.tp i) (S.bt i) (S.tp j) (S.bt j)).natAbs < C16 ^ 49 := by
          rw [← hP]
          rcases (show w = 0 ∨ w = 1 by omega) with e | e
          · rw [if_pos e]; omega
          · rw [if_neg (by omega), if_pos e]; omega
        have hQb : (arQ w (S.bt i) (S.tp j) (S.bt j)).natAbs < C16 ^ 49 := by
          rw [← hQ]
          have := pr (S.bt i) (S.bt j) (by rw [← mi.2]; exact pi2) (by rw [← mj.2]; exact pj2)
          omega
        have hQ0 : arQ w (S.bt i) (S.tp j) (S.bt j) ≠ 0 := by
          rw [← hQ]
          rw [mi.2] at pi3
          rw [mj.2] at pj3
          exact Int.ne_of_gt (Int.mul_pos pi3 pj3)
        obtain ⟨r, h', e8, S', I8, t, u, hr, hk8⟩ := c7.keepRatio (T := 4) (i := 2) (j := 3) (((((m.up (by decide) _).up (by decide) _).up (by decide) _).up (by decide) _)) dd si rfl (by decide) (by decide) (by decide) (by decide) (by decide) hk (by rw [va_us]; exact hQ0) (by rw [va_un (by decide), va_us]; exact hPb) (by rw [va_us]; exact hQb)
        rw [va_us, va_un (show 2 ≠ 3 by decide), va_us] at hr
        rw [e8]
        exact ⟨r, h', rfl, S', I8, hsp _ _ ⟨t, u, hr, hk8⟩⟩
      · rw [if_pos (show (2 : Int32) ≤ nI w from nI_le (a := 2) (by omega) (by omega))]
        have fin : ∀ (g5 : AH) (d5 : RD) (M5 : Nat → Int), RV B n d5 g5 M5 → d5.top = nI 2 → RDD d5 S → (∀ x, 64 ≤ x → M5 x = M x) → M5 0 = arP w (S.tp i) (S.bt i) (S.tp j) (S.bt j) → M5 1 = arQ w (S.bt i) (S.tp j) (S.bt j) → (M5 0).natAbs < C16 ^ 48 → (M5 1).natAbs < C16 ^ 48 → M5 1 ≠ 0 → ∃ r h', zs_X11_keepRatio g5 n (nI k) (ar n 0) (ar n 1) = some (r, h') ∧ ∃ S', RI B n h' S' ∧ Sp_actRatio S (nI w) (nI i) (nI j) (nI k) r S' := by
          intro g5 d5 M5 c5 t5 dd5 f5 v0 v1 b0 b1 nz1
          obtain ⟨r, h', e8, S', I8, t, u, hr, hk8⟩ := c5.keepRatio (T := 2) (i := 0) (j := 1) (m.fr (fun x hx _ _ => f5 x hx)) dd5 si t5 (by decide) (by decide) (by decide) (by decide) (by decide) hk nz1 (by omega) (by omega)
          rw [v0, v1] at hr
          exact ⟨r, h', e8, S', I8, hsp _ _ ⟨t, u, hr, hk8⟩⟩
        by_cases hw3 : w = 2
        · have e22 : nI w = (2 : Int32) := by rw [hw3]; rfl
          rw [if_pos e22]
          simp only [c3.rm, c3.above hi, c3.above hj, Option.bind_some]
          obtain ⟨g4, e4, c4⟩ := c3.times (T := 0) (i := 92 + i) (j := 92 + j) rfl (by decide) (by omega) (by omega) (by omega) (by omega) pi1 pj1 (by decide)
          rw [mi.1, mj.1] at c4
          rw [e4]
          simp only [c4.rm, c4.below hi, c4.below hj, Option.bind_some]
          obtain ⟨g5, e5, c5⟩ := c4.times (T := 1) (i := 104 + i) (j := 104 + j) rfl (by decide) (by omega) (by omega) (by omega) (by omega) (na := 24) (nb := 24) (by rw [va_un (by omega)]; exact pi2) (by rw [va_un (by omega)]; exact pj2) (by decide)
          rw [va_un (show 104 + i ≠ 0 by omega), va_un (show 104 + j ≠ 0 by omega), mi.2, mj.2] at c5
          rw [e5]
          simp only [c5.rm, Option.bind_some]
          obtain ⟨r, h', e8, rest⟩ := fin g5 _ _ c5 rfl dd (fun x hx => by rw [va_un (by omega), va_un (by omega)]) (by rw [va_un (by decide), va_us]; unfold arP; rw [if_neg (by omega), if_neg (by omega), if_pos hw3]) (by rw [va_us]; unfold arQ; rw [if_neg (by omega)]) (by rw [va_un (by decide), va_us]; exact pr _ _ (by rw [← mi.1]; exact pi1) (by rw [← mj.1]; exact pj1)) (by rw [va_us]; exact pr _ _ (by rw [← mi.2]; exact pi2) (by rw [← mj.2]; exact pj2)) (by
            rw [va_us]
            rw [mi.2] at pi3
            rw [mj.2] at pj3
            exact Int.ne_of_gt (Int.mul_pos pi3 pj3))
          rw [e8]
          exact ⟨r, h', rfl, rest⟩
        · have hw33 : w = 3 := by omega
          have hq0 : S.tp j ≠ 0 := fun e => hno ⟨hw33, e⟩
          rw [if_neg (show ¬ nI w = (2 : Int32) from fun e => hw3 ((nI_eq (b := 2) (by omega) (by decide)).mp e))]
          simp only [c3.rm, c3.above hi, c3.below hj, Option.bind_some]
          obtain ⟨g4, e4, c4⟩ := c3.times (T := 0) (i := 92 + i) (j := 104 + j) rfl (by decide) (by omega) (by omega) (by omega) (by omega) pi1 pj2 (by decide)
          rw [mi.1, mj.2] at c4
          rw [e4]
          simp only [c4.rm, c4.below hi, c4.above hj, Option.bind_some]
          obtain ⟨g5, e5, c5⟩ := c4.times (T := 1) (i := 104 + i) (j := 92 + j) rfl (by decide) (by omega) (by omega) (by omega) (by omega) (na := 24) (nb := 24) (by rw [va_un (by omega)]; exact pi2) (by rw [va_un (by omega)]; exact pj1) (by decide)
          rw [va_un (show 104 + i ≠ 0 by omega), va_un (show 92 + j ≠ 0 by omega), mi.2, mj.1] at c5
          rw [e5]
          simp only [c5.rm, Option.bind_some]
          obtain ⟨r, h', e8, rest⟩ := fin g5 _ _ c5 rfl dd (fun x hx => by rw [va_un (by omega), va_un (by omega)]) (by rw [va_un (by decide), va_us]; unfold arP; rw [if_neg (by omega), if_neg (by omega), if_neg (by omega)]) (by rw [va_us]; unfold arQ; rw [if_pos hw33]) (by rw [va_un (by decide), va_us]; exact pr _ _ (by rw [← mi.1]; exact pi1) (by rw [← mj.2]; exact pj2)) (by rw [va_us]; exact pr _ _ (by rw [← mi.2]; exact pi2) (by rw [← mj.1]; exact pj1)) (by
            rw [va_us]
            rw [mi.2] at pi3
            exact Int.mul_ne_zero (by omega) hq0)
          rw [e8]
          exact ⟨r, h', rfl, rest⟩
    by_cases hw3 : w = 3
    · have e33 : nI w = (3 : Int32) := by rw [hw3]; rfl
      rw [if_pos e33]
      simp only [c3.rm, c3.above hj, c3.ck (show 92 + j < 317 by omega), c3.isZero (show 92 + j < 317 by omega), mj.1, Option.bind_some]
      by_cases hz : S.tp j = 0
      · rw [if_pos hz, if_neg (by decide)]
        exact ⟨-2, g, rfl, S, I3, hsp _ _ (by rw [if_pos ⟨hw3, hz⟩]; exact ⟨rfl, rfl⟩)⟩
      · rw [if_neg hz, if_pos (by decide)]
        exact go (fun q => hz q.2)
    · rw [if_neg (show ¬ nI w = (3 : Int32) from fun e => hw3 ((nI_eq (b := 3) (by omega) (by decide)).mp e))]
      exact go (fun q => hw3 q.1)
theorem r_compareRatio (I : RI B n h S) (p q : Int32) : ∃ r h', zs_X11_compareRatio h n p q = some (r, h') ∧ RI B n h' S ∧ Sp_compareRatio S p q r := by
  obtain ⟨d, M, c, m, dd, si⟩ := I
  unfold zs_X11_compareRatio
  refine c.ratio1 (fun g h1 c1 => ⟨⟨_, M, c1, m, dd, si⟩, by unfold Sp_compareRatio; rw [h1]⟩) (fun i g h1 hi ha c1 => ?_)
  dsimp only
  refine c1.ratio1 (fun g h2 c2 => ⟨⟨_, M, c2, m, dd, si⟩, by unfold Sp_compareRatio; rw [h1, h2]⟩) (fun j g h2 hj hb c2 => ?_)
  subst ha
  subst hb
  dsimp only
  obtain ⟨pi1, pi2, pi3⟩ := m.ratLt si hi
  obtain ⟨pj1, pj2, pj3⟩ := m.ratLt si hj
  have mi := m.2.2 i hi
  have mj := m.2.2 j hj
  simp only [c2.rm, c2.above hi, c2.below hj, Option.bind_some]
  obtain ⟨g4, e4, c4⟩ := c2.times (T := 0) (i := 92 + i) (j := 104 + j) rfl (by decide) (by omega) (by omega) (by omega) (by omega) pi1 pj2 (by decide)
  rw [mi.1, mj.2] at c4
  rw [e4]
  simp only [c4.rm, c4.above hj, c4.below hi, Option.bind_some]
  obtain ⟨g5, e5, c5⟩ := c4.times (T := 1) (i := 92 + j) (j := 104 + i) rfl (by decide) (by omega) (by omega) (by omega) (by omega) (na := 24) (nb := 24) (by rw [va_un (by omega)]; exact pj1) (by rw [va_un (by omega)]; exact pi2) (by decide)
  rw [va_un (show 92 + j ≠ 0 by omega), va_un (show 104 + i ≠ 0 by omega), mj.1, mi.2] at c5
  rw [e5]
  simp only [c5.cmp (show 0 < 317 by decide) (show 1 < 317 by decide), Option.bind_some]
  rw [va_us, va_un (show 0 ≠ 1 by decide), va_us]
  refine ⟨_, g5, rfl, ⟨_, _, c5, (m.up (by decide) _).up (by decide) _, dd, si⟩, ?_⟩
  unfold Sp_compareRatio
  rw [h1, h2]
  exact Int32.add_comm _ _
theorem spb_part {q w s : Int32} (hb : ixI 12 q = none ∨ ixI 4 w = none ∨ ixI 24 s = none) : Sp_part S q w s (-1) S := by
  unfold Sp_part
  rcases hb with hb | hb | hb
  · rw [hb]; exact ⟨rfl, rfl⟩
  · rw [hb]; cases ixI 12 q <;> exact ⟨rfl, rfl⟩
  · rw [hb]; cases ixI 12 q <;> cases ixI 4 w <;> exact ⟨rfl, rfl⟩
theorem r_part (I : RI B n h S) (q x s : Int32) : ∃ r h', zs_X11_part h n q x s = some (r, h') ∧ ∃ S', RI B n h' S' ∧ Sp_part S q x s r S' := by
  obtain ⟨d, M, c, m, dd, si⟩ := I
  unfold zs_X11_part
  refine c.ratio1 (fun g h1 c1 => ⟨S, ⟨_, M, c1, m, dd, si⟩, spb_part (Or.inl h1)⟩) (fun i g h1 hi ha c1 => ?_)
  dsimp only
  refine c1.slot1 (fun g h2 c2 => ⟨S, ⟨_, M, c2, m, dd, si⟩, spb_part (Or.inr (Or.inr h2))⟩) (fun k g h2 hk hb c2 => ?_)
  subst ha
  subst hb
  dsimp only
  have I2 : RI B n g S := ⟨_, M, c2, m, dd, si⟩
  cases h4 : ixI 4 x with
  | none =>
    rcases ixI_rng (N := 3) (by decide) h4 with h5 | ⟨h5, h6, h7⟩
    · rw [if_pos h5]; exact ⟨-1, g, rfl, S, I2, spb_part (Or.inr (Or.inl h4))⟩
    · rw [if_neg h5, if_neg (show ¬ x ≤ (3 : Int32) from h7)]; exact ⟨-1, g, rfl, S, I2, spb_part (Or.inr (Or.inl h4))⟩
  | some w =>
    obtain ⟨rfl, hw⟩ := ixI_some h4
    have hsp : ∀ r S', kp S k (if w = 0 then S.tp i else if w = 1 then S.bt i else if w = 2 then dvQ 1 (S.tp i) (S.bt i) else nrV (S.tp i) (S.bt i)) r S' → Sp_part S (nI i) (nI w) (nI k) r S' := by
      intro r S' hh
      unfold Sp_part
      rw [h1, h4, h2]
      exact hh
    rw [if_neg (nI_pos (by omega)), if_pos (show nI w ≤ (3 : Int32) from nI_le (b := 3) (by omega) (by decide))]
    obtain ⟨pi1, pi2, pi3⟩ := m.ratLt si hi
    have mi := m.2.2 i hi
    have fin : ∀ (g5 : AH) (d5 : RD) (M5 : Nat → Int) (W : Nat), RV B n d5 g5 M5 → RDD d5 S → (∀ y, 64 ≤ y → M5 y = M y) → W < 317 → M5 W = (if w = 0 then S.tp i else if w = 1 then S.bt i else if w = 2 then dvQ 1 (S.tp i) (S.bt i) else nrV (S.tp i) (S.bt i)) → ∃ r h', ((zs_X11_keep g5 n (nI k) (ar n W)).bind fun u => some (u.1, u.2)) = some (r, h') ∧ ∃ S', RI B n h' S' ∧ Sp_part S (nI i) (nI w) (nI k) r S' := by
      intro g5 d5 M5 W c5 dd5 f5 hW hv
      obtain ⟨r, h', S', e6, I6, k6⟩ := c5.keep (m.fr (fun y hy _ _ => f5 y hy)) dd5 si (k := W) hW hk
      rw [hv] at k6
      rw [e6]
      exact ⟨r, h', rfl, S', I6, hsp _ _ k6⟩
    by_cases hw2 : 2 ≤ w
    · rw [if_pos (show (2 : Int32) ≤ nI w from nI_le (a := 2) hw2 (by omega))]
      simp only [c2.rm, c2.above hi, c2.below hi, Option.bind_some]
      obtain ⟨g3, e3, M3, Q, R, T3, c3, hQ, hR, hT3, mQ, mR, f3⟩ := c2.over (T := 0) (i := 92 + i) (j := 104 + i) rfl (by decide) (by omega) (by omega) (by omega) (by omega) (by omega) pi1 pi2 (by decide) (by decide) m.1.1 m.1.2 1
      rw [mi.1, mi.2] at mQ mR
      have f3' : ∀ y, 64 ≤ y → M3 y = M y := fun y hy => f3 y (Or.inr hy)
      rw [e3]
      simp only [c3.qr, c3.rm, Option.bind_some]
      by_cases hw3 : w = 2
      · have e22 : nI w = (2 : Int32) := by rw [hw3]; rfl
        rw [if_pos e22]
        exact fin g3 _ M3 Q c3 dd f3' (by omega) (by rw [mQ, if_neg (by omega), if_neg (by omega), if_pos hw3])
      · rw [if_neg (show ¬ nI w = (2 : Int32) from fun e => hw3 ((nI_eq (b := 2) (by omega) (by decide)).mp e))]
        have hRb : (dvR 1 (S.tp i) (S.bt i)).natAbs < C16 ^ 99 := by
          have hr : (rt (S.tp i) (S.bt i)).natAbs < (S.bt i).natAbs := by
            rw [rt_abs]
            rw [mi.2] at pi3
            exact Nat.mod_lt _ (by omega)
          have hb2 : (S.bt i).natAbs < C16 ^ 24 := by rw [← mi.2]; exact pi2
          have h9 : C16 ^ 24 * 65536 ≤ C16 ^ 99 := by
            have : C16 ^ 24 * 65536 = C16 ^ 25 := by rw [show (25 : Nat) = 24 + 1 from rfl, Nat.pow_succ]; rfl
            rw [this]
            exact Nat.pow_le_pow_right (by decide) (by decide)
          unfold dvR
          by_cases z1 : dlo 1 (rt (S.tp i) (S.bt i)) (S.bt i) = 0
          · rw [if_pos z1]
            by_cases z2 : dhi 1 (rt (S.tp i) (S.bt i)) (S.bt i) = 0
            · rw [if_pos z2]; omega
            · rw [if_neg z2]; omega
          · rw [if_neg z1]; omega
        obtain ⟨g4, e4, c4⟩ := c3.sum (T := T3) (i := R) (j := R) rfl (by omega) (by omega) (by omega) (by omega) (by omega) (by rw [mR]; exact hRb) (by rw [mR]; exact hRb)
        rw [mR] at c4
        rw [e4]
        simp only [c4.rm, c4.below hi, Option.bind_some]
        obtain ⟨M4, hM4⟩ : ∃ M4, M4 = va_up M3 T3 (dvR 1 (S.tp i) (S.bt i) + dvR 1 (S.tp i) (S.bt i)) := ⟨_, rfl⟩
        rw [← hM4] at c4
        have f4 : ∀ y, 64 ≤ y → M4 y = M y := fun y hy => by rw [hM4, va_un (by omega)]; exact f3' y hy
        have m4T : M4 T3 = dvR 1 (S.tp i) (S.bt i) + dvR 1 (S.tp i) (S.bt i) := by rw [hM4, va_us]
        have m4Q : M4 Q = dvQ 1 (S.tp i) (S.bt i) := by rw [hM4, va_un (by omega)]; exact mQ
        have m4b : M4 (104 + i) = S.bt i := by rw [f4 _ (by omega)]; exact mi.2
        have hbit : zs_X10_bit g4 (ar n Q) (0 : Int32) = some (if (dvQ 1 (S.tp i) (S.bt i)).natAbs % 2 = 1 then 1 else 0) := by
          have := c4.bit (i := Q) (k := 0) (by omega) (by decide)
          rw [m4Q, Nat.testBit_zero, show nI 0 = (0 : Int32) from rfl] at this
          rw [this]
          by_cases ho : (dvQ 1 (S.tp i) (S.bt i)).natAbs % 2 = 1
          · rw [if_pos ho, if_pos (decide_eq_true ho)]
          · rw [if_neg ho, if_neg (fun q => ho (of_decide_eq_true q))]
        simp only [c4.cmp (show T3 < 317 by omega) (show 104 + i < 317 by omega), m4T, m4b, c4.ck (show Q < 317 by omega), hbit, Option.bind_some]
        have up : nrV (S.tp i) (S.bt i) = dvQ 1 (S.tp i) (S.bt i) + 1 → ∃ r h', zj_X11_part_141 g4 n (ar n Q) (nI k) n = some (r, h') ∧ ∃ S', RI B n h' S' ∧ Sp_part S (nI i) (nI w) (nI k) r S' := by
          intro hv
          unfold zj_X11_part_141 zj_X11_part_156
          simp only [c4.rm, Option.bind_some]
          have m465 : M4 65 = 1 := (f4 65 (by omega)).trans m.1.2
          have hqb : (dvQ 1 (S.tp i) (S.bt i)).natAbs < C16 ^ 99 := by
            have h5 := c4.le100 (show Q < 317 by omega)
            have hq1 := dvQ1 (x := S.tp i) (y := S.bt i) (by rw [← mi.2]; exact pi3)
            rw [hq1]
            have h6 : (S.tp i / S.bt i).natAbs ≤ (S.tp i).natAbs := Int.natAbs_ediv_le_natAbs _ _
            have h7 : (S.tp i).natAbs < C16 ^ 24 := by rw [← mi.1]; exact pi1
            have h8 : C16 ^ 24 ≤ C16 ^ 99 := Nat.pow_le_pow_right (by decide) (by decide)
            omega
          have h1c : C16 ^ 1 ≤ C16 ^ 99 := Nat.pow_le_pow_right (by decide) (by decide)
          have h1d : C16 ^ 1 = 65536 := by decide
          obtain ⟨g5, e5, c5⟩ := c4.sum (T := T3 + 1) (i := Q) (j := 65) rfl (by omega) (by omega) (by decide) (by omega) (by omega) (by rw [m4Q]; exact hqb) (by rw [m465]; show 1 < _; omega)
          rw [m4Q, m465] at c5
          rw [e5]
          simp only [c5.rm, Option.bind_some]
          exact fin g5 _ _ (T3 + 1) c5 dd (fun y hy => by rw [va_un (by omega)]; exact f4 y hy) (by omega) (by rw [va_us, if_neg (by omega), if_neg (by omega), if_neg hw3, hv])
        have down : nrV (S.tp i) (S.bt i) = dvQ 1 (S.tp i) (S.bt i) → ∃ r h', zj_X11_part_156 g4 (ar n Q) (nI k) n = some (r, h') ∧ ∃ S', RI B n h' S' ∧ Sp_part S (nI i) (nI w) (nI k) r S' := by
          intro hv
          unfold zj_X11_part_156
          simp only [c4.rm, Option.bind_some]
          exact fin g4 _ M4 Q c4 dd f4 (by omega) (by rw [m4Q, if_neg (by omega), if_neg (by omega), if_neg hw3, hv])
        by_cases hgt : S.bt i < dvR 1 (S.tp i) (S.bt i) + dvR 1 (S.tp i) (S.bt i)
        · have hc : (0 : Int32) < cmpZ (dvR 1 (S.tp i) (S.bt i) + dvR 1 (S.tp i) (S.bt i)) (S.bt i) := by
            unfold cmpZ
            rw [if_neg (by omega), if_neg (by omega)]; decide
          rw [if_pos hc]
          exact up (by unfold nrV; rw [if_pos (Or.inl hgt)])
        · have hc : ¬ (0 : Int32) < cmpZ (dvR 1 (S.tp i) (S.bt i) + dvR 1 (S.tp i) (S.bt i)) (S.bt i) := by
            unfold cmpZ
            by_cases hl : dvR 1 (S.tp i) (S.bt i) + dvR 1 (S.tp i) (S.bt i) < S.bt i
            · rw [if_pos hl]; decide
            · rw [if_neg hl, if_pos (by omega)]; decide
          rw [if_neg hc]
          by_cases heq : dvR 1 (S.tp i) (S.bt i) + dvR 1 (S.tp i) (S.bt i) = S.bt i
          · have hc0 : cmpZ (dvR 1 (S.tp i) (S.bt i) + dvR 1 (S.tp i) (S.bt i)) (S.bt i) = 0 := by
              unfold cmpZ
              rw [if_neg (by omega), if_pos heq]
            rw [hc0, if_pos (by decide)]
            by_cases ho : (dvQ 1 (S.tp i) (S.bt i)).natAbs % 2 = 1
            · rw [if_pos ho, if_neg (by decide)]
              exact up (by unfold nrV; rw [if_pos (Or.inr ⟨heq, ho⟩)])
            · rw [if_neg ho, if_pos (by decide)]
              exact down (by unfold nrV; rw [if_neg (fun q => q.elim hgt (fun u => ho u.2))])
          · have hc0 : ¬ cmpZ (dvR 1 (S.tp i) (S.bt i) + dvR 1 (S.tp i) (S.bt i)) (S.bt i) = 0 := by
              unfold cmpZ
              rw [if_pos (by omega)]; decide
            rw [if_neg hc0]
            exact down (by unfold nrV; rw [if_neg (fun q => q.elim hgt (fun u => heq u.1))])
    · rw [if_neg (show ¬ (2 : Int32) ≤ nI w from nI_ge (b := 2) (by omega) (by decide))]
      unfold zj_X11_part_53
      by_cases hw0 : w = 0
      · have e00 : nI w = (0 : Int32) := by rw [hw0]; rfl
        rw [if_pos e00]
        simp only [c2.rm, c2.above hi, Option.bind_some]
        exact fin g _ M (92 + i) c2 dd (fun y _ => rfl) (by omega) (by rw [mi.1, if_pos hw0])
      · rw [if_neg (nI_ne0 (by omega) (by omega))]
        simp only [c2.rm, c2.below hi, Option.bind_some]
        exact fin g _ M (104 + i) c2 dd (fun y _ => rfl) (by omega) (by rw [mi.2, if_neg hw0, if_pos (by omega)])
end Rrt
