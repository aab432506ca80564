/-! the class's object is made -/
section Mk2
variable {h : AH} {p : Nat}
theorem made3 {q : Nat} (hp : h.1 p = some (.inr (3, [.null, .null, .null, .null, .null, .null, .null, .null]))) (hl : h.2 = p + 1) : ∃ h', zs_X3_init h p q = some h' ∧ h'.2 = p + 15 ∧ h'.1 p = some (.inr (3, [.ref (p + 1), .ref q, .ref (p + 3), .ref (p + 5), .ref (p + 7), .ref (p + 9), .ref (p + 11), .ref (p + 13)])) ∧ (∀ t, t < 7 → WH h' (p + 1 + 2 * t) 0) ∧ ∀ a, a < p → h'.1 a = h.1 a := by
  unfold zs_X3_init
  obtain ⟨g0, e0, s0, p0, f0⟩ := mkV (k := 1) (.ref q) hp (Nat.le_of_ble_eq_true rfl)
  rw [e0]
  obtain ⟨g1, e1, s1, p1, w1, f1⟩ := mkW (k := 0) p0 (by omega) (Nat.le_of_ble_eq_true rfl)
  rw [e1]
  rw [s0, hl] at p1 s1 w1 f1
  obtain ⟨g2, e2, s2, p2, w2, f2⟩ := mkW (k := 2) p1 (by omega) (Nat.le_of_ble_eq_true rfl)
  rw [e2]
  rw [s1] at p2 s2 w2 f2
  obtain ⟨g3, e3, s3, p3, w3, f3⟩ := mkW (k := 3) p2 (by omega) (Nat.le_of_ble_eq_true rfl)
  rw [e3]
  rw [s2] at p3 s3 w3 f3
  obtain ⟨g4, e4, s4, p4, w4, f4⟩ := mkW (k := 4) p3 (by omega) (Nat.le_of_ble_eq_true rfl)
  rw [e4]
  rw [s3] at p4 s4 w4 f4
  obtain ⟨g5, e5, s5, p5, w5, f5⟩ := mkW (k := 5) p4 (by omega) (Nat.le_of_ble_eq_true rfl)
  rw [e5]
  rw [s4] at p5 s5 w5 f5
  obtain ⟨g6, e6, s6, p6, w6, f6⟩ := mkW (k := 6) p5 (by omega) (Nat.le_of_ble_eq_true rfl)
  rw [e6]
  rw [s5] at p6 s6 w6 f6
  obtain ⟨g7, e7, s7, p7, w7, f7⟩ := mkW (k := 7) p6 (by omega) (Nat.le_of_ble_eq_true rfl)
  rw [e7]
  rw [s6] at p7 s7 w7 f7
  refine ⟨g7, rfl, by omega, p7, fun t ht => ?_, fun a ha => by rw [f7 a (by omega) (by omega), f6 a (by omega) (by omega), f5 a (by omega) (by omega), f4 a (by omega) (by omega), f3 a (by omega) (by omega), f2 a (by omega) (by omega), f1 a (by omega) (by omega), f0 a (by omega)]⟩
  · rcases (show t = 0 ∨ t = 1 ∨ t = 2 ∨ t = 3 ∨ t = 4 ∨ t = 5 ∨ t = 6 by omega) with rfl | rfl | rfl | rfl | rfl | rfl | rfl
    · refine w1.kp ?_ ?_ <;> rw [f7 _ (by omega) (by omega), f6 _ (by omega) (by omega), f5 _ (by omega) (by omega), f4 _ (by omega) (by omega), f3 _ (by omega) (by omega), f2 _ (by omega) (by omega)]
    · refine w2.kp ?_ ?_ <;> rw [f7 _ (by omega) (by omega), f6 _ (by omega) (by omega), f5 _ (by omega) (by omega), f4 _ (by omega) (by omega), f3 _ (by omega) (by omega)]
    · refine w3.kp ?_ ?_ <;> rw [f7 _ (by omega) (by omega), f6 _ (by omega) (by omega), f5 _ (by omega) (by omega), f4 _ (by omega) (by omega)]
    · refine w4.kp ?_ ?_ <;> rw [f7 _ (by omega) (by omega), f6 _ (by omega) (by omega), f5 _ (by omega) (by omega)]
    · refine w5.kp ?_ ?_ <;> rw [f7 _ (by omega) (by omega), f6 _ (by omega) (by omega)]
    · refine w6.kp ?_ ?_ <;> rw [f7 _ (by omega) (by omega)]
    · exact w7
theorem made2 {q u : Nat} (hp : h.1 p = some (.inr (2, [.null, .null, .null, .null, .null, .null, .null, .null]))) (hl : h.2 = p + 1) : ∃ h', zs_X2_init h p q u = some h' ∧ h'.2 = p + 13 ∧ h'.1 p = some (.inr (2, [.ref (p + 1), .ref (p + 3), .ref q, .ref u, .ref (p + 5), .ref (p + 7), .ref (p + 9), .ref (p + 11)])) ∧ (∀ t, t < 6 → WH h' (p + 1 + 2 * t) 0) ∧ ∀ a, a < p → h'.1 a = h.1 a := by
  unfold zs_X2_init
  obtain ⟨gx, ex, sx, px, fx⟩ := mkV (k := 2) (.ref q) hp (Nat.le_of_ble_eq_true rfl)
  rw [ex]
  obtain ⟨g0, e0, s0, p0, f0⟩ := mkV (k := 3) (.ref u) px (Nat.le_of_ble_eq_true rfl)
  rw [e0]
  rw [sx] at s0
  obtain ⟨g1, e1, s1, p1, w1, f1⟩ := mkW (k := 0) p0 (by omega) (Nat.le_of_ble_eq_true rfl)
  rw [e1]
  rw [s0, hl] at p1 s1 w1 f1
  obtain ⟨g2, e2, s2, p2, w2, f2⟩ := mkW (k := 1) p1 (by omega) (Nat.le_of_ble_eq_true rfl)
  rw [e2]
  rw [s1] at p2 s2 w2 f2
  obtain ⟨g3, e3, s3, p3, w3, f3⟩ := mkW (k := 4) p2 (by omega) (Nat.le_of_ble_eq_true rfl)
  rw [e3]
  rw [s2] at p3 s3 w3 f3
  obtain ⟨g4, e4, s4, p4, w4, f4⟩ := mkW (k := 5) p3 (by omega) (Nat.le_of_ble_eq_true rfl)
  rw [e4]
  rw [s3] at p4 s4 w4 f4
  obtain ⟨g5, e5, s5, p5, w5, f5⟩ := mkW (k := 6) p4 (by omega) (Nat.le_of_ble_eq_true rfl)
  rw [e5]
  rw [s4] at p5 s5 w5 f5
  obtain ⟨g6, e6, s6, p6, w6, f6⟩ := mkW (k := 7) p5 (by omega) (Nat.le_of_ble_eq_true rfl)
  rw [e6]
  rw [s5] at p6 s6 w6 f6
  refine ⟨g6, rfl, by omega, p6, fun t ht => ?_, fun a ha => by rw [f6 a (by omega) (by omega), f5 a (by omega) (by omega), f4 a (by omega) (by omega), f3 a (by omega) (by omega), f2 a (by omega) (by omega), f1 a (by omega) (by omega), f0 a (by omega), fx a (by omega)]⟩
  · rcases (show t = 0 ∨ t = 1 ∨ t = 2 ∨ t = 3 ∨ t = 4 ∨ t = 5 by omega) with rfl | rfl | rfl | rfl | rfl | rfl
    · refine w1.kp ?_ ?_ <;> rw [f6 _ (by omega) (by omega), f5 _ (by omega) (by omega), f4 _ (by omega) (by omega), f3 _ (by omega) (by omega), f2 _ (by omega) (by omega)]
    · refine w2.kp ?_ ?_ <;> rw [f6 _ (by omega) (by omega), f5 _ (by omega) (by omega), f4 _ (by omega) (by omega), f3 _ (by omega) (by omega)]
    · refine w3.kp ?_ ?_ <;> rw [f6 _ (by omega) (by omega), f5 _ (by omega) (by omega), f4 _ (by omega) (by omega)]
    · refine w4.kp ?_ ?_ <;> rw [f6 _ (by omega) (by omega), f5 _ (by omega) (by omega)]
    · refine w5.kp ?_ ?_ <;> rw [f6 _ (by omega) (by omega)]
    · exact w6
theorem made1 {q : Nat} (hp : h.1 p = some (.inr (1, [.int 0, .int 0, .null, .null, .null, .null, .null, .null]))) (hl : h.2 = p + 1) : ∃ h', zs_X1_init h p q = some h' ∧ h'.2 = p + 9 ∧ h'.1 p = some (.inr (1, [.int 0, .int 0, .ref (p + 1), .ref (p + 2), .ref q, .ref (p + 3), .ref (p + 5), .ref (p + 7)])) ∧ h'.1 (p + 1) = some (.inl (0, 200, .inl (fun _ => 0))) ∧ h'.1 (p + 2) = some (.inl (0, 200, .inl (fun _ => 0))) ∧ (∀ t, t < 3 → WH h' (p + 3 + 2 * t) 0) ∧ ∀ a, a < p → h'.1 a = h.1 a := by
  unfold zs_X1_init
  obtain ⟨ga, ea, sa, pa, fa⟩ := mkV (k := 4) (.ref q) hp (Nat.le_of_ble_eq_true rfl)
  rw [ea]
  obtain ⟨gb, eb, sb, pb, fb⟩ := mkV (k := 0) (.int 0) pa (Nat.le_of_ble_eq_true rfl)
  rw [eb]
  obtain ⟨gc, ec, sc, pc, fc⟩ := mkV (k := 1) (.int 0) pb (Nat.le_of_ble_eq_true rfl)
  rw [ec]
  rw [sb, sa, hl] at sc
  obtain ⟨gd, ed, sd, pd, rd, fd⟩ := mkR (k := 2) (0, (200, .inl (fun _ => 0))) pc (by omega) (Nat.le_of_ble_eq_true rfl)
  rw [ed]
  rw [sc] at sd pd rd fd
  obtain ⟨g0, e0, s0, p0, r0, f0⟩ := mkR (k := 3) (0, (200, .inl (fun _ => 0))) pd (by omega) (Nat.le_of_ble_eq_true rfl)
  rw [e0]
  rw [sd] at s0 p0 r0 f0
  obtain ⟨g1, e1, s1, p1, w1, f1⟩ := mkW (k := 5) p0 (by omega) (Nat.le_of_ble_eq_true rfl)
  rw [e1]
  rw [s0] at p1 s1 w1 f1
  obtain ⟨g2, e2, s2, p2, w2, f2⟩ := mkW (k := 6) p1 (by omega) (Nat.le_of_ble_eq_true rfl)
  rw [e2]
  rw [s1] at p2 s2 w2 f2
  obtain ⟨g3, e3, s3, p3, w3, f3⟩ := mkW (k := 7) p2 (by omega) (Nat.le_of_ble_eq_true rfl)
  rw [e3]
  rw [s2] at p3 s3 w3 f3
  refine ⟨g3, rfl, by omega, p3, ?_, ?_, fun t ht => ?_, fun a ha => by rw [f3 a (by omega) (by omega), f2 a (by omega) (by omega), f1 a (by omega) (by omega), f0 a (by omega) (by omega), fd a (by omega) (by omega), fc a (by omega), fb a (by omega), fa a (by omega)]⟩
  · rw [f3 _ (by omega) (by omega), f2 _ (by omega) (by omega), f1 _ (by omega) (by omega), f0 _ (by omega) (by omega)]
    exact rd
  · rw [f3 _ (by omega) (by omega), f2 _ (by omega) (by omega), f1 _ (by omega) (by omega)]
    exact r0
  · rcases (show t = 0 ∨ t = 1 ∨ t = 2 by omega) with rfl | rfl | rfl
    · refine w1.kp ?_ ?_ <;> rw [f3 _ (by omega) (by omega), f2 _ (by omega) (by omega)]
    · refine w2.kp ?_ ?_ <;> rw [f3 _ (by omega) (by omega)]
    · exact w3
end Mk2
/-! the wholes of the slots, the ratios -/
theorem slotsMade {B g : AH} {n : Nat} {fs : List Value} (hm : g.1 n = some (.inr (9, fs))) (hf : fs[0]? = some (.ref (n + 1))) (ha : g.1 (n + 1) = some (.inl (3, 24, .inr (.inr (.inr (.inr (fun _ => none))))))) (hs : g.2 = n + 2) :
    ∃ (r : AH) (f : Nat → Option Nat), iter (fun q : AH × Int32 => zb_X9_init_15 n q.1 q.2) FU (g, (0 : Int32)) = some r ∧ r.2 = n + 50 ∧ r.1 n = some (.inr (9, fs)) ∧ r.1 (n + 1) = some (.inl (3, 24, .inr (.inr (.inr (.inr f))))) ∧ (∀ s, s < 24 → f s = some (n + (2 + 2 * s))) ∧ (∀ i, i < 24 → WH r (n + (2 + 2 * i)) 0) ∧ ∀ a, a < n → r.1 a = g.1 a := by
  obtain ⟨r, hr, q0, q1, f, q2, q3, q4, q5⟩ := iter_FU (B := fun q : AH × Int32 => zb_X9_init_15 n q.1 q.2)
    (fun t z => z.2 = nI t ∧ z.1.2 = n + 2 + 2 * t ∧ z.1.1 n = some (.inr (9, fs)) ∧ ∃ f : Nat → Option Nat, z.1.1 (n + 1) = some (.inl (3, 24, .inr (.inr (.inr (.inr f))))) ∧ (∀ s, s < t → f s = some (n + (2 + 2 * s))) ∧ (∀ i, i < t → WH z.1 (n + (2 + 2 * i)) 0) ∧ ∀ a, a < n → z.1.1 a = g.1 a)
    (fun r => r.2 = n + 50 ∧ r.1 n = some (.inr (9, fs)) ∧ ∃ f : Nat → Option Nat, r.1 (n + 1) = some (.inl (3, 24, .inr (.inr (.inr (.inr f))))) ∧ (∀ s, s < 24 → f s = some (n + (2 + 2 * s))) ∧ (∀ i, i < 24 → WH r (n + (2 + 2 * i)) 0) ∧ ∀ a, a < n → r.1 a = g.1 a)
    24 (by omega) (s := (g, (0 : Int32))) ⟨rfl, hs, hm, _, ha, fun s hs => absurd hs (Nat.not_lt_zero s), fun i hi => absurd hi (Nat.not_lt_zero i), fun _ _ => rfl⟩ (by
    rintro t ⟨z, w⟩ ht ⟨hw, hz, hzm, f, hza, hzf, hzw, hzb⟩
    dsimp only at hw hz hzm hza hzw hzb ⊢
    subst hw
    unfold zb_X9_init_15
    by_cases h4 : t < 24
    · rw [if_neg (show ¬ (24 : Int32) ≤ nI t from nI_ge (b := 24) h4 (by decide)), gR_go hzm hf]
      simp only [Option.bind_some, lt_]
      obtain ⟨g2, e2, s2, c2, w2, f2⟩ := new8 z
      rw [e2]
      simp only [Option.bind_some]
      rw [sR_go ((f2 _ (by omega)).trans hza) c2 h4 (by decide)]
      simp only [Option.bind_some]
      refine ⟨_, rfl, fun s' hs => ?_, fun r hr => by (cases hr)⟩
      obtain rfl := Sum.inl.inj hs
      dsimp only
      refine ⟨h4, nI_1 t, by show g2.2 = _; omega, ?_, _, hset_at _ _ _, fun s hs => ?_, fun i hi => ?_, fun a ha => ?_⟩
      · rw [(on_hset _ _ _).2 _ (by omega), f2 _ (by omega)]
        exact hzm
      · by_cases e : s = t
        · subst e
          rw [va_us, hz]
          congr 1
          omega
        · rw [va_un e]
          exact hzf s (by omega)
      · by_cases e : i = t
        · subst e
          have ea : z.2 = n + (2 + 2 * i) := by omega
          rw [ea] at w2
          exact w2.kp ((on_hset _ _ _).2 _ (by omega)) ((on_hset _ _ _).2 _ (by omega))
        · refine (hzw i (by omega)).kp ?_ ?_
          · rw [(on_hset _ _ _).2 _ (by omega), f2 _ (by omega)]
          · rw [(on_hset _ _ _).2 _ (by omega), f2 _ (by omega)]
      · rw [(on_hset _ _ _).2 _ (by omega), f2 _ (by omega)]
        exact hzb a ha
    · have e : t = 24 := by omega
      subst e
      rw [if_pos (by decide)]
      refine ⟨_, rfl, fun s' hs => by (cases hs), fun r hr => ?_⟩
      obtain rfl := Sum.inr.inj hr
      exact ⟨by omega, hzm, f, hza, hzf, hzw, hzb⟩)
  exact ⟨r, f, hr, q0, q1, q2, q3, q4, q5⟩
theorem ratiosMade {g : AH} {n : Nat} {fs : List Value} (hm : g.1 n = some (.inr (9, fs))) (hf : fs[1]? = some (.ref (n + 50))) (ha : g.1 (n + 50) = some (.inl (4, 12, .inr (.inr (.inr (.inr (fun _ => none))))))) (hs : g.2 = n + 51) :
    ∃ (r : AH) (f : Nat → Option Nat), iter (fun q : AH × Int32 => zb_X9_init_51 n q.1 q.2) FU (g, (0 : Int32)) = some r ∧ r.2 = n + 111 ∧ r.1 n = some (.inr (9, fs)) ∧ r.1 (n + 50) = some (.inl (4, 12, .inr (.inr (.inr (.inr f))))) ∧ (∀ s, s < 12 → f s = some (n + (51 + 5 * s))) ∧ (∀ i, i < 12 → r.1 (n + (51 + 5 * i)) = some (.inr (4, [.ref (n + (52 + 5 * i)), .ref (n + (54 + 5 * i))])) ∧ WH r (n + (52 + 5 * i)) 0 ∧ WH r (n + (54 + 5 * i)) 1) ∧ ∀ a, a < n + 50 → a ≠ n → r.1 a = g.1 a := by
  obtain ⟨r, hr, q0, q1, f, q2, q3, q4, q5⟩ := iter_FU (B := fun q : AH × Int32 => zb_X9_init_51 n q.1 q.2)
    (fun t z => z.2 = nI t ∧ z.1.2 = n + 51 + 5 * t ∧ z.1.1 n = some (.inr (9, fs)) ∧ ∃ f : Nat → Option Nat, z.1.1 (n + 50) = some (.inl (4, 12, .inr (.inr (.inr (.inr f))))) ∧ (∀ s, s < t → f s = some (n + (51 + 5 * s))) ∧ (∀ i, i < t → z.1.1 (n + (51 + 5 * i)) = some (.inr (4, [.ref (n + (52 + 5 * i)), .ref (n + (54 + 5 * i))])) ∧ WH z.1 (n + (52 + 5 * i)) 0 ∧ WH z.1 (n + (54 + 5 * i)) 1) ∧ ∀ a, a < n + 50 → a ≠ n → z.1.1 a = g.1 a)
    (fun r => r.2 = n + 111 ∧ r.1 n = some (.inr (9, fs)) ∧ ∃ f : Nat → Option Nat, r.1 (n + 50) = some (.inl (4, 12, .inr (.inr (.inr (.inr f))))) ∧ (∀ s, s < 12 → f s = some (n + (51 + 5 * s))) ∧ (∀ i, i < 12 → r.1 (n + (51 + 5 * i)) = some (.inr (4, [.ref (n + (52 + 5 * i)), .ref (n + (54 + 5 * i))])) ∧ WH r (n + (52 + 5 * i)) 0 ∧ WH r (n + (54 + 5 * i)) 1) ∧ ∀ a, a < n + 50 → a ≠ n → r.1 a = g.1 a)
    12 (by omega) (s := (g, (0 : Int32))) ⟨rfl, hs, hm, _, ha, fun s hs => absurd hs (Nat.not_lt_zero s), fun i hi => absurd hi (Nat.not_lt_zero i), fun _ _ _ => rfl⟩ (by
    rintro t ⟨z, w⟩ ht ⟨hw, hz, hzm, f, hza, hzf, hzw, hzb⟩
    dsimp only at hw hz hzm hza hzw hzb ⊢
    subst hw
    unfold zb_X9_init_51
    by_cases h4 : t < 12
    · rw [if_neg (show ¬ (12 : Int32) ≤ nI t from nI_ge (b := 12) h4 (by decide)), gR_go hzm hf]
      simp only [Option.bind_some, lt_]
      obtain ⟨g2, e2, s2, c2, w2, w3, f2⟩ := made4 (h := nO z (.inr (4, [.null, .null]))) (p := z.2) (nO_at z _) rfl
      have f3 : ∀ a, a < z.2 → g2.1 a = z.1 a := fun a ha => (f2 a ha).trans (nO_lt ha)
      rw [e2]
      simp only [Option.bind_some]
      rw [sR_go ((f3 _ (by omega)).trans hza) c2 h4 (by decide)]
      simp only [Option.bind_some]
      refine ⟨_, rfl, fun s' hs => ?_, fun r hr => by (cases hr)⟩
      obtain rfl := Sum.inl.inj hs
      dsimp only
      refine ⟨h4, nI_1 t, by show g2.2 = _; omega, ?_, _, hset_at _ _ _, fun s hs => ?_, fun i hi => ?_, fun a ha hne => ?_⟩
      · rw [(on_hset _ _ _).2 _ (by omega), f3 _ (by omega)]
        exact hzm
      · by_cases e : s = t
        · subst e
          rw [va_us, hz]
          congr 1
          omega
        · rw [va_un e]
          exact hzf s (by omega)
      · by_cases e : i = t
        · subst e
          have ea : z.2 = n + (51 + 5 * i) := by omega
          rw [ea] at w2 w3 c2
          rw [show n + (51 + 5 * i) + 1 = n + (52 + 5 * i) by omega] at w2 c2
          rw [show n + (51 + 5 * i) + 3 = n + (54 + 5 * i) by omega] at w3 c2
          exact ⟨((on_hset _ _ _).2 _ (by omega)).trans c2, w2.kp ((on_hset _ _ _).2 _ (by omega)) ((on_hset _ _ _).2 _ (by omega)), w3.kp ((on_hset _ _ _).2 _ (by omega)) ((on_hset _ _ _).2 _ (by omega))⟩
        · obtain ⟨h5, h6, h7⟩ := hzw i (by omega)
          refine ⟨?_, h6.kp ?_ ?_, h7.kp ?_ ?_⟩
          · rw [(on_hset _ _ _).2 _ (by omega), f3 _ (by omega)]
            exact h5
          · rw [(on_hset _ _ _).2 _ (by omega), f3 _ (by omega)]
          · rw [(on_hset _ _ _).2 _ (by omega), f3 _ (by omega)]
          · rw [(on_hset _ _ _).2 _ (by omega), f3 _ (by omega)]
          · rw [(on_hset _ _ _).2 _ (by omega), f3 _ (by omega)]
      · rw [(on_hset _ _ _).2 _ (by omega), f3 _ (by omega)]
        exact hzb a ha hne
    · have e : t = 12 := by omega
      subst e
      rw [if_pos (by decide)]
      refine ⟨_, rfl, fun s' hs => by (cases hs), fun r hr => ?_⟩
      obtain rfl := Sum.inr.inj hr
      exact ⟨by omega, hzm, f, hza, hzf, hzw, hzb⟩)
  exact ⟨r, f, hr, q0, q1, q2, q3, q4, q5⟩
