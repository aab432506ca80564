/-! the class's new object holds the first state -/
def S0 : AS := (fun _ => 0, (fun _ => 0, fun _ => 1), (0, fun _ => 0), (0, fun _ => 0), (0, 0, fun _ => 0))
def d0 : DS := ((0, fun _ => 0), (0, fun _ => 0), (fun _ => 0, fun _ => 0), (0, 0), (155, 156), (fun _ => 0, fun _ => 0))
def M0 (i : Nat) : Int := if 36 ≤ i ∧ i < 48 then 1 else if i = 51 ∨ i = 69 then 1 else 0
theorem lt_e {α β : Type} (e : α) (k : α → Option β) : lt_ e k = k e := rfl
theorem SI_0 : SI S0 := by
  have h1 : 1 < B32 ^ 12 := by decide
  refine ⟨fun i hi => ?_, fun r hr => ⟨show (0:Int) < 1 by decide, show Nat.Coprime 0 1 by decide, ?_, ?_⟩, ⟨by decide, fun k hk => absurd hk (Nat.not_lt_zero k)⟩, ⟨by decide, fun k hk => absurd hk (Nat.not_lt_zero k)⟩, ⟨by decide, fun k hk => absurd hk (Nat.not_lt_zero k)⟩⟩
  · show 0 < _
    omega
  · show 0 < _
    omega
  · show 1 < _
    omega
theorem MS_0 : MS M0 S0 := by
  refine ⟨fun i hi => ?_, fun r hr => ⟨?_, ?_⟩⟩
  · unfold M0
    rw [if_neg (by omega), if_neg (by omega)]
    rfl
  · unfold M0
    rw [if_neg (by omega), if_neg (by omega)]
    rfl
  · unfold M0
    rw [if_pos (by omega)]
    rfl
theorem DD_0 : DD d0 S0 := ⟨⟨rfl, by decide, fun k hk => absurd hk (Nat.not_lt_zero k)⟩, ⟨rfl, fun k hk => absurd hk (Nat.not_lt_zero k)⟩, rfl, rfl, fun k hk => absurd hk (Nat.not_lt_zero k)⟩
/-- wholes by their numbers make the world's wholes -/
theorem WS_of {h : AH} {n : Nat} {M : Nat → Int} (hW : ∀ i, i < 70 → WH h (n + fw i) (M i)) : ∃ V, WS (Lc n) qc h V ∧ ∀ i, i < 70 → V (aw n i) = M i := by
  have h1 : ∀ o : Nat, ∃ wv : WR × Int, ∀ i, i < 70 → o = aw n i → (h.1 o = some (.inr (8, [.ref (o + 1), .int wv.1.2.1, .int wv.1.2.2])) ∧ h.1 (o + 1) = some (.inl (1, 26, .inr (.inl wv.1.1))) ∧ okW wv.1 wv.2) ∧ wv.2 = M i := by
    intro o
    by_cases he : ∃ i, i < 70 ∧ o = aw n i
    · obtain ⟨i, hi, rfl⟩ := he
      obtain ⟨w, a, b, c⟩ := hW i hi
      refine ⟨(w, M i), fun j hj e => ?_⟩
      have := aw_inj hi hj e
      subst this
      exact ⟨⟨a, b, c⟩, rfl⟩
    · exact ⟨((fun _ => 0, 0, 0), 0), fun i hi e => absurd ⟨i, hi, e⟩ he⟩
  obtain ⟨F, hF⟩ := Classical.axiomOfChoice h1
  refine ⟨fun o => (F o).2, ⟨fun o => (F o).1, ⟨fun o ho => ?_, fun o o' _ _ e => ?_⟩, fun o ho => ?_⟩, fun i hi => (hF (aw n i) i hi rfl).2⟩
  · obtain ⟨i, hi, e⟩ := ho
    have := (hF o i hi e).1
    exact ⟨this.1, this.2.1⟩
  · have e2 : o + 1 = o' + 1 := e
    omega
  · obtain ⟨i, hi, e⟩ := ho
    exact (hF o i hi e).1.2.2
def E1 (n : Nat) : AE := .inl (3, 24, .inr (.inr (.inr (.inr (fun s => some (aw n s))))))
def E2 (n : Nat) : AE := .inl (4, 12, .inr (.inr (.inr (.inr (fun r => some (n + (51 + 5 * r)))))))
set_option maxHeartbeats 4000000 in
theorem X9_made (B : AH) : ∃ (h' : AH) (f1 f2 : Nat → Option Nat), zs_X9_init (nO B (.inr (9, [.null, .null, .null, .null, .null, .null, .null, .null, .null, .null, .null, .null]))) B.2 = some h' ∧ h'.2 = B.2 + 171 ∧ (∀ a, a < B.2 → h'.1 a = B.1 a) ∧ h'.1 (B.2 + 1) = some (.inl (3, 24, .inr (.inr (.inr (.inr f1))))) ∧ (∀ s, s < 24 → f1 s = some (aw B.2 s)) ∧ h'.1 (B.2 + 50) = some (.inl (4, 12, .inr (.inr (.inr (.inr f2))))) ∧ (∀ s, s < 12 → f2 s = some (B.2 + (51 + 5 * s))) ∧ CI (hset (hset h' (B.2 + 1) (E1 B.2)) (B.2 + 50) (E2 B.2)) B.2 (hset (hset h' (B.2 + 1) (E1 B.2)) (B.2 + 50) (E2 B.2)) S0 := by
  obtain ⟨n, hn⟩ : ∃ n, n = B.2 := ⟨_, rfl⟩
  have p0 : (nO B (.inr (9, [.null, .null, .null, .null, .null, .null, .null, .null, .null, .null, .null, .null]))).1 B.2 = some (.inr (9, [.null, .null, .null, .null, .null, .null, .null, .null, .null, .null, .null, .null])) := nO_at B _
  have f0 : ∀ a, a < B.2 → (nO B (.inr (9, [.null, .null, .null, .null, .null, .null, .null, .null, .null, .null, .null, .null]))).1 a = B.1 a := fun a ha => nO_lt ha
  have s0 : (nO B (.inr (9, [.null, .null, .null, .null, .null, .null, .null, .null, .null, .null, .null, .null]))).2 = B.2 + 1 := rfl
  rw [← hn] at p0 f0 s0 ⊢
  generalize nO B (.inr (9, [.null, .null, .null, .null, .null, .null, .null, .null, .null, .null, .null, .null])) = a0 at p0 f0 s0 ⊢
  unfold zs_X9_init
  obtain ⟨a1, e1, s1, p1, r1, f1⟩ := mkR (k := 0) (3, 24, .inr (.inr (.inr (.inr (fun _ => none))))) p0 (by omega) (Nat.le_of_ble_eq_true rfl)
  rw [s0] at s1 p1 r1 f1
  rw [e1]
  obtain ⟨a2, g2, e2, s2, p2, r2, t2, w2, f2⟩ := slotsMade (B := B) p1 rfl r1 s1
  rw [e2]
  simp only [Option.bind_some]
  obtain ⟨a3, e3, s3, p3, r3, f3⟩ := mkR (k := 1) (4, 12, .inr (.inr (.inr (.inr (fun _ => none))))) p2 (by omega) (Nat.le_of_ble_eq_true rfl)
  rw [s2] at s3 p3 r3 f3
  rw [e3]
  obtain ⟨a4, g4, e4, s4, p4, r4, t4, w4, f4⟩ := ratiosMade p3 rfl r3 s3
  rw [e4]
  simp only [Option.bind_some]
  obtain ⟨b5, e5, s5, q5, r5, f5⟩ := made5 (h := nO a4 (.inr (5, [.int 0, .null]))) (p := a4.2) (nO_at a4 _) rfl
  rw [lt_e, e5]
  simp only [Option.bind_some]
  have fb5 : ∀ a, a < a4.2 → b5.1 a = a4.1 a := fun a ha => (f5 a ha).trans (nO_lt ha)
  obtain ⟨a5, e5', s5', p5, f5'⟩ := mkV (k := 2) (.ref a4.2) ((fb5 n (by omega)).trans p4) (Nat.le_of_ble_eq_true rfl)
  rw [e5']
  rw [s4] at s5 q5 r5 fb5 p5
  obtain ⟨b6, e6, s6, q6, r6, w6, f6⟩ := made6 (h := nO a5 (.inr (6, [.int 0, .null, .null]))) (p := a5.2) (nO_at a5 _) rfl
  rw [lt_e, e6]
  simp only [Option.bind_some]
  have fb6 : ∀ a, a < a5.2 → b6.1 a = a5.1 a := fun a ha => (f6 a ha).trans (nO_lt ha)
  obtain ⟨a6, e6', s6', p6, f6'⟩ := mkV (k := 3) (.ref a5.2) ((fb6 n (by omega)).trans p5) (Nat.le_of_ble_eq_true rfl)
  rw [e6']
  rw [s5', s5] at s6 q6 r6 w6 fb6 p6
  obtain ⟨b7, e7, s7, q7, w7a, w7b, w7c, r7a, r7b, f7⟩ := made0 (h := nO a6 (.inr (0, [.null, .null, .null, .null, .null]))) (p := a6.2) (nO_at a6 _) rfl
  rw [lt_e, e7]
  simp only [Option.bind_some]
  have fb7 : ∀ a, a < a6.2 → b7.1 a = a6.1 a := fun a ha => (f7 a ha).trans (nO_lt ha)
  obtain ⟨b8, e8, s8, q8, w8, f8⟩ := made3 (h := nO b7 (.inr (3, [.null, .null, .null, .null, .null, .null, .null, .null]))) (p := b7.2) (q := a6.2) (nO_at b7 _) rfl
  rw [lt_e, e8]
  simp only [Option.bind_some]
  have fb8 : ∀ a, a < b7.2 → b8.1 a = b7.1 a := fun a ha => (f8 a ha).trans (nO_lt ha)
  obtain ⟨a7, e7', s7', p7, f7'⟩ := mkV (k := 4) (.ref a6.2) ((fb8 n (by omega)).trans ((fb7 n (by omega)).trans p6)) (Nat.le_of_ble_eq_true rfl)
  rw [e7']
  obtain ⟨a8, e8', s8', p8, f8'⟩ := mkV (k := 5) (.ref b7.2) p7 (Nat.le_of_ble_eq_true rfl)
  rw [e8']
  obtain ⟨b9, e9, s9, q9, w9, f9⟩ := made2 (h := nO a8 (.inr (2, [.null, .null, .null, .null, .null, .null, .null, .null]))) (p := a8.2) (q := a6.2) (u := b7.2) (nO_at a8 _) rfl
  rw [lt_e, e9]
  simp only [Option.bind_some]
  have fb9 : ∀ a, a < a8.2 → b9.1 a = a8.1 a := fun a ha => (f9 a ha).trans (nO_lt ha)
  obtain ⟨a9, e9', s9', p9, f9'⟩ := mkV (k := 6) (.ref a8.2) ((fb9 n (by omega)).trans p8) (Nat.le_of_ble_eq_true rfl)
  rw [e9']
  obtain ⟨b10, e10, s10, q10, r10a, r10b, w10, f10⟩ := made1 (h := nO a9 (.inr (1, [.int 0, .int 0, .null, .null, .null, .null, .null, .null]))) (p := a9.2) (q := a6.2) (nO_at a9 _) rfl
  rw [lt_e, e10]
  simp only [Option.bind_some]
  have fb10 : ∀ a, a < a9.2 → b10.1 a = a9.1 a := fun a ha => (f10 a ha).trans (nO_lt ha)
  obtain ⟨a10, e10', s10', p10, f10'⟩ := mkV (k := 7) (.ref a9.2) ((fb10 n (by omega)).trans p9) (Nat.le_of_ble_eq_true rfl)
  rw [e10']
  obtain ⟨b11, e11, s11, q11, r11, f11⟩ := made7 (h := nO a10 (.inr (7, [.null]))) (p := a10.2) (nO_at a10 _) rfl
  rw [lt_e, e11]
  simp only [Option.bind_some]
  have fb11 : ∀ a, a < a10.2 → b11.1 a = a10.1 a := fun a ha => (f11 a ha).trans (nO_lt ha)
  obtain ⟨a11, e11', s11', p11, f11'⟩ := mkV (k := 8) (.ref a10.2) ((fb11 n (by omega)).trans p10) (Nat.le_of_ble_eq_true rfl)
  rw [e11']
  obtain ⟨b12, e12, s12, q12, r12, f12⟩ := made7 (h := nO a11 (.inr (7, [.null]))) (p := a11.2) (nO_at a11 _) rfl
  rw [lt_e, e12]
  simp only [Option.bind_some]
  have fb12 : ∀ a, a < a11.2 → b12.1 a = a11.1 a := fun a ha => (f12 a ha).trans (nO_lt ha)
  obtain ⟨a12, e12', s12', p12, f12'⟩ := mkV (k := 9) (.ref a11.2) ((fb12 n (by omega)).trans p11) (Nat.le_of_ble_eq_true rfl)
  rw [e12']
  obtain ⟨a13, e13, s13, p13, w13, f13⟩ := mkW (k := 10) p12 (by omega) (Nat.le_of_ble_eq_true rfl)
  rw [e13]
  obtain ⟨a14, e14, s14, p14, w14, f14⟩ := mkW (k := 11) p13 (by omega) (Nat.le_of_ble_eq_true rfl)
  rw [e14, gR_go p14 rfl]
  simp only [Option.bind_some]
  have z6 : a6.2 = n + 117 := by omega
  have z7 : b7.2 = n + 126 := by omega
  have z8 : a8.2 = n + 141 := by omega
  have z9 : a9.2 = n + 154 := by omega
  have z10 : a10.2 = n + 163 := by omega
  have z11 : a11.2 = n + 165 := by omega
  have z12 : a12.2 = n + 167 := by omega
  have z13 : a13.2 = n + 169 := by omega
  have z14 : a14.2 = n + 171 := by omega
  rw [z13] at w14 f14 p14 ⊢
  rw [z12] at w13 f13 p14
  obtain ⟨wv, wc1, -, -⟩ := id w14
  rw [chk_go wc1]
  simp only [Option.bind_some]
  obtain ⟨a15, e15, s15, w15, f15⟩ := one8 w14
  rw [e15]
  rw [z6] at q7 w7a w7b w7c r7a r7b p14 q8 q9 q10 fb7
  rw [z7] at q8 w8 fb8 p14 q9
  rw [z8] at q9 w9 fb9 p14
  rw [z9] at q10 r10a r10b w10 fb10 p14
  rw [z10] at q11 r11 fb11 p14
  rw [z11] at q12 r12 fb12 p14
  have F13 : ∀ a, a < n + 169 → a ≠ n → a15.1 a = a13.1 a := fun a h1 h2 => by rw [f15 a (by omega) (by omega), f14 a h1 h2]
  have F12 : ∀ a, a < n + 167 → a ≠ n → a15.1 a = b12.1 a := fun a h1 h2 => by rw [F13 a (by omega) h2, f13 a h1 h2, f12' a h2]
  have F11 : ∀ a, a < n + 165 → a ≠ n → a15.1 a = b11.1 a := fun a h1 h2 => by rw [F12 a (by omega) h2, fb12 a h1, f11' a h2]
  have F10 : ∀ a, a < n + 163 → a ≠ n → a15.1 a = b10.1 a := fun a h1 h2 => by rw [F11 a (by omega) h2, fb11 a h1, f10' a h2]
  have F9 : ∀ a, a < n + 154 → a ≠ n → a15.1 a = b9.1 a := fun a h1 h2 => by rw [F10 a (by omega) h2, fb10 a h1, f9' a h2]
  have F8 : ∀ a, a < n + 141 → a ≠ n → a15.1 a = b8.1 a := fun a h1 h2 => by rw [F9 a (by omega) h2, fb9 a h1, f8' a h2, f7' a h2]
  have F7 : ∀ a, a < n + 126 → a ≠ n → a15.1 a = b7.1 a := fun a h1 h2 => by rw [F8 a (by omega) h2, fb8 a h1]
  have F6 : ∀ a, a < n + 117 → a ≠ n → a15.1 a = b6.1 a := fun a h1 h2 => by rw [F7 a (by omega) h2, fb7 a h1, f6' a h2]
  have F5 : ∀ a, a < n + 113 → a ≠ n → a15.1 a = b5.1 a := fun a h1 h2 => by rw [F6 a (by omega) h2, fb6 a (by omega), f5' a h2]
  have F4 : ∀ a, a < n + 111 → a ≠ n → a15.1 a = a4.1 a := fun a h1 h2 => by rw [F5 a (by omega) h2, fb5 a h1]
  have F2 : ∀ a, a < n + 50 → a ≠ n → a15.1 a = a2.1 a := fun a h1 h2 => by rw [F4 a (by omega) h2, f4 a h1 h2, f3 a h1 h2]
  have pf : a15.1 n = some (.inr (9, [.ref (n + 1), .ref (n + 50), .ref (n + 111), .ref (n + 113), .ref (n + 117), .ref (n + 126), .ref (n + 141), .ref (n + 154), .ref (n + 163), .ref (n + 165), .ref (aw n 68), .ref (aw n 69)])) := (f15 n (by omega) (by omega)).trans (by rw [p14]; rfl)
  have kW : ∀ {x : AH} {o v : Nat} {u : Int}, WH x (n + o) u → (∀ a, a < n + v → a ≠ n → a15.1 a = x.1 a) → 0 < o → o + 1 < v → WH a15 (n + o) u := fun w F h1 h2 => w.kp (F _ (by omega) (by omega)) (F _ (by omega) (by omega))
  have c1 : a15.1 (n + 1) = some (.inl (3, 24, .inr (.inr (.inr (.inr g2))))) := (F2 _ (by omega) (by omega)).trans r2
  have c50 : a15.1 (n + 50) = some (.inl (4, 12, .inr (.inr (.inr (.inr g4))))) := (F4 _ (by omega) (by omega)).trans r4
  refine ⟨a15, g2, g4, rfl, by omega, fun a ha => ?_, c1, fun s hs => ?_, c50, t4, ?_⟩
  · rw [F2 a (by omega) (by omega), f2 a ha, f1 a (by omega) (by omega), f0 a ha]
  · rw [t2 s hs]
    unfold aw fw
    rw [if_pos hs]
  · have hW : ∀ i, i < 70 → WH a15 (n + fw i) (M0 i) := by
      intro i hi
      by_cases h1 : i < 24
      · have e : fw i = 2 + 2 * i := by unfold fw; rw [if_pos h1]
        have v : M0 i = 0 := by unfold M0; rw [if_neg (by omega), if_neg (by omega)]
        rw [e, v]
        exact kW (v := 50) (w2 i h1) F2 (by omega) (by omega)
      · by_cases h2 : i < 36
        · have e : fw i = 52 + 5 * (i - 24) := by unfold fw; rw [if_neg h1, if_pos h2]
          have v : M0 i = 0 := by unfold M0; rw [if_neg (by omega), if_neg (by omega)]
          rw [e, v]
          exact kW (v := 111) (w4 (i - 24) (by omega)).2.1 F4 (by omega) (by omega)
        · by_cases h3 : i < 48
          · have e : fw i = 54 + 5 * (i - 36) := by unfold fw; rw [if_neg h1, if_neg h2, if_pos h3]
            have v : M0 i = 1 := by unfold M0; rw [if_pos (by omega)]
            rw [e, v]
            exact kW (v := 111) (w4 (i - 36) (by omega)).2.2 F4 (by omega) (by omega)
          · rcases (show i = 48 ∨ i = 49 ∨ i = 50 ∨ i = 51 ∨ i = 52 ∨ i = 53 ∨ i = 54 ∨ i = 55 ∨ i = 56 ∨ i = 57 ∨ i = 58 ∨ i = 59 ∨ i = 60 ∨ i = 61 ∨ i = 62 ∨ i = 63 ∨ i = 64 ∨ i = 65 ∨ i = 66 ∨ i = 67 ∨ i = 68 ∨ i = 69 by omega) with rfl | rfl | rfl | rfl | rfl | rfl | rfl | rfl | rfl | rfl | rfl | rfl | rfl | rfl | rfl | rfl | rfl | rfl | rfl | rfl | rfl | rfl
            · exact kW (o := 115) (v := 117) w6 F6 (by decide) (by decide)
            · exact kW (o := 118) (v := 126) w7a F7 (by decide) (by decide)
            · exact kW (o := 120) (v := 126) w7b F7 (by decide) (by decide)
            · exact kW (o := 122) (v := 126) w7c F7 (by decide) (by decide)
            · exact kW (o := 127) (v := 141) (w8 0 (by decide)) F8 (by decide) (by decide)
            · exact kW (o := 129) (v := 141) (w8 1 (by decide)) F8 (by decide) (by decide)
            · exact kW (o := 131) (v := 141) (w8 2 (by decide)) F8 (by decide) (by decide)
            · exact kW (o := 133) (v := 141) (w8 3 (by decide)) F8 (by decide) (by decide)
            · exact kW (o := 135) (v := 141) (w8 4 (by decide)) F8 (by decide) (by decide)
            · exact kW (o := 137) (v := 141) (w8 5 (by decide)) F8 (by decide) (by decide)
            · exact kW (o := 139) (v := 141) (w8 6 (by decide)) F8 (by decide) (by decide)
            · exact kW (o := 142) (v := 154) (w9 0 (by decide)) F9 (by decide) (by decide)
            · exact kW (o := 144) (v := 154) (w9 1 (by decide)) F9 (by decide) (by decide)
            · exact kW (o := 146) (v := 154) (w9 2 (by decide)) F9 (by decide) (by decide)
            · exact kW (o := 148) (v := 154) (w9 3 (by decide)) F9 (by decide) (by decide)
            · exact kW (o := 150) (v := 154) (w9 4 (by decide)) F9 (by decide) (by decide)
            · exact kW (o := 152) (v := 154) (w9 5 (by decide)) F9 (by decide) (by decide)
            · exact kW (o := 157) (v := 163) (w10 0 (by decide)) F10 (by decide) (by decide)
            · exact kW (o := 159) (v := 163) (w10 1 (by decide)) F10 (by decide) (by decide)
            · exact kW (o := 161) (v := 163) (w10 2 (by decide)) F10 (by decide) (by decide)
            · exact kW (o := 167) (v := 169) w13 F13 (by decide) (by decide)
            · exact w15
    obtain ⟨hf, hhf⟩ : ∃ hf, hf = hset (hset a15 (n + 1) (E1 n)) (n + 50) (E2 n) := ⟨_, rfl⟩
    rw [← hhf]
    have K : ∀ a, a ≠ n + 1 → a ≠ n + 50 → hf.1 a = a15.1 a := fun a h1 h2 => by rw [hhf, (on_hset _ _ _).2 _ h2, (on_hset _ _ _).2 _ h1]
    have K1 : hf.1 (n + 1) = some (E1 n) := by rw [hhf, (on_hset _ _ _).2 _ (by omega)]; exact hset_at _ _ _
    have K50 : hf.1 (n + 50) = some (E2 n) := by rw [hhf]; exact hset_at _ _ _
    have hW2 : ∀ i, i < 70 → WH hf (n + fw i) (M0 i) := by
      intro i hi
      have h9 : fw i ≠ 1 ∧ fw i + 1 ≠ 1 ∧ fw i ≠ 50 ∧ fw i + 1 ≠ 50 := by
        revert i
        decide
      exact (hW i hi).kp (K _ (by omega) (by omega)) (K _ (by omega) (by omega))
    have kk : kaOk d0 := Or.inl ⟨rfl, rfl⟩
    have q117 : hf.1 (n + 117) = some (.inr (0, [.ref (aw n 49), .ref (aw n 50), .ref (aw n 51), .ref (n + 124), .ref (n + 125)])) := (K _ (by omega) (by omega)).trans ((F7 _ (by omega) (by omega)).trans q7)
    refine ⟨d0, M0, ⟨WS_of hW2, fun o e he => ?_, kk, ⟨q117, ⟨_, (K _ (by omega) (by omega)).trans ((F7 _ (by omega) (by omega)).trans r7a)⟩, ⟨_, (K _ (by omega) (by omega)).trans ((F7 _ (by omega) (by omega)).trans r7b)⟩, by omega⟩, ⟨rfl, rfl⟩, rfl, fun _ _ => rfl⟩, MS_0, DD_0, SI_0⟩
    have T : ∀ {o v : Nat} {x : AH} {e' : AE}, o ≠ 0 → o ≠ 1 → o ≠ 50 → o < v → (∀ a, a < n + v → a ≠ n → a15.1 a = x.1 a) → x.1 (n + o) = some e' → hf.1 (n + o) = some e' := fun h1 h2 h3 h4 F h5 => (K _ (by omega) (by omega)).trans ((F _ (by omega) (by omega)).trans h5)
    unfold ct at he
    by_cases x1 : o = 0
    · rw [if_pos x1] at he
      subst x1
      obtain rfl := Option.some.inj he
      exact (K n (by omega) (by omega)).trans pf
    rw [if_neg x1] at he
    by_cases x2 : o = 1
    · rw [if_pos x2] at he
      subst x2
      obtain rfl := Option.some.inj he
      exact K1
    rw [if_neg x2] at he
    by_cases x3 : o = 50
    · rw [if_pos x3] at he
      subst x3
      obtain rfl := Option.some.inj he
      exact K50
    rw [if_neg x3] at he
    by_cases x4 : o = 111
    · rw [if_pos x4] at he
      subst x4
      obtain rfl := Option.some.inj he
      exact T (v := 113) (by decide) (by decide) (by decide) (by decide) F5 q5
    rw [if_neg x4] at he
    by_cases x5 : o = 112
    · rw [if_pos x5] at he
      subst x5
      obtain rfl := Option.some.inj he
      exact T (v := 113) (by decide) (by decide) (by decide) (by decide) F5 r5
    rw [if_neg x5] at he
    by_cases x6 : o = 113
    · rw [if_pos x6] at he
      subst x6
      obtain rfl := Option.some.inj he
      exact T (v := 117) (by decide) (by decide) (by decide) (by decide) F6 q6
    rw [if_neg x6] at he
    by_cases x7 : o = 114
    · rw [if_pos x7] at he
      subst x7
      obtain rfl := Option.some.inj he
      exact T (v := 117) (by decide) (by decide) (by decide) (by decide) F6 r6
    rw [if_neg x7] at he
    by_cases x8 : o = 117
    · rw [if_pos x8] at he
      subst x8
      obtain rfl := Option.some.inj he
      exact q117
    rw [if_neg x8] at he
    by_cases x9 : o = 126
    · rw [if_pos x9] at he
      subst x9
      obtain rfl := Option.some.inj he
      exact T (v := 141) (by decide) (by decide) (by decide) (by decide) F8 q8
    rw [if_neg x9] at he
    by_cases x10 : o = 141
    · rw [if_pos x10] at he
      subst x10
      obtain rfl := Option.some.inj he
      exact T (v := 154) (by decide) (by decide) (by decide) (by decide) F9 q9
    rw [if_neg x10] at he
    by_cases x11 : o = 154
    · rw [if_pos x11] at he
      subst x11
      obtain rfl := Option.some.inj he
      exact T (v := 163) (by decide) (by decide) (by decide) (by decide) F10 q10
    rw [if_neg x11] at he
    by_cases x12 : o = 163
    · rw [if_pos x12] at he
      subst x12
      obtain rfl := Option.some.inj he
      exact T (v := 165) (by decide) (by decide) (by decide) (by decide) F11 q11
    rw [if_neg x12] at he
    by_cases x13 : o = 164
    · rw [if_pos x13] at he
      subst x13
      obtain rfl := Option.some.inj he
      exact T (v := 165) (by decide) (by decide) (by decide) (by decide) F11 r11
    rw [if_neg x13] at he
    by_cases x14 : o = 165
    · rw [if_pos x14] at he
      subst x14
      obtain rfl := Option.some.inj he
      exact T (v := 167) (by decide) (by decide) (by decide) (by decide) F12 q12
    rw [if_neg x14] at he
    by_cases x15 : o = 166
    · rw [if_pos x15] at he
      subst x15
      obtain rfl := Option.some.inj he
      exact T (v := 167) (by decide) (by decide) (by decide) (by decide) F12 r12
    rw [if_neg x15] at he
    by_cases x16 : o = 155
    · rw [if_pos (show o = d0.ka from x16)] at he
      subst x16
      obtain rfl := Option.some.inj he
      exact T (v := 163) (by decide) (by decide) (by decide) (by decide) F10 r10a
    rw [if_neg (show ¬ o = d0.ka from x16)] at he
    by_cases x17 : o = 156
    · rw [if_pos (show o = d0.fa from x17)] at he
      subst x17
      obtain rfl := Option.some.inj he
      exact T (v := 163) (by decide) (by decide) (by decide) (by decide) F10 r10b
    rw [if_neg (show ¬ o = d0.fa from x17)] at he
    unfold ctR at he
    by_cases x18 : 51 ≤ o ∧ o < 111 ∧ (o - 51) % 5 = 0
    · rw [if_pos x18] at he
      obtain rfl := Option.some.inj he
      obtain ⟨r, hr⟩ : ∃ r, o = 51 + 5 * r := ⟨(o - 51) / 5, by omega⟩
      subst hr
      rw [show (51 + 5 * r - 51) / 5 = r by omega]
      have h9 := (w4 r (by omega)).1
      refine T (v := 111) (by omega) (by omega) (by omega) (by omega) F4 ?_
      rw [h9]
      unfold aw fw
      rw [if_neg (by omega), if_pos (by omega), if_neg (by omega), if_neg (by omega), if_pos (by omega), show 24 + r - 24 = r by omega, show 36 + r - 36 = r by omega]
    · rw [if_neg x18] at he
      cases he
