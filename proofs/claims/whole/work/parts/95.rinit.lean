/-! the reference's constructor -/
def rd0 : RD := ((0, 0), (.null, .null), (0, 0), (0, 0), (fun _ => 0, fun _ => 0), (fun _ => 0, fun _ => 0), (fun _ => 0, fun _ => 0))
def MR0 (i : Nat) : Int := if 104 ≤ i ∧ i < 116 then 1 else if i = 65 then 1 else 0
def rfl0 : List Value := [.int 0, .null, .int 0, .null, .null, .null, .null, .null, .null, .null, .null, .null, .null, .int 0, .null, .int 0, .null, .null, .null, .null, .null, .int 0, .int 0]
theorem RM_0 : RM MR0 S0 := by
  refine ⟨⟨rfl, rfl⟩, fun i hi => ?_, fun r hr => ⟨?_, ?_⟩⟩
  · unfold MR0
    rw [if_neg (by omega), if_neg (by omega)]
    rfl
  · unfold MR0
    rw [if_neg (by omega), if_neg (by omega)]
    rfl
  · unfold MR0
    rw [if_pos (by omega)]
    rfl
theorem RDD_0 : RDD rd0 S0 := ⟨⟨rfl, fun k hk => absurd hk (Nat.not_lt_zero k)⟩, ⟨rfl, fun k hk => absurd hk (Nat.not_lt_zero k)⟩, rfl, rfl, fun k hk => absurd hk (Nat.not_lt_zero k)⟩
def rrow (N : Nat) (f : Nat → Option Nat) : AE := .inl (5, N, .inr (.inr (.inr (.inr f))))
def fixR (h : AH) (n : Nat) : AH := hset (hset (hset (hset (hset h (n + 1) (rrow 64 fun s => some (ar n s))) (n + 10) (rrow 24 fun s => some (ar n (68 + s)))) (n + 11) (rrow 12 fun s => some (ar n (92 + s)))) (n + 12) (rrow 12 fun s => some (ar n (104 + s)))) (n + 19) (rrow 201 fun s => some (ar n (116 + s)))
abbrev Rc (h : AH) (n c : Nat) (fs : List Value) (G : Nat → Option AE) (B : AH) : Prop := h.2 = n + c ∧ h.1 n = some (.inr (11, fs)) ∧ (∀ o, 0 < o → o < c → h.1 (n + o) = G o) ∧ ∀ a, a < n → h.1 a = B.1 a
theorem Rc.row {h B : AH} {n c k : Nat} {fs : List Value} {G : Nat → Option AE} (r : Rc h n c fs G B) (x : Nat × vp_A) (hk : k < fs.length) (hc : 0 < c) : ∃ h', (∀ (α : Type) (F : AH → Option α), (lt_ (nO h (.inl x)) fun g1 => (pV g1 n 11 k (.ref h.2)).bind F) = F h') ∧ Rc h' n (c + 1) (fs.set k (.ref (n + c))) (va_up G c (some (.inl x))) B := by
  obtain ⟨r1, r2, r3, r4⟩ := r
  obtain ⟨g, e1, s1, p1, q1, f1⟩ := mkR (k := k) x r2 (by omega) hk
  rw [r1] at s1 p1 q1 f1
  refine ⟨g, e1, by omega, p1, fun o h1 h2 => ?_, fun a ha => ?_⟩
  · by_cases e : o = c
    · subst e
      rw [va_us]
      exact q1
    · rw [va_un e, f1 _ (by omega) (by omega)]
      exact r3 o h1 (by omega)
  · rw [f1 a (by omega) (by omega)]
    exact r4 a ha
theorem Rc.whole {h B : AH} {n c k : Nat} {fs : List Value} {G : Nat → Option AE} (r : Rc h n c fs G B) (hk : k < fs.length) (hc : 0 < c) : ∃ h', (∀ (α : Type) (F : AH → Option α), (lt_ (nO h (.inr (10, [.int 0, .int 0, .null]))) fun g1 => (zs_X10_init g1 h.2).bind fun g2 => (pV g2 n 11 k (.ref h.2)).bind F) = F h') ∧ Rc h' n (c + 2) (fs.set k (.ref (n + c))) (va_up (va_up G c (some (.inr (10, [.int 0, .int 0, .ref (n + c + 1)])))) (c + 1) (some (.inl (0, 100, .inl (fun _ => 0))))) B := by
  obtain ⟨r1, r2, r3, r4⟩ := r
  obtain ⟨g, e1, s1, p1, c1, q1, f1⟩ := mkX (k := k) r2 (by omega) hk
  rw [r1] at s1 p1 c1 q1 f1
  refine ⟨g, e1, by omega, p1, fun o h1 h2 => ?_, fun a ha => ?_⟩
  · by_cases e : o = c + 1
    · subst e
      rw [va_us]
      exact q1
    · by_cases e' : o = c
      · subst e'
        rw [va_un e, va_us]
        exact c1
      · rw [va_un e, va_un e', f1 _ (by omega) (by omega)]
        exact r3 o h1 (by omega)
  · rw [f1 a (by omega) (by omega)]
    exact r4 a ha
def rin2 (g34 : AH) (u0 : Nat) : Option AH :=
  (gR g34 u0 11 4).bind fun x35 => (gR g34 x35 10 2).bind fun x36 => (sI g34 x36 0 ((0 : Int32)) ((1 : Int32))).bind fun g37 => (gR g37 u0 11 4).bind fun x38 => (pV g37 x38 10 1 (.int ((1 : Int32)))).bind fun g39 => (iter (fun q : AH × Int32 => zb_X11_init_165 u0 q.1 q.2) FU ((g39, (0 : Int32)))).bind fun r46 => (iter (fun q : AH × Int32 => zb_X11_init_192 u0 q.1 q.2) FU ((r46, (0 : Int32)))).bind fun r53 => (iter (fun q : AH × Int32 => zb_X11_init_219 u0 q.1 q.2) FU ((r53, (0 : Int32)))).bind fun r69 => (iter (fun q : AH × Int32 => zb_X11_init_272 u0 q.1 q.2) FU ((r69, (0 : Int32)))).bind fun r76 => some r76
/-- the cells after the rows and the four wholes -/
def rG (n o : Nat) : Option AE := if o = 1 then some (.inl (5, 64, .inr (.inr (.inr (.inr (fun _ => none)))))) else if o = 2 ∨ o = 4 ∨ o = 6 ∨ o = 8 then some (.inr (10, [.int 0, .int 0, .ref (n + o + 1)])) else if o < 10 then some (.inl (0, 100, .inl (fun _ => 0))) else if o = 10 then some (.inl (5, 24, .inr (.inr (.inr (.inr (fun _ => none)))))) else if o < 13 then some (.inl (5, 12, .inr (.inr (.inr (.inr (fun _ => none)))))) else if o = 13 then some (.inl (2, (120, .inl (fun _ => 0)))) else if o = 14 then some (.inl (2, (400, .inl (fun _ => 0)))) else if o < 17 then some (.inl (0, (64, .inl (fun _ => 0)))) else if o < 19 then some (.inl (0, (201, .inl (fun _ => 0)))) else some (.inl (5, 201, .inr (.inr (.inr (.inr (fun _ => none))))))
theorem rin1 {a0 B : AH} {n : Nat} (r0 : Rc a0 n 1 rfl0 (fun _ => none) B) : ∃ g, zs_X11_init a0 n = rin2 g n ∧ Rc g n 20 (rmain n rd0) (rG n) B := by
  unfold zs_X11_init
  obtain ⟨a1, e1, r1⟩ := Rc.row (k := 1) r0 (5, 64, .inr (.inr (.inr (.inr (fun _ => none))))) (Nat.le_of_ble_eq_true rfl) (by decide)
  rw [e1]
  clear e1 r0
  obtain ⟨a2, e2, r2⟩ := Rc.whole (k := 3) r1 (Nat.le_of_ble_eq_true rfl) (by decide)
  rw [e2]
  clear e2 r1
  obtain ⟨a3, e3, r3⟩ := Rc.whole (k := 4) r2 (Nat.le_of_ble_eq_true rfl) (by decide)
  rw [e3]
  clear e3 r2
  obtain ⟨a4, e4, r4⟩ := Rc.whole (k := 7) r3 (Nat.le_of_ble_eq_true rfl) (by decide)
  rw [e4]
  clear e4 r3
  obtain ⟨a5, e5, r5⟩ := Rc.whole (k := 8) r4 (Nat.le_of_ble_eq_true rfl) (by decide)
  rw [e5]
  clear e5 r4
  obtain ⟨a6, e6, r6⟩ := Rc.row (k := 9) r5 (5, 24, .inr (.inr (.inr (.inr (fun _ => none))))) (Nat.le_of_ble_eq_true rfl) (by decide)
  rw [e6]
  clear e6 r5
  obtain ⟨a7, e7, r7⟩ := Rc.row (k := 10) r6 (5, 12, .inr (.inr (.inr (.inr (fun _ => none))))) (Nat.le_of_ble_eq_true rfl) (by decide)
  rw [e7]
  clear e7 r6
  obtain ⟨a8, e8, r8⟩ := Rc.row (k := 11) r7 (5, 12, .inr (.inr (.inr (.inr (fun _ => none))))) (Nat.le_of_ble_eq_true rfl) (by decide)
  rw [e8]
  clear e8 r7
  obtain ⟨a9, e9, r9⟩ := Rc.row (k := 12) r8 (2, (120, .inl (fun _ => 0))) (Nat.le_of_ble_eq_true rfl) (by decide)
  rw [e9]
  clear e9 r8
  obtain ⟨a10, e10, r10⟩ := Rc.row (k := 14) r9 (2, (400, .inl (fun _ => 0))) (Nat.le_of_ble_eq_true rfl) (by decide)
  rw [e10]
  clear e10 r9
  obtain ⟨a11, e11, r11⟩ := Rc.row (k := 16) r10 (0, (64, .inl (fun _ => 0))) (Nat.le_of_ble_eq_true rfl) (by decide)
  rw [e11]
  clear e11 r10
  obtain ⟨a12, e12, r12⟩ := Rc.row (k := 17) r11 (0, (64, .inl (fun _ => 0))) (Nat.le_of_ble_eq_true rfl) (by decide)
  rw [e12]
  clear e12 r11
  obtain ⟨a13, e13, r13⟩ := Rc.row (k := 18) r12 (0, (201, .inl (fun _ => 0))) (Nat.le_of_ble_eq_true rfl) (by decide)
  rw [e13]
  clear e13 r12
  obtain ⟨a14, e14, r14⟩ := Rc.row (k := 19) r13 (0, (201, .inl (fun _ => 0))) (Nat.le_of_ble_eq_true rfl) (by decide)
  rw [e14]
  clear e14 r13
  obtain ⟨a15, e15, r15⟩ := Rc.row (k := 20) r14 (5, 201, .inr (.inr (.inr (.inr (fun _ => none))))) (Nat.le_of_ble_eq_true rfl) (by decide)
  rw [e15]
  clear e15 r14
  refine ⟨a15, rfl, r15.1, r15.2.1, fun o h1 h2 => (r15.2.2.1 o h1 h2).trans ?_, r15.2.2.2⟩
  clear r15
  rcases (show o = 1 ∨ o = 2 ∨ o = 3 ∨ o = 4 ∨ o = 5 ∨ o = 6 ∨ o = 7 ∨ o = 8 ∨ o = 9 ∨ o = 10 ∨ o = 11 ∨ o = 12 ∨ o = 13 ∨ o = 14 ∨ o = 15 ∨ o = 16 ∨ o = 17 ∨ o = 18 ∨ o = 19 by omega) with rfl | rfl | rfl | rfl | rfl | rfl | rfl | rfl | rfl | rfl | rfl | rfl | rfl | rfl | rfl | rfl | rfl | rfl | rfl <;> rfl
set_option maxHeartbeats 4000000 in
theorem X11_made (B : AH) : ∃ (h' : AH) (q1 q10 q11 q12 q19 : Nat → Option Nat), zs_X11_init (nO B (.inr (11, rfl0))) B.2 = some h' ∧ h'.2 = B.2 + 646 ∧ (∀ a, a < B.2 → h'.1 a = B.1 a) ∧ (h'.1 (B.2 + 1) = some (rrow 64 q1) ∧ (∀ s, s < 64 → q1 s = some (ar B.2 s))) ∧ (h'.1 (B.2 + 10) = some (rrow 24 q10) ∧ (∀ s, s < 24 → q10 s = some (ar B.2 (68 + s)))) ∧ (h'.1 (B.2 + 11) = some (rrow 12 q11) ∧ (∀ s, s < 12 → q11 s = some (ar B.2 (92 + s)))) ∧ (h'.1 (B.2 + 12) = some (rrow 12 q12) ∧ (∀ s, s < 12 → q12 s = some (ar B.2 (104 + s)))) ∧ (h'.1 (B.2 + 19) = some (rrow 201 q19) ∧ (∀ s, s < 201 → q19 s = some (ar B.2 (116 + s)))) ∧ RI (fixR h' B.2) B.2 (fixR h' B.2) S0 := by
  obtain ⟨n, hn⟩ : ∃ n, n = B.2 := ⟨_, rfl⟩
  obtain ⟨a15, ei, s15, p15, F, FB⟩ := rin1 (a0 := nO B (.inr (11, rfl0))) (B := B) (n := n) ⟨by rw [hn]; rfl, by rw [hn]; exact nO_at B _, fun o h1 h2 => absurd h2 (by omega), fun a ha => nO_lt (by omega)⟩
  rw [← hn, ei]
  clear ei
  unfold rin2
  obtain ⟨fs, hfs⟩ : ∃ fs, fs = (rmain n rd0) := ⟨_, rfl⟩
  have pm : a15.1 n = some (.inr (11, fs)) := by rw [p15, hfs]
  have x4 : fs[4]? = some (.ref (n + 4)) := by rw [hfs]; rfl
  rw [gR_go pm x4]
  simp only [Option.bind_some]
  skip
  have d3 : a15.1 (n + 4) = some (.inr (10, [.int 0, .int 0, .ref (n + 4 + 1)])) := (F 4 (by decide) (by decide)).trans rfl
  have d4 : a15.1 (n + 4 + 1) = some (.inl (0, 100, .inl (fun _ => 0))) := (F 5 (by decide) (by decide)).trans rfl
  rw [gR_go d3 rfl]
  simp only [Option.bind_some]
  rw [show sI a15 (n + 4 + 1) 0 ((0 : Int32)) ((1 : Int32)) = _ from sI_go (i := 0) d4 (by decide) (by decide) 1]
  simp only [Option.bind_some]
  obtain ⟨b1, hb1⟩ : ∃ b, b = hset a15 (n + 4 + 1) (.inl (0, 100, .inl (upd (fun _ => 0) 0 1))) := ⟨_, rfl⟩
  rw [← hb1]
  have kb1 : ∀ a, a ≠ n + 4 + 1 → b1.1 a = a15.1 a := fun a h => by rw [hb1]; exact (on_hset _ _ _).2 _ h
  have rb1 : b1.1 (n + 4 + 1) = some (.inl (0, 100, .inl (upd (fun _ => 0) 0 1))) := by rw [hb1]; exact hset_at _ _ _
  have sb1 : b1.2 = n + 20 := by rw [hb1]; exact s15
  rw [gR_go ((kb1 n (by omega)).trans pm) x4]
  simp only [Option.bind_some]
  obtain ⟨b2, e2', s2', p2', f2'⟩ := mkV (k := 1) (.int 1) ((kb1 _ (by omega)).trans d3) (Nat.le_of_ble_eq_true rfl)
  rw [e2']
  rw [sb1] at s2'
  have kb2 : ∀ a, a ≠ n + 4 → a ≠ n + 4 + 1 → b2.1 a = a15.1 a := fun a h1 h2 => (f2' a h1).trans (kb1 a h2)
  have u2 : WX b2 (n + 4) 1 := ⟨(upd (fun _ => 0) 0 1, 1, 0), p2', (f2' _ (by omega)).trans rb1, okX_1⟩
  have pm2 : b2.1 n = some (.inr (11, fs)) := (kb2 n (by omega) (by omega)).trans pm
  have T : ∀ {o : Nat} {e : AE}, 5 < o → a15.1 (n + o) = some e → b2.1 (n + o) = some e := fun h1 h2 => (kb2 _ (by omega) (by omega)).trans h2
  have y1 : b2.1 (n + 1) = some (.inl (5, 64, .inr (.inr (.inr (.inr (fun _ => none)))))) := (kb2 _ (by omega) (by omega)).trans ((F 1 (by decide) (by decide)).trans rfl)
  obtain ⟨b3, g1, i3, s3', a3', t3, w3, k3⟩ := fillMade (g := b2) (n := n) (q := n + 1) (c := n + 20) (k := 1) (N := 64) (b := fun q : AH × Int32 => zb_X11_init_165 n q.1 q.2) (by decide) (fun t z ht => by
    show zb_X11_init_165 n z (nI t) = _
    unfold zb_X11_init_165
    rw [if_neg (show ¬ (64 : Int32) ≤ nI t from nI_ge (b := 64) ht (by decide))]) (fun z => by
    show zb_X11_init_165 n z (nI 64) = _
    unfold zb_X11_init_165
    rw [if_pos (by decide)]) pm2 (by rw [hfs]; rfl) y1 s2' (by omega) (by omega) (by omega)
  rw [i3]
  simp only [Option.bind_some]
  have pm3 : b3.1 n = some (.inr (11, fs)) := (k3 n (by omega) (by omega)).trans pm2
  have T3 : ∀ {o : Nat} {e : AE}, 5 < o → o < 20 → a15.1 (n + o) = some e → b3.1 (n + o) = some e := fun h1 h0 h2 => (k3 _ (by omega) (by omega)).trans (T h1 h2)
  have y10 : b3.1 (n + 10) = some (.inl (5, 24, .inr (.inr (.inr (.inr (fun _ => none)))))) := T3 (by decide) (by decide) ((F 10 (by decide) (by decide)).trans rfl)
  obtain ⟨b4, g10, i4, s4', a4', t4, w4, k4⟩ := fillMade (g := b3) (n := n) (q := n + 10) (c := n + 148) (k := 9) (N := 24) (b := fun q : AH × Int32 => zb_X11_init_192 n q.1 q.2) (by decide) (fun t z ht => by
    show zb_X11_init_192 n z (nI t) = _
    unfold zb_X11_init_192
    rw [if_neg (show ¬ (24 : Int32) ≤ nI t from nI_ge (b := 24) ht (by decide))]) (fun z => by
    show zb_X11_init_192 n z (nI 24) = _
    unfold zb_X11_init_192
    rw [if_pos (by decide)]) pm3 (by rw [hfs]; rfl) y10 (by omega) (by omega) (by omega) (by omega)
  rw [i4]
  simp only [Option.bind_some]
  have pm4 : b4.1 n = some (.inr (11, fs)) := (k4 n (by omega) (by omega)).trans pm3
  have T4 : ∀ {o : Nat} {e : AE}, 10 < o → o < 20 → a15.1 (n + o) = some e → b4.1 (n + o) = some e := fun h1 h0 h2 => (k4 _ (by omega) (by omega)).trans (T3 (by omega) h0 h2)
  have u4 : WX b4 (n + 4) 1 := by
    refine u2.kp ?_ ?_ <;> rw [k4 _ (by omega) (by omega), k3 _ (by omega) (by omega)]
  obtain ⟨b5, g11, g12, i5, s5', a5', a5'', t5, t5', w5, k5⟩ := ratsMade (g := b4) (n := n) (c := n + 196) pm4 (by rw [hfs]; rfl) (by rw [hfs]; rfl) x4 u4 (T4 (by decide) (by decide) ((F 11 (by decide) (by decide)).trans rfl)) (T4 (by decide) (by decide) ((F 12 (by decide) (by decide)).trans rfl)) (by omega) (by omega)
  rw [i5]
  simp only [Option.bind_some]
  have pm5 : b5.1 n = some (.inr (11, fs)) := (k5 n (by omega) (by omega) (by omega)).trans pm4
  have T5 : ∀ {o : Nat} {e : AE}, 12 < o → o < 20 → a15.1 (n + o) = some e → b5.1 (n + o) = some e := fun h1 h0 h2 => (k5 _ (by omega) (by omega) (by omega)).trans (T4 (by omega) h0 h2)
  obtain ⟨b6, g19, i6, s6', a6', t6, w6, k6⟩ := fillMade (g := b5) (n := n) (q := n + 19) (c := n + 244) (k := 20) (N := 201) (b := fun q : AH × Int32 => zb_X11_init_272 n q.1 q.2) (by decide) (fun t z ht => by
    show zb_X11_init_272 n z (nI t) = _
    unfold zb_X11_init_272
    rw [if_neg (show ¬ (200 : Int32) < nI t from nI_nlt (a := 200) (by omega) (by decide))]) (fun z => by
    show zb_X11_init_272 n z (nI 201) = _
    unfold zb_X11_init_272
    rw [if_pos (by decide)]) pm5 (by rw [hfs]; rfl) (T5 (by decide) (by decide) ((F 19 (by decide) (by decide)).trans rfl)) (by omega) (by omega) (by omega) (by omega)
  rw [i6]
  simp only [Option.bind_some]
  have T6 : ∀ {o : Nat} {e : AE}, 12 < o → o < 19 → a15.1 (n + o) = some e → b6.1 (n + o) = some e := fun h1 h0 h2 => (k6 _ (by omega) (by omega)).trans (T5 (by omega) (by omega) h2)
  have pm6 : b6.1 n = some (.inr (11, fs)) := (k6 n (by omega) (by omega)).trans pm5
  have L6 : ∀ a, a < n + 244 → a ≠ n + 19 → b6.1 a = b5.1 a := k6
  have L5 : ∀ a, a < n + 196 → a ≠ n + 11 → a ≠ n + 12 → a ≠ n + 19 → b6.1 a = b4.1 a := fun a h1 h2 h3 h4 => by rw [L6 a (by omega) h4, k5 a h1 h2 h3]
  have L4 : ∀ a, a < n + 148 → a ≠ n + 10 → a ≠ n + 11 → a ≠ n + 12 → a ≠ n + 19 → b6.1 a = b3.1 a := fun a h1 h2 h3 h4 h5 => by rw [L5 a (by omega) h3 h4 h5, k4 a h1 h2]
  have L3 : ∀ a, a < n + 10 → a ≠ n + 1 → b6.1 a = b2.1 a := fun a h1 h2 => by rw [L4 a (by omega) (by omega) (by omega) (by omega) (by omega), k3 a (by omega) h2]
  have L2 : ∀ a, a < n + 10 → a ≠ n + 1 → a ≠ n + 4 → a ≠ n + 5 → b6.1 a = a15.1 a := fun a h1 h2 h3 h4 => by rw [L3 a h1 h2, kb2 a h3 h4]
  have hW : ∀ i, i < 317 → WX b6 (ar n i) (MR0 i) := by
    intro i hi
    by_cases x1 : i < 64
    · have e : ar n i = n + 20 + 2 * i := by unfold ar fx; rw [if_pos x1]; omega
      have v : MR0 i = 0 := by unfold MR0; rw [if_neg (by omega), if_neg (by omega)]
      rw [e, v]
      refine (w3 i x1).kp ?_ ?_ <;> rw [L4 _ (by omega) (by omega) (by omega) (by omega) (by omega)]
    by_cases x2 : i < 68
    · rcases (show i = 64 ∨ i = 65 ∨ i = 66 ∨ i = 67 by omega) with rfl | rfl | rfl | rfl
      · exact ⟨(fun _ => 0, 0, 0), (L2 (n + 2) (by omega) (by omega) (by omega) (by omega)).trans ((F 2 (by decide) (by decide)).trans rfl), (L2 (n + 2 + 1) (by omega) (by omega) (by omega) (by omega)).trans ((F 3 (by decide) (by decide)).trans rfl), okX_z⟩
      · show WX b6 (n + 4) 1
        refine u2.kp ?_ ?_ <;> rw [L3 _ (by omega) (by omega)]
      · exact ⟨(fun _ => 0, 0, 0), (L2 (n + 6) (by omega) (by omega) (by omega) (by omega)).trans ((F 6 (by decide) (by decide)).trans rfl), (L2 (n + 6 + 1) (by omega) (by omega) (by omega) (by omega)).trans ((F 7 (by decide) (by decide)).trans rfl), okX_z⟩
      · exact ⟨(fun _ => 0, 0, 0), (L2 (n + 8) (by omega) (by omega) (by omega) (by omega)).trans ((F 8 (by decide) (by decide)).trans rfl), (L2 (n + 8 + 1) (by omega) (by omega) (by omega) (by omega)).trans ((F 9 (by decide) (by decide)).trans rfl), okX_z⟩
    by_cases x3 : i < 92
    · have e : ar n i = n + 148 + 2 * (i - 68) := by unfold ar fx; rw [if_neg x1, if_neg x2, if_pos x3]; omega
      have v : MR0 i = 0 := by unfold MR0; rw [if_neg (by omega), if_neg (by omega)]
      rw [e, v]
      refine (w4 (i - 68) (by omega)).kp ?_ ?_ <;> rw [L5 _ (by omega) (by omega) (by omega) (by omega)]
    by_cases x5 : i < 104
    · have e : ar n i = n + 196 + 4 * (i - 92) := by unfold ar fx; rw [if_neg x1, if_neg x2, if_neg x3, if_pos x5]; omega
      have v : MR0 i = 0 := by unfold MR0; rw [if_neg (by omega), if_neg (by omega)]
      rw [e, v]
      refine (w5 (i - 92) (by omega)).1.kp ?_ ?_ <;> rw [L6 _ (by omega) (by omega)]
    by_cases x6 : i < 116
    · have e : ar n i = n + 196 + 4 * (i - 104) + 2 := by unfold ar fx; rw [if_neg x1, if_neg x2, if_neg x3, if_neg x5, if_pos x6]; omega
      have v : MR0 i = 1 := by unfold MR0; rw [if_pos (by omega)]
      rw [e, v]
      refine (w5 (i - 104) (by omega)).2.kp ?_ ?_ <;> rw [L6 _ (by omega) (by omega)]
    · have e : ar n i = n + 244 + 2 * (i - 116) := by unfold ar fx; rw [if_neg x1, if_neg x2, if_neg x3, if_neg x5, if_neg x6]; omega
      have v : MR0 i = 0 := by unfold MR0; rw [if_neg (by omega), if_neg (by omega)]
      rw [e, v]
      exact w6 (i - 116) (by omega)
  refine ⟨b6, g1, g10, g11, g12, g19, rfl, by omega, fun a ha => ?_, ⟨(L4 _ (by omega) (by omega) (by omega) (by omega) (by omega)).trans a3', fun s hs => ?_⟩, ⟨(L5 _ (by omega) (by omega) (by omega) (by omega)).trans a4', fun s hs => ?_⟩, ⟨(L6 _ (by omega) (by omega)).trans a5', fun s hs => ?_⟩, ⟨(L6 _ (by omega) (by omega)).trans a5'', fun s hs => ?_⟩, ⟨a6', fun s hs => ?_⟩, ?_⟩
  · rw [L2 a (by omega) (by omega) (by omega) (by omega), FB a ha]
  · rw [t3 s hs]
    congr 1
    unfold ar fx
    rw [if_pos hs]
    omega
  · rw [t4 s hs]
    congr 1
    unfold ar fx
    rw [if_neg (by omega), if_neg (by omega), if_pos (by omega)]
    omega
  · rw [t5 s hs]
    congr 1
    unfold ar fx
    rw [if_neg (by omega), if_neg (by omega), if_neg (by omega), if_pos (by omega)]
    omega
  · rw [t5' s hs]
    congr 1
    unfold ar fx
    rw [if_neg (by omega), if_neg (by omega), if_neg (by omega), if_neg (by omega), if_pos (by omega)]
    omega
  · rw [t6 s hs]
    congr 1
    unfold ar fx
    rw [if_neg (by omega), if_neg (by omega), if_neg (by omega), if_neg (by omega), if_neg (by omega)]
    omega
  · obtain ⟨hf, hhf⟩ : ∃ hf, hf = fixR b6 n := ⟨_, rfl⟩
    rw [← hhf]
    have K0 : ∀ a, a ≠ n + 1 → a ≠ n + 10 → a ≠ n + 11 → a ≠ n + 12 → a ≠ n + 19 → hf.1 a = b6.1 a := fun a h1 h2 h3 h4 h5 => by
      rw [hhf]
      unfold fixR
      rw [(on_hset _ _ _).2 _ h5, (on_hset _ _ _).2 _ h4, (on_hset _ _ _).2 _ h3, (on_hset _ _ _).2 _ h2, (on_hset _ _ _).2 _ h1]
    have K19 : hf.1 (n + 19) = some (rrow 201 fun s => some (ar n (116 + s))) := by
      rw [hhf]
      exact hset_at _ _ _
    have K12 : hf.1 (n + 12) = some (rrow 12 fun s => some (ar n (104 + s))) := by
      rw [hhf]
      unfold fixR
      rw [(on_hset _ _ _).2 _ (by omega)]
      exact hset_at _ _ _
    have K11 : hf.1 (n + 11) = some (rrow 12 fun s => some (ar n (92 + s))) := by
      rw [hhf]
      unfold fixR
      rw [(on_hset _ _ _).2 _ (by omega), (on_hset _ _ _).2 _ (by omega)]
      exact hset_at _ _ _
    have K10 : hf.1 (n + 10) = some (rrow 24 fun s => some (ar n (68 + s))) := by
      rw [hhf]
      unfold fixR
      rw [(on_hset _ _ _).2 _ (by omega), (on_hset _ _ _).2 _ (by omega), (on_hset _ _ _).2 _ (by omega)]
      exact hset_at _ _ _
    have K1 : hf.1 (n + 1) = some (rrow 64 fun s => some (ar n s)) := by
      rw [hhf]
      unfold fixR
      rw [(on_hset _ _ _).2 _ (by omega), (on_hset _ _ _).2 _ (by omega), (on_hset _ _ _).2 _ (by omega), (on_hset _ _ _).2 _ (by omega)]
      exact hset_at _ _ _
    refine ⟨rd0, MR0, RV_of (fun i hi => ?_) (fun o e he => ?_), RM_0, RDD_0, SI_0⟩
    · have := fx_at hi
      refine (hW i hi).kp (K0 _ ?_ ?_ ?_ ?_ ?_) (K0 _ ?_ ?_ ?_ ?_ ?_) <;> unfold ar <;> omega
    · have R : ∀ {o : Nat} {e : AE}, 12 < o → o < 19 → a15.1 (n + o) = some e → hf.1 (n + o) = some e := fun h1 h2 h3 => (K0 _ (by omega) (by omega) (by omega) (by omega) (by omega)).trans (T6 h1 h2 h3)
      rcases crt_all he with h1 | ⟨h1, h2⟩
      · rcases (show o = 0 ∨ o = 1 by omega) with rfl | rfl
        · obtain rfl := Option.some.inj he
          refine (K0 n (by omega) (by omega) (by omega) (by omega) (by omega)).trans ?_
          rw [pm6, hfs]
        · obtain rfl := Option.some.inj he
          exact K1
      · rcases (show o = 10 ∨ o = 11 ∨ o = 12 ∨ o = 13 ∨ o = 14 ∨ o = 15 ∨ o = 16 ∨ o = 17 ∨ o = 18 ∨ o = 19 by omega) with rfl | rfl | rfl | rfl | rfl | rfl | rfl | rfl | rfl | rfl
        · obtain rfl := Option.some.inj he
          exact K10
        · obtain rfl := Option.some.inj he
          exact K11
        · obtain rfl := Option.some.inj he
          exact K12
        · obtain rfl := Option.some.inj he
          exact R (by decide) (by decide) ((F 13 (by decide) (by decide)).trans rfl)
        · obtain rfl := Option.some.inj he
          exact R (by decide) (by decide) ((F 14 (by decide) (by decide)).trans rfl)
        · obtain rfl := Option.some.inj he
          exact R (by decide) (by decide) ((F 15 (by decide) (by decide)).trans rfl)
        · obtain rfl := Option.some.inj he
          exact R (by decide) (by decide) ((F 16 (by decide) (by decide)).trans rfl)
        · obtain rfl := Option.some.inj he
          exact R (by decide) (by decide) ((F 17 (by decide) (by decide)).trans rfl)
        · obtain rfl := Option.some.inj he
          exact R (by decide) (by decide) ((F 18 (by decide) (by decide)).trans rfl)
        · obtain rfl := Option.some.inj he
          exact K19
