/-! making: a heap as it grows -/
theorem nO_at (h : AH) (e : AE) : (nO h e).1 h.2 = some e := if_pos rfl
theorem nO_lt {h : AH} {e : AE} {a : Nat} (ha : a < h.2) : (nO h e).1 a = h.1 a := if_neg (by omega)
theorem nO_2 (h : AH) (e : AE) : (nO h e).2 = h.2 + 1 := rfl
theorem sR_go {h : AH} {a kd N v ci : Nat} {f : Nat → Option Nat} {vs : List Value} (ha : h.1 a = some (.inl (kd, N, .inr (.inr (.inr (.inr f)))))) (hv : h.1 v = some (.inr (ci, vs))) {i : Nat} (hi : i < N) (hN : N < 1000) : sR h a kd (nI i) v ci = some (hset h a (.inl (kd, N, .inr (.inr (.inr (.inr (va_up f i (some v)))))))) := by
  show (match h.1 a, h.1 v with
    | some (.inl (k, n, .inr (.inr (.inr (.inr f))))), some (.inr o) => if k = kd ∧ o.1 = ci ∧ 0 ≤ (nI i).toInt ∧ (nI i).toInt < n then some (hset h a (.inl (kd, n, .inr (.inr (.inr (.inr (va_up f (nI i).toNatClampNeg (some v)))))))) else none
    | _, _ => none) = _
  rw [ha, hv]
  have := nI_rg hi (by omega)
  dsimp only
  rw [nI_clamp (show i < 2 ^ 31 by omega), if_pos ⟨rfl, rfl, this.1, this.2⟩]
/-- the whole at the address o holds x -/
def WH (h : AH) (o : Nat) (x : Int) : Prop := ∃ w : WR, h.1 o = some (.inr (8, [.ref (o + 1), .int w.2.1, .int w.2.2])) ∧ h.1 (o + 1) = some (.inl (1, 26, .inr (.inl w.1))) ∧ okW w x
theorem WH.kp {h h' : AH} {o : Nat} {x : Int} (w : WH h o x) (h1 : h'.1 o = h.1 o) (h2 : h'.1 (o + 1) = h.1 (o + 1)) : WH h' o x := by
  obtain ⟨v, a, b, c⟩ := w
  exact ⟨v, h1.trans a, h2.trans b, c⟩
theorem okW_z : okW (fun _ => 0, 0, 0) 0 := ⟨0, rfl, by decide, fun i hi => absurd hi (Nat.not_lt_zero i), fun h => absurd h (by decide), Or.inl ⟨rfl, rfl⟩⟩
section Mkn
variable {h : AH} {p ci k : Nat} {fs : List Value}
theorem new8 (h : AH) : ∃ h', zs_X8_init (nO h (.inr (8, [.null, .int 0, .int 0]))) h.2 = some h' ∧ h'.2 = h.2 + 2 ∧ h'.1 h.2 = some (.inr (8, [.ref (h.2 + 1), .int 0, .int 0])) ∧ WH h' h.2 0 ∧ ∀ a, a < h.2 → h'.1 a = h.1 a := by
  unfold zs_X8_init
  simp only [lt_]
  have e1 : (nO (nO h (.inr (8, [.null, .int 0, .int 0]))) (.inl (1, 26, .inr (.inl (fun _ => 0))))).1 h.2 = some (.inr (8, [.null, .int 0, .int 0])) := (nO_lt (show h.2 < h.2 + 1 by omega)).trans (nO_at h _)
  rw [pV_go e1 (by decide : 0 < 3)]
  simp only [Option.bind_some]
  rw [pV_go (hset_at _ _ _) (by show 1 < 3; decide)]
  simp only [Option.bind_some]
  rw [pV_go (hset_at _ _ _) (by show 2 < 3; decide)]
  refine ⟨_, rfl, rfl, hset_at _ _ _, ⟨(fun _ => 0, 0, 0), hset_at _ _ _, ?_, okW_z⟩, fun a ha => ?_⟩
  · rw [(on_hset _ _ _).2 _ (by omega), (on_hset _ _ _).2 _ (by omega), (on_hset _ _ _).2 _ (by omega)]
    exact nO_at (nO h _) _
  · rw [(on_hset _ _ _).2 _ (by omega), (on_hset _ _ _).2 _ (by omega), (on_hset _ _ _).2 _ (by omega)]
    exact (nO_lt (show a < h.2 + 1 by omega)).trans (nO_lt ha)
theorem one8 {o : Nat} {x : Int} (w : WH h o x) : ∃ h', zs_X8_become h o 1 = some h' ∧ h'.2 = h.2 ∧ WH h' o 1 ∧ ∀ a, a ≠ o → a ≠ o + 1 → h'.1 a = h.1 a := by
  obtain ⟨v, a, b, c⟩ := w
  have W : WS (fun y => y = o) (fun y => y + 1) h (fun _ => x) := by
    refine ⟨fun _ => v, ⟨fun y hy => ?_, fun y y' hy hy' _ => ?_⟩, fun y hy => c⟩
    · subst hy
      exact ⟨a, b⟩
    · rw [hy, hy']
  obtain ⟨h', e1, ⟨σ, H, ok⟩, F⟩ := v_become W rfl 1
  have h1 := H.1 o rfl
  have h2 := ok o rfl
  rw [va_us] at h2
  refine ⟨h', e1, F.1, ⟨σ o, h1.1, h1.2, h2⟩, fun y h3 h4 => F.2 y (fun u hu => ?_)⟩
  subst hu
  exact ⟨h3, h4⟩
/-- a new whole goes into the field k of the object p -/
theorem mkW (hp : h.1 p = some (.inr (ci, fs))) (hl : p < h.2) (hk : k < fs.length) :
    ∃ h', (∀ (α : Type) (F : AH → Option α), (lt_ (nO h (.inr (8, [.null, .int 0, .int 0]))) fun g1 => (zs_X8_init g1 h.2).bind fun g2 => (pV g2 p ci k (.ref h.2)).bind F) = F h') ∧ h'.2 = h.2 + 2 ∧ h'.1 p = some (.inr (ci, fs.set k (.ref h.2))) ∧ WH h' h.2 0 ∧ ∀ a, a < h.2 → a ≠ p → h'.1 a = h.1 a := by
  obtain ⟨g, e1, e2, e3, e4, e5⟩ := new8 h
  have hp' : g.1 p = some (.inr (ci, fs)) := (e5 p hl).trans hp
  refine ⟨hset g p (.inr (ci, fs.set k (.ref h.2))), fun α F => ?_, e2, hset_at _ _ _, e4.kp ((on_hset _ _ _).2 _ (by omega)) ((on_hset _ _ _).2 _ (by omega)), fun a ha hne => ?_⟩
  · show (zs_X8_init (nO h (.inr (8, [.null, .int 0, .int 0]))) h.2).bind (fun g2 => (pV g2 p ci k (.ref h.2)).bind F) = _
    rw [e1]
    show (pV g p ci k (.ref h.2)).bind F = _
    rw [pV_go hp' hk]
    rfl
  · rw [(on_hset _ _ _).2 _ hne]
    exact e5 a ha
/-- a new row goes into the field k of the object p -/
theorem mkR (x : Nat × vp_A) (hp : h.1 p = some (.inr (ci, fs))) (hl : p < h.2) (hk : k < fs.length) :
    ∃ h', (∀ (α : Type) (F : AH → Option α), (lt_ (nO h (.inl x)) fun g1 => (pV g1 p ci k (.ref h.2)).bind F) = F h') ∧ h'.2 = h.2 + 1 ∧ h'.1 p = some (.inr (ci, fs.set k (.ref h.2))) ∧ h'.1 h.2 = some (.inl x) ∧ ∀ a, a < h.2 → a ≠ p → h'.1 a = h.1 a := by
  have hp' : (nO h (.inl x)).1 p = some (.inr (ci, fs)) := (nO_lt hl).trans hp
  refine ⟨hset (nO h (.inl x)) p (.inr (ci, fs.set k (.ref h.2))), fun α F => ?_, rfl, hset_at _ _ _, ?_, fun a ha hne => ?_⟩
  · show (pV (nO h (.inl x)) p ci k (.ref h.2)).bind F = _
    rw [pV_go hp' hk]
    rfl
  · rw [(on_hset _ _ _).2 _ (by omega)]
    exact nO_at h _
  · rw [(on_hset _ _ _).2 _ hne]
    exact nO_lt ha
theorem mkV (v : Value) (hp : h.1 p = some (.inr (ci, fs))) (hk : k < fs.length) :
    ∃ h', (∀ (α : Type) (F : AH → Option α), (pV h p ci k v).bind F = F h') ∧ h'.2 = h.2 ∧ h'.1 p = some (.inr (ci, fs.set k v)) ∧ ∀ a, a ≠ p → h'.1 a = h.1 a := by
  refine ⟨hset h p (.inr (ci, fs.set k v)), fun α F => ?_, rfl, hset_at _ _ _, fun a hne => (on_hset _ _ _).2 _ hne⟩
  rw [pV_go hp hk]
  rfl
end Mkn
theorem gR_go {h : AH} {a ci k v : Nat} {fs : List Value} (ha : h.1 a = some (.inr (ci, fs))) (hf : fs[k]? = some (.ref v)) : gR h a ci k = some v := by
  unfold gR
  rw [ha]
  dsimp only
  rw [if_pos rfl, hf]
theorem chk_go {h : AH} {a ci : Nat} {fs : List Value} (ha : h.1 a = some (.inr (ci, fs))) : chk h a ci = some () := by
  show (match h.1 a with | some (.inr o) => if o.1 = ci then some () else none | _ => none) = some ()
  rw [ha]
  exact if_pos rfl
/-! the constructors of the class's parts: p is the object's cell, the last that was made -/
section Mks
variable {h : AH} {p : Nat}
theorem made4 (hp : h.1 p = some (.inr (4, [.null, .null]))) (hl : h.2 = p + 1) : ∃ h', zs_X4_init h p = some h' ∧ h'.2 = p + 5 ∧ h'.1 p = some (.inr (4, [.ref (p + 1), .ref (p + 3)])) ∧ WH h' (p + 1) 0 ∧ WH h' (p + 3) 1 ∧ ∀ a, a < p → h'.1 a = h.1 a := by
  unfold zs_X4_init
  obtain ⟨g1, e1, s1, p1, w1, f1⟩ := mkW (k := 0) hp (by omega) (Nat.le_of_ble_eq_true rfl)
  rw [e1]
  obtain ⟨g2, e2, s2, p2, w2, f2⟩ := mkW (k := 1) p1 (by omega) (Nat.le_of_ble_eq_true rfl)
  rw [e2, gR_go p2 rfl]
  simp only [Option.bind_some]
  rw [s1] at w2 p2 f2 s2
  rw [hl] at w1 p2 f1 w2 f2 s2
  have hz : g2.1 (p + 1 + 2) = some (.inr (8, [.ref (p + 1 + 2 + 1), .int w2.choose.2.1, .int w2.choose.2.2])) := w2.choose_spec.1
  rw [s1, hl, chk_go hz]
  simp only [Option.bind_some]
  obtain ⟨g3, e3, s3, w3, f3⟩ := one8 w2
  rw [e3]
  refine ⟨g3, rfl, by omega, (f3 p (by omega) (by omega)).trans p2, ?_, w3, fun a ha => ?_⟩
  · refine w1.kp ?_ ?_
    · rw [f3 _ (by omega) (by omega), f2 _ (by omega) (by omega)]
    · rw [f3 _ (by omega) (by omega), f2 _ (by omega) (by omega)]
  · rw [f3 _ (by omega) (by omega), f2 _ (by omega) (by omega), f1 _ (by omega) (by omega)]
theorem made5 (hp : h.1 p = some (.inr (5, [.int 0, .null]))) (hl : h.2 = p + 1) : ∃ h', zs_X5_init h p = some h' ∧ h'.2 = p + 2 ∧ h'.1 p = some (.inr (5, [.int 0, .ref (p + 1)])) ∧ h'.1 (p + 1) = some (.inl (0, 120, .inl (fun _ => 0))) ∧ ∀ a, a < p → h'.1 a = h.1 a := by
  unfold zs_X5_init
  obtain ⟨g1, e1, s1, p1, f1⟩ := mkV (k := 0) (.int 0) hp (Nat.le_of_ble_eq_true rfl)
  rw [e1]
  obtain ⟨g2, e2, s2, p2, r2, f2⟩ := mkR (k := 1) (0, (120, .inl (fun _ => 0))) p1 (by omega) (Nat.le_of_ble_eq_true rfl)
  rw [e2]
  rw [s1, hl] at r2 p2 s2 f2
  exact ⟨g2, rfl, by omega, p2, r2, fun a ha => by rw [f2 a (by omega) (by omega), f1 a (by omega)]⟩
theorem made6 (hp : h.1 p = some (.inr (6, [.int 0, .null, .null]))) (hl : h.2 = p + 1) : ∃ h', zs_X6_init h p = some h' ∧ h'.2 = p + 4 ∧ h'.1 p = some (.inr (6, [.int 0, .ref (p + 1), .ref (p + 2)])) ∧ h'.1 (p + 1) = some (.inl (0, 385, .inl (fun _ => 0))) ∧ WH h' (p + 2) 0 ∧ ∀ a, a < p → h'.1 a = h.1 a := by
  unfold zs_X6_init
  obtain ⟨g1, e1, s1, p1, f1⟩ := mkV (k := 0) (.int 0) hp (Nat.le_of_ble_eq_true rfl)
  rw [e1]
  obtain ⟨g2, e2, s2, p2, r2, f2⟩ := mkR (k := 1) (0, (385, .inl (fun _ => 0))) p1 (by omega) (Nat.le_of_ble_eq_true rfl)
  rw [e2]
  rw [s1, hl] at r2 p2 s2 f2
  obtain ⟨g3, e3, s3, p3, w3, f3⟩ := mkW (k := 2) p2 (by omega) (Nat.le_of_ble_eq_true rfl)
  rw [e3]
  rw [s2] at p3 s3 w3 f3
  exact ⟨g3, rfl, by omega, p3, (f3 _ (by omega) (by omega)).trans r2, w3, fun a ha => by rw [f3 a (by omega) (by omega), f2 a (by omega) (by omega), f1 a (by omega)]⟩
theorem made7 (hp : h.1 p = some (.inr (7, [.null]))) (hl : h.2 = p + 1) : ∃ h', zs_X7_init h p = some h' ∧ h'.2 = p + 2 ∧ h'.1 p = some (.inr (7, [.ref (p + 1)])) ∧ h'.1 (p + 1) = some (.inl (1, 13, .inr (.inl (fun _ => 0)))) ∧ ∀ a, a < p → h'.1 a = h.1 a := by
  unfold zs_X7_init
  obtain ⟨g2, e2, s2, p2, r2, f2⟩ := mkR (k := 0) (1, (13, .inr (.inl (fun _ => 0)))) hp (by omega) (Nat.le_of_ble_eq_true rfl)
  rw [e2]
  rw [hl] at r2 p2 s2 f2
  exact ⟨g2, rfl, by omega, p2, r2, fun a ha => f2 a (by omega) (by omega)⟩
theorem made0 (hp : h.1 p = some (.inr (0, [.null, .null, .null, .null, .null]))) (hl : h.2 = p + 1) : ∃ h', zs_X0_init h p = some h' ∧ h'.2 = p + 9 ∧ h'.1 p = some (.inr (0, [.ref (p + 1), .ref (p + 3), .ref (p + 5), .ref (p + 7), .ref (p + 8)])) ∧ WH h' (p + 1) 0 ∧ WH h' (p + 3) 0 ∧ WH h' (p + 5) 1 ∧ h'.1 (p + 7) = some (.inl (1, 27, .inr (.inl (fun _ => 0)))) ∧ h'.1 (p + 8) = some (.inl (1, 27, .inr (.inl (fun _ => 0)))) ∧ ∀ a, a < p → h'.1 a = h.1 a := by
  unfold zs_X0_init
  obtain ⟨g1, e1, s1, p1, w1, f1⟩ := mkW (k := 0) hp (by omega) (Nat.le_of_ble_eq_true rfl)
  rw [e1]
  rw [hl] at p1 s1 w1 f1
  obtain ⟨g2, e2, s2, p2, w2, f2⟩ := mkW (k := 1) p1 (by omega) (Nat.le_of_ble_eq_true rfl)
  rw [e2]
  rw [s1] at p2 s2 w2 f2
  obtain ⟨g3, e3, s3, p3, w3, f3⟩ := mkW (k := 2) p2 (by omega) (Nat.le_of_ble_eq_true rfl)
  rw [e3]
  rw [s2] at p3 s3 w3 f3
  rw [gR_go p3 rfl]
  simp only [Option.bind_some]
  have hz : g3.1 (p + 1 + 2 + 2) = some (.inr (8, [.ref (p + 1 + 2 + 2 + 1), .int w3.choose.2.1, .int w3.choose.2.2])) := w3.choose_spec.1
  rw [chk_go hz]
  simp only [Option.bind_some]
  obtain ⟨g4, e4, s4, w4, f4⟩ := one8 w3
  rw [e4]
  simp only [Option.bind_some]
  have p4 := (f4 p (by omega) (by omega)).trans p3
  obtain ⟨g5, e5, s5, p5, r5, f5⟩ := mkR (k := 3) (1, (27, .inr (.inl (fun _ => 0)))) p4 (by omega) (Nat.le_of_ble_eq_true rfl)
  rw [e5]
  rw [s4, s3] at p5 s5 r5 f5
  obtain ⟨g6, e6, s6, p6, r6, f6⟩ := mkR (k := 4) (1, (27, .inr (.inl (fun _ => 0)))) p5 (by omega) (Nat.le_of_ble_eq_true rfl)
  rw [e6]
  rw [s5] at p6 s6 r6 f6
  refine ⟨g6, rfl, by omega, p6, ?_, ?_, ?_, (f6 _ (by omega) (by omega)).trans r5, r6, fun a ha => ?_⟩
  · refine w1.kp ?_ ?_ <;> rw [f6 _ (by omega) (by omega), f5 _ (by omega) (by omega), f4 _ (by omega) (by omega), f3 _ (by omega) (by omega), f2 _ (by omega) (by omega)]
  · refine w2.kp ?_ ?_ <;> rw [f6 _ (by omega) (by omega), f5 _ (by omega) (by omega), f4 _ (by omega) (by omega), f3 _ (by omega) (by omega)]
  · refine w4.kp ?_ ?_ <;> rw [f6 _ (by omega) (by omega), f5 _ (by omega) (by omega)]
  · rw [f6 _ (by omega) (by omega), f5 _ (by omega) (by omega), f4 _ (by omega) (by omega), f3 _ (by omega) (by omega), f2 _ (by omega) (by omega), f1 _ (by omega) (by omega)]
end Mks
