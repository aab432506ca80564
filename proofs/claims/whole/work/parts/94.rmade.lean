/-! the reference's new object holds the first state -/
def WX (h : AH) (o : Nat) (x : Int) : Prop := ∃ w : RWh, h.1 o = some (.inr (10, [.int w.2.2, .int w.2.1, .ref (o + 1)])) ∧ h.1 (o + 1) = some (.inl (0, 100, .inl w.1)) ∧ okX w x
theorem WX.kp {h h' : AH} {o : Nat} {x : Int} (w : WX h o x) (h1 : h'.1 o = h.1 o) (h2 : h'.1 (o + 1) = h.1 (o + 1)) : WX h' o x := by
  obtain ⟨v, a, b, c⟩ := w
  exact ⟨v, h1.trans a, h2.trans b, c⟩
theorem okX_z : okX (fun _ => 0, 0, 0) 0 := ⟨0, fun _ => 0, rfl, by decide, fun i hi => absurd hi (Nat.not_lt_zero i), fun h => absurd h (by decide), Or.inl rfl, fun h => absurd h (by decide), rfl⟩
theorem okX_1 : okX (upd (fun _ => 0) 0 1, 1, 0) 1 := by
  refine ⟨1, fun _ => 1, rfl, by decide, fun i hi => ?_, fun _ => by decide, Or.inl rfl, fun h => absurd h (by decide), by decide⟩
  obtain rfl : i = 0 := by omega
  exact ⟨rfl, by decide⟩
theorem gI_go {h : AH} {a ci k : Nat} {v : Int32} {fs : List Value} (ha : h.1 a = some (.inr (ci, fs))) (hf : fs[k]? = some (.int v)) : gI h a ci k = some v := by
  unfold gI
  rw [ha]
  dsimp only
  rw [if_pos rfl, hf]
theorem new10 (h : AH) : ∃ h', zs_X10_init (nO h (.inr (10, [.int 0, .int 0, .null]))) h.2 = some h' ∧ h'.2 = h.2 + 2 ∧ h'.1 h.2 = some (.inr (10, [.int 0, .int 0, .ref (h.2 + 1)])) ∧ h'.1 (h.2 + 1) = some (.inl (0, 100, .inl (fun _ => 0))) ∧ WX h' h.2 0 ∧ ∀ a, a < h.2 → h'.1 a = h.1 a := by
  unfold zs_X10_init
  obtain ⟨g2, e2, s2, p2, r2, f2⟩ := mkR (k := 2) (0, (100, .inl (fun _ => 0))) (nO_at h (.inr (10, [.int 0, .int 0, .null]))) (by rw [nO_2]; omega) (Nat.le_of_ble_eq_true rfl)
  rw [e2]
  rw [nO_2] at s2 p2 r2 f2
  refine ⟨g2, rfl, by omega, p2, r2, ⟨(fun _ => 0, 0, 0), p2, r2, okX_z⟩, fun a ha => ?_⟩
  rw [f2 a (by omega) (by omega)]
  exact nO_lt ha
/-- a new whole goes into the field k of the object p -/
theorem mkX {h : AH} {p ci k : Nat} {fs : List Value} (hp : h.1 p = some (.inr (ci, fs))) (hl : p < h.2) (hk : k < fs.length) :
    ∃ h', (∀ (α : Type) (F : AH → Option α), (lt_ (nO h (.inr (10, [.int 0, .int 0, .null]))) fun g1 => (zs_X10_init g1 h.2).bind fun g2 => (pV g2 p ci k (.ref h.2)).bind F) = F h') ∧ h'.2 = h.2 + 2 ∧ h'.1 p = some (.inr (ci, fs.set k (.ref h.2))) ∧ h'.1 h.2 = some (.inr (10, [.int 0, .int 0, .ref (h.2 + 1)])) ∧ h'.1 (h.2 + 1) = some (.inl (0, 100, .inl (fun _ => 0))) ∧ ∀ a, a < h.2 → a ≠ p → h'.1 a = h.1 a := by
  obtain ⟨g, e1, e2, e3, e4, -, e5⟩ := new10 h
  have hp' : g.1 p = some (.inr (ci, fs)) := (e5 p hl).trans hp
  refine ⟨hset g p (.inr (ci, fs.set k (.ref h.2))), fun α F => ?_, e2, hset_at _ _ _, ((on_hset _ _ _).2 _ (by omega)).trans e3, ((on_hset _ _ _).2 _ (by omega)).trans e4, fun a ha hne => ?_⟩
  · show (zs_X10_init (nO h (.inr (10, [.int 0, .int 0, .null]))) h.2).bind (fun g2 => (pV g2 p ci k (.ref h.2)).bind F) = _
    rw [e1]
    show (pV g p ci k (.ref h.2)).bind F = _
    rw [pV_go hp' hk]
    rfl
  · rw [(on_hset _ _ _).2 _ hne]
    exact e5 a ha
theorem bec10 {h : AH} {o p : Nat} {x y : Int} (w : WX h o x) (w' : WX h p y) (dj : o + 1 < p ∨ p + 1 < o) : ∃ h', zs_X10_become h o p = some h' ∧ h'.2 = h.2 ∧ WX h' o y ∧ ∀ a, a ≠ o → a ≠ o + 1 → h'.1 a = h.1 a := by
  obtain ⟨v, a1, a2, -⟩ := w
  obtain ⟨u, b1, b2, k, e, h1, h2, h3, h4, h5, h6, h7⟩ := w'
  unfold zs_X10_become
  have hz : zk u.2.2 = some () := by unfold zk; rw [if_pos h5]
  rw [show gI h p 10 0 = some u.2.2 from gI_go b1 rfl, Option.bind_some, hz, Option.bind_some]
  obtain ⟨g1, e1, s1, p1, f1⟩ := mkV (k := 0) (.int u.2.2) a1 (Nat.le_of_ble_eq_true rfl)
  rw [e1]
  have b3 : g1.1 p = some (.inr (10, [.int u.2.2, .int u.2.1, .ref (p + 1)])) := (f1 p (by omega)).trans b1
  rw [show gI g1 p 10 1 = some u.2.1 from gI_go b3 rfl, Option.bind_some]
  obtain ⟨g2, e2, s2, p2, f2⟩ := mkV (k := 1) (.int u.2.1) p1 (Nat.le_of_ble_eq_true rfl)
  rw [e2]
  have b4 : g2.1 p = some (.inr (10, [.int u.2.2, .int u.2.1, .ref (p + 1)])) := (f2 p (by omega)).trans b3
  rw [show gR g2 p 10 2 = some (p + 1) from gR_go b4 rfl, Option.bind_some, show gR g2 o 10 2 = some (o + 1) from gR_go p2 rfl, Option.bind_some, show gI g2 o 10 1 = some u.2.1 from gI_go p2 rfl, Option.bind_some, h1]
  have c1 : g2.1 (p + 1) = some (.inl (0, 100, .inl u.1)) := by rw [f2 _ (by omega), f1 _ (by omega)]; exact b2
  have c2 : g2.1 (o + 1) = some (.inl (0, 100, .inl v.1)) := by rw [f2 _ (by omega), f1 _ (by omega)]; exact a2
  have hcp : cpI g2 (p + 1) 0 (o + 1) 0 (nI k) = some (hset g2 (o + 1) (.inl (0, 100, .inl (va_cpy u.1 v.1 0 0 k)))) := by
    unfold cpI
    rw [c1, c2]
    show (if (0 : Nat) = 0 ∧ (0 : Nat) = 0 ∧ 0 ≤ (0 : Int32).toInt ∧ 0 ≤ (0 : Int32).toInt ∧ 0 ≤ (nI k).toInt ∧ (0 : Int32).toInt + (nI k).toInt ≤ ((100 : Nat) : Int) ∧ (0 : Int32).toInt + (nI k).toInt ≤ ((100 : Nat) : Int) then some (hset g2 (o + 1) (.inl (0, 100, .inl (va_cpy u.1 v.1 (0 : Int32).toNatClampNeg (0 : Int32).toNatClampNeg (nI k).toNatClampNeg)))) else none) = _
    rw [nI_toInt (by omega), nI_clamp (by omega), show (0 : Int32).toInt = 0 from rfl, show (0 : Int32).toNatClampNeg = 0 from rfl, if_pos ⟨rfl, rfl, by omega, by omega, by omega, by omega, by omega⟩]
  rw [hcp]
  refine ⟨_, rfl, s2.trans s1, ⟨(va_cpy u.1 v.1 0 0 k, u.2.1, u.2.2), ?_, hset_at _ _ _, k, e, h1, h2, fun y hy => ⟨?_, (h3 y hy).2⟩, h4, h5, h6, h7⟩, fun a n1 n2 => ?_⟩
  · rw [(on_hset _ _ _).2 _ (by omega), p2]
    rfl
  · show va_cpy u.1 v.1 0 0 k y = _
    rw [va_cpy0 hy]
    exact (h3 y hy).1
  · rw [(on_hset _ _ _).2 _ n2, f2 a n1, f1 a n1]
/-- a row of n wholes is filled from the cell c on -/
theorem fillMade {g : AH} {n q c k N : Nat} {b : AH × Int32 → Option ((AH × Int32) ⊕ AH)} {fs : List Value} (hN : N < 1000)
    (hb : ∀ (t : Nat) (z : AH), t < N → b (z, nI t) = (gR z n 11 k).bind fun x => lt_ (nO z (.inr (10, [.int 0, .int 0, .null]))) fun g1 => (zs_X10_init g1 z.2).bind fun g2 => (sR g2 x 5 (nI t) z.2 10).bind fun g3 => some (Sum.inl (g3, nI t + (1 : Int32))))
    (he : ∀ z : AH, b (z, nI N) = some (Sum.inr z)) (hm : g.1 n = some (.inr (11, fs))) (hf : fs[k]? = some (.ref q)) (ha : g.1 q = some (.inl (5, N, .inr (.inr (.inr (.inr (fun _ => none))))))) (hs : g.2 = c) (hq : q < c) (hn : n < c) (hqn : n ≠ q) :
    ∃ (r : AH) (f : Nat → Option Nat), iter b FU (g, (0 : Int32)) = some r ∧ r.2 = c + 2 * N ∧ r.1 q = some (.inl (5, N, .inr (.inr (.inr (.inr f))))) ∧ (∀ s, s < N → f s = some (c + 2 * s)) ∧ (∀ i, i < N → WX r (c + 2 * i) 0) ∧ ∀ a, a < c → a ≠ q → r.1 a = g.1 a := by
  obtain ⟨r, hr, q0, f, q2, q3, q4, q5⟩ := iter_FU (B := b)
    (fun t z => t ≤ N ∧ z.2 = nI t ∧ z.1.2 = c + 2 * t ∧ ∃ f : Nat → Option Nat, z.1.1 q = some (.inl (5, N, .inr (.inr (.inr (.inr f))))) ∧ (∀ s, s < t → f s = some (c + 2 * s)) ∧ (∀ i, i < t → WX z.1 (c + 2 * i) 0) ∧ ∀ a, a < c → a ≠ q → z.1.1 a = g.1 a)
    (fun r => r.2 = c + 2 * N ∧ ∃ f : Nat → Option Nat, r.1 q = some (.inl (5, N, .inr (.inr (.inr (.inr f))))) ∧ (∀ s, s < N → f s = some (c + 2 * s)) ∧ (∀ i, i < N → WX r (c + 2 * i) 0) ∧ ∀ a, a < c → a ≠ q → r.1 a = g.1 a)
    N (by omega) (s := (g, (0 : Int32))) ⟨Nat.zero_le _, rfl, hs, _, ha, fun s hs => absurd hs (Nat.not_lt_zero s), fun i hi => absurd hi (Nat.not_lt_zero i), fun _ _ _ => rfl⟩ (by
    rintro t ⟨z, w⟩ ht ⟨htN, hw, hz, f, hza, hzf, hzw, hzb⟩
    dsimp only at hw hz hza hzw hzb ⊢
    subst hw
    by_cases h4 : t < N
    · rw [hb t z h4, gR_go ((hzb n hn hqn).trans hm) hf]
      simp only [Option.bind_some, lt_]
      obtain ⟨g2, e2, s2, c2, -, w2, f2⟩ := new10 z
      rw [e2]
      simp only [Option.bind_some]
      rw [sR_go ((f2 _ (by omega)).trans hza) c2 h4 hN]
      simp only [Option.bind_some]
      refine ⟨_, rfl, fun s' hs => ?_, fun r hr => by (cases hr)⟩
      obtain rfl := Sum.inl.inj hs
      dsimp only
      refine ⟨h4, h4, nI_1 t, by show g2.2 = _; omega, _, hset_at _ _ _, fun s hs => ?_, fun i hi => ?_, fun a ha hne => ?_⟩
      · by_cases e : s = t
        · subst e
          rw [va_us, hz]
        · rw [va_un e]
          exact hzf s (by omega)
      · by_cases e : i = t
        · subst e
          rw [hz] at w2
          exact w2.kp ((on_hset _ _ _).2 _ (by omega)) ((on_hset _ _ _).2 _ (by omega))
        · refine (hzw i (by omega)).kp ?_ ?_
          · rw [(on_hset _ _ _).2 _ (by omega), f2 _ (by omega)]
          · rw [(on_hset _ _ _).2 _ (by omega), f2 _ (by omega)]
      · rw [(on_hset _ _ _).2 _ hne, f2 _ (by omega)]
        exact hzb a ha hne
    · have e : t = N := by omega
      subst e
      rw [he]
      refine ⟨_, rfl, fun s' hs => by (cases hs), fun r hr => ?_⟩
      obtain rfl := Sum.inr.inj hr
      exact ⟨by omega, f, hza, hzf, hzw, hzb⟩)
  exact ⟨r, f, hr, q0, q2, q3, q4, q5⟩
theorem ratsMade {g : AH} {n c : Nat} {fs : List Value} (hm : g.1 n = some (.inr (11, fs))) (f10 : fs[10]? = some (.ref (n + 11))) (f11 : fs[11]? = some (.ref (n + 12))) (f4 : fs[4]? = some (.ref (n + 4))) (hu : WX g (n + 4) 1) (ha : g.1 (n + 11) = some (.inl (5, 12, .inr (.inr (.inr (.inr (fun _ => none))))))) (hb : g.1 (n + 12) = some (.inl (5, 12, .inr (.inr (.inr (.inr (fun _ => none))))))) (hs : g.2 = c) (hc : n + 20 ≤ c) :
    ∃ (r : AH) (f f' : Nat → Option Nat), iter (fun q : AH × Int32 => zb_X11_init_219 n q.1 q.2) FU (g, (0 : Int32)) = some r ∧ r.2 = c + 48 ∧ r.1 (n + 11) = some (.inl (5, 12, .inr (.inr (.inr (.inr f))))) ∧ r.1 (n + 12) = some (.inl (5, 12, .inr (.inr (.inr (.inr f'))))) ∧ (∀ s, s < 12 → f s = some (c + 4 * s)) ∧ (∀ s, s < 12 → f' s = some (c + 4 * s + 2)) ∧ (∀ i, i < 12 → WX r (c + 4 * i) 0 ∧ WX r (c + 4 * i + 2) 1) ∧ ∀ a, a < c → a ≠ n + 11 → a ≠ n + 12 → r.1 a = g.1 a := by
  obtain ⟨r, hr, q0, f, f', q1, q2, q3, q4, q5, q6⟩ := iter_FU (B := fun q : AH × Int32 => zb_X11_init_219 n q.1 q.2)
    (fun t z => t ≤ 12 ∧ z.2 = nI t ∧ z.1.2 = c + 4 * t ∧ ∃ f f' : Nat → Option Nat, z.1.1 (n + 11) = some (.inl (5, 12, .inr (.inr (.inr (.inr f))))) ∧ z.1.1 (n + 12) = some (.inl (5, 12, .inr (.inr (.inr (.inr f'))))) ∧ (∀ s, s < t → f s = some (c + 4 * s)) ∧ (∀ s, s < t → f' s = some (c + 4 * s + 2)) ∧ (∀ i, i < t → WX z.1 (c + 4 * i) 0 ∧ WX z.1 (c + 4 * i + 2) 1) ∧ ∀ a, a < c → a ≠ n + 11 → a ≠ n + 12 → z.1.1 a = g.1 a)
    (fun r => r.2 = c + 48 ∧ ∃ f f' : Nat → Option Nat, r.1 (n + 11) = some (.inl (5, 12, .inr (.inr (.inr (.inr f))))) ∧ r.1 (n + 12) = some (.inl (5, 12, .inr (.inr (.inr (.inr f'))))) ∧ (∀ s, s < 12 → f s = some (c + 4 * s)) ∧ (∀ s, s < 12 → f' s = some (c + 4 * s + 2)) ∧ (∀ i, i < 12 → WX r (c + 4 * i) 0 ∧ WX r (c + 4 * i + 2) 1) ∧ ∀ a, a < c → a ≠ n + 11 → a ≠ n + 12 → r.1 a = g.1 a)
    12 (by omega) (s := (g, (0 : Int32))) ⟨Nat.zero_le _, rfl, hs, _, _, ha, hb, fun s hs => absurd hs (Nat.not_lt_zero s), fun s hs => absurd hs (Nat.not_lt_zero s), fun i hi => absurd hi (Nat.not_lt_zero i), fun _ _ _ _ => rfl⟩ (by
    rintro t ⟨z, w⟩ ht ⟨htN, hw, hz, f, f', hza, hzb, hzf, hzg, hzw, hzo⟩
    dsimp only at hw hz hza hzb hzw hzo ⊢
    subst hw
    unfold zb_X11_init_219
    by_cases h4 : t < 12
    · have hzm : z.1 n = some (.inr (11, fs)) := (hzo n (by omega) (by omega) (by omega)).trans hm
      rw [if_neg (show ¬ (12 : Int32) ≤ nI t from nI_ge (b := 12) h4 (by decide)), gR_go hzm f10]
      simp only [Option.bind_some, lt_]
      obtain ⟨g2, e2, s2, c2, -, w2, f2⟩ := new10 z
      rw [e2]
      simp only [Option.bind_some]
      rw [sR_go ((f2 _ (by omega)).trans hza) c2 h4 (by decide)]
      simp only [Option.bind_some]
      obtain ⟨g3, hg3⟩ : ∃ g3, g3 = hset g2 (n + 11) (.inl (5, 12, .inr (.inr (.inr (.inr (va_up f t (some z.2))))))) := ⟨_, rfl⟩
      rw [← hg3]
      have k3 : ∀ a, a ≠ n + 11 → g3.1 a = g2.1 a := fun a h => by rw [hg3]; exact (on_hset _ _ _).2 _ h
      have r3 : g3.1 (n + 11) = some (.inl (5, 12, .inr (.inr (.inr (.inr (va_up f t (some z.2))))))) := by rw [hg3]; exact hset_at _ _ _
      have s3 : g3.2 = z.2 + 2 := by rw [hg3]; exact s2
      have m3 : g3.1 n = some (.inr (11, fs)) := by rw [k3 _ (by omega), f2 _ (by omega)]; exact hzm
      rw [gR_go m3 f11]
      simp only [Option.bind_some]
      obtain ⟨g4, e4, s4, c4, -, w4, f4'⟩ := new10 g3
      rw [e4]
      simp only [Option.bind_some]
      have b4 : g4.1 (n + 12) = some (.inl (5, 12, .inr (.inr (.inr (.inr f'))))) := by rw [f4' _ (by omega), k3 _ (by omega), f2 _ (by omega)]; exact hzb
      rw [sR_go b4 c4 h4 (by decide)]
      simp only [Option.bind_some]
      obtain ⟨g5, hg5⟩ : ∃ g5, g5 = hset g4 (n + 12) (.inl (5, 12, .inr (.inr (.inr (.inr (va_up f' t (some g3.2))))))) := ⟨_, rfl⟩
      rw [← hg5]
      have k5 : ∀ a, a ≠ n + 12 → g5.1 a = g4.1 a := fun a h => by rw [hg5]; exact (on_hset _ _ _).2 _ h
      have r5 : g5.1 (n + 12) = some (.inl (5, 12, .inr (.inr (.inr (.inr (va_up f' t (some g3.2))))))) := by rw [hg5]; exact hset_at _ _ _
      have s5 : g5.2 = z.2 + 4 := by rw [hg5]; show g4.2 = _; omega
      have K : ∀ a, a < z.2 → a ≠ n + 11 → a ≠ n + 12 → g5.1 a = z.1 a := fun a h1 h2 h3 => by rw [k5 a h3, f4' a (by omega), k3 a h2, f2 a h1]
      have m5 : g5.1 n = some (.inr (11, fs)) := (K n (by omega) (by omega) (by omega)).trans hzm
      rw [gR_go m5 f11]
      simp only [Option.bind_some]
      rw [aR_go r5 h4 (by decide), va_us]
      simp only [Option.bind_some]
      rw [gR_go m5 f4]
      simp only [Option.bind_some]
      have c5 : g5.1 g3.2 = some (.inr (10, [.int 0, .int 0, .ref (g3.2 + 1)])) := (k5 _ (by omega)).trans c4
      rw [chk_go c5]
      simp only [Option.bind_some]
      have u5 : WX g5 (n + 4) 1 := by
        refine hu.kp ?_ ?_
        · rw [K _ (by omega) (by omega) (by omega), hzo _ (by omega) (by omega) (by omega)]
        · rw [K _ (by omega) (by omega) (by omega), hzo _ (by omega) (by omega) (by omega)]
      have w5 : WX g5 g3.2 0 := w4.kp (k5 _ (by omega)) (k5 _ (by omega))
      obtain ⟨g6, e6, s6, w6, f6⟩ := bec10 w5 u5 (Or.inr (by omega))
      rw [e6]
      simp only [Option.bind_some]
      refine ⟨_, rfl, fun s' hs => ?_, fun r hr => by (cases hr)⟩
      obtain rfl := Sum.inl.inj hs
      dsimp only
      refine ⟨h4, h4, nI_1 t, by omega, va_up f t (some z.2), va_up f' t (some g3.2), ?_, ?_, fun s hs => ?_, fun s hs => ?_, fun i hi => ?_, fun a h1 h2 h3 => ?_⟩
      · rw [f6 _ (by omega) (by omega), k5 _ (by omega), f4' _ (by omega)]
        exact r3
      · rw [f6 _ (by omega) (by omega)]
        exact r5
      · by_cases e : s = t
        · subst e
          rw [va_us, hz]
        · rw [va_un e]
          exact hzf s (by omega)
      · by_cases e : s = t
        · subst e
          rw [va_us, s3, hz]
        · rw [va_un e]
          exact hzg s (by omega)
      · by_cases e : i = t
        · subst e
          have x1 : g3.2 = c + 4 * i + 2 := by omega
          rw [x1] at w6 f6
          rw [hz] at w2
          refine ⟨w2.kp ?_ ?_, w6⟩
          · rw [f6 _ (by omega) (by omega), k5 _ (by omega), f4' _ (by omega), k3 _ (by omega)]
          · rw [f6 _ (by omega) (by omega), k5 _ (by omega), f4' _ (by omega), k3 _ (by omega)]
        · obtain ⟨h5, h6⟩ := hzw i (by omega)
          refine ⟨h5.kp ?_ ?_, h6.kp ?_ ?_⟩ <;> rw [f6 _ (by omega) (by omega), K _ (by omega) (by omega) (by omega)]
      · rw [f6 _ (by omega) (by omega), K _ (by omega) h2 h3]
        exact hzo a h1 h2 h3
    · have e : t = 12 := by omega
      subst e
      rw [if_pos (by decide)]
      refine ⟨_, rfl, fun s' hs => by (cases hs), fun r hr => ?_⟩
      obtain rfl := Sum.inr.inj hr
      exact ⟨by omega, f, f', hza, hzb, hzf, hzg, hzw, hzo⟩)
  exact ⟨r, f, f', hr, q0, q1, q2, q3, q4, q5, q6⟩
theorem RV_of {h : AH} {n : Nat} {d : RD} {M : Nat → Int} (hW : ∀ i, i < 317 → WX h (ar n i) (M i)) (hc : ∀ o e, crt n d o = some e → h.1 (n + o) = some e) : RV h n d h M := by
  have h1 : ∀ i : Nat, ∃ w : RWh, i < 317 → (h.1 (ar n i) = some (.inr (10, [.int w.2.2, .int w.2.1, .ref (ar n i + 1)])) ∧ h.1 (ar n i + 1) = some (.inl (0, 100, .inl w.1)) ∧ okX w (M i)) := by
    intro i
    by_cases hi : i < 317
    · obtain ⟨w, a, b, c⟩ := hW i hi
      exact ⟨w, fun _ => ⟨a, b, c⟩⟩
    · exact ⟨(fun _ => 0, 0, 0), fun h => absurd h hi⟩
  obtain ⟨F, hF⟩ := Classical.axiomOfChoice h1
  exact ⟨F, ⟨fun i hi => ⟨(hF i hi).1, (hF i hi).2.1⟩, hc, rfl, fun _ _ => rfl⟩, fun i hi => (hF i hi).2.2⟩
