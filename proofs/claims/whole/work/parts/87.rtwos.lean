/-! the reference: bits as of two's form -/
def tw (x : Int) (k : Nat) : Nat := if x < 0 then 65535 - PX (unW x) k else PX (unW x) k
theorem tw_lt (x : Int) (k : Nat) : tw x k < 65536 := by
  have := PX_31 (unW x) k
  unfold tw
  split <;> omega
theorem tw_tb (x : Int) (k : Nat) {r : Nat} (hr : r < 16) : (tw x k).testBit r = bI x (16 * k + r) := by
  have hp := PX_31 (unW x) k
  have ht := px_tb (unW x) k r hr
  unfold tw bI
  by_cases hx : x < 0
  · rw [if_pos hx, if_pos hx]
    have e : 65535 - PX (unW x) k = 2 ^ 16 - (PX (unW x) k + 1) := by
      show _ = 65536 - _
      omega
    rw [e, Nat.testBit_two_pow_sub_succ (show PX (unW x) k < 2 ^ 16 from hp), decide_eq_true hr, ht]
    unfold unW
    rw [if_pos hx]
    rfl
  · rw [if_neg hx, if_neg hx, ht]
    unfold unW
    rw [if_neg hx]
section Rtw
variable {B h : AH} {n : Nat} {d : RD} {M : Nat → Int} {S : AS} {i j k s T : Nat} {f : Nat → Int32}
theorem RV.putX (c : RV B n d h M) (hk : k < 64) (x : Int32) : ∃ h', sI h (n + 15) 0 (nI k) x = some h' ∧ RV B n (d.set6 (upd d.tx k x) d.ty) h' M := by
  obtain ⟨σ, c, hσ⟩ := c
  refine ⟨_, sI_go (c.2.1 15 _ rfl) hk (by decide) x, σ, c.on (o := 15) (by omega) (on_hset _ _ _) (fun e he => ?_) (fun o' ho => ?_), hσ⟩
  · refine (hset_at _ _ _).trans ?_
    exact he
  · unfold crt
    refine ite_r (ite_r (ite_r (ite_r (ite_r (ite_r (ite_r ?_))))))
    rw [if_neg ho, if_neg ho]
    rfl
theorem RV.getX (c : RV B n d h M) (hk : k < 64) : aI h (n + 15) 0 (nI k) = some (d.tx k) := by
  obtain ⟨σ, c, hσ⟩ := c
  exact aI_go (c.2.1 15 _ rfl) hk (by decide)
theorem RV.twosLoopX (c : RV B n d h M) (hi : i < 317) (hs : s < 317) (hv : (M s).natAbs = unW (M i)) :
    ∃ (r : AH) (f : Nat → Int32), iter (fun q : AH × Int32 => zb_X11_twos_28 (ar n i) (n + 15) (ar n s) q.1 q.2) FU (h, (0 : Int32)) = some r ∧ RV B n (d.set6 f d.ty) r M ∧ ∀ y, y < 64 → f y = nI (tw (M i) y) := by
  obtain ⟨r, hr, f, c1, hf⟩ := iter_FU (B := fun q : AH × Int32 => zb_X11_twos_28 (ar n i) (n + 15) (ar n s) q.1 q.2)
    (fun t z => z.2 = nI t ∧ ∃ f, RV B n (d.set6 f d.ty) z.1 M ∧ ∀ y, y < t → f y = nI (tw (M i) y))
    (fun r => ∃ f, RV B n (d.set6 f d.ty) r M ∧ ∀ y, y < 64 → f y = nI (tw (M i) y))
    64 (by omega) (s := (h, (0 : Int32))) ⟨rfl, d.tx, c, fun y hy => absurd hy (Nat.not_lt_zero y)⟩ (by
    rintro t ⟨g, z⟩ ht ⟨hz, f, k1, hf⟩
    dsimp only at hz k1 ⊢
    subst hz
    unfold zb_X11_twos_28
    by_cases h4 : t < 64
    · rw [if_neg (show ¬ (64 : Int32) ≤ nI t from nI_ge (b := 64) h4 (by decide)), k1.n_ hs]
      simp only [Option.bind_some]
      have hcs := k1.le100 hs
      have pb := PX_31 (M s).natAbs t
      have key : ∃ o, zj_X11_twos_55 (ar n i) (n + 15) (ar n s) g (nI t) (nI (PX (M s).natAbs t)) = some o ∧ (∀ s', o = Sum.inl s' → t < 64 ∧ s'.2 = nI (t + 1) ∧ ∃ f, RV B n (d.set6 f d.ty) s'.1 M ∧ ∀ y, y < t + 1 → f y = nI (tw (M i) y)) ∧ (∀ r, o = Sum.inr r → ∃ f, RV B n (d.set6 f d.ty) r M ∧ ∀ y, y < 64 → f y = nI (tw (M i) y)) := by
        have fin : ∀ x : Int32, x = nI (tw (M i) t) → ∃ o, zj_X11_twos_77 (ar n i) (n + 15) (ar n s) g (nI t) x (nI t) (n + 15) = some o ∧ (∀ s', o = Sum.inl s' → t < 64 ∧ s'.2 = nI (t + 1) ∧ ∃ f, RV B n (d.set6 f d.ty) s'.1 M ∧ ∀ y, y < t + 1 → f y = nI (tw (M i) y)) ∧ (∀ r, o = Sum.inr r → ∃ f, RV B n (d.set6 f d.ty) r M ∧ ∀ y, y < 64 → f y = nI (tw (M i) y)) := by
          intro x hx
          unfold zj_X11_twos_77
          obtain ⟨g2, e2, k2⟩ := k1.putX h4 x
          rw [e2]
          refine ⟨_, rfl, fun s' hs' => ?_, fun r hr => by (cases hr)⟩
          obtain rfl := Sum.inl.inj hs'
          refine ⟨h4, nI_1 t, _, k2, fun y hy => ?_⟩
          by_cases e : y = t
          · subst e; rw [← hx]; exact pk_us
          · have e5 : upd f t x y = nI (tw (M i) y) := by rw [pk_un e]; exact hf y (by omega)
            exact e5
        unfold zj_X11_twos_55
        rw [k1.sg hi]
        simp only [Option.bind_some]
        unfold tw at fin
        rw [hv] at pb ⊢
        by_cases hn : M i < 0
        · rw [if_pos hn, if_neg (by decide)]
          refine fin _ ?_
          rw [if_pos hn]
          exact pk_sub (a := 65535) (by omega)
        · rw [if_neg hn, if_pos (by decide)]
          refine fin _ ?_
          rw [if_neg hn]
      by_cases hc : t < cs (M s).natAbs
      · rw [if_neg (nI_ge hc (by omega)), k1.rw hs]
        simp only [Option.bind_some]
        rw [k1.at hs hc]
        exact key
      · rw [if_pos (nI_le (by omega) (by omega))]
        have h0 : (0 : Int32) = nI (PX (M s).natAbs t) := by rw [PX_hi (by omega)]; rfl
        rw [h0]
        exact key
    · rw [if_pos (show (64 : Int32) ≤ nI t from nI_le (a := 64) (by omega) (by omega))]
      refine ⟨_, rfl, fun s' hs => by (cases hs), fun r hr => ?_⟩
      obtain rfl := Sum.inr.inj hr
      exact ⟨f, k1, fun y hy => hf y (by omega)⟩)
  exact ⟨r, f, hr, c1, hf⟩
theorem RV.twosX (c : RV B n d h M) (hT : d.top = nI T) (hl : T + 2 ≤ 64) (hi : i < 317) (iT : i < T ∨ 64 ≤ i) (xi : (M i).natAbs < C16 ^ 64) (ho : M 65 = 1) :
    ∃ h' d' M' f T', zs_X11_twos h n (ar n i) (n + 15) = some (n + 15, h') ∧ RV B n (d'.set6 f d'.ty) h' M' ∧ (d' = d ∨ d' = d.tt (T + 2)) ∧ (T ≤ T' ∧ T' ≤ T + 2 ∧ d'.top = nI T') ∧ (∀ y, y < 64 → f y = nI (tw (M i) y)) ∧ ∀ x, (x < T ∨ 64 ≤ x) → M' x = M x := by
  unfold zs_X11_twos zj_X11_twos_24
  rw [c.sg hi]
  simp only [Option.bind_some]
  by_cases hn : M i < 0
  · rw [if_pos hn, if_neg (by decide)]
    simp only [c.rm, Option.bind_some]
    obtain ⟨g1, e1, c1⟩ := c.sized hT (by omega) hi
    rw [e1]
    simp only [c1.rm, Option.bind_some]
    have h6499 : C16 ^ 64 ≤ C16 ^ 99 := Nat.pow_le_pow_right (by decide) (by decide)
    have h199 : C16 ^ 1 ≤ C16 ^ 99 := Nat.pow_le_pow_right (by decide) (by decide)
    have h1d : C16 ^ 1 = 65536 := by decide
    have m65 : va_up M T (((M i).natAbs : Nat) : Int) 65 = 1 := by rw [va_un (by omega)]; exact ho
    obtain ⟨g2, e2, c2⟩ := c1.less (T := T + 1) (i := T) (j := 65) rfl (by omega) (by omega) (by decide) (by omega) (by omega) (by rw [va_us, Int.natAbs_natCast]; omega) (by rw [m65]; show 1 < _; omega)
    rw [va_us, m65] at c2
    rw [e2]
    simp only [Option.bind_some]
    obtain ⟨M2, hM2⟩ : ∃ M2, M2 = va_up (va_up M T (((M i).natAbs : Nat) : Int)) (T + 1) ((((M i).natAbs : Nat) : Int) - 1) := ⟨_, rfl⟩
    rw [← hM2] at c2
    have m2i : M2 i = M i := by rw [hM2, va_un (by omega), va_un (by omega)]
    have hv : (M2 (T + 1)).natAbs = unW (M2 i) := by
      rw [m2i, hM2, va_us]
      unfold unW
      rw [if_pos hn]
      omega
    obtain ⟨r, f, er, c3, hf⟩ := c2.twosLoopX hi (show T + 1 < 317 by omega) hv
    rw [m2i] at hf
    rw [er]
    refine ⟨r, d.tt (T + 2), M2, f, T + 2, rfl, c3, Or.inr rfl, ⟨by omega, by omega, rfl⟩, hf, fun x hx => ?_⟩
    rw [hM2, va_un (by omega), va_un (by omega)]
  · rw [if_neg hn, if_pos (by decide)]
    obtain ⟨r, f, er, c3, hf⟩ := c.twosLoopX hi hi (by unfold unW; rw [if_neg hn])
    rw [er]
    exact ⟨r, d, M, f, T, rfl, c3, Or.inl rfl, ⟨by omega, by omega, hT⟩, hf, fun x hx => rfl⟩
theorem RV.putY (c : RV B n d h M) (hk : k < 64) (x : Int32) : ∃ h', sI h (n + 16) 0 (nI k) x = some h' ∧ RV B n (d.set6 d.tx (upd d.ty k x)) h' M := by
  obtain ⟨σ, c, hσ⟩ := c
  refine ⟨_, sI_go (c.2.1 16 _ rfl) hk (by decide) x, σ, c.on (o := 16) (by omega) (on_hset _ _ _) (fun e he => ?_) (fun o' ho => ?_), hσ⟩
  · refine (hset_at _ _ _).trans ?_
    exact he
  · unfold crt
    refine ite_r (ite_r (ite_r (ite_r (ite_r (ite_r (ite_r (ite_r ?_)))))))
    rw [if_neg ho, if_neg ho]
    rfl
theorem RV.getY (c : RV B n d h M) (hk : k < 64) : aI h (n + 16) 0 (nI k) = some (d.ty k) := by
  obtain ⟨σ, c, hσ⟩ := c
  exact aI_go (c.2.1 16 _ rfl) hk (by decide)
theorem RV.twosLoopY (c : RV B n d h M) (hi : i < 317) (hs : s < 317) (hv : (M s).natAbs = unW (M i)) :
    ∃ (r : AH) (f : Nat → Int32), iter (fun q : AH × Int32 => zb_X11_twos_28 (ar n i) (n + 16) (ar n s) q.1 q.2) FU (h, (0 : Int32)) = some r ∧ RV B n (d.set6 d.tx f) r M ∧ ∀ y, y < 64 → f y = nI (tw (M i) y) := by
  obtain ⟨r, hr, f, c1, hf⟩ := iter_FU (B := fun q : AH × Int32 => zb_X11_twos_28 (ar n i) (n + 16) (ar n s) q.1 q.2)
    (fun t z => z.2 = nI t ∧ ∃ f, RV B n (d.set6 d.tx f) z.1 M ∧ ∀ y, y < t → f y = nI (tw (M i) y))
    (fun r => ∃ f, RV B n (d.set6 d.tx f) r M ∧ ∀ y, y < 64 → f y = nI (tw (M i) y))
    64 (by omega) (s := (h, (0 : Int32))) ⟨rfl, d.ty, c, fun y hy => absurd hy (Nat.not_lt_zero y)⟩ (by
    rintro t ⟨g, z⟩ ht ⟨hz, f, k1, hf⟩
    dsimp only at hz k1 ⊢
    subst hz
    unfold zb_X11_twos_28
    by_cases h4 : t < 64
    · rw [if_neg (show ¬ (64 : Int32) ≤ nI t from nI_ge (b := 64) h4 (by decide)), k1.n_ hs]
      simp only [Option.bind_some]
      have hcs := k1.le100 hs
      have pb := PX_31 (M s).natAbs t
      have key : ∃ o, zj_X11_twos_55 (ar n i) (n + 16) (ar n s) g (nI t) (nI (PX (M s).natAbs t)) = some o ∧ (∀ s', o = Sum.inl s' → t < 64 ∧ s'.2 = nI (t + 1) ∧ ∃ f, RV B n (d.set6 d.tx f) s'.1 M ∧ ∀ y, y < t + 1 → f y = nI (tw (M i) y)) ∧ (∀ r, o = Sum.inr r → ∃ f, RV B n (d.set6 d.tx f) r M ∧ ∀ y, y < 64 → f y = nI (tw (M i) y)) := by
        have fin : ∀ x : Int32, x = nI (tw (M i) t) → ∃ o, zj_X11_twos_77 (ar n i) (n + 16) (ar n s) g (nI t) x (nI t) (n + 16) = some o ∧ (∀ s', o = Sum.inl s' → t < 64 ∧ s'.2 = nI (t + 1) ∧ ∃ f, RV B n (d.set6 d.tx f) s'.1 M ∧ ∀ y, y < t + 1 → f y = nI (tw (M i) y)) ∧ (∀ r, o = Sum.inr r → ∃ f, RV B n (d.set6 d.tx f) r M ∧ ∀ y, y < 64 → f y = nI (tw (M i) y)) := by
          intro x hx
          unfold zj_X11_twos_77
          obtain ⟨g2, e2, k2⟩ := k1.putY h4 x
          rw [e2]
          refine ⟨_, rfl, fun s' hs' => ?_, fun r hr => by (cases hr)⟩
          obtain rfl := Sum.inl.inj hs'
          refine ⟨h4, nI_1 t, _, k2, fun y hy => ?_⟩
          by_cases e : y = t
          · subst e; rw [← hx]; exact pk_us
          · have e5 : upd f t x y = nI (tw (M i) y) := by rw [pk_un e]; exact hf y (by omega)
            exact e5
        unfold zj_X11_twos_55
        rw [k1.sg hi]
        simp only [Option.bind_some]
        unfold tw at fin
        rw [hv] at pb ⊢
        by_cases hn : M i < 0
        · rw [if_pos hn, if_neg (by decide)]
          refine fin _ ?_
          rw [if_pos hn]
          exact pk_sub (a := 65535) (by omega)
        · rw [if_neg hn, if_pos (by decide)]
          refine fin _ ?_
          rw [if_neg hn]
      by_cases hc : t < cs (M s).natAbs
      · rw [if_neg (nI_ge hc (by omega)), k1.rw hs]
        simp only [Option.bind_some]
        rw [k1.at hs hc]
        exact key
      · rw [if_pos (nI_le (by omega) (by omega))]
        have h0 : (0 : Int32) = nI (PX (M s).natAbs t) := by rw [PX_hi (by omega)]; rfl
        rw [h0]
        exact key
    · rw [if_pos (show (64 : Int32) ≤ nI t from nI_le (a := 64) (by omega) (by omega))]
      refine ⟨_, rfl, fun s' hs => by (cases hs), fun r hr => ?_⟩
      obtain rfl := Sum.inr.inj hr
      exact ⟨f, k1, fun y hy => hf y (by omega)⟩)
  exact ⟨r, f, hr, c1, hf⟩
theorem RV.twosY (c : RV B n d h M) (hT : d.top = nI T) (hl : T + 2 ≤ 64) (hi : i < 317) (iT : i < T ∨ 64 ≤ i) (xi : (M i).natAbs < C16 ^ 64) (ho : M 65 = 1) :
    ∃ h' d' M' f T', zs_X11_twos h n (ar n i) (n + 16) = some (n + 16, h') ∧ RV B n (d'.set6 d'.tx f) h' M' ∧ (d' = d ∨ d' = d.tt (T + 2)) ∧ (T ≤ T' ∧ T' ≤ T + 2 ∧ d'.top = nI T') ∧ (∀ y, y < 64 → f y = nI (tw (M i) y)) ∧ ∀ x, (x < T ∨ 64 ≤ x) → M' x = M x := by
  unfold zs_X11_twos zj_X11_twos_24
  rw [c.sg hi]
  simp only [Option.bind_some]
  by_cases hn : M i < 0
  · rw [if_pos hn, if_neg (by decide)]
    simp only [c.rm, Option.bind_some]
    obtain ⟨g1, e1, c1⟩ := c.sized hT (by omega) hi
    rw [e1]
    simp only [c1.rm, Option.bind_some]
    have h6499 : C16 ^ 64 ≤ C16 ^ 99 := Nat.pow_le_pow_right (by decide) (by decide)
    have h199 : C16 ^ 1 ≤ C16 ^ 99 := Nat.pow_le_pow_right (by decide) (by decide)
    have h1d : C16 ^ 1 = 65536 := by decide
    have m65 : va_up M T (((M i).natAbs : Nat) : Int) 65 = 1 := by rw [va_un (by omega)]; exact ho
    obtain ⟨g2, e2, c2⟩ := c1.less (T := T + 1) (i := T) (j := 65) rfl (by omega) (by omega) (by decide) (by omega) (by omega) (by rw [va_us, Int.natAbs_natCast]; omega) (by rw [m65]; show 1 < _; omega)
    rw [va_us, m65] at c2
    rw [e2]
    simp only [Option.bind_some]
    obtain ⟨M2, hM2⟩ : ∃ M2, M2 = va_up (va_up M T (((M i).natAbs : Nat) : Int)) (T + 1) ((((M i).natAbs : Nat) : Int) - 1) := ⟨_, rfl⟩
    rw [← hM2] at c2
    have m2i : M2 i = M i := by rw [hM2, va_un (by omega), va_un (by omega)]
    have hv : (M2 (T + 1)).natAbs = unW (M2 i) := by
      rw [m2i, hM2, va_us]
      unfold unW
      rw [if_pos hn]
      omega
    obtain ⟨r, f, er, c3, hf⟩ := c2.twosLoopY hi (show T + 1 < 317 by omega) hv
    rw [m2i] at hf
    rw [er]
    refine ⟨r, d.tt (T + 2), M2, f, T + 2, rfl, c3, Or.inr rfl, ⟨by omega, by omega, rfl⟩, hf, fun x hx => ?_⟩
    rw [hM2, va_un (by omega), va_un (by omega)]
  · rw [if_neg hn, if_pos (by decide)]
    obtain ⟨r, f, er, c3, hf⟩ := c.twosLoopY hi hi (by unfold unW; rw [if_neg hn])
    rw [er]
    exact ⟨r, d, M, f, T, rfl, c3, Or.inl rfl, ⟨by omega, by omega, hT⟩, hf, fun x hx => rfl⟩
theorem RLo.getX (c : RLo B n d h M T f) (hk : k < 64) : aI h (n + 15) 0 (nI k) = some (d.tx k) := by
  obtain ⟨σ, c, -, hσ⟩ := c
  exact aI_go (c.2.1 15 _ rfl) hk (by decide)
theorem vC_bit {z : Nat → Nat} {m : Nat} (hz : ∀ y, y < m → z y < C16) (x : Nat) : (vC z m).testBit x = if x < 16 * m then (z (x / 16)).testBit (x % 16) else false := by
  by_cases hx : x < 16 * m
  · rw [if_pos hx]
    have h1 := px_tb (vC z m) (x / 16) (x % 16) (by omega)
    rw [show 16 * (x / 16) + x % 16 = x by omega] at h1
    rw [← h1]
    unfold PX
    rw [vC_dig hz (by omega)]
  · rw [if_neg hx]
    have h2 := vC_lt hz
    rw [C16_two] at h2
    exact Nat.testBit_lt_two_pow (Nat.lt_of_lt_of_le h2 (Nat.pow_le_pow_right (by decide) (by omega)))
def ftV (s : Bool) (z : Nat → Nat) : Int := if s then -((vC (fun y => 65535 - z y) 64 : Nat) : Int) - 1 else ((vC z 64 : Nat) : Int)
theorem ft_bit {z : Nat → Nat} (hz : ∀ y, y < 64 → z y < 65536) (s : Bool) (x : Nat) : bI (ftV s z) x = if x < 1024 then (z (x / 16)).testBit (x % 16) else s := by
  cases s with
  | false =>
    have e : ftV false z = ((vC z 64 : Nat) : Int) := if_neg (by decide)
    rw [e]
    unfold bI
    rw [if_neg (by omega), Int.natAbs_natCast]
    exact vC_bit (m := 64) hz x
  | true =>
    have e0 : ftV true z = -((vC (fun y => 65535 - z y) 64 : Nat) : Int) - 1 := if_pos rfl
    rw [e0]
    unfold bI
    rw [if_pos (by omega)]
    have e : (-((vC (fun y => 65535 - z y) 64 : Nat) : Int) - 1).natAbs - 1 = vC (fun y => 65535 - z y) 64 := by omega
    rw [e, vC_bit (m := 64) (fun y hy => by show 65535 - z y < 65536; omega) x]
    by_cases hx : x < 1024
    · rw [if_pos (show x < 16 * 64 by omega), if_pos hx]
      have hzz := hz (x / 16) (by omega)
      have e2 : 65535 - z (x / 16) = 2 ^ 16 - (z (x / 16) + 1) := by
        show _ = 65536 - _
        omega
      rw [e2, Nat.testBit_two_pow_sub_succ (show z (x / 16) < 2 ^ 16 from hzz), decide_eq_true (show x % 16 < 16 by omega)]
      cases (z (x / 16)).testBit (x % 16) <;> rfl
    · rw [if_neg (show ¬ x < 16 * 64 by omega), if_neg hx]
      rfl
theorem RV.fromTwos (c : RV B n d h M) (hT : d.top = nI T) (hl : T + 3 ≤ 64) {z : Nat → Nat} (hz : ∀ y, y < 64 → d.tx y = nI (z y) ∧ z y < 65536) {s : Bool} (hs : z 63 = if s then 65535 else 0) (ho : M 65 = 1) :
    ∃ h' M' W T', zs_X11_fromTwos h n (n + 15) = some (ar n W, h') ∧ RV B n (d.tt T') h' M' ∧ (T ≤ W ∧ W < 64) ∧ M' W = ftV s z ∧ ∀ x, (x < T ∨ 64 ≤ x) → M' x = M x := by
  unfold zs_X11_fromTwos
  have h63 : aI h (n + 15) 0 (63 : Int32) = some (nI (z 63)) := by
    have := c.getX (k := 63) (by decide)
    rw [(hz 63 (by decide)).1] at this
    exact this
  rw [h63]
  simp only [Option.bind_some]
  have key : ∀ (b : Int32) (w : Nat → Nat), (b = 0 ∨ b = 1) → (∀ y, y < 64 → w y = if b = 0 then z y else 65535 - z y) → ∃ (g : AH) (M' : Nat → Int), RV B n (d.tt (T + 1)) g M' ∧ M' T = ((vC w 64 : Nat) : Int) ∧ (∀ x, (x < T ∨ 64 ≤ x) → M' x = M x) ∧ zj_X11_fromTwos_14 h n (n + 15) b = (if b = 0 then some (ar n T, g) else (gR g n 11 4).bind fun x18 => (chk g n 11).bind fun _ => (zs_X11_sum_ g n (ar n T) x18).bind fun x20 => (chk x20.2 n 11).bind fun _ => (zs_X11_negative x20.2 n x20.1).bind fun x22 => some (x22.1, x22.2)) := by
    intro b w hb hw
    unfold zj_X11_fromTwos_14
    simp only [c.rm, Option.bind_some]
    obtain ⟨g1, e1, c1⟩ := c.take hT (by omega)
    rw [e1]
    simp only [Option.bind_some]
    have hT' : T < 317 := by omega
    have hwl : ∀ y, y < 64 → w y < C16 := fun y hy => by
      have := (hz y hy).2
      rw [hw y hy]
      show _ < 65536
      split <;> omega
    obtain ⟨f0, o1, -⟩ := c1.opn (T := T) hT'
    obtain ⟨r, hr, f, o2, hd, hf⟩ := iter_FU (B := fun q : AH × Int32 => zb_X11_fromTwos_23 n (n + 15) b (ar n T) q.1 q.2)
      (fun t s => s.2 = nI t ∧ ∃ f, RLo B n (d.tt (T + 1)) s.1 M T f ∧ okD f t ∧ ∀ y, y < t → eF f y = w y)
      (fun r => ∃ f, RLo B n (d.tt (T + 1)) r M T f ∧ okD f 64 ∧ ∀ y, y < 64 → eF f y = w y)
      64 (by omega) (s := (g1, (0 : Int32))) ⟨rfl, f0, o1, fun y hy => absurd hy (Nat.not_lt_zero y), fun y hy => absurd hy (Nat.not_lt_zero y)⟩ (by
      rintro t ⟨g, x⟩ ht ⟨hx, f, o, hd, hf⟩
      dsimp only at hx o ⊢
      subst hx
      unfold zb_X11_fromTwos_23
      by_cases h4 : t < 64
      · rw [if_neg (show ¬ (64 : Int32) ≤ nI t from nI_ge (b := 64) h4 (by decide)), o.rw hT']
        simp only [Option.bind_some]
        have hzt := hz t h4
        have egx : aI g (n + 15) 0 (nI t) = some (nI (z t)) := by
          rw [o.getX h4]
          exact congrArg some hzt.1
        have fin : ∃ o, zj_X11_fromTwos_54 n (n + 15) b (ar n T) g (nI t) (nI (w t)) (nI t) (ar n T + 1) = some o ∧ (∀ s', o = Sum.inl s' → t < 64 ∧ s'.2 = nI (t + 1) ∧ ∃ f, RLo B n (d.tt (T + 1)) s'.1 M T f ∧ okD f (t + 1) ∧ ∀ y, y < t + 1 → eF f y = w y) ∧ (∀ r, o = Sum.inr r → ∃ f, RLo B n (d.tt (T + 1)) r M T f ∧ okD f 64 ∧ ∀ y, y < 64 → eF f y = w y) := by
          unfold zj_X11_fromTwos_54
          obtain ⟨g2, e2, o3⟩ := o.put hT' (show t < 100 by omega) (nI (w t))
          rw [e2]
          refine ⟨_, rfl, fun s' hs' => ?_, fun r hr => by (cases hr)⟩
          obtain rfl := Sum.inl.inj hs'
          refine ⟨h4, nI_1 t, _, o3, okD_up hd (hwl t h4), fun y hy => ?_⟩
          by_cases e : y = t
          · subst e; exact eF_s f y (hwl y h4)
          · rw [eF_n e]; exact hf y (by omega)
        rw [egx]
        simp only [Option.bind_some]
        rcases hb with hb | hb
        · rw [if_pos hb]
          have e3 : w t = z t := by rw [hw t h4, if_pos hb]
          rw [e3] at fin
          exact fin
        · have hb0 : ¬ b = 0 := by rw [hb]; decide
          rw [if_neg hb0]
          have e3 : w t = 65535 - z t := by rw [hw t h4, if_neg hb0]
          have e4 : (65535 : Int32) - nI (z t) = nI (w t) := by
            rw [e3]
            exact pk_sub (a := 65535) (by omega)
          rw [e4]
          exact fin
      · rw [if_pos (show (64 : Int32) ≤ nI t from nI_le (a := 64) (by omega) (by omega))]
        refine ⟨_, rfl, fun s' hs => by (cases hs), fun r hr => ?_⟩
        obtain rfl := Sum.inr.inj hr
        exact ⟨f, o, fun y hy => hd y (by omega), fun y hy => hf y (by omega)⟩)
    rw [hr]
    simp only [o2.ck hT', Option.bind_some]
    obtain ⟨g3, e3, c3⟩ := o2.cls hT' (m := 64) (by decide) hd (b := 0) (Or.inl rfl)
    rw [show (64 : Int32) = nI 64 from rfl, e3]
    simp only [Option.bind_some]
    rw [vC_congr hf, sg0] at c3
    exact ⟨g3, _, c3, va_us _ _ _, fun x hx => va_un (by omega), rfl⟩
  cases s with
  | false =>
    have h0 : z 63 = 0 := hs
    rw [if_pos (by rw [h0]; decide)]
    obtain ⟨g, M1, c1, v1, f1, e1⟩ := key 0 z (Or.inl rfl) (fun y _ => by rw [if_pos rfl])
    rw [e1, if_pos rfl]
    exact ⟨g, M1, T, T + 1, rfl, c1, by omega, v1, f1⟩
  | true =>
    have h0 : z 63 = 65535 := hs
    rw [if_neg (by rw [h0]; decide)]
    obtain ⟨g, M1, c1, v1, f1, e1⟩ := key 1 (fun y => 65535 - z y) (Or.inr rfl) (fun y _ => by rw [if_neg (by decide)])
    rw [e1, if_neg (by decide)]
    have m65 : M1 65 = 1 := (f1 65 (by omega)).trans ho
    have hlt : vC (fun y => 65535 - z y) 64 < C16 ^ 64 := vC_lt (fun y hy => by show 65535 - z y < 65536; omega)
    have h6499 : C16 ^ 64 ≤ C16 ^ 99 := Nat.pow_le_pow_right (by decide) (by decide)
    have h199 : C16 ^ 1 ≤ C16 ^ 99 := Nat.pow_le_pow_right (by decide) (by decide)
    have h1d : C16 ^ 1 = 65536 := by decide
    simp only [c1.rm, Option.bind_some]
    obtain ⟨g2, e2, c2⟩ := c1.sum (T := T + 1) (i := T) (j := 65) rfl (by omega) (by omega) (by decide) (by omega) (by omega) (by rw [v1, Int.natAbs_natCast]; omega) (by rw [m65]; show 1 < _; omega)
    rw [v1, m65] at c2
    rw [e2]
    simp only [c2.rm, Option.bind_some]
    obtain ⟨g3, e3, c3⟩ := c2.negative (T := T + 2) (i := T + 1) rfl (by omega) (by omega) (by omega)
    rw [va_us] at c3
    rw [e3]
    refine ⟨g3, _, T + 2, T + 3, rfl, c3, by omega, ?_, fun x hx => ?_⟩
    · rw [va_us]
      unfold ftV
      rw [if_pos rfl]
      omega
    · rw [va_un (by omega), va_un (by omega)]
      exact f1 x hx
end Rtw
