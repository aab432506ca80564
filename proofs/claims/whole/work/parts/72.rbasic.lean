/-! the reference's wholes as values -/
def okX (w : RWh) (x : Int) : Prop := ∃ (k : Nat) (e : Nat → Nat), w.2.1 = nI k ∧ k ≤ 100 ∧ (∀ i, i < k → w.1 i = nI (e i) ∧ e i < C16) ∧ (0 < k → e (k - 1) ≠ 0) ∧ (w.2.2 = 0 ∨ w.2.2 = 1) ∧ (w.2.2 = 1 → 0 < k) ∧ x = sgv w.2.2 (vC e k)
def RV (B : AH) (n : Nat) (d : RD) (h : AH) (M : Nat → Int) : Prop := ∃ σ, RW B n d h σ ∧ ∀ i, i < 317 → okX (σ i) (M i)
def RD.tt (d : RD) (T : Nat) : RD := d.set1 d.code (nI T)
def tlC (e : Nat → Nat) : Nat → Nat
  | 0 => 0
  | k + 1 => if e k = 0 then tlC e k else k + 1
theorem tlC_le (e : Nat → Nat) : ∀ k, tlC e k ≤ k
  | 0 => Nat.le_refl 0
  | k + 1 => by
    unfold tlC
    split
    · exact Nat.le_succ_of_le (tlC_le e k)
    · exact Nat.le_refl _
theorem tlC_top (e : Nat → Nat) : ∀ k, 0 < tlC e k → e (tlC e k - 1) ≠ 0
  | 0 => fun h => absurd h (by unfold tlC; omega)
  | k + 1 => by
    intro h
    unfold tlC at h ⊢
    split
    · rename_i h0
      rw [if_pos h0] at h
      exact tlC_top e k h
    · rename_i h0
      exact h0
theorem tlC_v (e : Nat → Nat) : ∀ k, vC e (tlC e k) = vC e k
  | 0 => rfl
  | k + 1 => by
    unfold tlC
    split
    · rename_i h0
      show _ = vC e k + e k * C16 ^ k
      rw [h0, Nat.zero_mul, Nat.add_zero]
      exact tlC_v e k
    · rfl
theorem okX_abs {w : RWh} {x : Int} (h : okX w x) : ∃ (k : Nat) (e : Nat → Nat), w.2.1 = nI k ∧ k ≤ 100 ∧ (∀ i, i < k → w.1 i = nI (e i) ∧ e i < C16) ∧ (0 < k → e (k - 1) ≠ 0) ∧ x.natAbs = vC e k ∧ (w.2.2 = if x < 0 then 1 else 0) := by
  obtain ⟨k, e, h1, h2, h3, h4, h5, h6, h7⟩ := h
  refine ⟨k, e, h1, h2, h3, h4, by rw [h7]; exact sgv_abs _ _, ?_⟩
  rcases h5 with h5 | h5
  · rw [h5] at h7 ⊢
    have : x = (vC e k : Int) := h7
    rw [if_neg (by omega)]
  · rw [h5] at h7 ⊢
    have : x = -(vC e k : Int) := h7
    have hp := vC_pos (h6 h5) (h4 (h6 h5))
    rw [if_pos (by omega)]
theorem okX_sz {w : RWh} {x : Int} {k m : Nat} {e : Nat → Nat} (h4 : 0 < k → e (k - 1) ≠ 0) (hx : x.natAbs = vC e k) (hm : x.natAbs < C16 ^ m) : k ≤ m := vC_kle h4 (by rw [← hx]; exact hm)
section Rbs
variable {B h : AH} {n : Nat} {d : RD} {σ : Nat → RWh} {M : Nat → Int} {i j k T : Nat}
theorem RW.of_ (c : RW B n d h σ) (hi : i < 317) {m : Nat} (hm : m ≤ 100) {e : Nat → Nat} (he : ∀ j, j < m → (σ i).1 j = nI (e j) ∧ e j < C16) (b : Int32) (hb : b = 0 ∨ b = 1) :
    ∃ h' w, zs_X10_of h (ar n i) b (nI m) = some (ar n i, h') ∧ RW B n d h' (va_up σ i w) ∧ okX w (sgv b (vC e m)) := by
  unfold zs_X10_of
  obtain ⟨g1, e1, c1⟩ := c.putN hi (nI m)
  rw [e1]
  simp only [Option.bind_some]
  obtain ⟨r, hr, c2⟩ := iter_FU (B := fun q : AH => zb_X10_of_5 (ar n i) b q)
    (fun t z => t ≤ m ∧ tlC e m ≤ m - t ∧ RW B n d z (va_up σ i ((σ i).1, nI (m - t), (σ i).2.2)))
    (fun r => RW B n d r (va_up σ i ((σ i).1, nI (tlC e m), (σ i).2.2)))
    m (by omega) (s := g1) ⟨by omega, by have := tlC_le e m; omega, by rw [Nat.sub_zero]; exact c1⟩ (by
    rintro t g ht ⟨h1, h2, k1⟩
    unfold zb_X10_of_5
    simp only [k1.sz hi, k1.rw hi, Option.bind_some]
    rw [va_us]
    dsimp only
    by_cases hz : m - t = 0
    · have h3 : tlC e m = 0 := by omega
      rw [hz, if_pos (by decide)]
      refine ⟨_, rfl, fun s' hs => by (cases hs), fun r hr => ?_⟩
      obtain rfl := Sum.inr.inj hr
      rw [hz] at k1
      rw [h3]
      exact k1
    · obtain ⟨p, hp⟩ : ∃ p, m - t = p + 1 := ⟨m - t - 1, by omega⟩
      rw [hp] at h2 k1 ⊢
      rw [if_neg (nI_nle (by omega) (by omega)), nI_pred, k1.at hi (show p < 100 by omega), va_us]
      simp only [Option.bind_some]
      have hep := he p (by omega)
      rw [hep.1]
      have hsame : ∀ q, p < q → q ≤ m → tlC e q ≤ p + 1 → tlC e q = tlC e (p + 1) := by
        intro q
        induction q with
        | zero => intro h5; omega
        | succ q ih =>
          intro h5 h6 h7
          by_cases hq : q = p
          · subst hq; rfl
          · have h8 : e q = 0 := by
              rcases Nat.eq_zero_or_pos (e q) with h0 | h0
              · exact h0
              · exfalso
                unfold tlC at h7
                rw [if_neg (by omega)] at h7
                omega
            have h9 : tlC e (q + 1) = tlC e q := by
              show (if e q = 0 then tlC e q else q + 1) = _
              rw [if_pos h8]
            rw [h9] at h7 ⊢
            exact ih (by omega) (by omega) h7
      have hs := hsame m (by omega) (Nat.le_refl _) h2
      by_cases h0 : e p = 0
      · rw [if_pos (by rw [h0]; rfl)]
        obtain ⟨g2, e2, k2⟩ := k1.putN hi (nI p)
        rw [e2]
        rw [va_us, va_uu] at k2
        simp only [Option.bind_some]
        refine ⟨_, rfl, fun s' hs' => ?_, fun r hr => by (cases hr)⟩
        obtain rfl := Sum.inl.inj hs'
        refine ⟨by omega, by omega, ?_, by rw [show m - (t + 1) = p by omega]; exact k2⟩
        rw [hs]
        show (if e p = 0 then tlC e p else p + 1) ≤ _
        rw [if_pos h0]
        have := tlC_le e p
        omega
      · have hne : ¬ nI (e p) = 0 := nI_ne0 (by omega) (by have := hep.2; unfold C16 at this; omega)
        rw [if_neg hne]
        refine ⟨_, rfl, fun s' hs => by (cases hs), fun r hr => ?_⟩
        obtain rfl := Sum.inr.inj hr
        have h3 : tlC e m = p + 1 := by
          rw [hs]
          show (if e p = 0 then tlC e p else p + 1) = _
          rw [if_neg h0]
        rw [h3]
        exact k1)
  rw [hr]
  simp only [Option.bind_some]
  have hle := tlC_le e m
  have hfin : ∀ s : Int32, (s = 0 ∨ s = 1) → (s = 1 → 0 < tlC e m) → sgv s (vC e m) = sgv b (vC e m) → ∃ h' w, zj_X10_of_56 r (ar n i) s (ar n i) = some (ar n i, h') ∧ RW B n d h' (va_up σ i w) ∧ okX w (sgv b (vC e m)) := by
    intro s hs hs1 hv
    unfold zj_X10_of_56
    have hz : zk s = some () := by unfold zk; rw [if_pos hs]
    rw [hz]
    simp only [Option.bind_some]
    obtain ⟨g3, e3, c3⟩ := c2.putS hi s
    rw [e3]
    rw [va_us, va_uu] at c3
    refine ⟨g3, _, rfl, c3, tlC e m, e, rfl, by omega, fun j hj => he j (by omega), tlC_top e m, hs, hs1, ?_⟩
    rw [← hv]
    show _ = sgv s (vC e (tlC e m))
    rw [tlC_v]
  rcases hb with rfl | rfl
  · rw [if_pos rfl]
    exact hfin 0 (Or.inl rfl) (fun z => absurd z (by decide)) rfl
  · rw [if_neg (by decide), c2.sz hi, va_us]
    simp only [Option.bind_some]
    by_cases hz : tlC e m = 0
    · rw [hz, if_pos (by decide)]
      refine hfin 0 (Or.inl rfl) (fun z => absurd z (by decide)) ?_
      have : vC e m = 0 := by rw [← tlC_v, hz]; rfl
      rw [this]
      rfl
    · rw [if_neg (nI_nle (by omega) (by omega))]
      exact hfin 1 (Or.inr rfl) (fun _ => by omega) rfl
theorem va_cpy0 {f g : Nat → Int32} {k j : Nat} (hj : j < k) : va_cpy f g 0 0 k j = f j := by
  unfold va_cpy
  simp [hj]
theorem RW.become (c : RW B n d h σ) (hi : i < 317) (hj : j < 317) {x : Int} (hx : okX (σ j) x) : ∃ h' w, zs_X10_become h (ar n i) (ar n j) = some h' ∧ RW B n d h' (va_up σ i w) ∧ okX w x := by
  unfold zs_X10_become
  obtain ⟨k, e, h1, h2, h3, h4, h5, h6, h7⟩ := hx
  have hz : zk (σ j).2.2 = some () := by unfold zk; rw [if_pos h5]
  simp only [c.sg hj, hz, Option.bind_some]
  obtain ⟨g1, e1, c1⟩ := c.putS hi (σ j).2.2
  rw [e1]
  simp only [c1.sz hj, Option.bind_some]
  have s1 : (va_up σ i ((σ i).1, (σ i).2.1, (σ j).2.2) j).2.1 = nI k := by
    by_cases e : j = i
    · subst e; rw [va_us]; exact h1
    · rw [va_un e]; exact h1
  rw [s1]
  obtain ⟨g2, e2, c2⟩ := c1.putN hi (nI k)
  rw [va_us, va_uu] at c2
  rw [e2]
  dsimp only at c2
  simp only [c2.rw hi, c2.rw hj, c2.sz hi, Option.bind_some]
  rw [va_us]
  have f1 : (va_up σ i ((σ i).1, nI k, (σ j).2.2) j).1 = (σ j).1 := by
    by_cases e : j = i
    · subst e; rw [va_us]
    · rw [va_un e]
  have hcp : cpI g2 (ar n j + 1) 0 (ar n i + 1) 0 (nI k) = some (hset g2 (ar n i + 1) (.inl (0, 100, .inl (va_cpy (σ j).1 (σ i).1 0 0 k)))) := by
    have a1 := (c2.1 j hj).2
    have a2 := (c2.1 i hi).2
    rw [f1] at a1
    rw [va_us] at a2
    unfold cpI
    rw [a1, a2]
    show (if (0 : Nat) = 0 ∧ (0 : Nat) = 0 ∧ 0 ≤ (0 : Int32).toInt ∧ 0 ≤ (0 : Int32).toInt ∧ 0 ≤ (nI k).toInt ∧ (0 : Int32).toInt + (nI k).toInt ≤ ((100 : Nat) : Int) ∧ (0 : Int32).toInt + (nI k).toInt ≤ ((100 : Nat) : Int) then some (hset g2 (ar n i + 1) (.inl (0, 100, .inl (va_cpy (σ j).1 (σ i).1 (0 : Int32).toNatClampNeg (0 : Int32).toNatClampNeg (nI k).toNatClampNeg)))) else none) = _
    rw [nI_toInt (by omega), nI_clamp (by omega), show (0 : Int32).toInt = 0 from rfl, show (0 : Int32).toNatClampNeg = 0 from rfl, if_pos ⟨rfl, rfl, by omega, by omega, by omega, by omega, by omega⟩]
  rw [hcp]
  have c3 := c2.row hi (va_cpy (σ j).1 (σ i).1 0 0 k)
  rw [va_us, va_uu] at c3
  exact ⟨_, _, rfl, c3, k, e, rfl, h2, fun y hy => ⟨by show va_cpy (σ j).1 (σ i).1 0 0 k y = _; rw [va_cpy0 hy]; exact (h3 y hy).1, (h3 y hy).2⟩, h4, h5, h6, h7⟩
theorem RV.fin {w : RWh} {x : Int} (c : RW B n d h (va_up σ i w)) (hσ : ∀ i, i < 317 → okX (σ i) (M i)) (hw : okX w x) : RV B n d h (va_up M i x) := by
  refine ⟨_, c, fun y hy => ?_⟩
  by_cases e : y = i
  · subst e; rw [va_us, va_us]; exact hw
  · rw [va_un e, va_un e]; exact hσ y hy
theorem RV.become (c : RV B n d h M) (hi : i < 317) (hj : j < 317) : ∃ h', zs_X10_become h (ar n i) (ar n j) = some h' ∧ RV B n d h' (va_up M i (M j)) := by
  obtain ⟨σ, c, hσ⟩ := c
  obtain ⟨g, w, e1, c1, hw⟩ := c.become hi hj (hσ j hj)
  exact ⟨g, e1, RV.fin c1 hσ hw⟩
theorem RV.rm (c : RV B n d h M) : chk h n 11 = some () ∧ gI h n 11 0 = some d.code ∧ gR h n 11 1 = some (n + 1) ∧ gI h n 11 2 = some d.top ∧ gR h n 11 3 = some (ar n 64) ∧ gR h n 11 4 = some (ar n 65) ∧ gR h n 11 7 = some (ar n 66) ∧ gR h n 11 8 = some (ar n 67) ∧ gR h n 11 9 = some (n + 10) ∧ gR h n 11 10 = some (n + 11) ∧ gR h n 11 11 = some (n + 12) ∧ gR h n 11 12 = some (n + 13) ∧ gI h n 11 13 = some d.tpd ∧ gR h n 11 14 = some (n + 14) ∧ gI h n 11 15 = some d.osz ∧ gR h n 11 16 = some (n + 15) ∧ gR h n 11 17 = some (n + 16) ∧ gR h n 11 18 = some (n + 17) ∧ gR h n 11 19 = some (n + 18) ∧ gR h n 11 20 = some (n + 19) ∧ gI h n 11 21 = some d.hd ∧ gI h n 11 22 = some d.rd := by
  obtain ⟨σ, c, hσ⟩ := c
  exact c.rm
theorem RV.main (c : RV B n d h M) {d' : RD} {k : Nat} {v : Value} (hk : k < 23) (hd : (rmain n d).set k v = rmain n d') (hq : d'.2.2.2.2 = d.2.2.2.2) : ∃ h', pV h n 11 k v = some h' ∧ RV B n d' h' M := by
  obtain ⟨σ, c, hσ⟩ := c
  obtain ⟨g, e1, c1⟩ := c.main (d' := d') hk hd hq
  exact ⟨g, e1, σ, c1, hσ⟩
theorem RV.ck (c : RV B n d h M) (hi : i < 317) : chk h (ar n i) 10 = some () := by
  obtain ⟨σ, c, hσ⟩ := c
  exact c.ck hi
theorem RV.sg (c : RV B n d h M) (hi : i < 317) : gI h (ar n i) 10 0 = some (if M i < 0 then 1 else 0) := by
  obtain ⟨σ, c, hσ⟩ := c
  obtain ⟨k, e, -, -, -, -, -, h5⟩ := okX_abs (hσ i hi)
  rw [c.sg hi, h5]
theorem RV.sz (c : RV B n d h M) (hi : i < 317) : ∃ k, gI h (ar n i) 10 1 = some (nI k) ∧ k ≤ 100 ∧ (M i).natAbs < C16 ^ k ∧ (0 < k → C16 ^ (k - 1) ≤ (M i).natAbs) := by
  obtain ⟨σ, c, hσ⟩ := c
  obtain ⟨k, e, h1, h2, h3, h4, h5, -⟩ := okX_abs (hσ i hi)
  refine ⟨k, by rw [c.sz hi, h1], h2, by rw [h5]; exact vC_lt (fun y hy => (h3 y hy).2), fun hk => ?_⟩
  obtain ⟨p, rfl⟩ : ∃ p, k = p + 1 := ⟨k - 1, by omega⟩
  rw [h5]
  exact vC_ge (h4 hk)
theorem RV.isZero (c : RV B n d h M) (hi : i < 317) : zs_X10_isZero h (ar n i) = some (if M i = 0 then 1 else 0) := by
  unfold zs_X10_isZero
  obtain ⟨k, e1, h2, h3, h4⟩ := c.sz hi
  rw [e1]
  simp only [Option.bind_some]
  by_cases hk : k = 0
  · subst hk
    rw [Nat.pow_zero] at h3
    rw [if_pos (by decide), if_pos (by omega)]
  · have := h4 (by omega)
    have := C16_pos (k - 1)
    rw [if_neg (nI_ne0 (by omega) (by omega)), if_neg (by omega)]
theorem RV.take (c : RV B n d h M) (hT : d.top = nI T) (hl : T < 64) : ∃ h', zs_X11_take h n = some (ar n T, h') ∧ RV B n (d.tt (T + 1)) h' M := by
  obtain ⟨σ, c, hσ⟩ := c
  obtain ⟨g, e1, c1⟩ := c.take hT hl
  exact ⟨g, e1, σ, c1, hσ⟩
theorem RV.copy (c : RV B n d h M) (hT : d.top = nI T) (hl : T < 64) (hi : i < 317) : ∃ h', zs_X11_copy h n (ar n i) = some (ar n T, h') ∧ RV B n (d.tt (T + 1)) h' (va_up M T (M i)) := by
  unfold zs_X11_copy
  simp only [c.rm, Option.bind_some]
  obtain ⟨g1, e1, c1⟩ := c.take hT hl
  rw [e1]
  simp only [Option.bind_some, c1.ck (show T < 317 by omega)]
  obtain ⟨g2, e2, c2⟩ := c1.become (i := T) (j := i) (by omega) hi
  rw [e2]
  exact ⟨g2, rfl, c2⟩
theorem RV.putS (c : RV B n d h M) (hi : i < 317) {s : Int32} (hs : s = 0 ∨ (s = 1 ∧ M i ≠ 0)) : ∃ h', pV h (ar n i) 10 0 (.int s) = some h' ∧ RV B n d h' (va_up M i (sgv s (M i).natAbs)) := by
  obtain ⟨σ, c, hσ⟩ := c
  obtain ⟨g1, e1, c1⟩ := c.putS hi s
  refine ⟨g1, e1, RV.fin c1 hσ ?_⟩
  obtain ⟨k, e, h1, h2, h3, h4, h5, h6⟩ := okX_abs (hσ i hi)
  refine ⟨k, e, h1, h2, h3, h4, by rcases hs with a | a; exact Or.inl a; exact Or.inr a.1, fun z => ?_, by rw [h5]⟩
  rcases hs with a | a
  · have z' : s = 1 := z
    rw [a] at z'
    exact absurd z' (by decide)
  · rcases Nat.eq_zero_or_pos k with h0 | h0
    · exfalso
      subst h0
      have : (M i).natAbs = 0 := h5
      omega
    · exact h0
theorem RV.sized (c : RV B n d h M) (hT : d.top = nI T) (hl : T < 64) (hi : i < 317) : ∃ h', zs_X11_sized h n (ar n i) = some (ar n T, h') ∧ RV B n (d.tt (T + 1)) h' (va_up M T ((M i).natAbs : Int)) := by
  unfold zs_X11_sized
  simp only [c.rm, Option.bind_some]
  obtain ⟨g1, e1, c1⟩ := c.copy hT hl hi
  rw [e1]
  simp only [Option.bind_some]
  obtain ⟨g2, e2, c2⟩ := c1.putS (i := T) (s := 0) (by omega) (Or.inl rfl)
  rw [va_us, va_uu] at c2
  rw [e2]
  exact ⟨g2, rfl, c2⟩
theorem RV.negative (c : RV B n d h M) (hT : d.top = nI T) (hl : T < 64) (hi : i < 317) (hiT : i ≠ T) : ∃ h', zs_X11_negative h n (ar n i) = some (ar n T, h') ∧ RV B n (d.tt (T + 1)) h' (va_up M T (-(M i))) := by
  unfold zs_X11_negative
  simp only [c.rm, Option.bind_some]
  obtain ⟨g1, e1, c1⟩ := c.copy hT hl hi
  rw [e1]
  simp only [Option.bind_some, c1.sg hi]
  rw [va_un hiT]
  have key : ∀ s : Int32, (s = 0 ∨ (s = 1 ∧ M i ≠ 0)) → sgv s (M i).natAbs = -(M i) → ∃ h', zj_X11_negative_26 g1 (ar n T) s (ar n T) = some (ar n T, h') ∧ RV B n (d.tt (T + 1)) h' (va_up M T (-(M i))) := by
    intro s hs hv
    unfold zj_X11_negative_26
    have hz : zk s = some () := by unfold zk; rw [if_pos (by rcases hs with a | a; exact Or.inl a; exact Or.inr a.1)]
    rw [hz]
    simp only [Option.bind_some]
    obtain ⟨g2, e2, c2⟩ := c1.putS (i := T) (s := s) (by omega) (by rw [va_us]; exact hs)
    rw [va_us, va_uu, hv] at c2
    rw [e2]
    exact ⟨g2, rfl, c2⟩
  by_cases hn : M i < 0
  · rw [if_pos hn, if_neg (by decide)]
    exact key 0 (Or.inl rfl) (by show (((M i).natAbs : Nat) : Int) = _; omega)
  · rw [if_neg hn, if_pos rfl]
    obtain ⟨k, e2, h2, h3, h4⟩ := c1.sz hi
    rw [va_un hiT] at h3 h4
    rw [e2]
    simp only [Option.bind_some]
    by_cases hk : k = 0
    · subst hk
      rw [Nat.pow_zero] at h3
      rw [if_pos (by decide)]
      exact key 0 (Or.inl rfl) (by show (((M i).natAbs : Nat) : Int) = _; omega)
    · have := h4 (by omega)
      have := C16_pos (k - 1)
      rw [if_neg (nI_nle (by omega) (by omega))]
      exact key 1 (Or.inr ⟨rfl, by omega⟩) (by show -(((M i).natAbs : Nat) : Int) = _; omega)
end Rbs
