/-! the reference's arithmetic: sizes and parts as functions of the value -/
def cs (v : Nat) : Nat := (bl v + 15) / 16
theorem cs_lt (v : Nat) : v < C16 ^ cs v := by
  rw [C16_two]
  refine Nat.lt_of_lt_of_le (bl_lt v) (Nat.pow_le_pow_right (by decide) ?_)
  unfold cs
  omega
theorem cs_ge {v : Nat} (h : 0 < cs v) : C16 ^ (cs v - 1) ≤ v := by
  unfold cs at h ⊢
  have h0 : v ≠ 0 := by
    intro e
    rw [e] at h
    have h1 : bl 0 = 0 := rfl
    rw [h1] at h
    omega
  rw [C16_two]
  exact Nat.le_trans (Nat.pow_le_pow_right (by decide) (by omega)) (bl_ge h0)
theorem cs_le {v m : Nat} (h : v < C16 ^ m) : cs v ≤ m := by
  rw [C16_two] at h
  have := bl_le h
  unfold cs
  omega
theorem cs_uniq {v k : Nat} (h1 : v < C16 ^ k) (h2 : 0 < k → C16 ^ (k - 1) ≤ v) : k = cs v := by
  have a := cs_le h1
  rcases Nat.lt_or_ge (cs v) k with b | b
  · exfalso
    have c1 := h2 (by omega)
    have c2 := cs_lt v
    have c3 : C16 ^ cs v ≤ C16 ^ (k - 1) := Nat.pow_le_pow_right (by decide) (by omega)
    omega
  · omega
theorem cs_mono {v w : Nat} (h : cs v < cs w) : v < w := by
  have h1 := cs_lt v
  have h2 := cs_ge (v := w) (by omega)
  have h3 : C16 ^ cs v ≤ C16 ^ (cs w - 1) := Nat.pow_le_pow_right (by decide) (by omega)
  omega
theorem cs_0 : cs 0 = 0 := rfl
theorem cs_z {v : Nat} : cs v = 0 ↔ v = 0 := by
  refine ⟨fun h => ?_, fun h => by rw [h]; exact cs_0⟩
  have h1 := cs_lt v
  rw [h, Nat.pow_zero] at h1
  omega
def PX (v k : Nat) : Nat := v / C16 ^ k % C16
theorem PX_lt (v k : Nat) : PX v k < C16 := Nat.mod_lt _ (by decide)
theorem PX_31 (v k : Nat) : PX v k < 65536 := PX_lt v k
theorem PX_hi {v k : Nat} (h : cs v ≤ k) : PX v k = 0 := by
  unfold PX
  have h1 := cs_lt v
  have h2 : C16 ^ cs v ≤ C16 ^ k := Nat.pow_le_pow_right (by decide) h
  rw [Nat.div_eq_of_lt (by omega)]
  rfl
theorem vC_PX {v m : Nat} (h : v < C16 ^ m) : vC (PX v) m = v := vC_of h (fun _ _ => rfl)
theorem vC_PXs {v m : Nat} (h : cs v ≤ m) : vC (PX v) m = v := vC_PX (Nat.lt_of_lt_of_le (cs_lt v) (Nat.pow_le_pow_right (by decide) h))
theorem PX_top {v : Nat} (h : 0 < cs v) : PX v (cs v - 1) ≠ 0 := by
  intro e
  have h1 := cs_ge h
  have h2 := vC_PXs (v := v) (Nat.le_refl (cs v))
  obtain ⟨p, hp⟩ : ∃ p, cs v = p + 1 := ⟨cs v - 1, by omega⟩
  rw [hp] at h1 h2 e
  have h3 : vC (PX v) p + PX v p * C16 ^ p = v := h2
  have h4 : PX v p = 0 := e
  have h5 := vC_lt (d := PX v) (k := p) (fun i _ => PX_lt v i)
  have h6 : C16 ^ p ≤ v := h1
  rw [h4, Nat.zero_mul] at h3
  omega
theorem okX_at {w : RWh} {x : Int} (h : okX w x) : w.2.1 = nI (cs x.natAbs) ∧ cs x.natAbs ≤ 100 ∧ (∀ j, j < cs x.natAbs → w.1 j = nI (PX x.natAbs j)) ∧ w.2.2 = (if x < 0 then 1 else 0) := by
  obtain ⟨k, e, h1, h2, h3, h4, h5, h6⟩ := okX_abs h
  have hd : ∀ j, j < k → e j < C16 := fun j hj => (h3 j hj).2
  have hk : k = cs x.natAbs := cs_uniq (by rw [h5]; exact vC_lt hd) (fun h0 => by
    obtain ⟨p, rfl⟩ : ∃ p, k = p + 1 := ⟨k - 1, by omega⟩
    rw [h5]
    exact vC_ge (h4 h0))
  rw [← hk]
  refine ⟨h1, h2, fun j hj => ?_, h6⟩
  rw [(h3 j hj).1]
  unfold PX
  rw [h5, vC_dig hd hj]
/-! digits of a row -/
def eF (f : Nat → Int32) (y : Nat) : Nat := (f y).toNatClampNeg
def okD (f : Nat → Int32) (m : Nat) : Prop := ∀ y, y < m → f y = nI (eF f y) ∧ eF f y < C16
theorem C16_31 {v : Nat} (h : v < C16) : v < 65536 := h
theorem eF_s (f : Nat → Int32) (t : Nat) {v : Nat} (hv : v < C16) : eF (upd f t (nI v)) t = v := by
  have := C16_31 hv
  unfold eF
  rw [pk_us, nI_clamp (by omega)]
theorem eF_n {f : Nat → Int32} {t y : Nat} {x : Int32} (h : y ≠ t) : eF (upd f t x) y = eF f y := by
  unfold eF
  rw [pk_un h]
theorem vC_un {f : Nat → Int32} {t m : Nat} {x : Int32} (h : m ≤ t) : vC (eF (upd f t x)) m = vC (eF f) m := vC_congr (fun y hy => eF_n (by omega))
theorem okD_set {f : Nat → Int32} {m t v : Nat} (h : okD f m) (hv : v < C16) : okD (upd f t (nI v)) m := by
  intro y hy
  by_cases e : y = t
  · subst e
    rw [eF_s f y hv, pk_us]
    exact ⟨rfl, hv⟩
  · rw [eF_n e, pk_un e]
    exact h y hy
theorem okD_up {f : Nat → Int32} {t v : Nat} (h : okD f t) (hv : v < C16) : okD (upd f t (nI v)) (t + 1) := by
  intro y hy
  by_cases e : y = t
  · subst e
    rw [eF_s f y hv, pk_us]
    exact ⟨rfl, hv⟩
  · rw [eF_n e, pk_un e]
    exact h y (by omega)
theorem okD_le {f : Nat → Int32} {m k : Nat} (h : okD f m) (hk : k ≤ m) : okD f k := fun y hy => h y (by omega)
theorem vC_next {f : Nat → Int32} {t v : Nat} (hv : v < C16) : vC (eF (upd f t (nI v))) (t + 1) = vC (eF f) t + v * C16 ^ t := by
  show vC (eF (upd f t (nI v))) t + eF (upd f t (nI v)) t * C16 ^ t = _
  rw [vC_un (Nat.le_refl t), eF_s f t hv]
theorem vC_set {f : Nat → Int32} {t v : Nat} (hv : v < C16) : ∀ {m : Nat}, t < m → vC (eF (upd f t (nI v))) m + eF f t * C16 ^ t = vC (eF f) m + v * C16 ^ t
  | 0, h => absurd h (by omega)
  | m + 1, h => by
    by_cases e : t = m
    · subst e
      rw [vC_next hv]
      show _ = vC (eF f) t + eF f t * C16 ^ t + _
      omega
    · have := vC_set (f := f) (t := t) (v := v) hv (m := m) (by omega)
      show vC (eF (upd f t (nI v))) m + eF (upd f t (nI v)) m * C16 ^ m + _ = vC (eF f) m + eF f m * C16 ^ m + _
      rw [eF_n (show m ≠ t by omega)]
      omega
/-! a whole of the pool being written -/
def RLo (B : AH) (n : Nat) (d : RD) (h : AH) (M : Nat → Int) (T : Nat) (f : Nat → Int32) : Prop := ∃ σ, RW B n d h σ ∧ (σ T).1 = f ∧ ∀ i, i < 317 → i ≠ T → okX (σ i) (M i)
section Rl1
variable {B h : AH} {n : Nat} {d : RD} {M : Nat → Int} {i j k T : Nat} {f : Nat → Int32}
theorem RV.n_ (c : RV B n d h M) (hi : i < 317) : gI h (ar n i) 10 1 = some (nI (cs (M i).natAbs)) := by
  obtain ⟨σ, c, hσ⟩ := c
  rw [c.sz hi, (okX_at (hσ i hi)).1]
theorem RV.le100 (c : RV B n d h M) (hi : i < 317) : cs (M i).natAbs ≤ 100 := by
  obtain ⟨σ, c, hσ⟩ := c
  exact (okX_at (hσ i hi)).2.1
theorem RV.at (c : RV B n d h M) (hi : i < 317) (hk : k < cs (M i).natAbs) : aI h (ar n i + 1) 0 (nI k) = some (nI (PX (M i).natAbs k)) := by
  have := c.le100 hi
  obtain ⟨σ, c, hσ⟩ := c
  rw [c.at hi (by omega), (okX_at (hσ i hi)).2.2.1 k hk]
theorem RV.rw (c : RV B n d h M) (hi : i < 317) : gR h (ar n i) 10 2 = some (ar n i + 1) := by
  obtain ⟨σ, c, hσ⟩ := c
  exact c.rw hi
theorem RV.opn (c : RV B n d h M) (hT : T < 317) : ∃ f, RLo B n d h M T f ∧ ∀ y, y < cs (M T).natAbs → f y = nI (PX (M T).natAbs y) := by
  obtain ⟨σ, c, hσ⟩ := c
  exact ⟨(σ T).1, ⟨σ, c, rfl, fun i hi _ => hσ i hi⟩, (okX_at (hσ T hT)).2.2.1⟩
theorem RLo.n_ (c : RLo B n d h M T f) (hi : i < 317) (hiT : i ≠ T) : gI h (ar n i) 10 1 = some (nI (cs (M i).natAbs)) := by
  obtain ⟨σ, c, -, hσ⟩ := c
  rw [c.sz hi, (okX_at (hσ i hi hiT)).1]
theorem RLo.le100 (c : RLo B n d h M T f) (hi : i < 317) (hiT : i ≠ T) : cs (M i).natAbs ≤ 100 := by
  obtain ⟨σ, c, -, hσ⟩ := c
  exact (okX_at (hσ i hi hiT)).2.1
theorem RLo.at (c : RLo B n d h M T f) (hi : i < 317) (hiT : i ≠ T) (hk : k < cs (M i).natAbs) : aI h (ar n i + 1) 0 (nI k) = some (nI (PX (M i).natAbs k)) := by
  have := c.le100 hi hiT
  obtain ⟨σ, c, -, hσ⟩ := c
  rw [c.at hi (by omega), (okX_at (hσ i hi hiT)).2.2.1 k hk]
theorem RLo.rw (c : RLo B n d h M T f) (hi : i < 317) : gR h (ar n i) 10 2 = some (ar n i + 1) := by
  obtain ⟨σ, c, -, hσ⟩ := c
  exact c.rw hi
theorem RLo.ck (c : RLo B n d h M T f) (hi : i < 317) : chk h (ar n i) 10 = some () := by
  obtain ⟨σ, c, -, hσ⟩ := c
  exact c.ck hi
theorem RLo.sg (c : RLo B n d h M T f) (hi : i < 317) (hiT : i ≠ T) : gI h (ar n i) 10 0 = some (if M i < 0 then 1 else 0) := by
  obtain ⟨σ, c, -, hσ⟩ := c
  rw [c.sg hi, (okX_at (hσ i hi hiT)).2.2.2]
theorem RLo.get (c : RLo B n d h M T f) (hT : T < 317) (hk : k < 100) : aI h (ar n T + 1) 0 (nI k) = some (f k) := by
  obtain ⟨σ, c, rfl, hσ⟩ := c
  exact c.at hT hk
theorem RLo.put (c : RLo B n d h M T f) (hT : T < 317) (hk : k < 100) (x : Int32) : ∃ h', sI h (ar n T + 1) 0 (nI k) x = some h' ∧ RLo B n d h' M T (upd f k x) := by
  obtain ⟨σ, c, rfl, hσ⟩ := c
  obtain ⟨g, e1, c1⟩ := c.put hT hk x
  refine ⟨g, e1, _, c1, by rw [va_us], fun i hi hiT => ?_⟩
  rw [va_un hiT]
  exact hσ i hi hiT
theorem RLo.rm (c : RLo B n d h M T f) : chk h n 11 = some () ∧ gI h n 11 0 = some d.code ∧ gR h n 11 1 = some (n + 1) ∧ gI h n 11 2 = some d.top ∧ gR h n 11 3 = some (ar n 64) ∧ gR h n 11 4 = some (ar n 65) ∧ gR h n 11 7 = some (ar n 66) ∧ gR h n 11 8 = some (ar n 67) ∧ gR h n 11 9 = some (n + 10) ∧ gR h n 11 10 = some (n + 11) ∧ gR h n 11 11 = some (n + 12) ∧ gR h n 11 12 = some (n + 13) ∧ gI h n 11 13 = some d.tpd ∧ gR h n 11 14 = some (n + 14) ∧ gI h n 11 15 = some d.osz ∧ gR h n 11 16 = some (n + 15) ∧ gR h n 11 17 = some (n + 16) ∧ gR h n 11 18 = some (n + 17) ∧ gR h n 11 19 = some (n + 18) ∧ gR h n 11 20 = some (n + 19) ∧ gI h n 11 21 = some d.hd ∧ gI h n 11 22 = some d.rd := by
  obtain ⟨σ, c, -, hσ⟩ := c
  exact c.rm
theorem RLo.cls (c : RLo B n d h M T f) (hT : T < 317) {m : Nat} (hm : m ≤ 100) (hd : okD f m) {b : Int32} (hb : b = 0 ∨ b = 1) : ∃ h', zs_X10_of h (ar n T) b (nI m) = some (ar n T, h') ∧ RV B n d h' (va_up M T (sgv b (vC (eF f) m))) := by
  obtain ⟨σ, c, rfl, hσ⟩ := c
  obtain ⟨g, w, e1, c1, hw⟩ := c.of_ hT hm (e := eF (σ T).1) hd b hb
  refine ⟨g, e1, _, c1, fun y hy => ?_⟩
  by_cases e : y = T
  · subst e; rw [va_us, va_us]; exact hw
  · rw [va_un e, va_un e]; exact hσ y hy e
end Rl1
/-! comparing -/
theorem cmp_pp {x y : Int} (hx : ¬ x < 0) (hy : ¬ y < 0) : cmpI x.natAbs y.natAbs = cmpZ x y := by
  unfold cmpI cmpZ
  split
  · rw [if_pos (by omega)]
  · split
    · rw [if_neg (by omega), if_pos (by omega)]
    · rw [if_neg (by omega), if_neg (by omega)]
theorem cmp_nn {x y : Int} (hx : x < 0) (hy : y < 0) : -(cmpI x.natAbs y.natAbs) = cmpZ x y := by
  unfold cmpI cmpZ
  split
  · rw [if_neg (by omega), if_neg (by omega)]; rfl
  · split
    · rw [if_neg (by omega), if_pos (by omega)]; rfl
    · rw [if_pos (by omega)]
section Rl2
variable {B h : AH} {n : Nat} {d : RD} {M : Nat → Int} {i j k T : Nat} {f : Nat → Int32}
theorem RV.cmpS (c : RV B n d h M) (hi : i < 317) (hj : j < 317) : zs_X11_compareSizes h (ar n i) (ar n j) = some (cmpI (M i).natAbs (M j).natAbs) := by
  unfold zs_X11_compareSizes
  have la := c.le100 hi
  have lb := c.le100 hj
  simp only [c.n_ hi, c.n_ hj, Option.bind_some, lt_]
  by_cases hk : cs (M i).natAbs = cs (M j).natAbs
  · rw [if_pos (by rw [hk])]
    have ea := vC_PXs (v := (M i).natAbs) (Nat.le_refl (cs (M i).natAbs))
    have eb := vC_PXs (v := (M j).natAbs) (m := cs (M i).natAbs) (by omega)
    obtain ⟨r, hr, hz⟩ := iter_FU (B := fun x : Int32 => zb_X11_compareSizes_35 h (ar n i) (ar n j) x)
      (fun t s => s = nI (cs (M i).natAbs - t) - 1 ∧ ∀ y, cs (M i).natAbs - t ≤ y → y < cs (M i).natAbs → PX (M i).natAbs y = PX (M j).natAbs y)
      (fun r => match r with
        | .inl w => ∃ y, y < cs (M i).natAbs ∧ w = nI y ∧ PX (M i).natAbs y ≠ PX (M j).natAbs y ∧ ∀ z, y < z → z < cs (M i).natAbs → PX (M i).natAbs z = PX (M j).natAbs z
        | .inr _ => ∀ y, y < cs (M i).natAbs → PX (M i).natAbs y = PX (M j).natAbs y)
      (cs (M i).natAbs) (by omega) (s := nI (cs (M i).natAbs) - 1) ⟨rfl, fun y h1 h2 => by omega⟩ (by
      intro t s ht ⟨hs, heq⟩
      subst hs
      unfold zb_X11_compareSizes_35
      by_cases h0 : cs (M i).natAbs - t = 0
      · rw [h0, if_pos (by decide)]
        refine ⟨_, rfl, fun s' hs => by (cases hs), fun r hr => ?_⟩
        cases hr
        exact fun y hy => heq y (by omega) hy
      · obtain ⟨y, hy⟩ : ∃ y, cs (M i).natAbs - t = y + 1 := ⟨cs (M i).natAbs - t - 1, by omega⟩
        rw [hy] at heq ⊢
        rw [nI_pred y, if_neg (nI_pos (by omega)), c.rw hi, c.rw hj]
        simp only [Option.bind_some]
        rw [c.at hi (show y < cs (M i).natAbs by omega), c.at hj (show y < cs (M j).natAbs by omega)]
        simp only [Option.bind_some]
        have p1 := PX_31 (M i).natAbs y
        have p2 := PX_31 (M j).natAbs y
        by_cases he : PX (M i).natAbs y = PX (M j).natAbs y
        · rw [if_pos (by rw [he])]
          refine ⟨_, rfl, fun s' hs => ?_, fun r hr => by (cases hr)⟩
          obtain rfl := Sum.inl.inj hs
          refine ⟨by omega, ?_, fun x h1 h2 => ?_⟩
          · rw [show cs (M i).natAbs - (t + 1) = y by omega, Int32.sub_eq_add_neg]
          · by_cases hxj : x = y
            · rw [hxj]; exact he
            · exact heq x (by omega) h2
        · rw [if_neg (fun e => he ((nI_eq (by omega) (by omega)).mp e))]
          refine ⟨_, rfl, fun s' hs => by (cases hs), fun r hr => ?_⟩
          cases hr
          exact ⟨y, by omega, rfl, he, fun x h1 h2 => heq x (by omega) h2⟩)
    rw [hr]
    simp only [Option.bind_some]
    cases r with
    | inl w =>
      obtain ⟨y, hy, rfl, hne, hab⟩ := hz
      dsimp only
      simp only [c.rw hi, c.rw hj, Option.bind_some, c.at hi hy, c.at hj (show y < cs (M j).natAbs by omega)]
      have p1 := PX_31 (M i).natAbs y
      have p2 := PX_31 (M j).natAbs y
      by_cases hle : PX (M j).natAbs y ≤ PX (M i).natAbs y
      · rw [if_pos (nI_le hle (by omega))]
        have h1 := vC_cmp (d := PX (M j).natAbs) (e := PX (M i).natAbs) hy (fun z _ => PX_lt _ _) (fun z a1 a2 => (hab z a1 a2).symm) (by omega)
        rw [ea, eb] at h1
        rw [cmpI_gt h1]
      · rw [if_neg (nI_ge (by omega) (by omega))]
        have h1 := vC_cmp (d := PX (M i).natAbs) (e := PX (M j).natAbs) hy (fun z _ => PX_lt _ _) (fun z a1 a2 => hab z a1 a2) (by omega)
        rw [ea, eb] at h1
        rw [cmpI_lt h1]
    | inr w =>
      dsimp only
      have h1 := vC_congr (d := PX (M i).natAbs) (e := PX (M j).natAbs) (k := cs (M i).natAbs) hz
      rw [ea, eb] at h1
      rw [cmpI_eq h1]
  · rw [if_neg (fun e => hk ((nI_eq (by omega) (by omega)).mp e))]
    by_cases hlt : cs (M i).natAbs < cs (M j).natAbs
    · rw [if_neg (nI_ge hlt (by omega)), cmpI_lt (cs_mono hlt)]
    · rw [if_pos (nI_le (by omega) (by omega)), cmpI_gt (cs_mono (by omega))]
theorem RV.cmp (c : RV B n d h M) (hi : i < 317) (hj : j < 317) : zs_X11_compare h (ar n i) (ar n j) = some (cmpZ (M i) (M j)) := by
  unfold zs_X11_compare
  simp only [c.sg hi, c.sg hj, Option.bind_some, c.cmpS hi hj]
  by_cases ha : M i < 0
  · by_cases hb : M j < 0
    · simp only [if_pos ha, if_pos hb]
      rw [if_pos (by decide), if_neg (by decide), cmp_nn ha hb]
    · simp only [if_pos ha, if_neg hb]
      rw [if_neg (by decide), if_neg (by decide)]
      unfold cmpZ
      rw [if_pos (by omega)]
  · by_cases hb : M j < 0
    · simp only [if_neg ha, if_pos hb]
      rw [if_neg (by decide), if_pos (by decide)]
      unfold cmpZ
      rw [if_neg (by omega), if_neg (by omega)]
    · simp only [if_neg ha, if_neg hb]
      rw [if_pos (by decide), if_pos (by decide), cmp_pp ha hb]
end Rl2
