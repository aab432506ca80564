/-! the reference's sums -/
theorem nI_w (a : Nat) : nI (a + 4294967296) = nI a := by
  rw [← nI_add, show nI 4294967296 = 0 by decide, Int32.add_zero]
theorem sub_mask {a s : Nat} (h : s ≤ a + 4294967296) : (nI a - nI s) &&& (65535 : Int32) = nI ((a + 4294967296 - s) % 65536) := by
  rw [← nI_w a, pk_sub h, nx_mod]
theorem sub_nn {a s : Nat} (ha : a < 2 ^ 30) (hs : s < 2 ^ 30) : (0 : Int32) ≤ nI a - nI s ↔ s ≤ a := by
  rw [i32_le, pk_sub_toInt ha hs]
  show (0 : Int) ≤ _ ↔ _
  omega
theorem sgv_self (x : Int) : sgv (if x < 0 then 1 else 0) x.natAbs = x := by
  unfold sgv
  by_cases h : x < 0
  · rw [if_pos h, if_neg (by decide)]; omega
  · rw [if_neg h, if_pos rfl]; omega
theorem sg_01 (x : Int) : (if x < 0 then (1 : Int32) else 0) = 0 ∨ (if x < 0 then (1 : Int32) else 0) = 1 := by
  by_cases h : x < 0
  · rw [if_pos h]; exact Or.inr rfl
  · rw [if_neg h]; exact Or.inl rfl
section Rsm
variable {B h : AH} {n : Nat} {d : RD} {M : Nat → Int} {i j k T : Nat}
theorem RV.lessSize (c : RV B n d h M) (hT : d.top = nI T) (hl : T < 64) (hi : i < 317) (hj : j < 317) (hiT : i ≠ T) (hjT : j ≠ T) (hle : (M j).natAbs ≤ (M i).natAbs) {s : Int32} (hs : s = 0 ∨ s = 1) :
    ∃ h', zs_X11_lessSize h n (ar n i) (ar n j) s = some (ar n T, h') ∧ RV B n (d.tt (T + 1)) h' (va_up M T (sgv s ((M i).natAbs - (M j).natAbs : Nat))) := by
  unfold zs_X11_lessSize
  simp only [c.rm, Option.bind_some]
  obtain ⟨g1, e1, c1⟩ := c.take hT hl
  rw [e1]
  simp only [Option.bind_some]
  have hT' : T < 317 := by omega
  have la := c.le100 hi
  have lb := c.le100 hj
  have hab : cs (M j).natAbs ≤ cs (M i).natAbs := by
    rcases Nat.lt_or_ge (cs (M i).natAbs) (cs (M j).natAbs) with z | z
    · have := cs_mono z; omega
    · exact z
  have ea := vC_PXs (v := (M i).natAbs) (Nat.le_refl (cs (M i).natAbs))
  have eb := vC_PXs (v := (M j).natAbs) (m := cs (M i).natAbs) hab
  obtain ⟨f0, o1, -⟩ := c1.opn (T := T) hT'
  obtain ⟨r, hr, f, o2, hd, hv⟩ := iter_FU (B := fun q : AH × Int32 × Int32 => zb_X11_lessSize_12 (ar n i) (ar n j) s (ar n T) q.1 q.2.1 q.2.2)
    (fun t z => z.2.2 = nI t ∧ ∃ (f : Nat → Int32) (w : Nat), z.2.1 = nI w ∧ w ≤ 1 ∧ RLo B n (d.tt (T + 1)) z.1 M T f ∧ okD f t ∧ vC (eF f) t + vC (PX (M j).natAbs) t = vC (PX (M i).natAbs) t + w * C16 ^ t)
    (fun r => ∃ f, RLo B n (d.tt (T + 1)) r M T f ∧ okD f (cs (M i).natAbs) ∧ vC (eF f) (cs (M i).natAbs) = (M i).natAbs - (M j).natAbs)
    (cs (M i).natAbs) (by omega) (s := (g1, (0 : Int32), (0 : Int32))) ⟨rfl, f0, 0, rfl, by omega, o1, fun y hy => absurd hy (Nat.not_lt_zero y), by rw [Nat.zero_mul]; rfl⟩ (by
    rintro t ⟨g, w', t'⟩ ht ⟨h1, f, w, h2, hw, o, hd, hv⟩
    dsimp only at h1 h2 o ⊢
    subst h1
    subst h2
    unfold zb_X11_lessSize_12
    rw [o.n_ hi hiT]
    simp only [Option.bind_some]
    by_cases hlt : t < cs (M i).natAbs
    · rw [if_neg (nI_ge hlt (by omega)), o.rw hi]
      simp only [Option.bind_some]
      rw [o.at hi hiT hlt, o.n_ hj hjT]
      simp only [Option.bind_some]
      have pa := PX_31 (M i).natAbs t
      have pb := PX_31 (M j).natAbs t
      have key : ∃ q, zj_X11_lessSize_51 (ar n i) (ar n j) s (ar n T) g (nI t) (nI (PX (M j).natAbs t)) (nI (PX (M i).natAbs t) - nI w) = some q ∧ (∀ s', q = Sum.inl s' → t < cs (M i).natAbs ∧ s'.2.2 = nI (t + 1) ∧ ∃ (f : Nat → Int32) (w : Nat), s'.2.1 = nI w ∧ w ≤ 1 ∧ RLo B n (d.tt (T + 1)) s'.1 M T f ∧ okD f (t + 1) ∧ vC (eF f) (t + 1) + vC (PX (M j).natAbs) (t + 1) = vC (PX (M i).natAbs) (t + 1) + w * C16 ^ (t + 1)) ∧ ∀ r, q = Sum.inr r → ∃ f, RLo B n (d.tt (T + 1)) r M T f ∧ okD f (cs (M i).natAbs) ∧ vC (eF f) (cs (M i).natAbs) = (M i).natAbs - (M j).natAbs := by
        unfold zj_X11_lessSize_51
        simp only [lt_]
        rw [Int32.sub_sub, nI_add]
        have hv' : (PX (M i).natAbs t + 4294967296 - (w + PX (M j).natAbs t)) % 65536 < C16 := Nat.mod_lt _ (by decide)
        obtain ⟨g2, e2, o3⟩ := o.put hT' (show t < 100 by omega) (nI ((PX (M i).natAbs t + 4294967296 - (w + PX (M j).natAbs t)) % 65536))
        have fin : ∀ w2 : Nat, w2 ≤ 1 → (PX (M i).natAbs t + 4294967296 - (w + PX (M j).natAbs t)) % 65536 + (w + PX (M j).natAbs t) = PX (M i).natAbs t + w2 * 65536 → ∃ q, zj_X11_lessSize_64 (ar n i) (ar n j) s (ar n T) g (nI t) (nI (PX (M i).natAbs t) - nI (w + PX (M j).natAbs t)) (nI w2) = some q ∧ (∀ s', q = Sum.inl s' → t < cs (M i).natAbs ∧ s'.2.2 = nI (t + 1) ∧ ∃ (f : Nat → Int32) (w : Nat), s'.2.1 = nI w ∧ w ≤ 1 ∧ RLo B n (d.tt (T + 1)) s'.1 M T f ∧ okD f (t + 1) ∧ vC (eF f) (t + 1) + vC (PX (M j).natAbs) (t + 1) = vC (PX (M i).natAbs) (t + 1) + w * C16 ^ (t + 1)) ∧ ∀ r, q = Sum.inr r → ∃ f, RLo B n (d.tt (T + 1)) r M T f ∧ okD f (cs (M i).natAbs) ∧ vC (eF f) (cs (M i).natAbs) = (M i).natAbs - (M j).natAbs := by
          intro w2 hw2 hq
          unfold zj_X11_lessSize_64
          rw [o.rw hT']
          simp only [Option.bind_some]
          rw [sub_mask (by omega), e2]
          simp only [Option.bind_some]
          refine ⟨_, rfl, fun s' hs' => ?_, fun r hr => by (cases hr)⟩
          obtain rfl := Sum.inl.inj hs'
          refine ⟨hlt, nI_1 t, _, w2, rfl, hw2, o3, okD_up hd hv', ?_⟩
          rw [vC_next hv', C16_s]
          show _ + (vC (PX (M j).natAbs) t + PX (M j).natAbs t * C16 ^ t) = vC (PX (M i).natAbs) t + PX (M i).natAbs t * C16 ^ t + _
          have hm := congrArg (· * C16 ^ t) hq
          simp only [Nat.add_mul] at hm
          rw [Nat.mul_assoc] at hm
          omega
        by_cases hc : w + PX (M j).natAbs t ≤ PX (M i).natAbs t
        · rw [if_pos ((sub_nn (by omega) (by omega)).mpr hc)]
          exact fin 0 (by omega) (by omega)
        · rw [if_neg (fun z => hc ((sub_nn (by omega) (by omega)).mp z))]
          exact fin 1 (by omega) (by omega)
      by_cases hb : t < cs (M j).natAbs
      · rw [if_neg (nI_ge hb (by omega)), o.rw hj]
        simp only [Option.bind_some]
        rw [o.at hj hjT hb]
        simp only [Option.bind_some]
        exact key
      · rw [if_pos (nI_le (by omega) (by omega))]
        have h0 : (0 : Int32) = nI (PX (M j).natAbs t) := by rw [PX_hi (by omega)]; rfl
        rw [h0]
        exact key
    · have htm : t = cs (M i).natAbs := by omega
      rw [if_pos (nI_le (by omega) (by omega))]
      refine ⟨_, rfl, fun s' hs => by (cases hs), fun r hr => ?_⟩
      obtain rfl := Sum.inr.inj hr
      rw [htm] at hd hv
      rw [ea, eb] at hv
      refine ⟨f, o, hd, ?_⟩
      have hlt2 := vC_lt (d := eF f) (k := cs (M i).natAbs) (fun y hy => (hd y hy).2)
      have ha2 := cs_lt (M i).natAbs
      rcases (show w = 0 ∨ w = 1 by omega) with rfl | rfl
      · omega
      · omega)
  rw [hr]
  simp only [Option.bind_some]
  rw [o2.n_ hi hiT, o2.ck hT']
  simp only [Option.bind_some]
  obtain ⟨g3, e3, c3⟩ := o2.cls hT' la hd hs
  rw [hv] at c3
  rw [e3]
  exact ⟨g3, rfl, c3⟩
theorem RV.sum3 (c : RV B n d h M) (hT : d.top = nI T) (hl : T < 64) (hi : i < 317) (hj : j < 317) (hiT : i ≠ T) (hjT : j ≠ T) (xa : (M i).natAbs < C16 ^ 99) (xb : (M j).natAbs < C16 ^ 99) {s : Int32} (hs : s = 0 ∨ s = 1) :
    ∃ h', zs_X11_sum h n (ar n i) (ar n j) s = some (ar n T, h') ∧ RV B n (d.tt (T + 1)) h' (va_up M T (M i + sgv s (M j).natAbs)) := by
  unfold zs_X11_sum
  rw [c.sg hi]
  simp only [Option.bind_some]
  have hsa := sg_01 (M i)
  have esa := sgv_self (M i)
  by_cases heq : (if M i < 0 then (1 : Int32) else 0) = s
  · rw [if_pos heq]
    have la := cs_le xa
    have lb := cs_le xb
    simp only [c.n_ hi, c.n_ hj, Option.bind_some, lt_]
    obtain ⟨m, hm⟩ : ∃ m, m = if cs (M i).natAbs < cs (M j).natAbs then cs (M j).natAbs else cs (M i).natAbs := ⟨_, rfl⟩
    have hma : cs (M i).natAbs ≤ m := by rw [hm]; split <;> omega
    have hmb : cs (M j).natAbs ≤ m := by rw [hm]; split <;> omega
    have hm99 : m ≤ 99 := by rw [hm]; split <;> omega
    have em : (if nI (cs (M i).natAbs) < nI (cs (M j).natAbs) then nI (cs (M j).natAbs) else nI (cs (M i).natAbs)) = nI m := by
      rw [hm]
      by_cases hlt : cs (M i).natAbs < cs (M j).natAbs
      · rw [if_pos (nI_lt hlt (by omega)), if_pos hlt]
      · rw [if_neg (nI_nlt (by omega) (by omega)), if_neg hlt]
    rw [em, nI_1]
    simp only [c.rm, Option.bind_some]
    obtain ⟨g1, e1, c1⟩ := c.take hT hl
    rw [e1]
    simp only [Option.bind_some]
    have hT' : T < 317 := by omega
    have ea := vC_PXs (v := (M i).natAbs) (m := m + 1) (by omega)
    have eb := vC_PXs (v := (M j).natAbs) (m := m + 1) (by omega)
    obtain ⟨f0, o1, -⟩ := c1.opn (T := T) hT'
    obtain ⟨r, hr, f, o2, hd, hv⟩ := iter_FU (B := fun q : AH × Int32 × Int32 => zb_X11_sum_64 (ar n i) (ar n j) (nI (m + 1)) (ar n T) q.1 q.2.1 q.2.2)
      (fun t z => z.2.2 = nI t ∧ ∃ (f : Nat → Int32) (w : Nat), z.2.1 = nI w ∧ w ≤ 1 ∧ RLo B n (d.tt (T + 1)) z.1 M T f ∧ okD f t ∧ vC (eF f) t + w * C16 ^ t = vC (PX (M i).natAbs) t + vC (PX (M j).natAbs) t)
      (fun r => ∃ f, RLo B n (d.tt (T + 1)) r M T f ∧ okD f (m + 1) ∧ vC (eF f) (m + 1) = (M i).natAbs + (M j).natAbs)
      (m + 1) (by omega) (s := (g1, (0 : Int32), (0 : Int32))) ⟨rfl, f0, 0, rfl, by omega, o1, fun y hy => absurd hy (Nat.not_lt_zero y), by rw [Nat.zero_mul]; rfl⟩ (by
      rintro t ⟨g, w', t'⟩ ht ⟨h1, f, w, h2, hw, o, hd, hv⟩
      dsimp only at h1 h2 o ⊢
      subst h1
      subst h2
      unfold zb_X11_sum_64
      by_cases hlt : t < m + 1
      · rw [if_neg (nI_ge hlt (by omega)), o.n_ hi hiT]
        simp only [Option.bind_some]
        have pa := PX_31 (M i).natAbs t
        have pb := PX_31 (M j).natAbs t
        have key : ∃ q, zj_X11_sum_93 (ar n i) (ar n j) (nI (m + 1)) (ar n T) g (nI t) (nI (PX (M i).natAbs t)) (nI w) = some q ∧ (∀ s', q = Sum.inl s' → t < m + 1 ∧ s'.2.2 = nI (t + 1) ∧ ∃ (f : Nat → Int32) (w : Nat), s'.2.1 = nI w ∧ w ≤ 1 ∧ RLo B n (d.tt (T + 1)) s'.1 M T f ∧ okD f (t + 1) ∧ vC (eF f) (t + 1) + w * C16 ^ (t + 1) = vC (PX (M i).natAbs) (t + 1) + vC (PX (M j).natAbs) (t + 1)) ∧ ∀ r, q = Sum.inr r → ∃ f, RLo B n (d.tt (T + 1)) r M T f ∧ okD f (m + 1) ∧ vC (eF f) (m + 1) = (M i).natAbs + (M j).natAbs := by
          have fin : ∃ q, zj_X11_sum_114 (ar n i) (ar n j) (nI (m + 1)) (ar n T) g (nI t) (nI (PX (M j).natAbs t)) (nI w + nI (PX (M i).natAbs t)) = some q ∧ (∀ s', q = Sum.inl s' → t < m + 1 ∧ s'.2.2 = nI (t + 1) ∧ ∃ (f : Nat → Int32) (w : Nat), s'.2.1 = nI w ∧ w ≤ 1 ∧ RLo B n (d.tt (T + 1)) s'.1 M T f ∧ okD f (t + 1) ∧ vC (eF f) (t + 1) + w * C16 ^ (t + 1) = vC (PX (M i).natAbs) (t + 1) + vC (PX (M j).natAbs) (t + 1)) ∧ ∀ r, q = Sum.inr r → ∃ f, RLo B n (d.tt (T + 1)) r M T f ∧ okD f (m + 1) ∧ vC (eF f) (m + 1) = (M i).natAbs + (M j).natAbs := by
            unfold zj_X11_sum_114
            simp only [lt_]
            rw [o.rw hT', nI_add, nI_add, nx_mod, pk_shrN (by omega) _ 16 (by decide)]
            simp only [Option.bind_some]
            have hv' : (w + PX (M i).natAbs t + PX (M j).natAbs t) % 65536 < C16 := Nat.mod_lt _ (by decide)
            obtain ⟨g2, e2, o3⟩ := o.put hT' (show t < 100 by omega) (nI ((w + PX (M i).natAbs t + PX (M j).natAbs t) % 65536))
            rw [e2]
            simp only [Option.bind_some]
            refine ⟨_, rfl, fun s' hs' => ?_, fun r hr => by (cases hr)⟩
            obtain rfl := Sum.inl.inj hs'
            refine ⟨hlt, nI_1 t, _, _, rfl, ?_, o3, okD_up hd hv', ?_⟩
            · show (w + PX (M i).natAbs t + PX (M j).natAbs t) / 65536 ≤ 1
              omega
            · rw [vC_next hv', C16_s]
              show _ + (w + PX (M i).natAbs t + PX (M j).natAbs t) / 65536 * (65536 * C16 ^ t) = vC (PX (M i).natAbs) t + PX (M i).natAbs t * C16 ^ t + (vC (PX (M j).natAbs) t + PX (M j).natAbs t * C16 ^ t)
              have hq : (w + PX (M i).natAbs t + PX (M j).natAbs t) % 65536 + (w + PX (M i).natAbs t + PX (M j).natAbs t) / 65536 * 65536 = w + PX (M i).natAbs t + PX (M j).natAbs t := by omega
              have hm := congrArg (· * C16 ^ t) hq
              simp only [Nat.add_mul] at hm
              rw [Nat.mul_assoc] at hm
              omega
          unfold zj_X11_sum_93
          rw [o.n_ hj hjT]
          simp only [Option.bind_some]
          by_cases hb : t < cs (M j).natAbs
          · rw [if_neg (nI_ge hb (by omega)), o.rw hj]
            simp only [Option.bind_some]
            rw [o.at hj hjT hb]
            simp only [Option.bind_some]
            exact fin
          · rw [if_pos (nI_le (by omega) (by omega))]
            have h0 : (0 : Int32) = nI (PX (M j).natAbs t) := by rw [PX_hi (by omega)]; rfl
            rw [h0]
            exact fin
        by_cases hb : t < cs (M i).natAbs
        · rw [if_neg (nI_ge hb (by omega)), o.rw hi]
          simp only [Option.bind_some]
          rw [o.at hi hiT hb]
          simp only [Option.bind_some]
          exact key
        · rw [if_pos (nI_le (by omega) (by omega))]
          have h0 : (0 : Int32) = nI (PX (M i).natAbs t) := by rw [PX_hi (by omega)]; rfl
          rw [h0]
          exact key
      · have htm : t = m + 1 := by omega
        rw [if_pos (nI_le (by omega) (by omega))]
        refine ⟨_, rfl, fun s' hs => by (cases hs), fun r hr => ?_⟩
        obtain rfl := Sum.inr.inj hr
        rw [htm] at hd hv
        rw [ea, eb] at hv
        refine ⟨f, o, hd, ?_⟩
        have ha2 := cs_lt (M i).natAbs
        have hb2 := cs_lt (M j).natAbs
        have ha3 : C16 ^ cs (M i).natAbs ≤ C16 ^ m := Nat.pow_le_pow_right (by decide) hma
        have hb3 : C16 ^ cs (M j).natAbs ≤ C16 ^ m := Nat.pow_le_pow_right (by decide) hmb
        have hs3 := C16_s m
        rcases (show w = 0 ∨ w = 1 by omega) with rfl | rfl
        · omega
        · omega)
    rw [hr]
    simp only [Option.bind_some]
    rw [o2.sg hi hiT, o2.ck hT']
    simp only [Option.bind_some]
    obtain ⟨g3, e3, c3⟩ := o2.cls hT' (by omega) hd hsa
    rw [hv] at c3
    rw [e3]
    refine ⟨g3, rfl, ?_⟩
    have hval : sgv (if M i < 0 then 1 else 0) ((M i).natAbs + (M j).natAbs) = M i + sgv s (M j).natAbs := by
      have := sgv_add (s := if M i < 0 then 1 else 0) (x := (M i).natAbs) (y := (M j).natAbs) rfl
      rw [esa] at this
      rw [heq] at this ⊢
      exact this
    rw [hval] at c3
    exact c3
  · rw [if_neg heq, c.cmpS hi hj]
    simp only [Option.bind_some]
    by_cases hlt : (M i).natAbs < (M j).natAbs
    · rw [cmpI_lt hlt, if_pos (by decide)]
      simp only [c.rm, Option.bind_some]
      obtain ⟨g1, e1, c1⟩ := c.lessSize hT hl hj hi hjT hiT (by omega) hs
      rw [e1]
      refine ⟨g1, rfl, ?_⟩
      have := sgv_sub1 (s := if M i < 0 then 1 else 0) (t := s) hsa hs heq (x := (M i).natAbs) (y := (M j).natAbs) (by omega) rfl
      rw [esa] at this
      rw [← this]
      exact c1
    · rw [if_neg (cmpI_nlt (by omega))]
      simp only [c.rm, Option.bind_some]
      obtain ⟨g1, e1, c1⟩ := c.lessSize hT hl hi hj hiT hjT (by omega) hsa
      rw [e1]
      refine ⟨g1, rfl, ?_⟩
      have := sgv_sub2 (s := if M i < 0 then 1 else 0) (t := s) hsa hs heq (x := (M i).natAbs) (y := (M j).natAbs) (by omega) rfl
      rw [esa] at this
      rw [← this]
      exact c1
theorem RV.sum (c : RV B n d h M) (hT : d.top = nI T) (hl : T < 64) (hi : i < 317) (hj : j < 317) (hiT : i ≠ T) (hjT : j ≠ T) (xa : (M i).natAbs < C16 ^ 99) (xb : (M j).natAbs < C16 ^ 99) :
    ∃ h', zs_X11_sum_ h n (ar n i) (ar n j) = some (ar n T, h') ∧ RV B n (d.tt (T + 1)) h' (va_up M T (M i + M j)) := by
  unfold zs_X11_sum_
  simp only [c.ck hj, c.isZero hj, Option.bind_some]
  by_cases hb : M j = 0
  · rw [if_pos hb, if_neg (by decide)]
    simp only [c.rm, Option.bind_some]
    obtain ⟨g1, e1, c1⟩ := c.copy hT hl hi
    rw [e1]
    refine ⟨g1, rfl, ?_⟩
    rw [hb, Int.add_zero]
    exact c1
  · rw [if_neg hb, if_pos (by decide)]
    simp only [c.ck hi, c.isZero hi, Option.bind_some]
    by_cases ha : M i = 0
    · rw [if_pos ha, if_neg (by decide)]
      simp only [c.rm, Option.bind_some]
      obtain ⟨g1, e1, c1⟩ := c.copy hT hl hj
      rw [e1]
      refine ⟨g1, rfl, ?_⟩
      rw [ha, Int.zero_add]
      exact c1
    · rw [if_neg ha, if_pos (by decide), c.sg hj]
      simp only [c.rm, Option.bind_some]
      obtain ⟨g1, e1, c1⟩ := c.sum3 hT hl hi hj hiT hjT xa xb (sg_01 (M j))
      rw [sgv_self] at c1
      rw [e1]
      exact ⟨g1, rfl, c1⟩
theorem RV.less (c : RV B n d h M) (hT : d.top = nI T) (hl : T < 64) (hi : i < 317) (hj : j < 317) (hiT : i ≠ T) (hjT : j ≠ T) (xa : (M i).natAbs < C16 ^ 99) (xb : (M j).natAbs < C16 ^ 99) :
    ∃ h', zs_X11_less h n (ar n i) (ar n j) = some (ar n T, h') ∧ RV B n (d.tt (T + 1)) h' (va_up M T (M i - M j)) := by
  unfold zs_X11_less
  simp only [c.ck hj, c.isZero hj, Option.bind_some]
  by_cases hb : M j = 0
  · rw [if_pos hb, if_neg (by decide)]
    simp only [c.rm, Option.bind_some]
    obtain ⟨g1, e1, c1⟩ := c.copy hT hl hi
    rw [e1]
    refine ⟨g1, rfl, ?_⟩
    rw [hb, Int.sub_zero]
    exact c1
  · rw [if_neg hb, if_pos (by decide)]
    simp only [c.ck hi, c.isZero hi, Option.bind_some]
    by_cases ha : M i = 0
    · rw [if_pos ha, if_neg (by decide)]
      simp only [c.rm, Option.bind_some]
      obtain ⟨g1, e1, c1⟩ := c.negative hT hl hj hjT
      rw [e1]
      refine ⟨g1, rfl, ?_⟩
      rw [ha, Int.zero_sub]
      exact c1
    · rw [if_neg ha, if_pos (by decide), c.sg hj]
      simp only [Option.bind_some]
      have key : ∀ s : Int32, (s = 0 ∨ s = 1) → sgv s (M j).natAbs = -(M j) → ∃ h', zj_X11_less_45 h s (ar n j) (ar n i) n = some (ar n T, h') ∧ RV B n (d.tt (T + 1)) h' (va_up M T (M i - M j)) := by
        intro s hs hv
        unfold zj_X11_less_45
        simp only [c.rm, Option.bind_some]
        obtain ⟨g1, e1, c1⟩ := c.sum3 hT hl hi hj hiT hjT xa xb hs
        rw [hv, ← Int.sub_eq_add_neg] at c1
        rw [e1]
        exact ⟨g1, rfl, c1⟩
      by_cases hn : M j < 0
      · rw [if_pos hn, if_neg (by decide)]
        exact key 0 (Or.inl rfl) (by show (((M j).natAbs : Nat) : Int) = _; omega)
      · rw [if_neg hn, if_pos (by decide)]
        exact key 1 (Or.inr rfl) (by show -(((M j).natAbs : Nat) : Int) = _; omega)
end Rsm
