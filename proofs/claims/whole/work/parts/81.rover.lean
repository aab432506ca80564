/-! the reference's division, its three ways, its common divisor -/
theorem PX_div (A p : Nat) : A / C16 ^ p = PX A p + C16 * (A / C16 ^ (p + 1)) := by
  unfold PX
  have h1 := Nat.div_add_mod (A / C16 ^ p) C16
  rw [Nat.pow_succ, ← Nat.div_div_eq_div_mul]
  omega
section Rov
variable {B h : AH} {n : Nat} {d : RD} {M : Nat → Int} {i j k Q R T T' : Nat} {f g : Nat → Int32}
theorem RV.mR (c : RV B n d h M) {k v : Nat} (hf : (rmain n d)[k]? = some (.ref v)) : gR h n 11 k = some v := by
  obtain ⟨σ, c, -⟩ := c
  exact c.mR hf
theorem RV.qr (c : RV B n (d.dz n Q R T') h M) : gR h n 11 5 = some (ar n Q) ∧ gR h n 11 6 = some (ar n R) := ⟨c.mR rfl, c.mR rfl⟩
theorem RLo.shortLoop (o : RLo B n d h M T f) (hT : T < 317) (hi : i < 317) (hj : j < 317) (iT : i ≠ T) (jT : j ≠ T) (hN : cs (M j).natAbs = 1) (w0 : Nat) :
    ∃ (r : AH) (f' : Nat → Int32), iter (fun q : AH × Int64 × Int32 => zb_X11_divide_56 w0 (ar n i) (ar n j) (ar n T) q.1 q.2.1 q.2.2) FU (h, (0 : Int64), nI (cs (M i).natAbs) - (1 : Int32)) = some (r, lN ((M i).natAbs % (M j).natAbs)) ∧ RLo B n d r M T f' ∧ okD f' (cs (M i).natAbs) ∧ vC (eF f') (cs (M i).natAbs) = (M i).natAbs / (M j).natAbs := by
  obtain ⟨A, hA⟩ : ∃ A, A = (M i).natAbs := ⟨_, rfl⟩
  obtain ⟨D, hD⟩ : ∃ D, D = (M j).natAbs := ⟨_, rfl⟩
  rw [← hA, ← hD]
  rw [← hD] at hN
  have l100 := o.le100 hi iT
  rw [← hA] at l100
  have hDlt : D < 65536 := by
    have := cs_lt D
    rw [hN, Nat.pow_one] at this
    exact this
  have hD0 : 0 < D := by
    rcases Nat.eq_zero_or_pos D with e | e
    · rw [e, cs_0] at hN; omega
    · exact e
  have hP0 : PX D 0 = D := by
    unfold PX
    rw [Nat.pow_zero, Nat.div_one]
    exact Nat.mod_eq_of_lt hDlt
  have hnz : nzl (lN D) = some () := by
    unfold nzl
    rw [if_neg (show ¬ lN D = (0 : Int64) from fun e => by
      have := (pk_lEQ (a := D) (b := 0) (by omega) (by decide)).mp e
      omega)]
  have hAlt := cs_lt A
  obtain ⟨ka, hka⟩ : ∃ ka, ka = cs A := ⟨_, rfl⟩
  rw [← hka] at hAlt l100 ⊢
  obtain ⟨r, hr, f', l, hl, hlD, o', df, hv⟩ := iter_FU (B := fun q : AH × Int64 × Int32 => zb_X11_divide_56 w0 (ar n i) (ar n j) (ar n T) q.1 q.2.1 q.2.2)
    (fun t s => s.2.2 = nI (ka - t) - 1 ∧ ∃ (f' : Nat → Int32) (l : Nat), s.2.1 = lN l ∧ l < D ∧ RLo B n d s.1 M T f' ∧ (∀ y, ka - t ≤ y → y < ka → f' y = nI (eF f' y) ∧ eF f' y < C16) ∧ vHC (eF f') (ka - t) ka * D + l = A / C16 ^ (ka - t))
    (fun r => ∃ (f' : Nat → Int32) (l : Nat), r.2 = lN l ∧ l < D ∧ RLo B n d r.1 M T f' ∧ okD f' ka ∧ vC (eF f') ka * D + l = A)
    ka (by omega) (s := (h, (0 : Int64), nI ka - (1 : Int32))) ⟨rfl, f, 0, rfl, hD0, o, fun y h1 h2 => by omega, by rw [Nat.sub_zero, vHC_k, Nat.zero_mul, Nat.div_eq_of_lt hAlt]⟩ (by
    rintro t ⟨s, l', iv⟩ ht ⟨hiv, F, l, hl, hlD, os, df, hv⟩
    dsimp only at hiv hl os ⊢
    subst hiv
    subst hl
    unfold zb_X11_divide_56
    by_cases h9 : ka - t = 0
    · rw [h9] at df hv ⊢
      rw [if_pos (by decide)]
      refine ⟨_, rfl, fun s' hs => by (cases hs), fun r hr => ?_⟩
      obtain rfl := Sum.inr.inj hr
      rw [vHC_0, Nat.pow_zero, Nat.div_one] at hv
      exact ⟨F, l, rfl, hlD, os, fun y hy => df y (by omega) hy, hv⟩
    · obtain ⟨p, hp⟩ : ∃ p, ka - t = p + 1 := ⟨ka - t - 1, by omega⟩
      rw [hp] at df hv ⊢
      have pb := PX_31 A p
      rw [nI_pred p, if_neg (nI_pos (by omega)), os.rw hi, os.rw hj, os.rw hT]
      simp only [Option.bind_some, lt_]
      have h00 : aI s (ar n j + 1) 0 (0 : Int32) = some (nI D) := by
        have := os.at hj jT (k := 0) (by rw [← hD]; omega)
        rw [← hD, hP0] at this
        exact this
      rw [os.at hi iT (by rw [← hA]; omega), h00, ← hA]
      simp only [Option.bind_some]
      rw [nI_l (by omega), nI_l (by omega), hnz, lcat (by omega) pb]
      simp only [Option.bind_some]
      have hs16 : (l * 65536 + PX A p) / D < C16 := step_lt hlD pb
      rw [pk_lDiv (by omega) hD0 (by omega), lN_i]
      obtain ⟨g2, e2, o3⟩ := os.put hT (show p < 100 by omega) (nI ((l * 65536 + PX A p) / D))
      rw [e2]
      simp only [Option.bind_some]
      have h01 : aI g2 (ar n j + 1) 0 (0 : Int32) = some (nI D) := by
        have := o3.at hj jT (k := 0) (by rw [← hD]; omega)
        rw [← hD, hP0] at this
        exact this
      rw [o3.rw hj]
      simp only [Option.bind_some]
      rw [h01]
      simp only [Option.bind_some]
      rw [nI_l (by omega), hnz]
      simp only [Option.bind_some]
      have hrm := pk_lRem (a := l * 65536 + PX A p) (b := D) (by omega) hD0 (by omega)
      rw [pk_lDiv (by omega) hD0 (by omega)] at hrm ⊢
      rw [hrm]
      refine ⟨_, rfl, fun s' hs => ?_, fun r hr => by (cases hr)⟩
      obtain rfl := Sum.inl.inj hs
      have ej : ka - (t + 1) = p := by omega
      dsimp only
      rw [ej]
      refine ⟨by omega, by rw [Int32.sub_eq_add_neg], _, (l * 65536 + PX A p) % D, rfl, Nat.mod_lt _ hD0, o3, fun y h1 h2 => ?_, ?_⟩
      · by_cases e : y = p
        · subst e
          rw [eF_s F y hs16, pk_us]
          exact ⟨rfl, hs16⟩
        · rw [eF_n e, pk_un e]
          exact df y (by omega) h2
      · rw [vHC_s _ (show p < ka by omega), eF_s F p hs16]
        have e5 : vHC (eF (upd F p (nI ((l * 65536 + PX A p) / D)))) (p + 1) ka = vHC (eF F) (p + 1) ka := vHC_congr (fun y h1 h2 => eF_n (by omega))
        rw [e5, PX_div A p]
        exact step_div (B := C16) (p := PX A p) hv)
  obtain ⟨r1, r2⟩ := r
  dsimp only at hl o'
  subst hl
  have hq : A = l + D * vC (eF f') ka := by rw [Nat.mul_comm]; omega
  have h1 : A / D = vC (eF f') ka := by rw [hq, Nat.add_mul_div_left _ _ hD0, Nat.div_eq_of_lt hlD, Nat.zero_add]
  have h2 : A % D = l := by rw [hq, Nat.add_mul_mod_self_left, Nat.mod_eq_of_lt hlD]
  rw [h1, h2]
  exact ⟨r1, f', hr, o', df, rfl⟩
theorem RV.divide (c : RV B n d h M) (hT : d.top = nI T) (hl : T + 4 ≤ 64) (hi : i < 317) (hj : j < 317) (iT : i < T ∨ 64 ≤ i) (jT : j < T ∨ 64 ≤ j) (hb : M j ≠ 0) (xa : (M i).natAbs < C16 ^ 97) (hz : M 64 = 0) :
    ∃ h' M' Q R T', zs_X11_divide h n (ar n i) (ar n j) = some h' ∧ RV B n (d.dz n Q R T') h' M' ∧ (T ≤ Q ∧ Q < T') ∧ (T ≤ R ∧ R < T') ∧ Q ≠ R ∧ T' ≤ T + 4 ∧ M' Q = (((M i).natAbs / (M j).natAbs : Nat) : Int) ∧ M' R = (((M i).natAbs % (M j).natAbs : Nat) : Int) ∧ ∀ x, (x < T ∨ 64 ≤ x) → M' x = M x := by
  unfold zs_X11_divide
  rw [c.cmpS hi hj]
  simp only [Option.bind_some]
  by_cases hlt : (M i).natAbs < (M j).natAbs
  · rw [cmpI_lt hlt, if_neg (by decide)]
    simp only [c.rm, Option.bind_some]
    obtain ⟨g1, e1, c1⟩ := c.copy hT (by omega) (show 64 < 317 by decide)
    rw [hz] at c1
    rw [e1]
    simp only [Option.bind_some]
    obtain ⟨g2, e2, c2⟩ := c1.main (k := 5) (v := .ref (ar n T)) (d' := (d.tt (T + 1)).set2 (.ref (ar n T)) d.rst) (by decide) rfl rfl
    rw [e2]
    simp only [c2.rm, Option.bind_some]
    obtain ⟨g3, e3, c3⟩ := c2.sized (T := T + 1) rfl (by omega) hi
    rw [va_un (show i ≠ T by omega)] at c3
    rw [e3]
    simp only [Option.bind_some]
    obtain ⟨g4, e4, c4⟩ := c3.main (k := 6) (v := .ref (ar n (T + 1))) (d' := d.dz n T (T + 1) (T + 2)) (by decide) rfl rfl
    rw [e4]
    refine ⟨g4, _, T, T + 1, T + 2, rfl, c4, by omega, by omega, by omega, by omega, ?_, ?_, fun x hx => ?_⟩
    · rw [va_un (by omega), va_us, Nat.div_eq_of_lt hlt]
      rfl
    · rw [va_us, Nat.mod_eq_of_lt hlt]
    · rw [va_un (by omega), va_un (by omega)]
  · have hge : 0 ≤ cmpI (M i).natAbs (M j).natAbs := by
      unfold cmpI
      rw [if_neg hlt]
      split <;> decide
    rw [if_pos hge, c.n_ hj]
    simp only [Option.bind_some]
    have lb := c.le100 hj
    by_cases h1 : cs (M j).natAbs = 1
    · rw [if_pos (by rw [h1]; rfl)]
      simp only [c.rm, Option.bind_some]
      obtain ⟨g1, e1, c1⟩ := c.take hT (by omega)
      rw [e1]
      simp only [Option.bind_some, c1.n_ hi, lt_]
      obtain ⟨f0, o1, -⟩ := c1.opn (T := T) (by omega)
      obtain ⟨r, f1, er, o2, df, hv⟩ := o1.shortLoop (by omega) hi hj (by omega) (by omega) h1 n
      rw [er]
      have la := o2.le100 hi (by omega)
      simp only [Option.bind_some, o2.n_ hi (show i ≠ T by omega), o2.ck (show T < 317 by omega)]
      obtain ⟨g3, e3, c3⟩ := o2.cls (by omega) la df (b := 0) (Or.inl rfl)
      rw [hv] at c3
      rw [e3]
      simp only [Option.bind_some]
      obtain ⟨g4, e4, c4⟩ := c3.main (k := 5) (v := .ref (ar n T)) (d' := (d.tt (T + 1)).set2 (.ref (ar n T)) d.rst) (by decide) rfl rfl
      rw [e4]
      simp only [c4.rm, Option.bind_some]
      obtain ⟨g5, e5, c5⟩ := c4.ofL (T := T + 1) rfl (by omega) (lN ((M i).natAbs % (M j).natAbs))
      have hml : (M i).natAbs % (M j).natAbs < 65536 := by
        have h2 := cs_lt (M j).natAbs
        rw [h1, Nat.pow_one] at h2
        have h3 := Nat.mod_lt (M i).natAbs (show 0 < (M j).natAbs by omega)
        have h4 : C16 = 65536 := rfl
        omega
      rw [pf_lI (by omega)] at c5
      rw [e5]
      simp only [Option.bind_some]
      obtain ⟨g6, e6, c6⟩ := c5.main (k := 6) (v := .ref (ar n (T + 1))) (d' := d.dz n T (T + 1) (T + 2)) (by decide) rfl rfl
      rw [e6]
      refine ⟨g6, _, T, T + 1, T + 2, rfl, c6, by omega, by omega, by omega, by omega, ?_, ?_, fun x hx => ?_⟩
      · rw [va_un (by omega), va_us]
        rfl
      · rw [va_us]
      · rw [va_un (by omega), va_un (by omega)]
    · rw [if_neg (show ¬ nI (cs (M j).natAbs) = (1 : Int32) from fun e => h1 ((nI_eq (b := 1) (by omega) (by decide)).mp e))]
      simp only [c.rm, Option.bind_some]
      have h0 : cs (M j).natAbs ≠ 0 := fun e => hb (by have := cs_z.mp e; omega)
      obtain ⟨g1, M', e1, c1, q1, q2, q3⟩ := c.divideLong hT hl hi hj iT jT (k := cs (M j).natAbs - 2) (by omega) (by omega) xa
      rw [e1]
      exact ⟨g1, M', T + 2, T + 3, T + 4, rfl, c1, by omega, by omega, by omega, by omega, q1, q2, q3⟩
end Rov
/-! the three ways -/
theorem qt_rt {x y : Int} : x - y * qt x y = rt x y := by
  have h := Nat.div_add_mod x.natAbs y.natAbs
  have h2 : ((y.natAbs * (x.natAbs / y.natAbs) + x.natAbs % y.natAbs : Nat) : Int) = (x.natAbs : Nat) := by rw [h]
  rw [Int.natCast_add, Int.natCast_mul] at h2
  unfold qt rt sgv
  generalize ((x.natAbs / y.natAbs : Nat) : Int) = q at h2 ⊢
  generalize ((x.natAbs % y.natAbs : Nat) : Int) = r at h2 ⊢
  by_cases hx : x < 0
  · have ex : ((x.natAbs : Nat) : Int) = -x := by omega
    by_cases hy : y < 0
    · have ey : ((y.natAbs : Nat) : Int) = -y := by omega
      rw [ex, ey, Int.neg_mul] at h2
      rw [if_pos hx, if_pos hy, if_pos rfl, if_pos rfl, if_neg (by decide)]
      omega
    · have ey : ((y.natAbs : Nat) : Int) = y := by omega
      rw [ex, ey] at h2
      rw [if_pos hx, if_neg hy, if_neg (by decide), if_neg (by decide), Int.mul_neg]
      omega
  · have ex : ((x.natAbs : Nat) : Int) = x := by omega
    by_cases hy : y < 0
    · have ey : ((y.natAbs : Nat) : Int) = -y := by omega
      rw [ex, ey, Int.neg_mul] at h2
      rw [if_neg hx, if_pos hy, if_neg (by decide), if_pos rfl, Int.mul_neg]
      omega
    · have ey : ((y.natAbs : Nat) : Int) = y := by omega
      rw [ex, ey] at h2
      rw [if_neg hx, if_neg hy, if_pos rfl, if_pos rfl, if_pos rfl]
      omega
theorem qt_abs (x y : Int) : (qt x y).natAbs = x.natAbs / y.natAbs := sgv_abs _ _
theorem rt_abs (x y : Int) : (rt x y).natAbs = x.natAbs % y.natAbs := sgv_abs _ _
section Row
variable {B h : AH} {n : Nat} {d : RD} {M : Nat → Int} {i j k Q R T T' : Nat} {f g : Nat → Int32}
/-- what over leaves -/
def ovE (B : AH) (n : Nat) (d : RD) (M : Nat → Int) (T : Nat) (q r : Int) (h' : AH) : Prop := ∃ M' Q R T', RV B n (d.dz n Q R T') h' M' ∧ (T ≤ Q ∧ Q < T') ∧ (T ≤ R ∧ R < T') ∧ T' ≤ T + 7 ∧ M' Q = q ∧ M' R = r ∧ ∀ x, (x < T ∨ 64 ≤ x) → M' x = M x
theorem RV.over (c : RV B n d h M) (hT : d.top = nI T) (hl : T + 7 ≤ 64) (hi : i < 317) (hj : j < 317) (iT : i < T ∨ 64 ≤ i) (jT : j < T ∨ 64 ≤ j) (hb : M j ≠ 0) {na nb : Nat} (xa : (M i).natAbs < C16 ^ na) (xb : (M j).natAbs < C16 ^ nb) (hn : na + nb ≤ 99) (hn2 : na ≤ 97) (hz : M 64 = 0) (ho : M 65 = 1) (way : Int32) :
    ∃ h', zs_X11_over h n way (ar n i) (ar n j) = some h' ∧ ovE B n d M T (dvQ way (M i) (M j)) (dvR way (M i) (M j)) h' := by
  unfold zs_X11_over
  simp only [c.rm, Option.bind_some]
  obtain ⟨g1, M1, Q, R, T1, e1, c1, hQ, hR, hQR, hT1, mQ, mR, fr⟩ := c.divide hT (by omega) hi hj iT jT hb (Nat.lt_of_lt_of_le xa (Nat.pow_le_pow_right (by decide) hn2)) hz
  rw [e1]
  simp only [c1.qr, c1.sg hi, c1.sg hj, fr i iT, fr j jT, c1.n_ (show Q < 317 by omega), mQ, Int.natAbs_natCast, Option.bind_some]
  have k36 : ∀ (s : Int32) , (s = 0 ∨ (s = 1 ∧ M1 Q ≠ 0)) → sgv s ((M i).natAbs / (M j).natAbs) = qt (M i) (M j) → ∃ h', zj_X11_over_36 g1 n way (ar n i) (ar n j) s (ar n Q) = some h' ∧ ovE B n d M T (dvQ way (M i) (M j)) (dvR way (M i) (M j)) h' := by
    intro s hs hsv
    unfold zj_X11_over_36
    have hzk : zk s = some () := by unfold zk; rw [if_pos (by rcases hs with a | a; exact Or.inl a; exact Or.inr a.1)]
    rw [hzk]
    simp only [Option.bind_some]
    obtain ⟨g2, e2, c2⟩ := c1.putS (i := Q) (by omega) hs
    rw [mQ, Int.natAbs_natCast, hsv] at c2
    rw [e2]
    obtain ⟨M2, hM2⟩ : ∃ M2, M2 = va_up M1 Q (qt (M i) (M j)) := ⟨_, rfl⟩
    rw [← hM2] at c2
    have f2 : ∀ x, (x < T ∨ 64 ≤ x) → M2 x = M x := fun x hx => by rw [hM2, va_un (by omega)]; exact fr x hx
    have m2Q : M2 Q = qt (M i) (M j) := by rw [hM2, va_us]
    have m2R : M2 R = (((M i).natAbs % (M j).natAbs : Nat) : Int) := by rw [hM2, va_un (by omega)]; exact mR
    simp only [c2.qr, c2.sg hi, f2 i iT, c2.n_ (show R < 317 by omega), m2R, Int.natAbs_natCast, Option.bind_some]
    have k65 : ∀ (s : Int32), (s = 0 ∨ (s = 1 ∧ M2 R ≠ 0)) → sgv s ((M i).natAbs % (M j).natAbs) = rt (M i) (M j) → ∃ h', zj_X11_over_65 g2 n way (ar n i) (ar n j) s (ar n R) = some h' ∧ ovE B n d M T (dvQ way (M i) (M j)) (dvR way (M i) (M j)) h' := by
      intro s hs hsv
      unfold zj_X11_over_65
      have hzk : zk s = some () := by unfold zk; rw [if_pos (by rcases hs with a | a; exact Or.inl a; exact Or.inr a.1)]
      rw [hzk]
      simp only [Option.bind_some]
      obtain ⟨g3, e3, c3⟩ := c2.putS (i := R) (by omega) hs
      rw [m2R, Int.natAbs_natCast, hsv] at c3
      rw [e3]
      obtain ⟨M3, hM3⟩ : ∃ M3, M3 = va_up M2 R (rt (M i) (M j)) := ⟨_, rfl⟩
      rw [← hM3] at c3
      have f3 : ∀ x, (x < T ∨ 64 ≤ x) → M3 x = M x := fun x hx => by rw [hM3, va_un (by omega)]; exact f2 x hx
      have m3Q : M3 Q = qt (M i) (M j) := by rw [hM3, va_un hQR]; exact m2Q
      have m3R : M3 R = rt (M i) (M j) := by rw [hM3, va_us]
      have k176 : ∀ (g4 : AH) (q' : Int), (q' = qt (M i) (M j) + 1 ∨ q' = qt (M i) (M j) - 1) → RV B n ((d.dz n Q R T1).tt (T1 + 1)) g4 (va_up M3 T1 q') → ∃ h', zj_X11_over_176 g4 n (ar n i) (ar n j) (ar n T1) n = some h' ∧ ovE B n d M T q' (M i - M j * q') h' := by
        intro g4 q' hq' c4
        have hq9 : q'.natAbs ≤ C16 ^ na := by
          have h1 := qt_abs (M i) (M j)
          have h2 := Nat.div_le_self (M i).natAbs (M j).natAbs
          omega
        have hp9 : (M j * q').natAbs < C16 ^ 99 := by
          rw [Int.natAbs_mul]
          have h3 : (M j).natAbs * q'.natAbs ≤ (M j).natAbs * C16 ^ na := Nat.mul_le_mul_left _ hq9
          have h4 : (M j).natAbs * C16 ^ na < C16 ^ nb * C16 ^ na := Nat.mul_lt_mul_of_pos_right xb (C16_pos na)
          rw [← Nat.pow_add] at h4
          have h5 : C16 ^ (nb + na) ≤ C16 ^ 99 := Nat.pow_le_pow_right (by decide) (by omega)
          omega
        unfold zj_X11_over_176
        obtain ⟨g5, e5, c5⟩ := c4.main (k := 5) (v := .ref (ar n T1)) (d' := d.dz n T1 R (T1 + 1)) (by decide) rfl rfl
        rw [e5]
        simp only [c5.qr, c5.rm, Option.bind_some]
        have m5j : va_up M3 T1 q' j = M j := by rw [va_un (by omega)]; exact f3 j jT
        have m5i : va_up M3 T1 q' i = M i := by rw [va_un (by omega)]; exact f3 i iT
        obtain ⟨g6, e6, c6⟩ := c5.times (T := T1 + 1) (i := j) (j := T1) rfl (by omega) hj (by omega) (by omega) (by omega) (na := nb) (nb := na + 1) (by rw [m5j]; exact xb) (by rw [va_us, C16_s]; have := C16_pos na; omega) (by omega)
        rw [m5j, va_us] at c6
        rw [e6]
        simp only [c6.rm, Option.bind_some]
        have m6i : va_up (va_up M3 T1 q') (T1 + 1) (M j * q') i = M i := by rw [va_un (by omega)]; exact m5i
        obtain ⟨g7, e7, c7⟩ := c6.less (T := T1 + 2) (i := i) (j := T1 + 1) rfl (by omega) hi (by omega) (by omega) (by omega) (by rw [m6i]; exact Nat.lt_of_lt_of_le xa (Nat.pow_le_pow_right (by decide) (by omega))) (by rw [va_us]; exact hp9)
        rw [m6i, va_us] at c7
        rw [e7]
        simp only [Option.bind_some]
        obtain ⟨g8, e8, c8⟩ := c7.main (k := 6) (v := .ref (ar n (T1 + 2))) (d' := d.dz n T1 (T1 + 2) (T1 + 3)) (by decide) rfl rfl
        rw [e8]
        refine ⟨g8, rfl, _, T1, T1 + 2, T1 + 3, c8, by omega, by omega, by omega, ?_, va_us _ _ _, fun x hx => ?_⟩
        · rw [va_un (by omega), va_un (by omega), va_us]
        · rw [va_un (by omega), va_un (by omega), va_un (by omega)]
          exact f3 x hx
      have hq99 : (qt (M i) (M j)).natAbs < C16 ^ 99 := by
        rw [qt_abs]
        have h2 := Nat.div_le_self (M i).natAbs (M j).natAbs
        have h5 : C16 ^ na ≤ C16 ^ 99 := Nat.pow_le_pow_right (by decide) (by omega)
        omega
      have h199 : (1 : Int).natAbs < C16 ^ 99 := by
        have h5 : C16 ^ 1 ≤ C16 ^ 99 := Nat.pow_le_pow_right (by decide) (by omega)
        have h6 : C16 ^ 1 = 65536 := by decide
        show 1 < _
        omega
      have hrq := qt_rt (x := M i) (y := M j)
      have m365 : M3 65 = 1 := (f3 65 (by omega)).trans ho
      have k141 : ∀ t : Int32, (t = 0 → ∃ h', zj_X11_over_141 g3 n (ar n i) (ar n j) t = some h' ∧ ovE B n d M T (qt (M i) (M j) - 1) (rt (M i) (M j) + M j) h') ∧ (t = 1 → ∃ h', zj_X11_over_141 g3 n (ar n i) (ar n j) t = some h' ∧ ovE B n d M T (qt (M i) (M j) + 1) (rt (M i) (M j) - M j) h') := by
        intro t
        unfold zj_X11_over_141
        refine ⟨fun ht => ?_, fun ht => ?_⟩
        · subst ht
          rw [if_pos (by decide)]
          simp only [c3.qr, c3.rm, Option.bind_some]
          obtain ⟨g4, e4, c4⟩ := c3.less (T := T1) (i := Q) (j := 65) rfl (by omega) (by omega) (by omega) (by omega) (by omega) (by rw [m3Q]; exact hq99) (by rw [m365]; exact h199)
          rw [m3Q, m365] at c4
          rw [e4]
          simp only [Option.bind_some]
          obtain ⟨h', e5, ov⟩ := k176 g4 _ (Or.inr rfl) c4
          refine ⟨h', e5, ?_⟩
          have e6 : M i - M j * (qt (M i) (M j) - 1) = rt (M i) (M j) + M j := by rw [Int.mul_sub, Int.mul_one]; omega
          rw [e6] at ov
          exact ov
        · subst ht
          rw [if_neg (by decide)]
          simp only [c3.qr, c3.rm, Option.bind_some]
          obtain ⟨g4, e4, c4⟩ := c3.sum (T := T1) (i := Q) (j := 65) rfl (by omega) (by omega) (by omega) (by omega) (by omega) (by rw [m3Q]; exact hq99) (by rw [m365]; exact h199)
          rw [m3Q, m365] at c4
          rw [e4]
          simp only [Option.bind_some]
          obtain ⟨h', e5, ov⟩ := k176 g4 _ (Or.inl rfl) c4
          refine ⟨h', e5, ?_⟩
          have e6 : M i - M j * (qt (M i) (M j) + 1) = rt (M i) (M j) - M j := by rw [Int.mul_add, Int.mul_one]; omega
          rw [e6] at ov
          exact ov
      have keep0 : ovE B n d M T (qt (M i) (M j)) (rt (M i) (M j)) g3 := ⟨M3, Q, R, T1, c3, hQ, hR, by omega, m3Q, m3R, f3⟩
      have k117 : ∀ t : Int32, (t = 0 → dlo way (rt (M i) (M j)) (M j) = 0 → dhi way (rt (M i) (M j)) (M j) = 0 → ∃ h', zj_X11_over_117 g3 n way (ar n i) (ar n j) t = some h' ∧ ovE B n d M T (dvQ way (M i) (M j)) (dvR way (M i) (M j)) h') ∧ (t = 1 → ((way = 2 ∧ M j < 0 ∧ dlo way (rt (M i) (M j)) (M j) = 0 ∧ dhi way (rt (M i) (M j)) (M j) = 1) ∨ (¬ (way = 2 ∧ M j < 0) ∧ dlo way (rt (M i) (M j)) (M j) = 1)) → ∃ h', zj_X11_over_117 g3 n way (ar n i) (ar n j) t = some h' ∧ ovE B n d M T (dvQ way (M i) (M j)) (dvR way (M i) (M j)) h') := by
        intro t
        unfold zj_X11_over_117 dvQ dvR
        refine ⟨fun ht h1 h2 => ?_, fun ht hc => ?_⟩
        · subst ht
          rw [if_pos (by decide), if_pos h1, if_pos h1, if_pos h2, if_pos h2]
          exact ⟨g3, rfl, keep0⟩
        · subst ht
          rw [if_neg (by decide)]
          rcases hc with ⟨h1, h2, h3, h4⟩ | ⟨h1, h3⟩
          · rw [if_pos h1, if_pos h3, if_pos h3, h4, if_neg (by decide), if_neg (by decide), c3.sg hj, f3 j jT, if_pos h2]
            simp only [Option.bind_some]
            rw [if_neg (by decide)]
            exact (k141 1).2 rfl
          · rw [h3, if_neg i10, if_neg i10]
            by_cases h2 : way = 2
            · rw [if_pos h2, c3.sg hj, f3 j jT, if_neg (fun z => h1 ⟨h2, z⟩)]
              simp only [Option.bind_some]
              rw [if_pos (by decide)]
              exact (k141 0).1 rfl
            · rw [if_neg h2]
              exact (k141 0).1 rfl
      have k97 : ¬ (way = 1 ∧ rt (M i) (M j) ≠ 0 ∧ ¬ ((if rt (M i) (M j) < 0 then (1 : Int32) else 0) = (if M j < 0 then (1 : Int32) else 0))) → ∃ h', zj_X11_over_97 g3 n way (ar n i) (ar n j) = some h' ∧ ovE B n d M T (dvQ way (M i) (M j)) (dvR way (M i) (M j)) h' := by
        intro hw
        unfold zj_X11_over_97
        by_cases h2 : way = 2
        · rw [if_pos h2]
          simp only [c3.qr, c3.sg (show R < 317 by omega), m3R, Option.bind_some]
          by_cases hr : rt (M i) (M j) < 0
          · rw [if_pos hr, if_neg (by decide)]
            refine (k117 1).2 rfl ?_
            by_cases hy : M j < 0
            · left
              refine ⟨h2, hy, ?_, ?_⟩
              · unfold dlo
                rw [if_neg (by rintro (z | z); exact hw z; exact z.2.2 hy)]
              · unfold dhi
                rw [if_pos ⟨h2, hr, hy⟩]
            · right
              refine ⟨fun z => hy z.2, ?_⟩
              unfold dlo
              rw [if_pos (Or.inr ⟨h2, hr, hy⟩)]
          · rw [if_neg hr, if_pos (by decide)]
            refine (k117 0).1 rfl ?_ ?_
            · unfold dlo
              rw [if_neg (by rintro (z | z); exact hw z; exact hr z.2.1)]
            · unfold dhi
              rw [if_neg (fun z => hr z.2.1)]
        · rw [if_neg h2]
          refine (k117 0).1 rfl ?_ ?_
          · unfold dlo
            rw [if_neg (by rintro (z | z); exact hw z; exact h2 z.1)]
          · unfold dhi
            rw [if_neg (fun z => h2 z.1)]
      simp only [Option.bind_some]
      by_cases h1 : way = 1
      · rw [if_pos h1]
        simp only [c3.qr, c3.ck (show R < 317 by omega), c3.isZero (show R < 317 by omega), c3.sg (show R < 317 by omega), c3.sg hj, m3R, f3 j jT, Option.bind_some]
        by_cases hr0 : rt (M i) (M j) = 0
        · rw [if_pos hr0, if_neg (by decide)]
          exact k97 (fun z => z.2.1 hr0)
        · rw [if_neg hr0, if_pos (by decide)]
          by_cases hsg : (if rt (M i) (M j) < 0 then (1 : Int32) else 0) = (if M j < 0 then (1 : Int32) else 0)
          · rw [if_pos hsg]
            exact k97 (fun z => z.2.2 hsg)
          · rw [if_neg hsg]
            refine (k117 1).2 rfl (Or.inr ⟨fun z => ?_, ?_⟩)
            · rw [h1] at z
              exact absurd z.1 (by decide)
            · unfold dlo
              rw [if_pos (Or.inl ⟨h1, hr0, hsg⟩)]
      · rw [if_neg h1]
        exact k97 (fun z => h1 z.1)
    by_cases ha : M i < 0
    · rw [if_pos ha, if_neg (by decide)]
      have hr2 : (M i).natAbs % (M j).natAbs = 0 → sgv 0 ((M i).natAbs % (M j).natAbs) = rt (M i) (M j) := fun e => by
        unfold rt
        rw [e, if_pos ha]
        rfl
      by_cases h0 : (M i).natAbs % (M j).natAbs = 0
      · rw [h0, cs_0, if_pos (by decide)]
        rw [h0] at hr2
        exact k65 0 (Or.inl rfl) (by rw [h0]; exact hr2 rfl)
      · have hcs : cs ((M i).natAbs % (M j).natAbs) ≠ 0 := fun e => h0 (cs_z.mp e)
        have hl9 := c2.le100 (show R < 317 by omega)
        rw [m2R, Int.natAbs_natCast] at hl9
        rw [if_neg (nI_nle (by omega) (by omega))]
        exact k65 1 (Or.inr ⟨rfl, by rw [m2R]; omega⟩) (by unfold rt; rw [if_pos ha])
    · rw [if_neg ha, if_pos (by decide)]
      exact k65 0 (Or.inl rfl) (by unfold rt; rw [if_neg ha])
  by_cases hs : (if M i < 0 then (1 : Int32) else 0) = (if M j < 0 then (1 : Int32) else 0)
  · rw [if_pos hs]
    exact k36 0 (Or.inl rfl) (by unfold qt; rw [if_pos hs])
  · rw [if_neg hs]
    by_cases h0 : (M i).natAbs / (M j).natAbs = 0
    · rw [h0, cs_0, if_pos (by decide)]
      exact k36 0 (Or.inl rfl) (by unfold qt; rw [h0, if_neg hs]; rfl)
    · have hcs : cs ((M i).natAbs / (M j).natAbs) ≠ 0 := fun e => h0 (cs_z.mp e)
      have hl9 := c1.le100 (show Q < 317 by omega)
      rw [mQ, Int.natAbs_natCast] at hl9
      rw [if_neg (nI_nle (by omega) (by omega))]
      exact k36 1 (Or.inr ⟨rfl, by rw [mQ]; omega⟩) (by unfold qt; rw [if_neg hs])
end Row
