/-! ratios in lowest terms -/
/-- t above b is P above Q, in lowest terms -/
def isRat (P Q t b : Int) : Prop := 0 < b ∧ Nat.Coprime t.natAbs b.natAbs ∧ t * Q = P * b
theorem isRat_uniq {P Q t b t' b' : Int} (hQ : Q ≠ 0) (h1 : isRat P Q t b) (h2 : isRat P Q t' b') : t = t' ∧ b = b' := by
  obtain ⟨p1, c1, e1⟩ := h1
  obtain ⟨p2, c2, e2⟩ := h2
  have e3 : (t * b') * Q = (t' * b) * Q := by
    rw [Int.mul_right_comm, e1, Int.mul_right_comm t', e2, Int.mul_right_comm]
  have e4 : t * b' = t' * b := Int.eq_of_mul_eq_mul_right hQ e3
  have e5 : t.natAbs * b'.natAbs = t'.natAbs * b.natAbs := by rw [← Int.natAbs_mul, e4, Int.natAbs_mul]
  have d1 : b.natAbs ∣ b'.natAbs := c1.symm.dvd_of_dvd_mul_left (Nat.dvd_trans (Nat.dvd_mul_left b.natAbs t'.natAbs) (by rw [e5]; exact Nat.dvd_refl _))
  have d2 : b'.natAbs ∣ b.natAbs := c2.symm.dvd_of_dvd_mul_left (Nat.dvd_trans (Nat.dvd_mul_left b'.natAbs t.natAbs) (by rw [e5]; exact Nat.dvd_refl _))
  have e6 := Nat.dvd_antisymm d1 d2
  have e7 : b = b' := by omega
  refine ⟨?_, e7⟩
  rw [e7] at e4
  exact Int.eq_of_mul_eq_mul_right (by omega) e4
/-- a by a divisor of its size, with its sign -/
def cu (a : Int) (g : Nat) : Int := sgv (if a < 0 then 1 else 0) (a.natAbs / g)
theorem cu_abs (a : Int) (g : Nat) : (cu a g).natAbs = a.natAbs / g := by
  unfold cu sgv
  by_cases h : a < 0
  · rw [if_pos h, if_neg (by decide), Int.natAbs_neg, Int.natAbs_natCast]
  · rw [if_neg h, if_pos rfl, Int.natAbs_natCast]
theorem cu_mul {a : Int} {g : Nat} (h : g ∣ a.natAbs) : cu a g * g = a := by
  unfold cu sgv
  have h1 := Nat.div_mul_cancel h
  by_cases hn : a < 0
  · rw [if_pos hn, if_neg (by decide), Int.neg_mul, ← Int.natCast_mul, h1]
    omega
  · rw [if_neg hn, if_pos rfl, ← Int.natCast_mul, h1]
    omega
theorem cu_pos {a : Int} {g : Nat} (h : g ∣ a.natAbs) (ha : 0 < a) : 0 < cu a g := by
  unfold cu sgv
  rw [if_neg (show ¬ a < 0 by omega), if_pos rfl]
  have : 0 < a.natAbs / g := Nat.div_pos (Nat.le_of_dvd (by omega) h) (Nat.pos_of_dvd_of_pos h (by omega))
  omega
theorem cu_ne {a : Int} {g : Nat} (h : g ∣ a.natAbs) (ha : a ≠ 0) : cu a g ≠ 0 := by
  intro e
  have := cu_mul h
  rw [e, Int.zero_mul] at this
  omega
/-- the sign goes above -/
def upT (t b : Int) : Int := if b < 0 then -t else t
def upB (b : Int) : Int := if b < 0 then -b else b
theorem isRat_up {P Q t b : Int} (hb : b ≠ 0) (hc : Nat.Coprime t.natAbs b.natAbs) (e : t * Q = P * b) : isRat P Q (upT t b) (upB b) := by
  unfold isRat upT upB
  by_cases h : b < 0
  · rw [if_pos h, if_pos h, Int.natAbs_neg, Int.natAbs_neg, Int.neg_mul, Int.mul_neg, e]
    exact ⟨by omega, hc, rfl⟩
  · rw [if_neg h, if_neg h]
    exact ⟨by omega, hc, e⟩
theorem rat_reduce {a b : Int} (hb : b ≠ 0) : isRat a b (upT (cu a (Nat.gcd a.natAbs b.natAbs)) (cu b (Nat.gcd a.natAbs b.natAbs))) (upB (cu b (Nat.gcd a.natAbs b.natAbs))) := by
  have g1 := Nat.gcd_dvd_left a.natAbs b.natAbs
  have g2 := Nat.gcd_dvd_right a.natAbs b.natAbs
  have hg : 0 < Nat.gcd a.natAbs b.natAbs := Nat.gcd_pos_of_pos_right _ (by omega)
  refine isRat_up (cu_ne g2 hb) ?_ ?_
  · rw [cu_abs, cu_abs]
    exact Nat.coprime_div_gcd_div_gcd hg
  · have e1 := cu_mul g1
    have e2 := cu_mul g2
    generalize cu a (Nat.gcd a.natAbs b.natAbs) = t at e1 ⊢
    generalize cu b (Nat.gcd a.natAbs b.natAbs) = u at e2 ⊢
    generalize Nat.gcd a.natAbs b.natAbs = g at e1 e2
    rw [← e1, ← e2]
    rw [← Int.mul_assoc, Int.mul_right_comm]
/-- a sum: what the bottoms share is taken out ahead -/
theorem cop_lin {x y f s : Int} (h1 : Nat.Coprime x.natAbs f.natAbs) (h2 : Nat.Coprime s.natAbs f.natAbs) : Nat.Coprime (x * s + y * f).natAbs f.natAbs := by
  have h3 : Nat.Coprime (x * s).natAbs f.natAbs := by rw [Int.natAbs_mul]; exact Nat.Coprime.mul_left h1 h2
  show Int.gcd (x * s + y * f) f = 1
  rw [Int.gcd_add_mul_right_left]
  exact h3
theorem rat_sum {pt pb qt qb x : Int} {sg : Int} (hs : sg = 1 ∨ sg = -1) (hp : 0 < pb) (hq : 0 < qb) (cp : Nat.Coprime pt.natAbs pb.natAbs) (cq : Nat.Coprime qt.natAbs qb.natAbs)
    {g d : Nat} (hg : g = Nat.gcd pb.natAbs qb.natAbs) (hx : x = pt * cu qb g + sg * (qt * cu pb g)) (hd : d = Nat.gcd x.natAbs g) :
    isRat (pt * qb + sg * (qt * pb)) (pb * qb) (cu x d) (cu pb g * cu qb d) := by
  have g1 : g ∣ pb.natAbs := by rw [hg]; exact Nat.gcd_dvd_left _ _
  have g2 : g ∣ qb.natAbs := by rw [hg]; exact Nat.gcd_dvd_right _ _
  have g0 : 0 < g := by rw [hg]; exact Nat.gcd_pos_of_pos_left _ (by omega)
  have d1 : d ∣ x.natAbs := by rw [hd]; exact Nat.gcd_dvd_left _ _
  have d2 : d ∣ g := by rw [hd]; exact Nat.gcd_dvd_right _ _
  have d0 : 0 < d := by rw [hd]; exact Nat.gcd_pos_of_pos_right _ g0
  have d3 : d ∣ qb.natAbs := Nat.dvd_trans d2 g2
  have cc : Nat.Coprime (cu pb g).natAbs (cu qb g).natAbs := by
    rw [cu_abs, cu_abs, hg]
    exact Nat.coprime_div_gcd_div_gcd (by rw [← hg]; exact g0)
  have k1 : Nat.Coprime pt.natAbs (cu pb g).natAbs := by rw [cu_abs]; exact cp.coprime_div_right g1
  have k2 : Nat.Coprime qt.natAbs (cu qb g).natAbs := by rw [cu_abs]; exact cq.coprime_div_right g2
  have ks : sg.natAbs = 1 := by omega
  have x1 : Nat.Coprime x.natAbs (cu pb g).natAbs := by
    rw [hx, ← Int.mul_assoc]
    exact cop_lin k1 cc.symm
  have x2 : Nat.Coprime x.natAbs (cu qb g).natAbs := by
    have e : x = (sg * qt) * cu pb g + pt * cu qb g := by rw [hx, Int.add_comm, ← Int.mul_assoc]
    rw [e]
    refine cop_lin ?_ cc
    rw [Int.natAbs_mul, ks, Nat.one_mul]
    exact k2
  have fpos := cu_pos g1 hp
  have spos := cu_pos d3 hq
  refine ⟨Int.mul_pos fpos spos, ?_, ?_⟩
  · rw [cu_abs, Int.natAbs_mul, cu_abs qb d]
    have hq2 : qb.natAbs = (cu qb g).natAbs * g := by rw [cu_abs, Nat.div_mul_cancel g2]
    obtain ⟨g', hg'⟩ := d2
    have e1 : qb.natAbs / d = (cu qb g).natAbs * g' := by
      rw [hq2, hg', Nat.mul_left_comm, Nat.mul_div_cancel_left _ d0]
    have e2 : g' = g / d := by rw [hg', Nat.mul_div_cancel_left _ d0]
    rw [e1]
    have c3 : Nat.Coprime (x.natAbs / d) g' := by
      rw [e2, hd]
      exact Nat.coprime_div_gcd_div_gcd (by rw [← hd]; exact d0)
    exact Nat.Coprime.mul_right (x1.coprime_div_left d1) (Nat.Coprime.mul_right (x2.coprime_div_left d1) c3)
  · have e1 := cu_mul g1
    have e2 := cu_mul g2
    have e3 := cu_mul d1
    have e4 := cu_mul d3
    generalize cu pb g = f at *
    generalize cu qb g = s at *
    generalize cu x d = t at *
    generalize cu qb d = s' at *
    have hdz : (d : Int) ≠ 0 := by omega
    have hgz : (g : Int) ≠ 0 := by omega
    apply Int.eq_of_mul_eq_mul_right hdz
    apply Int.eq_of_mul_eq_mul_right hgz
    have r1 : t * (pb * qb) * d * g = x * (pb * qb) * g := by rw [← e3]; simp only [Int.mul_assoc, Int.mul_comm, Int.mul_left_comm]
    have r2 : (pt * qb + sg * (qt * pb)) * (f * s') * d * g = (pt * qb + sg * (qt * pb)) * ((f * g) * (s' * d)) := by simp only [Int.mul_assoc, Int.mul_comm, Int.mul_left_comm]
    rw [r1, r2, e1, e4]
    have r3 : x * g = pt * qb + sg * (qt * pb) := by
      rw [hx, Int.add_mul, Int.mul_assoc, e2, Int.mul_assoc, Int.mul_assoc, e1]
    rw [← r3]
    simp only [Int.mul_assoc, Int.mul_comm, Int.mul_left_comm]
/-- a product -/
theorem rat_prod {pt pb a b : Int} (hp : 0 < pb) (hb : b ≠ 0) (cp : Nat.Coprime pt.natAbs pb.natAbs) (cq : Nat.Coprime a.natAbs b.natAbs)
    {g k : Nat} (hg : g = Nat.gcd pt.natAbs b.natAbs) (hk : k = Nat.gcd pb.natAbs a.natAbs) :
    isRat (pt * a) (pb * b) (upT (cu pt g * cu a k) (cu b g * cu pb k)) (upB (cu b g * cu pb k)) := by
  have g1 : g ∣ pt.natAbs := by rw [hg]; exact Nat.gcd_dvd_left _ _
  have g2 : g ∣ b.natAbs := by rw [hg]; exact Nat.gcd_dvd_right _ _
  have g0 : 0 < g := by rw [hg]; exact Nat.gcd_pos_of_pos_right _ (by omega)
  have k1 : k ∣ pb.natAbs := by rw [hk]; exact Nat.gcd_dvd_left _ _
  have k2 : k ∣ a.natAbs := by rw [hk]; exact Nat.gcd_dvd_right _ _
  have k0 : 0 < k := by rw [hk]; exact Nat.gcd_pos_of_pos_left _ (by omega)
  have n1 := cu_ne g2 hb
  have n2 := cu_pos k1 hp
  refine isRat_up (Int.mul_ne_zero n1 (by omega)) ?_ ?_
  · rw [Int.natAbs_mul, Int.natAbs_mul, cu_abs, cu_abs, cu_abs, cu_abs]
    have c1 : Nat.Coprime (pt.natAbs / g) (b.natAbs / g) := by rw [hg]; exact Nat.coprime_div_gcd_div_gcd (by rw [← hg]; exact g0)
    have c2 : Nat.Coprime (a.natAbs / k) (pb.natAbs / k) := by rw [hk]; exact (Nat.coprime_div_gcd_div_gcd (by rw [← hk]; exact k0)).symm
    have c3 : Nat.Coprime (pt.natAbs / g) (pb.natAbs / k) := (cp.coprime_div_left g1).coprime_div_right k1
    have c4 : Nat.Coprime (a.natAbs / k) (b.natAbs / g) := (cq.coprime_div_left k2).coprime_div_right g2
    exact Nat.Coprime.mul_left (Nat.Coprime.mul_right c1 c3) (Nat.Coprime.mul_right c4 c2)
  · have e1 := cu_mul g1
    have e2 := cu_mul g2
    have e3 := cu_mul k1
    have e4 := cu_mul k2
    generalize cu pt g = t at *
    generalize cu b g = s at *
    generalize cu pb k = u at *
    generalize cu a k = w at *
    rw [← e1, ← e2, ← e3, ← e4]
    simp only [Int.mul_assoc, Int.mul_comm, Int.mul_left_comm]
