/-- cut off toward 0, by the sizes -/
def qt (x y : Int) : Int := sgv (if ((if x < 0 then (1 : Int32) else 0) = (if y < 0 then (1 : Int32) else 0)) then 0 else 1) (x.natAbs / y.natAbs)
def rt (x y : Int) : Int := sgv (if x < 0 then (1 : Int32) else 0) (x.natAbs % y.natAbs)
def dlo (way : Int32) (r y : Int) : Int32 := if (way = 1 ∧ r ≠ 0 ∧ ¬ ((if r < 0 then (1 : Int32) else 0) = (if y < 0 then (1 : Int32) else 0))) ∨ (way = 2 ∧ r < 0 ∧ ¬ y < 0) then 1 else 0
def dhi (way : Int32) (r y : Int) : Int32 := if way = 2 ∧ r < 0 ∧ y < 0 then 1 else 0
/-- the quotient, and what is left over, the way that is asked for -/
def dvQ (way : Int32) (x y : Int) : Int := if dlo way (rt x y) y = 0 then (if dhi way (rt x y) y = 0 then qt x y else qt x y + 1) else qt x y - 1
def dvR (way : Int32) (x y : Int) : Int := if dlo way (rt x y) y = 0 then (if dhi way (rt x y) y = 0 then rt x y else rt x y - y) else rt x y + y
section Wys
variable {L : Nat → Prop} {q : Nat → Nat} {h h' h'' : AH} {σ : Nat → WR} {V : Nat → Int} {a b u0 aq al ao ad av : Nat}
theorem i21 : ¬ ((2 : Int32) = 1) := by decide
theorem i12 : ¬ ((1 : Int32) = 2) := by decide
theorem e_dz69a (W : WS L q h V) (x : DX h u0 aq al ao ad av) (hl : L al) (hb : L b) (way : Int32) : zj_X0_divide_69 h u0 way b (0 : Int32) = zj_X0_divide_137 h u0 b (if way = 2 ∧ V al < 0 ∧ ¬ V b < 0 then 1 else 0) (if way = 2 ∧ V al < 0 ∧ V b < 0 then 1 else 0) := by
  unfold zj_X0_divide_69
  by_cases h1 : way = 1
  · rw [if_pos h1, if_pos (rfl : (0 : Int32) = 0)]
    exact e_dz81 W x hl hb way
  · rw [if_neg h1]
    exact e_dz81 W x hl hb way
theorem e_dz69b (W : WS L q h V) (x : DX h u0 aq al ao ad av) (hl : L al) (hb : L b) (way : Int32) : zj_X0_divide_69 h u0 way b (1 : Int32) = zj_X0_divide_137 h u0 b (if way = 1 ∨ (way = 2 ∧ V al < 0 ∧ ¬ V b < 0) then 1 else 0) (if way = 2 ∧ V al < 0 ∧ V b < 0 then 1 else 0) := by
  unfold zj_X0_divide_69
  by_cases h1 : way = 1
  · rw [if_pos h1, if_neg i10, e_dz108 W x hl hb, if_pos (Or.inl h1)]
  · rw [if_neg h1, e_dz81 W x hl hb]
    congr 1
    by_cases h2 : way = 2 ∧ V al < 0 ∧ ¬ V b < 0
    · rw [if_pos h2, if_pos (Or.inr h2)]
    · rw [if_neg h2, if_neg (fun e => e.elim h1 h2)]
theorem e_tail (W : WS L q h V) (x : DX h u0 aq al ao ad av) (hl : L al) (hb : L b) (way : Int32) :
    ((gR h u0 0 1).bind fun x14 => (chk h x14 8).bind fun _ => (zs_X8_isZero h x14).bind fun x16 => (if x16 = 0 then (gR h u0 0 1).bind fun x52 => (gI h x52 8 2).bind fun x53 => (gI h b 8 2).bind fun x54 => (if x53 = x54 then zj_X0_divide_69 h u0 way b (0 : Int32) else zj_X0_divide_69 h u0 way b (1 : Int32)) else zj_X0_divide_69 h u0 way b (0 : Int32))) = zj_X0_divide_137 h u0 b (dlo way (V al) (V b)) (dhi way (V al) (V b)) := by
  simp only [e_dz69a W x hl hb, e_dz69b W x hl hb]
  unfold dlo dhi
  rw [x.1.g1]
  simp only [Option.bind_some]
  rw [v_chk W hl, v_isZero W hl]
  simp only [Option.bind_some]
  by_cases h0 : V al = 0
  · rw [if_pos h0, if_neg i10]
    congr 1
    by_cases h2 : way = 2 ∧ V al < 0 ∧ ¬ V b < 0
    · rw [if_pos h2, if_pos (Or.inr h2)]
    · rw [if_neg h2, if_neg]
      rintro (e | e)
      · exact e.2.1 h0
      · exact h2 e
  · rw [if_neg h0, if_pos (rfl : (0 : Int32) = 0), v_below W hl, v_below W hb]
    simp only [Option.bind_some]
    by_cases hs : (if V al < 0 then (1 : Int32) else 0) = (if V b < 0 then (1 : Int32) else 0)
    · rw [if_pos hs]
      congr 1
      by_cases h2 : way = 2 ∧ V al < 0 ∧ ¬ V b < 0
      · rw [if_pos h2, if_pos (Or.inr h2)]
      · rw [if_neg h2, if_neg]
        rintro (e | e)
        · exact e.2.2 hs
        · exact h2 e
    · rw [if_neg hs]
      congr 1
      by_cases h2 : way = 1 ∨ (way = 2 ∧ V al < 0 ∧ ¬ V b < 0)
      · rw [if_pos h2, if_pos]
        rcases h2 with e | e
        · exact Or.inl ⟨e, h0, hs⟩
        · exact Or.inr e
      · rw [if_neg h2, if_neg]
        rintro (e | e)
        · exact h2 (Or.inl e.1)
        · exact h2 (Or.inr e)
theorem v_divide (W : WS L q h V) (x : DX h u0 aq al ao ad av) (ha : L a) (hb : L b) (hq : L aq) (hl : L al) (ho : L ao) (hql : aq ≠ al) (hoq : ao ≠ aq) (hol : ao ≠ al) (haq : a ≠ aq) (hal : a ≠ al) (hbq : b ≠ aq) (hbl : b ≠ al) (hb0 : V b ≠ 0) (hone : V ao = 1) (ba : (V a).natAbs < B32 ^ 25) (bb : (V b).natAbs < B32 ^ 25) (way : Int32) :
    ∃ h', zs_X0_divide h u0 way a b = some h' ∧ WS L q h' (va_up (va_up V aq (dvQ way (V a) (V b))) al (dvR way (V a) (V b))) ∧ DX h' u0 aq al ao ad av ∧ Fx L q (fun z => z = ad ∨ z = av) h h' := by
  unfold zs_X0_divide
  rw [x.1.ck]
  simp only [Option.bind_some]
  obtain ⟨g1, e1, W1, x1, F1⟩ := v_divideSizes W x ha hb hq hl hql haq hal hbq hbl hb0
  rw [e1]
  simp only [Option.bind_some]
  rw [x1.1.g0]
  simp only [Option.bind_some]
  rw [v_below W1 ha, v_below W1 hb, va_un hal, va_un haq, va_un hbl, va_un hbq]
  simp only [Option.bind_some]
  have key : ∀ t : Int32, (t = if ((if V a < 0 then (1 : Int32) else 0) = (if V b < 0 then (1 : Int32) else 0)) then 0 else 1) → ∃ h', zj_X0_divide_26 g1 u0 way a b t aq = some h' ∧ WS L q h' (va_up (va_up V aq (dvQ way (V a) (V b))) al (dvR way (V a) (V b))) ∧ DX h' u0 aq al ao ad av ∧ Fx L q (fun z => z = ad ∨ z = av) h h' := by
    intro t ht
    unfold zj_X0_divide_26
    rw [v_chk W1 hq]
    simp only [Option.bind_some]
    obtain ⟨g2, e2, W2, F2⟩ := v_takeSign W1 hq t
    rw [e2]
    simp only [Option.bind_some]
    have x2 := x1.fr W1 F2
    rw [x2.1.g1]
    simp only [Option.bind_some]
    rw [v_below W2 ha, va_un haq, va_un hal, va_un haq]
    simp only [Option.bind_some]
    rw [v_chk W2 hl]
    simp only [Option.bind_some]
    obtain ⟨g3, e3, W3, F3⟩ := v_takeSign W2 hl (if V a < 0 then 1 else 0)
    rw [e3]
    simp only [Option.bind_some]
    have x3 := x2.fr W2 F3
    rw [va_un (Ne.symm hql), va_us, va_un hql, va_us, va_up_c (Ne.symm hql), va_uu, va_uu] at W3
    rw [Int.natAbs_natCast, Int.natAbs_natCast] at W3
    have W4 : WS L q g3 (va_up (va_up V aq (qt (V a) (V b))) al (rt (V a) (V b))) := by
      unfold qt rt
      rw [← ht]
      exact W3
    have hdv : ∀ y : Nat, y < B32 ^ 25 → ∀ s : Int32, (sgv s y).natAbs < B32 ^ 25 := by
      intro y hy s
      unfold sgv
      split <;> omega
    rw [e_tail W4 x3 hl hb way]
    obtain ⟨g4, e4, W5, x5, F5⟩ := v_dz137 W4 x3 hb hq hl ho hql hoq hbq (dlo way ((va_up (va_up V aq (qt (V a) (V b))) al (rt (V a) (V b))) al) ((va_up (va_up V aq (qt (V a) (V b))) al (rt (V a) (V b))) b)) (dhi way ((va_up (va_up V aq (qt (V a) (V b))) al (rt (V a) (V b))) al) ((va_up (va_up V aq (qt (V a) (V b))) al (rt (V a) (V b))) b)) (by rw [va_un hol, va_un hoq]; exact hone) (by rw [va_un hql, va_us]; exact hdv _ (Nat.lt_of_le_of_lt (Nat.div_le_self _ _) ba) _) (by rw [va_us]; exact hdv _ (Nat.lt_of_le_of_lt (Nat.mod_le _ _) ba) _) (by rw [va_un hbl, va_un hbq]; exact bb)
    rw [e4]
    rw [va_us, va_un hbl, va_un hbq, va_un hql, va_us, va_up_c (Ne.symm hql), va_uu, va_uu] at W5
    exact ⟨g4, rfl, W5, x5, F1.tr (F2.fx.tr (F3.fx.tr F5.fx))⟩
  by_cases hs : (if V a < 0 then (1 : Int32) else 0) = (if V b < 0 then (1 : Int32) else 0)
  · rw [if_pos hs]
    exact key 0 (by rw [if_pos hs])
  · rw [if_neg hs]
    exact key 1 (by rw [if_neg hs])
end Wys
