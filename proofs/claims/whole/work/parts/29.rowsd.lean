/-! the division's own rows: arrays of 27 longs -/
def LA (h : AH) (a : Nat) (F : Nat → Int64) : Prop := h.1 a = some (.inl (1, 27, .inr (.inl F)))
/-- only the cell a has changed -/
def On (a : Nat) (h h' : AH) : Prop := h'.2 = h.2 ∧ ∀ x, x ≠ a → h'.1 x = h.1 x
theorem On.rf {a : Nat} {h : AH} : On a h h := ⟨rfl, fun _ _ => rfl⟩
theorem On.tr {a : Nat} {h h' h'' : AH} (p : On a h h') (r : On a h' h'') : On a h h'' := ⟨r.1.trans p.1, fun x hx => (r.2 x hx).trans (p.2 x hx)⟩
theorem LA.get {h : AH} {a : Nat} {F : Nat → Int64} (H : LA h a F) {k : Nat} (hk : k < 27) : aJ h a 1 (nI k) = some (F k) := by
  unfold aJ
  rw [show h.1 a = _ from H]
  have := nI_rg hk (by omega)
  simp only [nI_clamp (show k < 2 ^ 31 by omega)]
  rw [if_pos ⟨trivial, this.1, this.2⟩]
theorem LA.put {h : AH} {a : Nat} {F : Nat → Int64} (H : LA h a F) {k : Nat} (hk : k < 27) (x : Int64) : ∃ h', sJ h a 1 (nI k) x = some h' ∧ LA h' a (vp_updL F k x) ∧ On a h h' := by
  refine ⟨hset h a (.inl (1, 27, .inr (.inl (vp_updL F k x)))), ?_, ?_, rfl, fun y hy => ?_⟩
  · unfold sJ
    rw [show h.1 a = _ from H]
    have := nI_rg hk (by omega)
    simp only [nI_clamp (show k < 2 ^ 31 by omega)]
    rw [if_pos ⟨trivial, this.1, this.2⟩]
  · simp [LA, hset]
  · simp [hset, hy]
theorem LA.off {h h' : AH} {a b : Nat} {F : Nat → Int64} (H : LA h b F) (o : On a h h') (hne : b ≠ a) : LA h' b F := (o.2 b hne).trans H
/-- a stretch of n parts from j on -/
def sgm (F : Nat → Int64) (j n : Nat) : Nat := vN (fun i => uN (F (j + i))) n
theorem sgm_s (F : Nat → Int64) (j n : Nat) : sgm F j (n + 1) = sgm F j n + uN (F (j + n)) * B32 ^ n := rfl
theorem sgm_congr {F G : Nat → Int64} {j n : Nat} (h : ∀ i, i < n → F (j + i) = G (j + i)) : sgm F j n = sgm G j n := vN_congr (fun i hi => congrArg uN (h i hi))
theorem sgm_upd {F : Nat → Int64} {j n p : Nat} (hp : j + n ≤ p) (x : Int64) : sgm (vp_updL F p x) j n = sgm F j n := sgm_congr (fun i hi => pk_uLn (by omega))
theorem sgm_lt {F : Nat → Int64} {j n : Nat} (h : ∀ i, i < n → uN (F (j + i)) < B32) : sgm F j n < B32 ^ n := vN_lt h
section Gvb
variable {h h' : AH} {u0 ad av j n : Nat} {F G : Nat → Int64}
/-- the division's object: its rows -/
def DO (h : AH) (u0 aq al ao ad av : Nat) : Prop := h.1 u0 = some (.inr (0, [.ref aq, .ref al, .ref ao, .ref ad, .ref av]))
theorem DO.g0 {h : AH} {u0 aq al ao ad av : Nat} (d : DO h u0 aq al ao ad av) : gR h u0 0 0 = some aq := by unfold gR; rw [show h.1 u0 = _ from d]; rfl
theorem DO.g1 {h : AH} {u0 aq al ao ad av : Nat} (d : DO h u0 aq al ao ad av) : gR h u0 0 1 = some al := by unfold gR; rw [show h.1 u0 = _ from d]; rfl
theorem DO.g2 {h : AH} {u0 aq al ao ad av : Nat} (d : DO h u0 aq al ao ad av) : gR h u0 0 2 = some ao := by unfold gR; rw [show h.1 u0 = _ from d]; rfl
theorem DO.g3 {h : AH} {u0 aq al ao ad av : Nat} (d : DO h u0 aq al ao ad av) : gR h u0 0 3 = some ad := by unfold gR; rw [show h.1 u0 = _ from d]; rfl
theorem DO.g4 {h : AH} {u0 aq al ao ad av : Nat} (d : DO h u0 aq al ao ad av) : gR h u0 0 4 = some av := by unfold gR; rw [show h.1 u0 = _ from d]; rfl
theorem DO.ck {h : AH} {u0 aq al ao ad av : Nat} (d : DO h u0 aq al ao ad av) : chk h u0 0 = some () := by unfold chk; rw [show h.1 u0 = _ from d]; rfl
theorem DO.off {h h' : AH} {u0 aq al ao ad av a : Nat} (d : DO h u0 aq al ao ad av) (o : On a h h') (hne : u0 ≠ a) : DO h' u0 aq al ao ad av := (o.2 u0 hne).trans d
theorem p_giveBack {aq al ao : Nat} (d : DO h u0 aq al ao ad av) (hF : LA h ad F) (hG : LA h av G) (hne : ad ≠ av) (hu : u0 ≠ ad) (hj : j + n < 27) (dF : ∀ i, i ≤ n → uN (F (j + i)) < B32) (dG : ∀ i, i < n → uN (G i) < B32) :
    ∃ (h' : AH) (F' : Nat → Int64), zs_X0_giveBack h u0 (nI j) (nI n) = some h' ∧ LA h' ad F' ∧ On ad h h' ∧ (∀ i, i ≤ n → uN (F' (j + i)) < B32) ∧ (∀ x, (x < j ∨ j + n < x) → F' x = F x) ∧ ∃ c, c ≤ 1 ∧ sgm F' j (n + 1) + c * B32 ^ (n + 1) = sgm F j (n + 1) + sgm G 0 n := by
  unfold zs_X0_giveBack
  obtain ⟨r, hr, F1, L1, O1, d1, k1, c1, v1⟩ := iter_FU (B := fun x : AH × Int64 × Int32 => zb_X0_giveBack_5 u0 (nI j) (nI n) x.1 x.2.1 x.2.2)
    (fun i s => s.2.2 = nI i ∧ ∃ F1 : Nat → Int64, LA s.1 ad F1 ∧ On ad h s.1 ∧ (∀ x, x < i → uN (F1 (j + x)) < B32) ∧ (∀ x, (x < j ∨ j + i ≤ x) → F1 x = F x) ∧ uN s.2.1 ≤ 1 ∧ sgm F1 j i + uN s.2.1 * B32 ^ i = sgm F j i + sgm G 0 i)
    (fun r => ∃ F1 : Nat → Int64, LA r.1 ad F1 ∧ On ad h r.1 ∧ (∀ x, x < n → uN (F1 (j + x)) < B32) ∧ (∀ x, (x < j ∨ j + n ≤ x) → F1 x = F x) ∧ uN r.2 ≤ 1 ∧ sgm F1 j n + uN r.2 * B32 ^ n = sgm F j n + sgm G 0 n)
    n (by omega) (s := (h, (0 : Int64), (0 : Int32))) ⟨rfl, F, hF, On.rf, fun x hx => by omega, fun _ _ => rfl, by rw [uN_0]; omega, by rw [uN_0]; rfl⟩ (by
    rintro i ⟨s, cy, iv⟩ hi ⟨hiv, F1, L1, O1, dl, kl, hcy, hv⟩
    dsimp only at hiv L1 O1 hcy hv ⊢
    subst hiv
    unfold zb_X0_giveBack_5
    by_cases hlt : i < n
    · have ds := d.off O1 hu
      have Gs := hG.off O1 (Ne.symm hne)
      rw [if_neg (nI_ge hlt (by omega)), ds.g3, ds.g4]
      simp only [Option.bind_some]
      rw [nI_add, L1.get (by omega), Gs.get (by omega), kl (i + j) (Or.inr (by omega))]
      simp only [Option.bind_some, lt_]
      have l1 := dF i (by omega)
      have l2 := dG i hlt
      rw [Nat.add_comm i j]
      have et := uN_add3 l1 l2 hcy
      generalize F (j + i) + G i + cy = t at et ⊢
      obtain ⟨g, eg, Lg, Og⟩ := L1.put (k := j + i) (by omega) (t &&& (4294967295 : Int64))
      rw [eg]
      simp only [Option.bind_some]
      refine ⟨_, rfl, fun s' hs => ?_, fun r hr => by (cases hr)⟩
      obtain rfl := Sum.inl.inj hs
      dsimp only
      refine ⟨hlt, nI_1 i, _, Lg, O1.tr Og, fun x hx => ?_, fun x hx => ?_, ?_, ?_⟩
      · by_cases e : x = i
        · subst e
          rw [pk_uLs, uN_mk]
          exact Nat.mod_lt _ (by decide)
        · rw [pk_uLn (by omega)]
          exact dl x (by omega)
      · rw [pk_uLn (by omega)]
        exact kl x (by omega)
      · rw [uN_sh, et]
        unfold B32 at l1 l2 ⊢
        omega
      · rw [sgm_s, sgm_s, sgm_s, sgm_upd (Nat.le_refl _), pk_uLs, uN_mk, uN_sh, B32_s]
        have hm2 := mdP (uN t) (B32 ^ i)
        have h8 : uN t * B32 ^ i = uN (F (j + i)) * B32 ^ i + uN (G i) * B32 ^ i + uN cy * B32 ^ i := by rw [et, Nat.add_mul, Nat.add_mul]
        rw [Nat.zero_add]
        omega
    · rw [if_pos (nI_le (by omega) (by omega))]
      refine ⟨_, rfl, fun s' hs => by (cases hs), fun r hr => ?_⟩
      obtain rfl := Sum.inr.inj hr
      have e : i = n := by omega
      subst e
      exact ⟨F1, L1, O1, dl, kl, hcy, hv⟩)
  rw [hr]
  simp only [Option.bind_some]
  have ds := d.off O1 hu
  rw [ds.g3, nI_add]
  simp only [Option.bind_some]
  rw [L1.get (by omega), k1 (j + n) (Or.inr (Nat.le_refl _))]
  simp only [Option.bind_some]
  obtain ⟨g, eg, Lg, Og⟩ := L1.put (k := j + n) (by omega) ((F (j + n) + r.2) &&& (4294967295 : Int64))
  rw [eg]
  have ln := dF n (Nat.le_refl n)
  have et : uN (F (j + n) + r.2) = uN (F (j + n)) + uN r.2 := uN_addE (by unfold B32 at ln; omega)
  refine ⟨g, _, rfl, Lg, O1.tr Og, fun i hi => ?_, fun x hx => ?_, (uN (F (j + n)) + uN r.2) / B32, ?_, ?_⟩
  · by_cases e : i = n
    · subst e
      rw [pk_uLs, uN_mk]
      exact Nat.mod_lt _ (by decide)
    · rw [pk_uLn (by omega)]
      exact d1 i (by omega)
  · rw [pk_uLn (by omega)]
    exact k1 x (by omega)
  · unfold B32 at ln ⊢
    omega
  · rw [sgm_s, sgm_s, sgm_upd (Nat.le_refl _), pk_uLs, uN_mk, et, B32_s]
    have hm2 := mdP (uN (F (j + n)) + uN r.2) (B32 ^ n)
    rw [Nat.add_mul (uN (F (j + n))) (uN r.2)] at hm2
    omega
end Gvb
