/-- what else may change: the cells of E -/
def Fx (L : Nat → Prop) (q : Nat → Nat) (E : Nat → Prop) (h h' : AH) : Prop := h'.2 = h.2 ∧ ∀ a, (∀ o, L o → a ≠ o ∧ a ≠ q o) → ¬ E a → h'.1 a = h.1 a
section Fil
variable {L : Nat → Prop} {q : Nat → Nat} {h h' h'' : AH} {σ : Nat → WR} {V : Nat → Int} {a b c o u0 aq al ao ad av x : Nat} {F G : Nat → Int64} {E : Nat → Prop}
theorem Fx.rf : Fx L q E h h := ⟨rfl, fun _ _ _ => rfl⟩
theorem Fx.tr (p : Fx L q E h h') (r : Fx L q E h' h'') : Fx L q E h h'' := ⟨r.1.trans p.1, fun a ha hE => (r.2 a ha hE).trans (p.2 a ha hE)⟩
theorem Fr.fx (p : Fr L q h h') : Fx L q E h h' := ⟨p.1, fun a ha _ => p.2 a ha⟩
theorem On.fx (p : On x h h') (hx : E x) : Fx L q E h h' := ⟨p.1, fun a _ hE => p.2 a (fun e => hE (by rw [e]; exact hx))⟩
theorem HW.off (H : HW L q h σ) (hx : ∀ o, L o → x ≠ o ∧ x ≠ q o) (O : On x h h') : HW L q h' σ :=
  ⟨fun o ho => ⟨(O.2 o (Ne.symm (hx o ho).1)).trans (H.1 o ho).1, (O.2 (q o) (Ne.symm (hx o ho).2)).trans (H.1 o ho).2⟩, H.2⟩
theorem la_off (H : HW L q h σ) (l : LA h ad F) : ∀ o, L o → ad ≠ o ∧ ad ≠ q o := by
  intro o ho
  refine ⟨fun e => ?_, fun e => ?_⟩
  · have h1 := (H.1 o ho).1
    rw [← e, show h.1 ad = _ from l] at h1
    cases h1
  · have h1 := (H.1 o ho).2
    rw [← e, show h.1 ad = _ from l] at h1
    injection h1 with h1
    injection h1 with h1
    injection h1 with _ h1
    injection h1 with h1 _
    exact absurd h1 (by decide)
theorem do_off (H : HW L q h σ) (d : DO h u0 aq al ao ad av) : ∀ o, L o → u0 ≠ o ∧ u0 ≠ q o := by
  intro o ho
  refine ⟨fun e => ?_, fun e => ?_⟩
  · have h1 := (H.1 o ho).1
    rw [← e, show h.1 u0 = _ from d] at h1
    injection h1 with h1
    injection h1 with h1
    injection h1 with h1 _
    exact absurd h1 (by decide)
  · have h1 := (H.1 o ho).2
    rw [← e, show h.1 u0 = _ from d] at h1
    cases h1
theorem do_la (d : DO h u0 aq al ao ad av) (l : LA h x F) : u0 ≠ x := by
  intro e
  have h1 : h.1 x = _ := l
  rw [← e, show h.1 u0 = _ from d] at h1
  cases h1
theorem p_fillA (H : HW L q h σ) (ha : L a) (d : DO h u0 aq al ao ad av) (hF : LA h ad F) {x : Int} (hx : okW (σ a) x) {k : Nat} (hk : (σ a).2.1 = nI k) (hk26 : k ≤ 26) {u : Nat} (hu : u < 32) (w2 : Nat) (w3 : Int32) :
    ∃ (r : AH) (F' : Nat → Int64), iter (fun x : AH × Int32 => zb_X0_divideLong_23 u0 a w2 w3 (nI u) x.1 x.2) FU (h, (0 : Int32)) = some r ∧ LA r ad F' ∧ On ad h r ∧ ∀ i, i ≤ k → uN (F' i) = x.natAbs * 2 ^ u / B32 ^ i % B32 := by
  have hu0 : (nI u).toInt = u := nI_toInt (by omega)
  obtain ⟨r, hr, F', L', O', v'⟩ := iter_FU (B := fun x : AH × Int32 => zb_X0_divideLong_23 u0 a w2 w3 (nI u) x.1 x.2)
    (fun i s => s.2 = nI i ∧ ∃ F1 : Nat → Int64, LA s.1 ad F1 ∧ On ad h s.1 ∧ ∀ y, y < i → uN (F1 y) = x.natAbs * 2 ^ u / B32 ^ y % B32)
    (fun r => ∃ F1 : Nat → Int64, LA r ad F1 ∧ On ad h r ∧ ∀ y, y ≤ k → uN (F1 y) = x.natAbs * 2 ^ u / B32 ^ y % B32)
    (k + 1) (by omega) (s := (h, (0 : Int32))) ⟨rfl, F, hF, On.rf, fun y hy => by omega⟩ (by
    rintro i ⟨s, iv⟩ hi ⟨hiv, F1, L1, O1, v1⟩
    dsimp only at hiv L1 O1 ⊢
    subst hiv
    have Hs := H.off (la_off H hF) O1
    have ds := d.off O1 (do_la d hF)
    unfold zb_X0_divideLong_23
    rw [Hs.gI1 ha, hk]
    simp only [Option.bind_some]
    by_cases hlt : i ≤ k
    · rw [if_neg (nI_nlt hlt (by omega)), ds.g3, Hs.chk ha]
      simp only [Option.bind_some]
      rw [p_movedPart Hs ha hx (by omega) (by omega) (by omega), hu0]
      simp only [Option.bind_some]
      have em : mvN x.natAbs (u : Int) = x.natAbs * 2 ^ u := by unfold mvN; rw [if_pos (by omega)]; rfl
      rw [em]
      obtain ⟨g, eg, Lg, Og⟩ := L1.put (k := i) (by omega) (lN (x.natAbs * 2 ^ u / B32 ^ i % B32))
      rw [eg]
      simp only [Option.bind_some]
      refine ⟨_, rfl, fun s' hs => ?_, fun r hr => by (cases hr)⟩
      obtain rfl := Sum.inl.inj hs
      refine ⟨by omega, nI_1 i, _, Lg, O1.tr Og, fun y hy => ?_⟩
      by_cases e : y = i
      · subst e; rw [pk_uLs]; exact uN_lN (Nat.lt_trans (Nat.mod_lt _ (by decide)) (by decide))
      · rw [pk_uLn e]; exact v1 y (by omega)
    · rw [if_pos (nI_lt (by omega) (by omega))]
      refine ⟨_, rfl, fun s' hs => by (cases hs), fun r hr => ?_⟩
      obtain rfl := Sum.inr.inj hr
      exact ⟨F1, L1, O1, fun y hy => v1 y (by omega)⟩)
  exact ⟨r, F', hr, L', O', v'⟩
theorem p_fillB (H : HW L q h σ) (hb : L b) (d : DO h u0 aq al ao ad av) (hG : LA h av G) {x : Int} (hx : okW (σ b) x) {k : Nat} (hk26 : k ≤ 26) {u : Nat} (hu : u < 32) (w1 : Nat) :
    ∃ (r : AH) (G' : Nat → Int64), iter (fun x : AH × Int32 => zb_X0_divideLong_56 u0 w1 b (nI k) (nI u) x.1 x.2) FU (h, (0 : Int32)) = some r ∧ LA r av G' ∧ On av h r ∧ ∀ i, i < k → uN (G' i) = x.natAbs * 2 ^ u / B32 ^ i % B32 := by
  have hu0 : (nI u).toInt = u := nI_toInt (by omega)
  obtain ⟨r, hr, F', L', O', v'⟩ := iter_FU (B := fun x : AH × Int32 => zb_X0_divideLong_56 u0 w1 b (nI k) (nI u) x.1 x.2)
    (fun i s => s.2 = nI i ∧ ∃ F1 : Nat → Int64, LA s.1 av F1 ∧ On av h s.1 ∧ ∀ y, y < i → uN (F1 y) = x.natAbs * 2 ^ u / B32 ^ y % B32)
    (fun r => ∃ F1 : Nat → Int64, LA r av F1 ∧ On av h r ∧ ∀ y, y < k → uN (F1 y) = x.natAbs * 2 ^ u / B32 ^ y % B32)
    k (by omega) (s := (h, (0 : Int32))) ⟨rfl, G, hG, On.rf, fun y hy => by omega⟩ (by
    rintro i ⟨s, iv⟩ hi ⟨hiv, F1, L1, O1, v1⟩
    dsimp only at hiv L1 O1 ⊢
    subst hiv
    have Hs := H.off (la_off H hG) O1
    have ds := d.off O1 (do_la d hG)
    unfold zb_X0_divideLong_56
    by_cases hlt : i < k
    · rw [if_neg (nI_ge hlt (by omega)), ds.g4, Hs.chk hb]
      simp only [Option.bind_some]
      rw [p_movedPart Hs hb hx (by omega) (by omega) (by omega), hu0]
      simp only [Option.bind_some]
      have em : mvN x.natAbs (u : Int) = x.natAbs * 2 ^ u := by unfold mvN; rw [if_pos (by omega)]; rfl
      rw [em]
      obtain ⟨g, eg, Lg, Og⟩ := L1.put (k := i) (by omega) (lN (x.natAbs * 2 ^ u / B32 ^ i % B32))
      rw [eg]
      simp only [Option.bind_some]
      refine ⟨_, rfl, fun s' hs => ?_, fun r hr => by (cases hr)⟩
      obtain rfl := Sum.inl.inj hs
      refine ⟨hlt, nI_1 i, _, Lg, O1.tr Og, fun y hy => ?_⟩
      by_cases e : y = i
      · subst e; rw [pk_uLs]; exact uN_lN (Nat.lt_trans (Nat.mod_lt _ (by decide)) (by decide))
      · rw [pk_uLn e]; exact v1 y (by omega)
    · rw [if_pos (nI_le (by omega) (by omega))]
      refine ⟨_, rfl, fun s' hs => by (cases hs), fun r hr => ?_⟩
      obtain rfl := Sum.inr.inj hr
      exact ⟨F1, L1, O1, fun y hy => v1 y (by omega)⟩)
  exact ⟨r, F', hr, L', O', v'⟩
end Fil
