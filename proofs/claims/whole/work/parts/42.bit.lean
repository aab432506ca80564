section Rbt
variable {L : Nat → Prop} {q : Nat → Nat} {h : AH} {σ : Nat → WR} {V : Nat → Int} {o : Nat}
theorem p_raiseLoop (H : HW L q h σ) (ho : L o) {k p : Nat} (hk : (σ o).2.1 = nI k) (hk26 : k ≤ 26) (hp : p < 26) (w1 : Int32) :
    ∃ (r : AH) (f : Nat → Int64) (k' : Nat), iter (fun x : AH => zb_X8_raiseBit_15 o w1 (nI p) x) FU h = some r ∧ HW L q r (va_up σ o (f, nI k', (σ o).2.2)) ∧ Fr L q h r ∧ k ≤ k' ∧ p < k' ∧ k' ≤ 26 ∧ (k' = k ∨ k' = p + 1) ∧ (∀ j, j < k → f j = (σ o).1 j) ∧ (∀ j, k ≤ j → j < k' → f j = 0) := by
  obtain ⟨r, hr, f, k', Hr, Fr1, g1, g2, g3, g4, g5, g6⟩ := iter_FU (B := fun x : AH => zb_X8_raiseBit_15 o w1 (nI p) x)
    (fun i s => ∃ f : Nat → Int64, HW L q s (va_up σ o (f, nI (k + i), (σ o).2.2)) ∧ Fr L q h s ∧ (i = 0 ∨ k + i ≤ p + 1) ∧ (∀ j, j < k → f j = (σ o).1 j) ∧ (∀ j, k ≤ j → j < k + i → f j = 0))
    (fun r => ∃ (f : Nat → Int64) (k' : Nat), HW L q r (va_up σ o (f, nI k', (σ o).2.2)) ∧ Fr L q h r ∧ k ≤ k' ∧ p < k' ∧ k' ≤ 26 ∧ (k' = k ∨ k' = p + 1) ∧ (∀ j, j < k → f j = (σ o).1 j) ∧ (∀ j, k ≤ j → j < k' → f j = 0))
    (p + 1) (by omega) (s := h) ⟨(σ o).1, by rw [Nat.add_zero, ← hk, va_ue]; exact H, Fr.rf, Or.inl rfl, fun _ _ => rfl, fun j h1 h2 => by omega⟩ (by
    rintro i s hi ⟨f, Hs, Fs, hb, fl, fz⟩
    unfold zb_X8_raiseBit_15
    have e1 := Hs.gI1 ho
    rw [va_us] at e1
    rw [e1]
    simp only [Option.bind_some]
    by_cases hlt : p < k + i
    · rw [if_pos (nI_lt hlt (by omega))]
      refine ⟨_, rfl, fun s' hs => by (cases hs), fun r hr => ?_⟩
      obtain rfl := Sum.inr.inj hr
      exact ⟨f, k + i, Hs, Fs, by omega, hlt, by omega, by omega, fl, fz⟩
    · rw [if_neg (nI_nlt (by omega) (by omega)), Hs.gR0 ho]
      simp only [Option.bind_some]
      obtain ⟨g, eg, Hg, Fg⟩ := Hs.sJ ho (k := k + i) (by omega) (0 : Int64)
      rw [eg]
      simp only [Option.bind_some]
      rw [va_us, va_uu] at Hg
      dsimp only at Hg
      have e2 := Hg.gI1 ho
      rw [va_us] at e2
      rw [e2]
      simp only [Option.bind_some]
      have e3 : nI (k + i) + (1 : Int32) = nI (k + (i + 1)) := nI_1 (k + i)
      rw [e3]
      obtain ⟨g2, eg2, Hg2, Fg2⟩ := Hg.pN ho (nI (k + (i + 1)))
      rw [eg2]
      simp only [Option.bind_some]
      rw [va_us, va_uu] at Hg2
      dsimp only at Hg2
      refine ⟨_, rfl, fun s' hs => ?_, fun r hr => by (cases hr)⟩
      obtain rfl := Sum.inl.inj hs
      refine ⟨by omega, _, Hg2, Fs.tr (Fg.tr Fg2), Or.inr (by omega), fun j hj => ?_, fun j h1 h2 => ?_⟩
      · rw [pk_uLn (by omega)]; exact fl j hj
      · by_cases e : j = k + i
        · subst e; exact pk_uLs
        · rw [pk_uLn e]; exact fz j h1 (by omega))
  exact ⟨r, f, k', hr, Hr, Fr1, g1, g2, g3, g4, g5, g6⟩
end Rbt
