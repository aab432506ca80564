def okW (w : WR) (x : Int) : Prop := ∃ k, w.2.1 = nI k ∧ k ≤ 26 ∧ (∀ i, i < k → uN (w.1 i) < B32) ∧ (0 < k → w.1 (k - 1) ≠ 0) ∧ ((w.2.2 = 0 ∧ x = (vN (dgs w.1) k : Int)) ∨ (w.2.2 = 1 ∧ 0 < k ∧ x = -(vN (dgs w.1) k : Int)))
def WS (L : Nat → Prop) (q : Nat → Nat) (h : AH) (V : Nat → Int) : Prop := ∃ σ, HW L q h σ ∧ ∀ o, L o → okW (σ o) (V o)
theorem nz_uN {x : Int64} (hx : x ≠ 0) : uN x ≠ 0 := fun e => hx (uN_inj (e.trans uN_0.symm))
theorem vN_pos {d : Nat → Nat} {k : Nat} (h : 0 < k) (ht : d (k - 1) ≠ 0) : 0 < vN d k := by
  obtain ⟨n, rfl⟩ : ∃ n, k = n + 1 := ⟨k - 1, by omega⟩
  have := vN_ge (d := d) (k := n) ht
  have := B32_pos n
  omega
/-- a whole below B^n has at most n parts -/
theorem vN_kle {d : Nat → Nat} {k n : Nat} (ht : 0 < k → d (k - 1) ≠ 0) (h : vN d k < B32 ^ n) : k ≤ n := by
  rcases Nat.lt_or_ge n k with hk | hk
  · exfalso
    obtain ⟨j, rfl⟩ : ∃ j, k = j + 1 := ⟨k - 1, by omega⟩
    have h1 := vN_ge (d := d) (k := j) (ht (by omega))
    have h2 : B32 ^ n ≤ B32 ^ j := Nat.pow_le_pow_right (by decide) (by omega)
    omega
  · exact hk
theorem okW_fin {f : Nat → Int64} {m : Nat} (hm : m ≤ 26) (hd : ∀ i, i < m → uN (f i) < B32) (b : Int32) : okW (f, nI (tl f m), if b = 0 ∨ tl f m = 0 then 0 else 1) (if b = 0 then (vN (dgs f) m : Int) else -(vN (dgs f) m : Int)) := by
  have hle := tl_le f m
  have hv : vN (dgs f) (tl f m) = vN (dgs f) m := tl_vN f m
  refine ⟨tl f m, rfl, by omega, fun i hi => hd i (by omega), tl_top f m, ?_⟩
  by_cases hb : b = 0
  · left
    dsimp only
    rw [if_pos (Or.inl hb), if_pos hb, hv]
    exact ⟨rfl, rfl⟩
  · rw [if_neg hb]
    by_cases h0 : tl f m = 0
    · left
      dsimp only
      rw [if_pos (Or.inr h0), hv]
      rw [h0] at hv
      have : vN (dgs f) m = 0 := by rw [← hv]; rfl
      rw [this]
      exact ⟨rfl, rfl⟩
    · right
      dsimp only
      rw [if_neg (by rintro (x | x) <;> contradiction), hv]
      exact ⟨rfl, by omega, rfl⟩
section Vals
variable {L : Nat → Prop} {q : Nat → Nat} {h h' h'' : AH} {σ : Nat → WR} {V : Nat → Int} {a b c o : Nat}
theorem WS.up {w : WR} (H : HW L q h (va_up σ c w)) (hV : ∀ o, L o → okW (σ o) (V o)) {x : Int} (hw : okW w x) : WS L q h (va_up V c x) := by
  refine ⟨_, H, fun o ho => ?_⟩
  by_cases e : o = c
  · subst e; rw [va_us, va_us]; exact hw
  · rw [va_un e, va_un e]; exact hV o ho
/-- the sign's value -/
def sgv (b : Int32) (n : Nat) : Int := if b = 0 then (n : Int) else -(n : Int)
theorem okW_sg {w : WR} {x : Int} (hw : okW w x) : ∃ k, w.2.1 = nI k ∧ k ≤ 26 ∧ (∀ i, i < k → uN (w.1 i) < B32) ∧ (0 < k → w.1 (k - 1) ≠ 0) ∧ (w.2.2 = 0 ∨ w.2.2 = 1) ∧ x = sgv w.2.2 (vN (dgs w.1) k) ∧ x.natAbs = vN (dgs w.1) k := by
  obtain ⟨k, h1, h2, h3, h4, h5⟩ := hw
  refine ⟨k, h1, h2, h3, h4, ?_⟩
  rcases h5 with ⟨e, hx⟩ | ⟨e, h0, hx⟩
  · refine ⟨Or.inl e, ?_, ?_⟩
    · rw [e, hx]; rfl
    · rw [hx]; exact Int.natAbs_natCast _
  · refine ⟨Or.inr e, ?_, ?_⟩
    · rw [e, hx]; rfl
    · rw [hx, Int.natAbs_neg]; exact Int.natAbs_natCast _
end Vals
