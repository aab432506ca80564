/-- how many parts are left when the zeros on top go -/
def tl (f : Nat → Int64) : Nat → Nat
  | 0 => 0
  | k + 1 => if f k = 0 then tl f k else k + 1
theorem tl_s (f : Nat → Int64) (k : Nat) : tl f (k + 1) = if f k = 0 then tl f k else k + 1 := rfl
theorem tl_le (f : Nat → Int64) : ∀ k, tl f k ≤ k
  | 0 => Nat.le_refl 0
  | k + 1 => by
    unfold tl
    split
    · exact Nat.le_trans (tl_le f k) (by omega)
    · exact Nat.le_refl _
theorem tl_top (f : Nat → Int64) : ∀ k, 0 < tl f k → f (tl f k - 1) ≠ 0
  | 0, h => absurd h (by unfold tl; omega)
  | k + 1, h => by
    unfold tl at h ⊢
    split at h
    · rename_i hz
      rw [if_pos hz]
      exact tl_top f k h
    · rename_i hz
      rw [if_neg hz]
      exact hz
theorem tl_vN (f : Nat → Int64) : ∀ k, vN (fun i => uN (f i)) (tl f k) = vN (fun i => uN (f i)) k
  | 0 => rfl
  | k + 1 => by
    unfold tl
    split
    · rename_i hz
      rw [tl_vN f k]
      show _ = vN _ k + uN (f k) * B32 ^ k
      rw [hz, uN_0]
      omega
    · rfl
section Whs
variable {L : Nat → Prop} {q : Nat → Nat} {h h' h'' : AH} {σ : Nat → WR} {o o' : Nat}
theorem p_partAt (H : HW L q h σ) (ho : L o) {k i : Nat} (hk : (σ o).2.1 = nI k) (hk26 : k ≤ 26) (hi : i < 2 ^ 31) : zs_X8_partAt h o (nI i) = some (if i < k then (σ o).1 i else 0) := by
  unfold zs_X8_partAt
  rw [if_neg (nI_pos hi), H.gI1 ho, hk]
  simp only [Option.bind_some]
  by_cases hik : i < k
  · rw [if_neg (nI_ge hik (by omega)), H.gR0 ho]
    simp only [Option.bind_some]
    rw [H.aJ ho (by omega)]
    simp only [Option.bind_some]
    rw [if_pos hik]
  · rw [if_pos (nI_le (by omega) hi), if_neg hik]
theorem p_partNeg (h : AH) {i : Int32} (hi : i < 0) (o : Nat) : zs_X8_partAt h o i = some 0 := by
  unfold zs_X8_partAt
  rw [if_pos hi]
theorem p_trim (H : HW L q h σ) (ho : L o) {c : Nat} (hc : c ≤ 26) : ∃ h', zs_X8_trim h o (nI c) = some h' ∧ HW L q h' (va_up σ o ((σ o).1, nI (tl (σ o).1 c), (σ o).2.2)) ∧ Fr L q h h' := by
  unfold zs_X8_trim
  obtain ⟨g1, e1, H1, F1⟩ := H.pN ho (nI c)
  rw [e1]
  simp only [Option.bind_some]
  obtain ⟨r, hr, Hr, Fr1⟩ := iter_FU (B := fun x => zb_X8_trim_5 o x) (fun i s => HW L q s (va_up σ o ((σ o).1, nI (c - i), (σ o).2.2)) ∧ Fr L q h s ∧ tl (σ o).1 (c - i) = tl (σ o).1 c) (fun r => HW L q r (va_up σ o ((σ o).1, nI (tl (σ o).1 c), (σ o).2.2)) ∧ Fr L q h r) c (by omega) (s := g1) ⟨H1, F1, rfl⟩ (by
    intro i s hi ⟨Hs, Fs, ht⟩
    unfold zb_X8_trim_5
    have e2 := Hs.gI1 ho
    rw [va_us] at e2
    simp only [e2, Option.bind_some]
    by_cases h0 : c - i = 0
    · rw [h0] at Hs ht ⊢
      rw [if_pos (by decide)]
      refine ⟨_, rfl, fun s' hs => by (cases hs), fun r hr => ?_⟩
      cases hr
      rw [← ht]
      exact ⟨Hs, Fs⟩
    · rw [if_neg (nI_nle (by omega) (by omega)), Hs.gR0 ho]
      simp only [Option.bind_some]
      obtain ⟨j, hj⟩ : ∃ j, c - i = j + 1 := ⟨c - i - 1, by omega⟩
      rw [hj] at Hs ht ⊢
      have e3 := Hs.aJ ho (k := j) (by omega)
      rw [va_us] at e3
      have e4 : nI (j + 1) - (1 : Int32) = nI j := nI_pred j
      rw [e4, e3]
      simp only [Option.bind_some]
      rw [tl_s (σ o).1 j] at ht
      by_cases hz : (σ o).1 j = 0
      · rw [if_pos hz]
        rw [if_pos hz] at ht
        obtain ⟨g, eg, Hg, Fg⟩ := Hs.pN ho (nI j)
        rw [eg]
        simp only [Option.bind_some]
        refine ⟨_, rfl, fun s' hs => ?_, fun r hr => by (cases hr)⟩
        cases hs
        rw [va_us, va_uu] at Hg
        refine ⟨by omega, ?_, Fs.tr Fg, ?_⟩
        · rw [show c - (i + 1) = j by omega]; exact Hg
        · rw [show c - (i + 1) = j by omega]; exact ht
      · rw [if_neg hz]
        rw [if_neg hz] at ht
        refine ⟨_, rfl, fun s' hs => by (cases hs), fun r hr => ?_⟩
        cases hr
        rw [← ht]
        exact ⟨Hs, Fs⟩)
  rw [hr]
  exact ⟨r, rfl, Hr, Fr1⟩
theorem p_takeSign (H : HW L q h σ) (ho : L o) {k : Nat} (hk : (σ o).2.1 = nI k) (hk26 : k ≤ 26) (b : Int32) : ∃ h', zs_X8_takeSign h o b = some h' ∧ HW L q h' (va_up σ o ((σ o).1, nI k, if b = 0 ∨ k = 0 then 0 else 1)) ∧ Fr L q h h' := by
  unfold zs_X8_takeSign zj_X8_takeSign_17
  by_cases hb : b = 0
  · rw [if_pos hb, if_pos (Or.inl hb)]
    obtain ⟨g, eg, Hg, Fg⟩ := H.pB ho 0
    rw [eg, hk] at *
    exact ⟨g, rfl, Hg, Fg⟩
  · rw [if_neg hb, H.gI1 ho, hk]
    simp only [Option.bind_some]
    by_cases h0 : k = 0
    · subst h0
      rw [if_pos (by decide), if_pos (Or.inr rfl)]
      obtain ⟨g, eg, Hg, Fg⟩ := H.pB ho 0
      rw [eg, hk] at *
      exact ⟨g, rfl, Hg, Fg⟩
    · rw [if_neg (nI_nle (by omega) (by omega)), if_neg (by rintro (x | x) <;> contradiction)]
      obtain ⟨g, eg, Hg, Fg⟩ := H.pB ho 1
      rw [eg, hk] at *
      exact ⟨g, rfl, Hg, Fg⟩
end Whs
