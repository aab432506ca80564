/-! the state that calls show: slots; ratios; tape; text; digits -/
abbrev AS : Type := (Nat → Int) × ((Nat → Int) × (Nat → Int)) × (Nat × (Nat → Nat)) × (Nat × (Nat → Nat)) × (Nat × Nat × (Nat → Nat))
def AS.sl (S : AS) : Nat → Int := S.1
def AS.tp (S : AS) : Nat → Int := S.2.1.1
def AS.bt (S : AS) : Nat → Int := S.2.1.2
def AS.tC (S : AS) : Nat := S.2.2.1.1
def AS.tB (S : AS) : Nat → Nat := S.2.2.1.2
def AS.oN (S : AS) : Nat := S.2.2.2.1.1
def AS.oB (S : AS) : Nat → Nat := S.2.2.2.1.2
def AS.eA (S : AS) : Nat := S.2.2.2.2.1
def AS.eM (S : AS) : Nat := S.2.2.2.2.2.1
def AS.eD (S : AS) : Nat → Nat := S.2.2.2.2.2.2
def setS (S : AS) (i : Nat) (x : Int) : AS := (va_up S.1 i x, S.2)
def setRt (S : AS) (r : Nat) (t b : Int) : AS := (S.1, (va_up S.tp r t, va_up S.bt r b), S.2.2)
def setT (S : AS) (C : Nat) (b : Nat → Nat) : AS := (S.1, S.2.1, (C, b), S.2.2.2)
def setO (S : AS) (N : Nat) (b : Nat → Nat) : AS := (S.1, S.2.1, S.2.2.1, (N, b), S.2.2.2.2)
def setEx (S : AS) (A m : Nat) (f : Nat → Nat) : AS := (S.1, S.2.1, S.2.2.1, S.2.2.2.1, (A, m, f))
def rOk (t b : Int) : Prop := 0 < b ∧ Nat.Coprime t.natAbs b.natAbs ∧ t.natAbs < B32 ^ 12 ∧ b.natAbs < B32 ^ 12
def SI (S : AS) : Prop := (∀ i, i < 24 → (S.sl i).natAbs < B32 ^ 12) ∧ (∀ r, r < 12 → rOk (S.tp r) (S.bt r)) ∧ (S.tC ≤ 120 ∧ ∀ k, k < S.tC → S.tB k < 256) ∧ (S.oN ≤ 385 ∧ ∀ k, k < S.oN → S.oB k < 128) ∧ (S.eA + S.eM ≤ 200 ∧ ∀ j, j < S.eA + S.eM → S.eD j < 36)
/-! an argument as a slot, a ratio, a base -/
def ixI (N : Nat) (x : Int32) : Option Nat := if 0 ≤ x.toInt ∧ x.toInt < N then some x.toInt.toNat else none
theorem ixI_some {N : Nat} {x : Int32} {i : Nat} (h : ixI N x = some i) : x = nI i ∧ i < N := by
  unfold ixI at h
  split at h
  · rename_i hh
    obtain rfl := Option.some.inj h
    exact ⟨i32_nn hh.1, by omega⟩
  · cases h
theorem ixI_none {N : Nat} {x : Int32} (h : ixI N x = none) : x.toInt < 0 ∨ (N : Int) ≤ x.toInt := by
  unfold ixI at h
  split at h
  · cases h
  · rename_i hh
    omega
theorem ixI_nI {N i : Nat} (h : i < N) (hN : N < 2 ^ 31) : ixI N (nI i) = some i := by
  unfold ixI
  rw [nI_toInt (by omega), if_pos (by omega)]
  rfl
theorem i32_lt0 {x : Int32} : x < 0 ↔ x.toInt < 0 := Int32.lt_iff_toInt_lt
theorem i32_le {x y : Int32} : x ≤ y ↔ x.toInt ≤ y.toInt := Int32.le_iff_toInt_le
theorem i32_lt {x y : Int32} : x < y ↔ x.toInt < y.toInt := Int32.lt_iff_toInt_lt
theorem isSlot_y (h : AH) {i : Nat} (hi : i < 24) : zs_X9_isSlot h (nI i) = some 1 := by
  unfold zs_X9_isSlot
  rw [if_neg (nI_pos (by omega)), if_neg (show ¬ (24 : Int32) ≤ nI i from nI_ge (b := 24) hi (by decide))]
theorem isSlot_n (h : AH) {x : Int32} (hx : ixI 24 x = none) : zs_X9_isSlot h x = some 0 := by
  unfold zs_X9_isSlot
  by_cases h0 : x < 0
  · rw [if_pos h0]
  · rw [if_neg h0, if_pos]
    rcases ixI_none hx with h1 | h1
    · exact absurd (i32_lt0.mpr h1) h0
    · exact i32_le.mpr h1
theorem isRatio_y (h : AH) {i : Nat} (hi : i < 12) : zs_X9_isRatio h (nI i) = some 1 := by
  unfold zs_X9_isRatio
  rw [if_neg (nI_pos (by omega)), if_neg (show ¬ (12 : Int32) ≤ nI i from nI_ge (b := 12) hi (by decide))]
theorem isRatio_n (h : AH) {x : Int32} (hx : ixI 12 x = none) : zs_X9_isRatio h x = some 0 := by
  unfold zs_X9_isRatio
  by_cases h0 : x < 0
  · rw [if_pos h0]
  · rw [if_neg h0, if_pos]
    rcases ixI_none hx with h1 | h1
    · exact absurd (i32_lt0.mpr h1) h0
    · exact i32_le.mpr h1
/-- 2 to 36 -/
def bsI (x : Int32) : Option Nat := if 2 ≤ x.toInt ∧ x.toInt ≤ 36 then some x.toInt.toNat else none
theorem bsI_some {x : Int32} {q : Nat} (h : bsI x = some q) : x = nI q ∧ 2 ≤ q ∧ q ≤ 36 := by
  unfold bsI at h
  split at h
  · rename_i hh
    obtain rfl := Option.some.inj h
    exact ⟨i32_nn (by omega), by omega⟩
  · cases h
theorem isBase_y (h : AH) {q : Nat} (h2 : 2 ≤ q) (hq : q ≤ 36) : zs_X9_isBase h (nI q) = some 1 := by
  unfold zs_X9_isBase
  rw [if_neg (show ¬ nI q < (2 : Int32) from nI_nlt (b := 2) h2 (by omega)), if_neg (show ¬ (36 : Int32) < nI q from nI_nlt (a := 36) hq (by decide))]
theorem isBase_n (h : AH) {x : Int32} (hx : bsI x = none) : zs_X9_isBase h x = some 0 := by
  unfold zs_X9_isBase
  unfold bsI at hx
  by_cases h0 : x < (2 : Int32)
  · rw [if_pos h0]
  · rw [if_neg h0, if_pos]
    have h1 : ¬ x.toInt < 2 := fun z => h0 (i32_lt.mpr z)
    split at hx
    · cases hx
    · refine i32_lt.mpr ?_
      show (36 : Int) < _
      omega
theorem areSlots_y (h : AH) {a b c : Nat} (ha : a < 24) (hb : b < 24) (hc : c < 24) : zs_X9_areSlots h (nI a) (nI b) (nI c) = some 1 := by
  unfold zs_X9_areSlots
  rw [isSlot_y h ha, isSlot_y h hb, isSlot_y h hc]
  rfl
theorem areSlots_n (h : AH) {a b c : Int32} (hx : ixI 24 a = none ∨ ixI 24 b = none ∨ ixI 24 c = none) : zs_X9_areSlots h a b c = some 0 := by
  unfold zs_X9_areSlots
  cases h1 : ixI 24 a with
  | none => rw [isSlot_n h h1]; rfl
  | some i =>
    obtain ⟨rfl, hi⟩ := ixI_some h1
    rw [isSlot_y h hi]
    simp only [Option.bind_some]
    rw [if_neg (by decide)]
    cases h2 : ixI 24 b with
    | none => rw [isSlot_n h h2]; rfl
    | some j =>
      obtain ⟨rfl, hj⟩ := ixI_some h2
      rw [isSlot_y h hj]
      simp only [Option.bind_some]
      rw [if_neg (by decide)]
      have h3 : ixI 24 c = none := by
        rcases hx with hx | hx | hx
        · rw [h1] at hx; cases hx
        · rw [h2] at hx; cases hx
        · exact hx
      rw [isSlot_n h h3]
      rfl
/-! the object holds the state -/
def MS (M : Nat → Int) (S : AS) : Prop := (∀ i, i < 24 → M i = S.sl i) ∧ ∀ r, r < 12 → M (24 + r) = S.tp r ∧ M (36 + r) = S.bt r
def DD (d : DS) (S : AS) : Prop := tpe d S.tC S.tB ∧ (d.xc = nI S.oN ∧ ∀ k, k < S.oN → d.xb k = nI (S.oB k)) ∧ (d.hd = nI S.eA ∧ d.rd = nI S.eM ∧ ∀ j, j < S.eA + S.eM → d.ke j = nI (S.eD j))
def CI (B : AH) (n : Nat) (h : AH) (S : AS) : Prop := ∃ d M, CW B n d h M ∧ MS M S ∧ DD d S ∧ SI S
/-- a slot gets x, or it is too large -/
def kp (S : AS) (c : Nat) (x : Int) (r : Int32) (S' : AS) : Prop := (x.natAbs < B32 ^ 12 ∧ r = 1 ∧ S' = setS S c x) ∨ (¬ x.natAbs < B32 ^ 12 ∧ r = -5 ∧ S' = S)
def kpR (S : AS) (k : Nat) (t b : Int) (r : Int32) (S' : AS) : Prop := (t.natAbs < B32 ^ 12 ∧ b.natAbs < B32 ^ 12 ∧ r = 1 ∧ S' = setRt S k t b) ∨ (¬ (t.natAbs < B32 ^ 12 ∧ b.natAbs < B32 ^ 12) ∧ r = -5 ∧ S' = S)
theorem kp_uniq {S S1 S2 : AS} {c : Nat} {x : Int} {r1 r2 : Int32} (h1 : kp S c x r1 S1) (h2 : kp S c x r2 S2) : r1 = r2 ∧ S1 = S2 := by
  rcases h1 with ⟨a, rfl, rfl⟩ | ⟨a, rfl, rfl⟩ <;> rcases h2 with ⟨b, rfl, rfl⟩ | ⟨b, rfl, rfl⟩
  · exact ⟨rfl, rfl⟩
  · exact absurd a b
  · exact absurd b a
  · exact ⟨rfl, rfl⟩
theorem kpR_uniq {S S1 S2 : AS} {c : Nat} {x y : Int} {r1 r2 : Int32} (h1 : kpR S c x y r1 S1) (h2 : kpR S c x y r2 S2) : r1 = r2 ∧ S1 = S2 := by
  rcases h1 with ⟨a, a', rfl, rfl⟩ | ⟨a, rfl, rfl⟩ <;> rcases h2 with ⟨b, b', rfl, rfl⟩ | ⟨b, rfl, rfl⟩
  · exact ⟨rfl, rfl⟩
  · exact absurd ⟨a, a'⟩ b
  · exact absurd ⟨b, b'⟩ a
  · exact ⟨rfl, rfl⟩
section Sta2
variable {B h : AH} {n : Nat} {d : DS} {M M' : Nat → Int} {S : AS} {i k c : Nat}
theorem MS.fr (m : MS M S) (hf : ∀ x, x < 48 → M' x = M x) : MS M' S := ⟨fun i hi => (hf i (by omega)).trans (m.1 i hi), fun r hr => ⟨(hf _ (by omega)).trans (m.2 r hr).1, (hf _ (by omega)).trans (m.2 r hr).2⟩⟩
theorem MS.set (m : MS M S) (hc : c < 24) (x : Int) : MS (va_up M c x) (setS S c x) := by
  refine ⟨fun i hi => ?_, fun r hr => ⟨?_, ?_⟩⟩
  · show va_up M c x i = va_up S.sl c x i
    by_cases e : i = c
    · subst e; rw [va_us, va_us]
    · rw [va_un e, va_un e]; exact m.1 i hi
  · rw [va_un (by omega)]; exact (m.2 r hr).1
  · rw [va_un (by omega)]; exact (m.2 r hr).2
theorem SI.set (s : SI S) (hc : c < 24) {x : Int} (hx : x.natAbs < B32 ^ 12) : SI (setS S c x) := by
  refine ⟨fun i hi => ?_, s.2⟩
  show (va_up S.sl c x i).natAbs < _
  by_cases e : i = c
  · subst e; rw [va_us]; exact hx
  · rw [va_un e]; exact s.1 i hi
theorem MS.ratOk (m : MS M S) (s : SI S) {r : Nat} (hr : r < 12) : ratOk M r := by
  have h1 := m.2 r hr
  have h2 := s.2.1 r hr
  show 0 < M (36 + r) ∧ Nat.Coprime (M (24 + r)).natAbs (M (36 + r)).natAbs ∧ (M (24 + r)).natAbs < B32 ^ 12 ∧ (M (36 + r)).natAbs < B32 ^ 12
  rw [h1.1, h1.2]
  exact h2
theorem keepC (cw : CW B n d h M) (m : MS M S) (dd : DD d S) (s : SI S) (hk : k < 70) (hc : c < 24) : ∃ r h' S', zs_X9_keep h n (aw n k) (nI c) = some (r, h') ∧ CI B n h' S' ∧ kp S c (M k) r S' := by
  unfold zs_X9_keep
  simp only [cw.chk8 hk, cw.isWithin hk, Option.bind_some]
  by_cases hx : (M k).natAbs < B32 ^ 12
  · rw [if_pos hx, if_neg (by decide)]
    simp only [cw.rd9, Option.bind_some, cw.slot hc, cw.chk8 (show c < 70 by omega)]
    obtain ⟨g1, e1, c1⟩ := cw.copy (k := c) (i := k) (by omega) hk
    rw [e1]
    exact ⟨1, g1, _, rfl, ⟨d, _, c1, m.set hc _, dd, s.set hc hx⟩, Or.inl ⟨hx, rfl, rfl⟩⟩
  · rw [if_neg hx, if_pos rfl]
    exact ⟨-5, h, S, rfl, ⟨d, M, cw, m, dd, s⟩, Or.inr ⟨hx, rfl, rfl⟩⟩
theorem keepRatioC (cw : CW B n d h M) (m : MS M S) (dd : DD d S) (s : SI S) (hc : c < 12) (hp : 0 < M 60) (hco : Nat.Coprime (M 59).natAbs (M 60).natAbs) : ∃ r h' S', zs_X9_keepRatio h n (nI c) = some (r, h') ∧ CI B n h' S' ∧ kpR S c (M 59) (M 60) r S' := by
  unfold zs_X9_keepRatio
  simp only [cw.rd9, cw.rd2, cw.chk8 (show 59 < 70 by decide), cw.isWithin (show 59 < 70 by decide), Option.bind_some]
  by_cases hx : (M 59).natAbs < B32 ^ 12
  · rw [if_pos hx, if_neg (by decide)]
    simp only [cw.chk8 (show 60 < 70 by decide), cw.isWithin (show 60 < 70 by decide), Option.bind_some]
    by_cases hy : (M 60).natAbs < B32 ^ 12
    · rw [if_pos hy, if_neg (by decide)]
      simp only [cw.rd9, cw.rd2, Option.bind_some, cw.ratio hc, cw.rd4 hc, cw.chk8 (show 24 + c < 70 by omega)]
      obtain ⟨g1, e1, c1⟩ := cw.copy (k := 24 + c) (i := 59) (by omega) (by decide)
      rw [e1]
      simp only [c1.rd9, c1.rd2, Option.bind_some, c1.ratio hc, c1.rd4 hc, c1.chk8 (show 36 + c < 70 by omega)]
      obtain ⟨g2, e2, c2⟩ := c1.copy (k := 36 + c) (i := 60) (by omega) (by decide)
      rw [va_un (show 60 ≠ 24 + c by omega)] at c2
      rw [e2]
      refine ⟨1, g2, setRt S c (M 59) (M 60), rfl, ⟨d, _, c2, ⟨fun i hi => ?_, fun r hr => ⟨?_, ?_⟩⟩, dd, ?_⟩, Or.inl ⟨hx, hy, rfl, rfl⟩⟩
      · rw [va_un (by omega), va_un (by omega)]; exact m.1 i hi
      · rw [va_un (by omega)]
        show _ = va_up S.tp c (M 59) r
        by_cases e : r = c
        · subst e; rw [va_us, va_us]
        · rw [va_un (by omega), va_un e]; exact (m.2 r hr).1
      · show _ = va_up S.bt c (M 60) r
        by_cases e : r = c
        · subst e; rw [va_us, va_us]
        · rw [va_un (by omega), va_un (by omega), va_un e]; exact (m.2 r hr).2
      · refine ⟨s.1, fun r hr => ?_, s.2.2⟩
        show rOk (va_up S.tp c (M 59) r) (va_up S.bt c (M 60) r)
        by_cases e : r = c
        · subst e; rw [va_us, va_us]; exact ⟨hp, hco, hx, hy⟩
        · rw [va_un e, va_un e]; exact s.2.1 r hr
    · rw [if_neg hy, if_pos rfl]
      exact ⟨-5, h, S, rfl, ⟨d, M, cw, m, dd, s⟩, Or.inr ⟨fun z => hy z.2, rfl, rfl⟩⟩
  · rw [if_neg hx, if_pos rfl]
    exact ⟨-5, h, S, rfl, ⟨d, M, cw, m, dd, s⟩, Or.inr ⟨fun z => hx z.1, rfl, rfl⟩⟩
end Sta2
