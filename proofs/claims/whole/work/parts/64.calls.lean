/-! what every call does to the state, and answers -/
def ix2 (a b : Int32) : Option (Nat × Nat) := match ixI 24 a, ixI 24 b with
  | some i, some j => some (i, j)
  | _, _ => none
def ix3 (a b c : Int32) : Option (Nat × Nat × Nat) := match ixI 24 a, ixI 24 b, ixI 24 c with
  | some i, some j, some k => some (i, j, k)
  | _, _, _ => none
theorem ix2_some {a b : Int32} {i j : Nat} (h : ix2 a b = some (i, j)) : (a = nI i ∧ i < 24) ∧ (b = nI j ∧ j < 24) := by
  unfold ix2 at h
  cases h1 : ixI 24 a with
  | none => rw [h1] at h; cases h
  | some x =>
    cases h2 : ixI 24 b with
    | none => rw [h1, h2] at h; cases h
    | some y =>
      rw [h1, h2] at h
      cases h
      exact ⟨ixI_some h1, ixI_some h2⟩
theorem ix2_none {a b : Int32} (h : ix2 a b = none) : ixI 24 a = none ∨ ∃ i, i < 24 ∧ a = nI i ∧ ixI 24 b = none := by
  unfold ix2 at h
  cases h1 : ixI 24 a with
  | none => exact Or.inl rfl
  | some x =>
    cases h2 : ixI 24 b with
    | none => exact Or.inr ⟨x, (ixI_some h1).2, (ixI_some h1).1, rfl⟩
    | some y => rw [h1, h2] at h; cases h
theorem ix3_some {a b c : Int32} {i j k : Nat} (h : ix3 a b c = some (i, j, k)) : (a = nI i ∧ i < 24) ∧ (b = nI j ∧ j < 24) ∧ (c = nI k ∧ k < 24) := by
  unfold ix3 at h
  cases h1 : ixI 24 a with
  | none => rw [h1] at h; cases h
  | some x =>
    cases h2 : ixI 24 b with
    | none => rw [h1, h2] at h; cases h
    | some y =>
      cases h3 : ixI 24 c with
      | none => rw [h1, h2, h3] at h; cases h
      | some z =>
        rw [h1, h2, h3] at h
        cases h
        exact ⟨ixI_some h1, ixI_some h2, ixI_some h3⟩
theorem ix3_none {a b c : Int32} (h : ix3 a b c = none) : ixI 24 a = none ∨ ixI 24 b = none ∨ ixI 24 c = none := by
  unfold ix3 at h
  cases h1 : ixI 24 a with
  | none => exact Or.inl rfl
  | some x =>
    cases h2 : ixI 24 b with
    | none => exact Or.inr (Or.inl rfl)
    | some y =>
      cases h3 : ixI 24 c with
      | none => exact Or.inr (Or.inr rfl)
      | some z => rw [h1, h2, h3] at h; cases h
def badC (S : AS) (r : Int32) (S' : AS) : Prop := r = -1 ∧ S' = S
def errC (S : AS) (e r : Int32) (S' : AS) : Prop := r = e ∧ S' = S
def clr (S : AS) : AS := setT S 0 (fun _ => 0)
def isSz (v k : Nat) : Prop := k ≤ 26 ∧ v < B32 ^ k ∧ (0 < k → B32 ^ (k - 1) ≤ v)
theorem isSz_uniq {v k l : Nat} (h1 : isSz v k) (h2 : isSz v l) : k = l := by
  rcases Nat.lt_trichotomy k l with h | h | h
  · exfalso
    have a := h2.2.2 (by omega)
    have b : B32 ^ k ≤ B32 ^ (l - 1) := Nat.pow_le_pow_right (by decide) (by omega)
    have := h1.2.1
    omega
  · exact h
  · exfalso
    have a := h1.2.2 (by omega)
    have b : B32 ^ l ≤ B32 ^ (k - 1) := Nat.pow_le_pow_right (by decide) (by omega)
    have := h2.2.1
    omega
def Sp_set (S : AS) (s : Int32) (v : Int64) (r : Int32) (S' : AS) : Prop := match ixI 24 s with
  | some i => r = 1 ∧ S' = setS S i v.toInt
  | none => badC S r S'
def Sp_feed (S : AS) (w : Int64) (n : Int32) (r : Int32) (S' : AS) : Prop := match ixI 9 n with
  | some N => if N = 0 then badC S r S' else if S.tC + N ≤ 120 then r = nI (S.tC + N) ∧ S' = setT S (S.tC + N) (fedB S.tB S.tC N w) else errC S (-5) r S'
  | none => badC S r S'
def Sp_read (S : AS) (s base : Int32) (r : Int32) (S' : AS) : Prop := match ixI 24 s, bsI base with
  | some i, some q => (sgn1 S.tC S.tB = S.tC ∧ r = -10 - nI S.tC ∧ S' = clr S) ∨ (sgn1 S.tC S.tB ≠ S.tC ∧ ∃ p, wrongAt S.tB q (sgn1 S.tC S.tB) S.tC p ∧ r = -10 - nI p ∧ S' = clr S) ∨ (sgn1 S.tC S.tB ≠ S.tC ∧ (∀ k, sgn1 S.tC S.tB ≤ k → k < S.tC → dg (S.tB k) < q) ∧ kp (clr S) i (sgv (nI (sgn1 S.tC S.tB)) (spl S.tB q (sgn1 S.tC S.tB) (S.tC - sgn1 S.tC S.tB))) r S')
  | _, _ => badC S r S'
def Sp_write (S : AS) (s base : Int32) (r : Int32) (S' : AS) : Prop := match ixI 24 s, bsI base with
  | some i, some q => ∃ L, isLen (S.sl i).natAbs q L ∧ r = nI (L + isNeg (S.sl i)) ∧ S' = setO S (L + isNeg (S.sl i)) (fun k => outB (S.sl i).natAbs q L (L + isNeg (S.sl i) - 1 - k))
  | _, _ => badC S r S'
def Sp_low (S : AS) (s : Int32) (r : Int64) : Prop := match ixI 24 s with
  | some i => r = Int64.ofInt (S.sl i)
  | none => r = 0
def Sp_limbs (S : AS) (s : Int32) (r : Int32) : Prop := match ixI 24 s with
  | some i => if -9223372036854775808 ≤ S.sl i ∧ S.sl i ≤ 9223372036854775807 then r = 0 else ∃ k, isSz (S.sl i).natAbs k ∧ r = nI k
  | none => r = -1
def Sp_limb (S : AS) (s k : Int32) (r : Int64) : Prop := match ixI 24 s with
  | some i => r = lN (PZ (S.sl i).natAbs k.toInt)
  | none => r = 0
def Sp_compare (S : AS) (a b : Int32) (r : Int32) : Prop := match ix2 a b with
  | some (i, j) => r = cmpZ (S.sl i) (S.sl j) + 1
  | none => r = -1
def Sp_act (S : AS) (how a b c : Int32) (r : Int32) (S' : AS) : Prop := match ixI 3 how, ix3 a b c with
  | some w, some (i, j, k) => kp S k (if w = 0 then S.sl i + S.sl j else if w = 1 then S.sl i - S.sl j else S.sl i * S.sl j) r S'
  | _, _ => badC S r S'
def Sp_over (S : AS) (way a b c e : Int32) (r : Int32) (S' : AS) : Prop := match ixI 3 way, ix3 a b c, ixI 24 e with
  | some _, some (i, j, k), some l => if k = l then badC S r S' else if S.sl j = 0 then errC S (-2) r S' else if (dvQ way (S.sl i) (S.sl j)).natAbs < B32 ^ 12 ∧ (dvR way (S.sl i) (S.sl j)).natAbs < B32 ^ 12 then r = 1 ∧ S' = setS (setS S k (dvQ way (S.sl i) (S.sl j))) l (dvR way (S.sl i) (S.sl j)) else errC S (-5) r S'
  | _, _, _ => badC S r S'
def Sp_divisor (S : AS) (a b c : Int32) (r : Int32) (S' : AS) : Prop := match ix3 a b c with
  | some (i, j, k) => kp S k (Nat.gcd (S.sl i).natAbs (S.sl j).natAbs : Nat) r S'
  | none => badC S r S'
def Sp_power (S : AS) (a e c : Int32) (r : Int32) (S' : AS) : Prop := match ix2 a c, ixI 2001 e with
  | some (i, k), some N => kp S k (S.sl i ^ N) r S'
  | _, _ => badC S r S'
def rtI (x : Int32) : Option Nat := if 2 ≤ x.toInt ∧ x.toInt ≤ 9 then some x.toInt.toNat else none
def Sp_root (S : AS) (a e c : Int32) (r : Int32) (S' : AS) : Prop := match ix2 a c, rtI e with
  | some (i, k), some N => if S.sl i < 0 then errC S (-3) r S' else ∃ R, isRoot (S.sl i) N R ∧ r = (if R ^ N = S.sl i then 1 else 0) ∧ S' = setS S k R
  | _, _ => badC S r S'
/-- a modulus that is refused -/
def mdE (y : Int) : Int32 := if y = 0 then -2 else if y < 0 ∨ 128 < bl y.natAbs then -3 else 1
def Sp_rest (S : AS) (a e m c : Int32) (r : Int32) (S' : AS) : Prop := match ix3 a m c, ixI 1000001 e with
  | some (i, j, k), some E => if mdE (S.sl j) = 1 then r = 1 ∧ S' = setS S k ((S.sl i % S.sl j) ^ E % S.sl j) else errC S (mdE (S.sl j)) r S'
  | _, _ => badC S r S'
def Sp_inverse (S : AS) (a m c : Int32) (r : Int32) (S' : AS) : Prop := match ix3 a m c with
  | some (i, j, k) => if mdE (S.sl j) = 1 then (if Nat.gcd (S.sl j).natAbs (S.sl i % S.sl j).natAbs = 1 then ∃ R, isInv (S.sl i) (S.sl j) R ∧ r = 1 ∧ S' = setS S k R else errC S (-4) r S') else errC S (mdE (S.sl j)) r S'
  | none => badC S r S'
def Sp_bits (S : AS) (how a b c : Int32) (r : Int32) (S' : AS) : Prop := match ixI 4 how, ix3 a b c with
  | some w, some (i, j, k) => ∃ R, (∀ x, bI R x = bop w (bI (S.sl i) x) (bI (S.sl j) x)) ∧ kp S k R r S'
  | _, _ => badC S r S'
def shV (x : Int) (e : Int) : Int := if 0 ≤ e then x * 2 ^ e.toNat else x / 2 ^ (-e).toNat
def Sp_shift (S : AS) (a e c : Int32) (r : Int32) (S' : AS) : Prop := match ix2 a c with
  | some (i, k) => if -1000 ≤ e.toInt ∧ e.toInt ≤ 1000 then kp S k (shV (S.sl i) e.toInt) r S' else badC S r S'
  | none => badC S r S'
def Sp_bit (S : AS) (a k : Int32) (r : Int32) : Prop := match ixI 24 a with
  | some i => if k.toInt < 0 then r = -1 else r = if bI (S.sl i) k.toInt.toNat then 1 else 0
  | none => r = -1
def Sp_length (S : AS) (a : Int32) (r : Int32) : Prop := match ixI 24 a with
  | some i => r = nI (bl (S.sl i).natAbs)
  | none => r = -1
def Sp_ones (S : AS) (a : Int32) (r : Int32) : Prop := match ixI 24 a with
  | some i => r = nI (pcN 416 (unW (S.sl i)))
  | none => r = -1
def Sp_ratio (S : AS) (a b q : Int32) (r : Int32) (S' : AS) : Prop := match ix2 a b, ixI 12 q with
  | some (i, j), some k => if S.sl j = 0 then errC S (-2) r S' else ∃ t u, isRat (S.sl i) (S.sl j) t u ∧ kpR S k t u r S'
  | _, _ => badC S r S'
def arP (w : Nat) (pt pb qt qb : Int) : Int := if w = 0 then pt * qb + qt * pb else if w = 1 then pt * qb - qt * pb else if w = 2 then pt * qt else pt * qb
def arQ (w : Nat) (pb qt qb : Int) : Int := if w = 3 then pb * qt else pb * qb
def Sp_actRatio (S : AS) (how p q z : Int32) (r : Int32) (S' : AS) : Prop := match ixI 4 how, ixI 12 p, ixI 12 q, ixI 12 z with
  | some w, some i, some j, some k => if w = 3 ∧ S.tp j = 0 then errC S (-2) r S' else ∃ t u, isRat (arP w (S.tp i) (S.bt i) (S.tp j) (S.bt j)) (arQ w (S.bt i) (S.tp j) (S.bt j)) t u ∧ kpR S k t u r S'
  | _, _, _, _ => badC S r S'
def Sp_compareRatio (S : AS) (p q : Int32) (r : Int32) : Prop := match ixI 12 p, ixI 12 q with
  | some i, some j => r = cmpZ (S.tp i * S.bt j) (S.tp j * S.bt i) + 1
  | _, _ => r = -1
def nrV (t b : Int) : Int := if b < dvR 1 t b + dvR 1 t b ∨ (dvR 1 t b + dvR 1 t b = b ∧ (dvQ 1 t b).natAbs % 2 = 1) then dvQ 1 t b + 1 else dvQ 1 t b
def Sp_part (S : AS) (q which s : Int32) (r : Int32) (S' : AS) : Prop := match ixI 12 q, ixI 4 which, ixI 24 s with
  | some i, some w, some k => kp S k (if w = 0 then S.tp i else if w = 1 then S.bt i else if w = 2 then dvQ 1 (S.tp i) (S.bt i) else nrV (S.tp i) (S.bt i)) r S'
  | _, _, _ => badC S r S'
def Sp_digits (S : AS) (q base : Int32) (r : Int32) (S' : AS) : Prop := match ixI 12 q, bsI base with
  | some i, some g => (∃ A m, isExp (rmS (S.tp i).natAbs (S.bt i).natAbs g) A m ∧ A + m ≤ 200 ∧ r = nI (A + m) ∧ S' = setEx S A m (dgS (S.tp i).natAbs (S.bt i).natAbs g)) ∨ (noExp (rmS (S.tp i).natAbs (S.bt i).natAbs g) ∧ errC S (-4) r S')
  | _, _ => badC S r S'
def Sp_digit (S : AS) (i : Int32) (r : Int32) : Prop := if i = -1 then r = nI S.eA else if i = -2 then r = nI S.eM else match ixI (S.eA + S.eM) i with
  | some j => r = nI (S.eD j)
  | none => r = -1
