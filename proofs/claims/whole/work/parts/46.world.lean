/-! the class's object: all addresses are n and a number -/
def fwN (i : Nat) : Nat := [115, 118, 120, 122, 127, 129, 131, 133, 135, 137, 139, 142, 144, 146, 148, 150, 152, 157, 159, 161, 167, 169].getD i 0
/-- where the whole of the number i stands: 0-23 slots, 24-35 tops, 36-47 bottoms, 48 the text's, 49-51 Division's, 52-58 Powers', 59-64 Fractions', 65-67 Expansion's, 68 result, 69 one -/
def fw (i : Nat) : Nat := if i < 24 then 2 + 2 * i else if i < 36 then 52 + 5 * (i - 24) else if i < 48 then 54 + 5 * (i - 36) else fwN (i - 48)
def aw (n i : Nat) : Nat := n + fw i
theorem fw_all : ∀ i, i < 70 → (fw i < 170 ∧ fw i ≠ 124 ∧ fw i ≠ 125 ∧ fw i + 1 ≠ 124 ∧ fw i + 1 ≠ 125) ∧ ∀ j, j < 70 → fw i = fw j → i = j := by decide
theorem aw_inj {n i j : Nat} (hi : i < 70) (hj : j < 70) (h : aw n i = aw n j) : i = j := (fw_all i hi).2 j hj (by unfold aw at h; omega)
theorem aw_ne {n i j : Nat} (hi : i < 70) (hj : j < 70) (h : i ≠ j) : aw n i ≠ aw n j := fun e => h (aw_inj hi hj e)
def Lc (n : Nat) : Nat → Prop := fun o => ∃ i, i < 70 ∧ o = aw n i
def qc : Nat → Nat := fun o => o + 1
theorem Lc_m {n i : Nat} (hi : i < 70) : Lc n (aw n i) := ⟨i, hi, rfl⟩
/-- what else the object holds: tape, text, two's rows, digits -/
abbrev DS : Type := (Int32 × (Nat → Int32)) × (Int32 × (Nat → Int32)) × ((Nat → Int64) × (Nat → Int64)) × (Int32 × Int32) × (Nat × Nat) × ((Nat → Int32) × (Nat → Int32))
def DS.tc (d : DS) : Int32 := d.1.1
def DS.tb (d : DS) : Nat → Int32 := d.1.2
def DS.xc (d : DS) : Int32 := d.2.1.1
def DS.xb (d : DS) : Nat → Int32 := d.2.1.2
def DS.r1 (d : DS) : Nat → Int64 := d.2.2.1.1
def DS.r2 (d : DS) : Nat → Int64 := d.2.2.1.2
def DS.hd (d : DS) : Int32 := d.2.2.2.1.1
def DS.rd (d : DS) : Int32 := d.2.2.2.1.2
def DS.ka (d : DS) : Nat := d.2.2.2.2.1.1
def DS.fa (d : DS) : Nat := d.2.2.2.2.1.2
def DS.ke (d : DS) : Nat → Int32 := d.2.2.2.2.2.1
def DS.fr (d : DS) : Nat → Int32 := d.2.2.2.2.2.2
def ctR (n o : Nat) : Option AE := if 51 ≤ o ∧ o < 111 ∧ (o - 51) % 5 = 0 then some (.inr (4, [.ref (aw n (24 + (o - 51) / 5)), .ref (aw n (36 + (o - 51) / 5))])) else none
/-- the cells that hold no whole -/
def ct (n : Nat) (d : DS) (o : Nat) : Option AE :=
  if o = 0 then some (.inr (9, [.ref (n + 1), .ref (n + 50), .ref (n + 111), .ref (n + 113), .ref (n + 117), .ref (n + 126), .ref (n + 141), .ref (n + 154), .ref (n + 163), .ref (n + 165), .ref (aw n 68), .ref (aw n 69)]))
  else if o = 1 then some (.inl (3, 24, .inr (.inr (.inr (.inr (fun s => some (aw n s)))))))
  else if o = 50 then some (.inl (4, 12, .inr (.inr (.inr (.inr (fun r => some (n + (51 + 5 * r))))))))
  else if o = 111 then some (.inr (5, [.int d.tc, .ref (n + 112)]))
  else if o = 112 then some (.inl (0, 120, .inl d.tb))
  else if o = 113 then some (.inr (6, [.int d.xc, .ref (n + 114), .ref (aw n 48)]))
  else if o = 114 then some (.inl (0, 385, .inl d.xb))
  else if o = 117 then some (.inr (0, [.ref (aw n 49), .ref (aw n 50), .ref (aw n 51), .ref (n + 124), .ref (n + 125)]))
  else if o = 126 then some (.inr (3, [.ref (aw n 52), .ref (n + 117), .ref (aw n 53), .ref (aw n 54), .ref (aw n 55), .ref (aw n 56), .ref (aw n 57), .ref (aw n 58)]))
  else if o = 141 then some (.inr (2, [.ref (aw n 59), .ref (aw n 60), .ref (n + 117), .ref (n + 126), .ref (aw n 61), .ref (aw n 62), .ref (aw n 63), .ref (aw n 64)]))
  else if o = 154 then some (.inr (1, [.int d.hd, .int d.rd, .ref (n + d.ka), .ref (n + d.fa), .ref (n + 117), .ref (aw n 65), .ref (aw n 66), .ref (aw n 67)]))
  else if o = 163 then some (.inr (7, [.ref (n + 164)]))
  else if o = 164 then some (.inl (1, 13, .inr (.inl d.r1)))
  else if o = 165 then some (.inr (7, [.ref (n + 166)]))
  else if o = 166 then some (.inl (1, 13, .inr (.inl d.r2)))
  else if o = d.ka then some (.inl (0, 200, .inl d.ke))
  else if o = d.fa then some (.inl (0, 200, .inl d.fr))
  else ctR n o
def kaOk (d : DS) : Prop := (d.ka = 155 ∧ d.fa = 156) ∨ (d.ka = 156 ∧ d.fa = 155)
theorem nw_o {c : Nat} {fs : List Value} (h : c ≠ 8) : nwk (.inr (c, fs)) := h
theorem nw_a {k : Nat} {x : vp_A} (h : ¬ (k = 1 ∧ x.1 = 26)) : nwk (.inl (k, x)) := h
theorem ct_all {n : Nat} {d : DS} (hk : kaOk d) {o : Nat} {e : AE} (h : ct n d o = some e) : nwk e ∧ o ≠ 124 ∧ o ≠ 125 ∧ o < 171 := by
  unfold ct at h
  have hkk : d.ka < 157 ∧ d.ka ≠ 124 ∧ d.ka ≠ 125 ∧ d.fa < 157 ∧ d.fa ≠ 124 ∧ d.fa ≠ 125 := by unfold kaOk at hk; omega
  by_cases e : o = 0
  · rw [if_pos e] at h
    obtain rfl := Option.some.inj h
    exact ⟨nw_o (by decide), by omega, by omega, by omega⟩
  rw [if_neg e] at h
  by_cases e : o = 1
  · rw [if_pos e] at h
    obtain rfl := Option.some.inj h
    exact ⟨nw_a (by dsimp only; omega), by omega, by omega, by omega⟩
  rw [if_neg e] at h
  by_cases e : o = 50
  · rw [if_pos e] at h
    obtain rfl := Option.some.inj h
    exact ⟨nw_a (by dsimp only; omega), by omega, by omega, by omega⟩
  rw [if_neg e] at h
  by_cases e : o = 111
  · rw [if_pos e] at h
    obtain rfl := Option.some.inj h
    exact ⟨nw_o (by decide), by omega, by omega, by omega⟩
  rw [if_neg e] at h
  by_cases e : o = 112
  · rw [if_pos e] at h
    obtain rfl := Option.some.inj h
    exact ⟨nw_a (by dsimp only; omega), by omega, by omega, by omega⟩
  rw [if_neg e] at h
  by_cases e : o = 113
  · rw [if_pos e] at h
    obtain rfl := Option.some.inj h
    exact ⟨nw_o (by decide), by omega, by omega, by omega⟩
  rw [if_neg e] at h
  by_cases e : o = 114
  · rw [if_pos e] at h
    obtain rfl := Option.some.inj h
    exact ⟨nw_a (by dsimp only; omega), by omega, by omega, by omega⟩
  rw [if_neg e] at h
  by_cases e : o = 117
  · rw [if_pos e] at h
    obtain rfl := Option.some.inj h
    exact ⟨nw_o (by decide), by omega, by omega, by omega⟩
  rw [if_neg e] at h
  by_cases e : o = 126
  · rw [if_pos e] at h
    obtain rfl := Option.some.inj h
    exact ⟨nw_o (by decide), by omega, by omega, by omega⟩
  rw [if_neg e] at h
  by_cases e : o = 141
  · rw [if_pos e] at h
    obtain rfl := Option.some.inj h
    exact ⟨nw_o (by decide), by omega, by omega, by omega⟩
  rw [if_neg e] at h
  by_cases e : o = 154
  · rw [if_pos e] at h
    obtain rfl := Option.some.inj h
    exact ⟨nw_o (by decide), by omega, by omega, by omega⟩
  rw [if_neg e] at h
  by_cases e : o = 163
  · rw [if_pos e] at h
    obtain rfl := Option.some.inj h
    exact ⟨nw_o (by decide), by omega, by omega, by omega⟩
  rw [if_neg e] at h
  by_cases e : o = 164
  · rw [if_pos e] at h
    obtain rfl := Option.some.inj h
    exact ⟨nw_a (by dsimp only; omega), by omega, by omega, by omega⟩
  rw [if_neg e] at h
  by_cases e : o = 165
  · rw [if_pos e] at h
    obtain rfl := Option.some.inj h
    exact ⟨nw_o (by decide), by omega, by omega, by omega⟩
  rw [if_neg e] at h
  by_cases e : o = 166
  · rw [if_pos e] at h
    obtain rfl := Option.some.inj h
    exact ⟨nw_a (by dsimp only; omega), by omega, by omega, by omega⟩
  rw [if_neg e] at h
  by_cases e : o = d.ka
  · rw [if_pos e] at h
    obtain rfl := Option.some.inj h
    exact ⟨nw_a (by dsimp only; omega), by omega, by omega, by omega⟩
  rw [if_neg e] at h
  by_cases e : o = d.fa
  · rw [if_pos e] at h
    obtain rfl := Option.some.inj h
    exact ⟨nw_a (by dsimp only; omega), by omega, by omega, by omega⟩
  rw [if_neg e] at h
  unfold ctR at h
  by_cases e : 51 ≤ o ∧ o < 111 ∧ (o - 51) % 5 = 0
  · rw [if_pos e] at h
    obtain rfl := Option.some.inj h
    exact ⟨nw_o (by decide), by omega, by omega, by omega⟩
  · rw [if_neg e] at h
    cases h
theorem ct_r {n r : Nat} {d : DS} (hk : kaOk d) (hr : r < 12) : ct n d (51 + 5 * r) = some (.inr (4, [.ref (aw n (24 + r)), .ref (aw n (36 + r))])) := by
  unfold ct
  have hkk : d.ka > 150 ∧ d.fa > 150 := by unfold kaOk at hk; omega
  iterate 17 rw [if_neg (by omega)]
  unfold ctR
  rw [if_pos (by omega), show (51 + 5 * r - 51) / 5 = r by omega]
def Obj (n : Nat) (d : DS) (h : AH) : Prop := ∀ o e, ct n d o = some e → h.1 (n + o) = some e
abbrev CW (B : AH) (n : Nat) (d : DS) (h : AH) (M : Nat → Int) : Prop :=
  (∃ V, WS (Lc n) qc h V ∧ ∀ i, i < 70 → V (aw n i) = M i) ∧ Obj n d h ∧ kaOk d ∧ DX h (n + 117) (aw n 49) (aw n 50) (aw n 51) (n + 124) (n + 125) ∧ (M 51 = 1 ∧ M 69 = 1) ∧ h.2 = B.2 ∧ ∀ a, a < n ∨ n + 171 ≤ a → h.1 a = B.1 a
section Cwp
variable {B h : AH} {n : Nat} {d : DS} {M : Nat → Int}
theorem CW.ws (c : CW B n d h M) : ∃ V, WS (Lc n) qc h V ∧ ∀ i, i < 70 → V (aw n i) = M i := c.1
theorem CW.ob (c : CW B n d h M) : Obj n d h := c.2.1
theorem CW.ko (c : CW B n d h M) : kaOk d := c.2.2.1
theorem CW.dx (c : CW B n d h M) : DX h (n + 117) (aw n 49) (aw n 50) (aw n 51) (n + 124) (n + 125) := c.2.2.2.1
theorem CW.o1 (c : CW B n d h M) : M 51 = 1 ∧ M 69 = 1 := c.2.2.2.2.1
theorem CW.bz (c : CW B n d h M) : h.2 = B.2 := c.2.2.2.2.2.1
theorem CW.bg (c : CW B n d h M) : ∀ a, a < n ∨ n + 171 ≤ a → h.1 a = B.1 a := c.2.2.2.2.2.2
end Cwp
/-- a whole that calls may change -/
abbrev okI (k : Nat) : Prop := k < 70 ∧ k ≠ 51 ∧ k ≠ 69
section Wld
variable {B h h' : AH} {n : Nat} {d : DS} {M : Nat → Int} {V V' : Nat → Int} {i j k l : Nat}
theorem CW.fx (c : CW B n d h M) (W : WS (Lc n) qc h V) {M' : Nat → Int} (p : Fx (Lc n) qc (fun z => z = n + 124 ∨ z = n + 125) h h') (W' : WS (Lc n) qc h' V') (hV : ∀ i, i < 70 → V' (aw n i) = M' i) (x : DX h' (n + 117) (aw n 49) (aw n 50) (aw n 51) (n + 124) (n + 125)) (ho : M' 51 = 1 ∧ M' 69 = 1) : CW B n d h' M' := by
  refine ⟨⟨V', W', hV⟩, ?_, c.ko, x, ho, p.1.trans c.bz, ?_⟩
  · intro o e he
    have h1 := ct_all c.ko he
    obtain ⟨σ, H, -⟩ := W
    rw [p.2 (n + o) (nw_off H (c.ob o e he) h1.1) (by omega)]
    exact c.ob o e he
  · intro a ha
    refine (p.2 a ?_ (by omega)).trans (c.bg a ha)
    rintro o ⟨i, hi, rfl⟩
    have := (fw_all i hi).1
    unfold aw qc
    omega
theorem va_upM (hV : ∀ i, i < 70 → V (aw n i) = M i) (hk : k < 70) (x : Int) : ∀ i, i < 70 → va_up V (aw n k) x (aw n i) = va_up M k x i := by
  intro i hi
  by_cases e : i = k
  · subst e; rw [va_us, va_us]
  · rw [va_un e, va_un (aw_ne hi hk e)]; exact hV i hi
theorem CW.up (c : CW B n d h M) (W : WS (Lc n) qc h V) (hV : ∀ i, i < 70 → V (aw n i) = M i) (hk : okI k) {x : Int} (W' : WS (Lc n) qc h' (va_up V (aw n k) x)) (p : Fr (Lc n) qc h h') : CW B n d h' (va_up M k x) :=
  c.fx W p.fx W' (va_upM hV hk.1 x) (c.dx.fr W p) ⟨by rw [va_un (by omega)]; exact c.o1.1, by rw [va_un (by omega)]; exact c.o1.2⟩
theorem CW.sum (c : CW B n d h M) (hi : i < 70) (hj : j < 70) (hk : okI k) (xa : (M i).natAbs < B32 ^ 25) (xb : (M j).natAbs < B32 ^ 25) : ∃ h', zs_X8_sum h (aw n i) (aw n j) (aw n k) = some h' ∧ CW B n d h' (va_up M k (M i + M j)) := by
  obtain ⟨V, W, hV⟩ := c.ws
  rw [← hV i hi] at xa ⊢
  rw [← hV j hj] at xb ⊢
  obtain ⟨g, e, W1, F⟩ := v_sum W (Lc_m hi) (Lc_m hj) (Lc_m hk.1) xa xb
  exact ⟨g, e, c.up W hV hk W1 F⟩
theorem CW.difference (c : CW B n d h M) (hi : i < 70) (hj : j < 70) (hk : okI k) (xa : (M i).natAbs < B32 ^ 25) (xb : (M j).natAbs < B32 ^ 25) : ∃ h', zs_X8_difference h (aw n i) (aw n j) (aw n k) = some h' ∧ CW B n d h' (va_up M k (M i - M j)) := by
  obtain ⟨V, W, hV⟩ := c.ws
  rw [← hV i hi] at xa ⊢
  rw [← hV j hj] at xb ⊢
  obtain ⟨g, e, W1, F⟩ := v_difference W (Lc_m hi) (Lc_m hj) (Lc_m hk.1) xa xb
  exact ⟨g, e, c.up W hV hk W1 F⟩
theorem CW.product (c : CW B n d h M) (hi : i < 70) (hj : j < 70) (hk : okI k) (hik : i ≠ k) (hjk : j ≠ k) {na nb : Nat} (xa : (M i).natAbs < B32 ^ na) (xb : (M j).natAbs < B32 ^ nb) (hn : na + nb ≤ 26) : ∃ h', zs_X8_product h (aw n i) (aw n j) (aw n k) = some h' ∧ CW B n d h' (va_up M k (M i * M j)) := by
  obtain ⟨V, W, hV⟩ := c.ws
  rw [← hV i hi] at xa ⊢
  rw [← hV j hj] at xb ⊢
  obtain ⟨g, e, W1, F⟩ := v_product W (Lc_m hi) (Lc_m hj) (Lc_m hk.1) (aw_ne hi hk.1 hik) (aw_ne hj hk.1 hjk) xa xb hn
  exact ⟨g, e, c.up W hV hk W1 F⟩
theorem CW.copy (c : CW B n d h M) (hk : okI k) (hi : i < 70) : ∃ h', zs_X8_copy h (aw n k) (aw n i) = some h' ∧ CW B n d h' (va_up M k (M i)) := by
  obtain ⟨V, W, hV⟩ := c.ws
  rw [← hV i hi]
  obtain ⟨g, e, W1, F⟩ := v_copy W (Lc_m hk.1) (Lc_m hi)
  exact ⟨g, e, c.up W hV hk W1 F⟩
theorem CW.become (c : CW B n d h M) (hk : okI k) (v : Int64) : ∃ h', zs_X8_become h (aw n k) v = some h' ∧ CW B n d h' (va_up M k v.toInt) := by
  obtain ⟨V, W, hV⟩ := c.ws
  obtain ⟨g, e, W1, F⟩ := v_become W (Lc_m hk.1) v
  exact ⟨g, e, c.up W hV hk W1 F⟩
theorem CW.takeSign (c : CW B n d h M) (hk : okI k) (b : Int32) : ∃ h', zs_X8_takeSign h (aw n k) b = some h' ∧ CW B n d h' (va_up M k (sgv b (M k).natAbs)) := by
  obtain ⟨V, W, hV⟩ := c.ws
  rw [← hV k hk.1]
  obtain ⟨g, e, W1, F⟩ := v_takeSign W (Lc_m hk.1) b
  exact ⟨g, e, c.up W hV hk W1 F⟩
theorem CW.shrink (c : CW B n d h M) (hk : okI k) (D : Int64) (h0 : 0 < uN D) (hD : uN D < B32) : ∃ h', zs_X8_shrink h (aw n k) D = some (lN ((M k).natAbs % uN D), h') ∧ CW B n d h' (va_up M k (if M k < 0 then -(((M k).natAbs / uN D : Nat) : Int) else ((M k).natAbs / uN D : Nat))) := by
  obtain ⟨V, W, hV⟩ := c.ws
  rw [← hV k hk.1]
  obtain ⟨g, e, W1, F⟩ := v_shrink W (Lc_m hk.1) D h0 hD
  exact ⟨g, e, c.up W hV hk W1 F⟩
theorem CW.grow (c : CW B n d h M) (hk : okI k) (hn : 0 ≤ M k) (F A : Int64) (hF0 : 0 < uN F) (hF : uN F < B32) (hA : uN A < B32) (hroom : (M k).natAbs * uN F + uN A < B32 ^ 26) : ∃ h', zs_X8_grow h (aw n k) F A = some h' ∧ CW B n d h' (va_up M k (((M k).natAbs * uN F + uN A : Nat) : Int)) := by
  obtain ⟨V, W, hV⟩ := c.ws
  rw [← hV k hk.1] at hn hroom ⊢
  obtain ⟨g, e, W1, Fr⟩ := v_grow W (Lc_m hk.1) hn F A hF0 hF hA hroom
  exact ⟨g, e, c.up W hV hk W1 Fr⟩
theorem CW.move (c : CW B n d h M) (hi : i < 70) (hk : okI k) {x : Int32} (h1 : -1000 ≤ x.toInt) (h2 : x.toInt ≤ 1000) (hac : i = k → x.toInt < 0) (hroom : mvN (M i).natAbs x.toInt < B32 ^ 26) : ∃ h', zs_X8_move h (aw n i) x (aw n k) = some h' ∧ CW B n d h' (va_up M k (if M i < 0 then -((mvN (M i).natAbs x.toInt : Nat) : Int) else (mvN (M i).natAbs x.toInt : Nat))) := by
  obtain ⟨V, W, hV⟩ := c.ws
  rw [← hV i hi] at hroom ⊢
  obtain ⟨g, e, W1, Fr⟩ := v_move W (Lc_m hi) (Lc_m hk.1) h1 h2 (fun z => hac (aw_inj hi hk.1 z)) hroom
  exact ⟨g, e, c.up W hV hk W1 Fr⟩
theorem CW.raiseBit (c : CW B n d h M) (hk : okI k) {K t : Nat} (hK : K < 832) (hn : 0 ≤ M k) (hc : (M k).natAbs = t * 2 ^ (K + 1)) : ∃ h', zs_X8_raiseBit h (aw n k) (nI K) = some h' ∧ CW B n d h' (va_up M k (((M k).natAbs + 2 ^ K : Nat) : Int)) := by
  obtain ⟨V, W, hV⟩ := c.ws
  rw [← hV k hk.1] at hn hc ⊢
  obtain ⟨g, e, W1, Fr⟩ := v_raiseBit W (Lc_m hk.1) hK hn hc
  exact ⟨g, e, c.up W hV hk W1 Fr⟩
theorem CW.divideSizes (c : CW B n d h M) (hi : i < 70) (hj : j < 70) (i1 : i ≠ 49) (i2 : i ≠ 50) (j1 : j ≠ 49) (j2 : j ≠ 50) (hb0 : M j ≠ 0) : ∃ h', zs_X0_divideSizes h (n + 117) (aw n i) (aw n j) = some h' ∧ CW B n d h' (va_up (va_up M 49 (((M i).natAbs / (M j).natAbs : Nat) : Int)) 50 (((M i).natAbs % (M j).natAbs : Nat) : Int)) := by
  obtain ⟨V, W, hV⟩ := c.ws
  rw [← hV i hi]
  rw [← hV j hj] at hb0 ⊢
  obtain ⟨g, e, W1, x, F⟩ := v_divideSizes W c.dx (Lc_m hi) (Lc_m hj) (Lc_m (by decide)) (Lc_m (by decide)) (aw_ne (by decide) (by decide) (by decide)) (aw_ne hi (by decide) i1) (aw_ne hi (by decide) i2) (aw_ne hj (by decide) j1) (aw_ne hj (by decide) j2) hb0
  exact ⟨g, e, c.fx W F W1 (va_upM (va_upM hV (by decide) _) (by decide) _) x ⟨by rw [va_un (by decide), va_un (by decide)]; exact c.o1.1, by rw [va_un (by decide), va_un (by decide)]; exact c.o1.2⟩⟩
theorem CW.divide (c : CW B n d h M) (hi : i < 70) (hj : j < 70) (i1 : i ≠ 49) (i2 : i ≠ 50) (j1 : j ≠ 49) (j2 : j ≠ 50) (hb0 : M j ≠ 0) (ba : (M i).natAbs < B32 ^ 25) (bb : (M j).natAbs < B32 ^ 25) (way : Int32) : ∃ h', zs_X0_divide h (n + 117) way (aw n i) (aw n j) = some h' ∧ CW B n d h' (va_up (va_up M 49 (dvQ way (M i) (M j))) 50 (dvR way (M i) (M j))) := by
  obtain ⟨V, W, hV⟩ := c.ws
  rw [← hV i hi] at ba ⊢
  rw [← hV j hj] at hb0 bb ⊢
  obtain ⟨g, e, W1, x, F⟩ := v_divide W c.dx (Lc_m hi) (Lc_m hj) (Lc_m (by decide)) (Lc_m (by decide)) (Lc_m (by decide)) (aw_ne (by decide) (by decide) (by decide)) (aw_ne (by decide) (by decide) (by decide)) (aw_ne (by decide) (by decide) (by decide)) (aw_ne hi (by decide) i1) (aw_ne hi (by decide) i2) (aw_ne hj (by decide) j1) (aw_ne hj (by decide) j2) hb0 ((hV 51 (by decide)).trans c.o1.1) ba bb way
  exact ⟨g, e, c.fx W F W1 (va_upM (va_upM hV (by decide) _) (by decide) _) x ⟨by rw [va_un (by decide), va_un (by decide)]; exact c.o1.1, by rw [va_un (by decide), va_un (by decide)]; exact c.o1.2⟩⟩
/-! what is read -/
theorem CW.chk8 (c : CW B n d h M) (hi : i < 70) : chk h (aw n i) 8 = some () := by
  obtain ⟨V, W, hV⟩ := c.ws
  exact v_chk W (Lc_m hi)
theorem CW.below (c : CW B n d h M) (hi : i < 70) : gI h (aw n i) 8 2 = some (if M i < 0 then 1 else 0) := by
  obtain ⟨V, W, hV⟩ := c.ws
  rw [← hV i hi]
  exact v_below W (Lc_m hi)
theorem CW.isZero (c : CW B n d h M) (hi : i < 70) : zs_X8_isZero h (aw n i) = some (if M i = 0 then 1 else 0) := by
  obtain ⟨V, W, hV⟩ := c.ws
  rw [← hV i hi]
  exact v_isZero W (Lc_m hi)
theorem CW.isWithin (c : CW B n d h M) (hi : i < 70) : zs_X8_isWithin h (aw n i) = some (if (M i).natAbs < B32 ^ 12 then 1 else 0) := by
  obtain ⟨V, W, hV⟩ := c.ws
  rw [← hV i hi]
  exact v_isWithin W (Lc_m hi)
theorem CW.isOdd (c : CW B n d h M) (hi : i < 70) : zs_X8_isOdd h (aw n i) = some (if (M i).natAbs % 2 = 1 then 1 else 0) := by
  obtain ⟨V, W, hV⟩ := c.ws
  rw [← hV i hi]
  exact v_isOdd W (Lc_m hi)
theorem CW.isOne (c : CW B n d h M) (hi : i < 70) : zs_X8_isOne h (aw n i) = some (if M i = 1 then 1 else 0) := by
  obtain ⟨V, W, hV⟩ := c.ws
  rw [← hV i hi]
  exact v_isOne W (Lc_m hi)
theorem CW.sizeBits (c : CW B n d h M) (hi : i < 70) : zs_X8_sizeBits h (aw n i) = some (nI (bl (M i).natAbs)) := by
  obtain ⟨V, W, hV⟩ := c.ws
  rw [← hV i hi]
  exact v_sizeBits W (Lc_m hi)
theorem CW.part (c : CW B n d h M) (hi : i < 70) (x : Int32) : zs_X8_partAt h (aw n i) x = some (lN (PZ (M i).natAbs x.toInt)) := by
  obtain ⟨V, W, hV⟩ := c.ws
  rw [← hV i hi]
  exact v_part W (Lc_m hi) x
theorem CW.leftBy (c : CW B n d h M) (hi : i < 70) (D : Int64) (h0 : 0 < uN D) (hD : uN D < B32) : zs_X8_leftBy h (aw n i) D = some (lN ((M i).natAbs % uN D)) := by
  obtain ⟨V, W, hV⟩ := c.ws
  rw [← hV i hi]
  exact v_leftBy W (Lc_m hi) D h0 hD
theorem CW.orderSizes (c : CW B n d h M) (hi : i < 70) (hj : j < 70) : zs_X8_orderSizes h (aw n i) (aw n j) = some (cmpI (M i).natAbs (M j).natAbs) := by
  obtain ⟨V, W, hV⟩ := c.ws
  rw [← hV i hi, ← hV j hj]
  exact v_orderSizes W (Lc_m hi) (Lc_m hj)
theorem CW.order (c : CW B n d h M) (hi : i < 70) (hj : j < 70) : zs_X8_order h (aw n i) (aw n j) = some (cmpZ (M i) (M j)) := by
  obtain ⟨V, W, hV⟩ := c.ws
  rw [← hV i hi, ← hV j hj]
  exact v_order W (Lc_m hi) (Lc_m hj)
theorem CW.lowest64 (c : CW B n d h M) (hi : i < 70) : zs_X8_lowest64 h (aw n i) = some (Int64.ofInt (M i)) := by
  obtain ⟨V, W, hV⟩ := c.ws
  rw [← hV i hi]
  exact v_lowest64 W (Lc_m hi)
theorem CW.isShort (c : CW B n d h M) (hi : i < 70) : zs_X8_isShort h (aw n i) = some (if -9223372036854775808 ≤ M i ∧ M i ≤ 9223372036854775807 then 1 else 0) := by
  obtain ⟨V, W, hV⟩ := c.ws
  rw [← hV i hi]
  exact v_isShort W (Lc_m hi)
theorem CW.look (c : CW B n d h M) (hi : i < 70) : ∃ k, gI h (aw n i) 8 1 = some (nI k) ∧ k ≤ 26 ∧ (M i).natAbs < B32 ^ k ∧ (0 < k → B32 ^ (k - 1) ≤ (M i).natAbs) := by
  obtain ⟨V, W, hV⟩ := c.ws
  rw [← hV i hi]
  obtain ⟨k, a, b, e, f, -⟩ := v_look W (Lc_m hi)
  exact ⟨k, a, b, e, f⟩
theorem Obj.gR (s : Obj n d h) {o ci k v : Nat} {fs : List Value} (ha : ct n d o = some (.inr (ci, fs))) (hf : fs[k]? = some (.ref v)) : gR h (n + o) ci k = some v := by
  show (match h.1 (n + o) with | some (.inr o) => if o.1 = ci then (match o.2[k]? with | some (.ref v) => some v | _ => none) else none | _ => none) = some v
  rw [s o _ ha]
  dsimp only
  rw [if_pos rfl, hf]
theorem Obj.gI (s : Obj n d h) {o ci k : Nat} {v : Int32} {fs : List Value} (ha : ct n d o = some (.inr (ci, fs))) (hf : fs[k]? = some (.int v)) : gI h (n + o) ci k = some v := by
  show (match h.1 (n + o) with | some (.inr o) => if o.1 = ci then (match o.2[k]? with | some (.int v) => some v | _ => none) else none | _ => none) = some v
  rw [s o _ ha]
  dsimp only
  rw [if_pos rfl, hf]
theorem Obj.chk (s : Obj n d h) {o ci : Nat} {fs : List Value} (ha : ct n d o = some (.inr (ci, fs))) : chk h (n + o) ci = some () := by
  show (match h.1 (n + o) with | some (.inr o) => if o.1 = ci then some () else none | _ => none) = some ()
  rw [s o _ ha]
  dsimp only
  rw [if_pos rfl]
theorem CW.rd0 (c : CW B n d h M) : chk h (n + 117) 0 = some () ∧ gR h (n + 117) 0 0 = some (aw n 49) ∧ gR h (n + 117) 0 1 = some (aw n 50) := ⟨c.ob.chk rfl, c.ob.gR rfl rfl, c.ob.gR rfl rfl⟩
theorem CW.rd3 (c : CW B n d h M) : chk h (n + 126) 3 = some () ∧ gR h (n + 126) 3 0 = some (aw n 52) ∧ gR h (n + 126) 3 1 = some (n + 117) ∧ gR h (n + 126) 3 2 = some (aw n 53) ∧ gR h (n + 126) 3 3 = some (aw n 54) ∧ gR h (n + 126) 3 4 = some (aw n 55) ∧ gR h (n + 126) 3 5 = some (aw n 56) ∧ gR h (n + 126) 3 6 = some (aw n 57) ∧ gR h (n + 126) 3 7 = some (aw n 58) :=
  ⟨c.ob.chk rfl, c.ob.gR rfl rfl, c.ob.gR rfl rfl, c.ob.gR rfl rfl, c.ob.gR rfl rfl, c.ob.gR rfl rfl, c.ob.gR rfl rfl, c.ob.gR rfl rfl, c.ob.gR rfl rfl⟩
theorem CW.rd2 (c : CW B n d h M) : chk h (n + 141) 2 = some () ∧ gR h (n + 141) 2 0 = some (aw n 59) ∧ gR h (n + 141) 2 1 = some (aw n 60) ∧ gR h (n + 141) 2 2 = some (n + 117) ∧ gR h (n + 141) 2 3 = some (n + 126) ∧ gR h (n + 141) 2 4 = some (aw n 61) ∧ gR h (n + 141) 2 5 = some (aw n 62) ∧ gR h (n + 141) 2 6 = some (aw n 63) ∧ gR h (n + 141) 2 7 = some (aw n 64) :=
  ⟨c.ob.chk rfl, c.ob.gR rfl rfl, c.ob.gR rfl rfl, c.ob.gR rfl rfl, c.ob.gR rfl rfl, c.ob.gR rfl rfl, c.ob.gR rfl rfl, c.ob.gR rfl rfl, c.ob.gR rfl rfl⟩
theorem CW.rd1 (c : CW B n d h M) : chk h (n + 154) 1 = some () ∧ gI h (n + 154) 1 0 = some d.hd ∧ gI h (n + 154) 1 1 = some d.rd ∧ gR h (n + 154) 1 2 = some (n + d.ka) ∧ gR h (n + 154) 1 3 = some (n + d.fa) ∧ gR h (n + 154) 1 4 = some (n + 117) ∧ gR h (n + 154) 1 5 = some (aw n 65) ∧ gR h (n + 154) 1 6 = some (aw n 66) ∧ gR h (n + 154) 1 7 = some (aw n 67) :=
  ⟨c.ob.chk rfl, c.ob.gI rfl rfl, c.ob.gI rfl rfl, c.ob.gR rfl rfl, c.ob.gR rfl rfl, c.ob.gR rfl rfl, c.ob.gR rfl rfl, c.ob.gR rfl rfl, c.ob.gR rfl rfl⟩
theorem CW.rd4 (c : CW B n d h M) {r : Nat} (hr : r < 12) : chk h (n + (51 + 5 * r)) 4 = some () ∧ gR h (n + (51 + 5 * r)) 4 0 = some (aw n (24 + r)) ∧ gR h (n + (51 + 5 * r)) 4 1 = some (aw n (36 + r)) :=
  ⟨c.ob.chk (ct_r c.ko hr), c.ob.gR (ct_r c.ko hr) rfl, c.ob.gR (ct_r c.ko hr) rfl⟩
theorem CW.rd5 (c : CW B n d h M) : chk h (n + 111) 5 = some () ∧ gI h (n + 111) 5 0 = some d.tc ∧ gR h (n + 111) 5 1 = some (n + 112) := ⟨c.ob.chk rfl, c.ob.gI rfl rfl, c.ob.gR rfl rfl⟩
theorem CW.rd6 (c : CW B n d h M) : chk h (n + 113) 6 = some () ∧ gI h (n + 113) 6 0 = some d.xc ∧ gR h (n + 113) 6 1 = some (n + 114) ∧ gR h (n + 113) 6 2 = some (aw n 48) := ⟨c.ob.chk rfl, c.ob.gI rfl rfl, c.ob.gR rfl rfl, c.ob.gR rfl rfl⟩
theorem CW.rd7 (c : CW B n d h M) : chk h (n + 163) 7 = some () ∧ gR h (n + 163) 7 0 = some (n + 164) ∧ chk h (n + 165) 7 = some () ∧ gR h (n + 165) 7 0 = some (n + 166) := ⟨c.ob.chk rfl, c.ob.gR rfl rfl, c.ob.chk rfl, c.ob.gR rfl rfl⟩
theorem CW.rd9 (c : CW B n d h M) : chk h n 9 = some () ∧ gR h n 9 0 = some (n + 1) ∧ gR h n 9 1 = some (n + 50) ∧ gR h n 9 2 = some (n + 111) ∧ gR h n 9 3 = some (n + 113) ∧ gR h n 9 4 = some (n + 117) ∧ gR h n 9 5 = some (n + 126) ∧ gR h n 9 6 = some (n + 141) ∧ gR h n 9 7 = some (n + 154) ∧ gR h n 9 8 = some (n + 163) ∧ gR h n 9 9 = some (n + 165) ∧ gR h n 9 10 = some (aw n 68) ∧ gR h n 9 11 = some (aw n 69) := by
  refine ⟨c.ob.chk (o := 0) rfl, ?_, ?_, ?_, ?_, ?_, ?_, ?_, ?_, ?_, ?_, ?_, ?_⟩
  all_goals exact c.ob.gR (o := 0) rfl rfl
theorem CW.slot (c : CW B n d h M) {s : Nat} (hs : s < 24) : aR h (n + 1) 3 (nI s) = some (aw n s) := by
  show (match h.1 (n + 1) with | some (.inl (k, n, .inr (.inr (.inr (.inr f))))) => if k = 3 ∧ 0 ≤ (nI s).toInt ∧ (nI s).toInt < n then f (nI s).toNatClampNeg else none | _ => none) = _
  rw [c.ob 1 _ rfl]
  have := nI_rg hs (by omega)
  simp only [nI_clamp (show s < 2 ^ 31 by omega)]
  rw [if_pos ⟨trivial, this.1, this.2⟩]
theorem CW.ratio (c : CW B n d h M) {s : Nat} (hs : s < 12) : aR h (n + 50) 4 (nI s) = some (n + (51 + 5 * s)) := by
  show (match h.1 (n + 50) with | some (.inl (k, n, .inr (.inr (.inr (.inr f))))) => if k = 4 ∧ 0 ≤ (nI s).toInt ∧ (nI s).toInt < n then f (nI s).toNatClampNeg else none | _ => none) = _
  rw [c.ob 50 _ rfl]
  have := nI_rg hs (by omega)
  simp only [nI_clamp (show s < 2 ^ 31 by omega)]
  rw [if_pos ⟨trivial, this.1, this.2⟩]
end Wld
