theorem vN_upd {f : Nat → Int64} {p : Nat} (x : Int64) : ∀ {m : Nat}, p < m → vN (dgs (vp_updL f p x)) m + uN (f p) * B32 ^ p = vN (dgs f) m + uN x * B32 ^ p
  | 0, h => absurd h (by omega)
  | m + 1, h => by
    show vN (dgs (vp_updL f p x)) m + uN (vp_updL f p x m) * B32 ^ m + _ = vN (dgs f) m + uN (f m) * B32 ^ m + _
    by_cases e : p = m
    · subst e
      rw [vN_congr (d := dgs (vp_updL f p x)) (e := dgs f) (fun j hj => by simp only [dgs]; rw [pk_uLn (by omega)]), pk_uLs]
      omega
    · have := vN_upd (f := f) (p := p) x (m := m) (by omega)
      rw [pk_uLn (by omega)]
      omega
section Prd
variable {L : Nat → Prop} {q : Nat → Nat} {h h' h'' : AH} {σ : Nat → WR} {V : Nat → Int} {a b c o : Nat}
theorem p_prodZero (H : HW L q h σ) (hc : L c) {m : Nat} (hm : m ≤ 26) : ∃ (r : AH) (f : Nat → Int64), iter (fun x : AH × Int32 => zb_X8_product_18 a b c (nI m) x.1 x.2) FU (h, (0 : Int32)) = some r ∧ HW L q r (va_up σ c (f, (σ c).2)) ∧ Fr L q h r ∧ ∀ j, j < m → f j = 0 := by
  obtain ⟨r, hr, f, Hr, Fr1, zr⟩ := iter_FU (B := fun x : AH × Int32 => zb_X8_product_18 a b c (nI m) x.1 x.2)
    (fun i s => s.2 = nI i ∧ ∃ f : Nat → Int64, HW L q s.1 (va_up σ c (f, (σ c).2)) ∧ Fr L q h s.1 ∧ ∀ j, j < i → f j = 0)
    (fun r => ∃ f : Nat → Int64, HW L q r (va_up σ c (f, (σ c).2)) ∧ Fr L q h r ∧ ∀ j, j < m → f j = 0)
    m (by omega) (s := (h, (0 : Int32))) ⟨rfl, (σ c).1, by rw [va_ue]; exact H, Fr.rf, fun j hj => by omega⟩ (by
    rintro i ⟨s, iv⟩ hi ⟨hiv, f, Hs, Fs, fz⟩
    dsimp only at hiv Hs Fs ⊢
    subst hiv
    unfold zb_X8_product_18
    by_cases hlt : i < m
    · rw [if_neg (nI_ge hlt (by omega)), Hs.gR0 hc]
      simp only [Option.bind_some]
      obtain ⟨g, eg, Hg, Fg⟩ := Hs.sJ hc (k := i) (by omega) (0 : Int64)
      rw [eg]
      simp only [Option.bind_some]
      refine ⟨_, rfl, fun s' hs => ?_, fun r hr => by (cases hr)⟩
      obtain rfl := Sum.inl.inj hs
      rw [va_us, va_uu] at Hg
      refine ⟨hlt, nI_1 i, _, Hg, Fs.tr Fg, fun j hj => ?_⟩
      by_cases e : j = i
      · subst e; exact pk_uLs
      · rw [pk_uLn e]; exact fz j (by omega)
    · rw [if_pos (nI_le (by omega) (by omega))]
      refine ⟨_, rfl, fun s' hs => by (cases hs), fun r hr => ?_⟩
      obtain rfl := Sum.inr.inj hr
      exact ⟨f, Hs, Fs, fun j hj => fz j (by omega)⟩)
  exact ⟨r, f, hr, Hr, Fr1, zr⟩
/-- one row of a product: the factor times b, from place i on -/
theorem p_prodRow {σ0 : Nat → WR} {fc : Nat → Int64} (H : HW L q h (va_up σ0 c (fc, (σ0 c).2))) (hb : L b) (hc : L c) (hbc : b ≠ c) {kb i m : Nat} (hkb : (σ0 b).2.1 = nI kb) (hm : m ≤ 26) (him : i + kb ≤ m) (db : ∀ j, j < kb → uN ((σ0 b).1 j) < B32) (F : Int64) (hF : uN F < B32) (dc : ∀ j, j < m → uN (fc j) < B32) :
    ∃ (r : AH × Int64) (f : Nat → Int64), iter (fun x : AH × Int64 × Int32 => zb_X8_product_65 a b c (nI m) (nI i) F x.1 x.2.1 x.2.2) FU (h, (0 : Int64), (0 : Int32)) = some r ∧ HW L q r.1 (va_up σ0 c (f, (σ0 c).2)) ∧ Fr L q h r.1 ∧ (∀ j, j < m → uN (f j) < B32) ∧ uN r.2 < B32 ∧ (∀ j, i + kb ≤ j → f j = fc j) ∧ vN (dgs f) m + uN r.2 * B32 ^ (i + kb) = vN (dgs fc) m + uN F * vN (dgs (σ0 b).1) kb * B32 ^ i := by
  obtain ⟨r, hr, f, Hr, Fr1, dr, cr, kr, vr⟩ := iter_FU (B := fun x : AH × Int64 × Int32 => zb_X8_product_65 a b c (nI m) (nI i) F x.1 x.2.1 x.2.2)
    (fun j s => s.2.2 = nI j ∧ ∃ f : Nat → Int64, HW L q s.1 (va_up σ0 c (f, (σ0 c).2)) ∧ Fr L q h s.1 ∧ (∀ x, x < m → uN (f x) < B32) ∧ uN s.2.1 < B32 ∧ (∀ x, i + j ≤ x → f x = fc x) ∧ vN (dgs f) m + uN s.2.1 * B32 ^ (i + j) = vN (dgs fc) m + uN F * vN (dgs (σ0 b).1) j * B32 ^ i)
    (fun r => ∃ f : Nat → Int64, HW L q r.1 (va_up σ0 c (f, (σ0 c).2)) ∧ Fr L q h r.1 ∧ (∀ x, x < m → uN (f x) < B32) ∧ uN r.2 < B32 ∧ (∀ x, i + kb ≤ x → f x = fc x) ∧ vN (dgs f) m + uN r.2 * B32 ^ (i + kb) = vN (dgs fc) m + uN F * vN (dgs (σ0 b).1) kb * B32 ^ i)
    kb (by omega) (s := (h, (0 : Int64), (0 : Int32))) ⟨rfl, fc, H, Fr.rf, dc, by rw [uN_0]; decide, fun _ _ => rfl, by show _ + uN 0 * _ = _ + uN F * 0 * _; rw [uN_0, Nat.zero_mul, Nat.mul_zero, Nat.zero_mul]⟩ (by
    rintro j ⟨s, cy, iv⟩ hj ⟨hiv, f, Hs, Fs, dl, hcy, dh, hv⟩
    dsimp only at hiv Hs Fs hcy hv ⊢
    subst hiv
    unfold zb_X8_product_65
    have e1 : gI s b 8 1 = some (nI kb) := by rw [Hs.gI1 hb, va_un hbc]; exact congrArg some hkb
    rw [e1]
    simp only [Option.bind_some]
    by_cases hlt : j < kb
    · rw [if_neg (nI_ge hlt (by omega)), nI_add, if_neg (nI_ge (show i + j < m by omega) (by omega)), Hs.gR0 hb, Hs.gR0 hc]
      simp only [Option.bind_some]
      have e2 : aJ s (q b) 1 (nI j) = some ((σ0 b).1 j) := by rw [Hs.aJ hb (by omega), va_un hbc]
      have e3 : aJ s (q c) 1 (nI (i + j)) = some (f (i + j)) := by rw [Hs.aJ hc (by omega), va_us]
      rw [e2, e3]
      simp only [Option.bind_some, lt_]
      have hp := db j hlt
      have ho := dl (i + j) (by omega)
      have hb1 : uN F * uN ((σ0 b).1 j) ≤ 4294967295 * 4294967295 := Nat.mul_le_mul (by unfold B32 at hF; omega) (by unfold B32 at hp; omega)
      have hcy' : uN cy < 4294967296 := hcy
      have ho' : uN (f (i + j)) < 4294967296 := ho
      have ht : uN (F * (σ0 b).1 j + f (i + j) + cy) = uN F * uN ((σ0 b).1 j) + uN (f (i + j)) + uN cy := by
        have h1 : uN (F * (σ0 b).1 j) = uN F * uN ((σ0 b).1 j) := uN_mulE (by omega)
        have h2 : uN (F * (σ0 b).1 j + f (i + j)) = uN F * uN ((σ0 b).1 j) + uN (f (i + j)) := by rw [uN_addE (by rw [h1]; omega), h1]
        rw [uN_addE (by rw [h2]; omega), h2]
      generalize (F * (σ0 b).1 j + f (i + j) + cy) = t at ht ⊢
      obtain ⟨g, eg, Hg, Fg⟩ := Hs.sJ hc (k := i + j) (by omega) (t &&& (4294967295 : Int64))
      rw [eg]
      simp only [Option.bind_some]
      refine ⟨_, rfl, fun s' hs => ?_, fun r hr => by (cases hr)⟩
      obtain rfl := Sum.inl.inj hs
      rw [va_us, va_uu] at Hg
      dsimp only at Hg ⊢
      refine ⟨hlt, nI_1 j, _, Hg, Fs.tr Fg, fun x hx => ?_, ?_, fun x hx => ?_, ?_⟩
      · by_cases e : x = i + j
        · subst e
          rw [pk_uLs, uN_mk]
          exact Nat.mod_lt _ (by decide)
        · rw [pk_uLn e]; exact dl x hx
      · rw [uN_sh, ht]
        show _ / 4294967296 < 4294967296
        omega
      · rw [pk_uLn (by omega)]; exact dh x (by omega)
      · have hu := vN_upd (f := f) (p := i + j) (t &&& (4294967295 : Int64)) (m := m) (by omega)
        rw [uN_mk] at hu
        rw [uN_sh, show i + (j + 1) = i + j + 1 by omega, B32_s]
        have hm2 := mdP (uN t) (B32 ^ (i + j))
        have h8 : uN t * B32 ^ (i + j) = uN F * uN ((σ0 b).1 j) * B32 ^ (i + j) + uN (f (i + j)) * B32 ^ (i + j) + uN cy * B32 ^ (i + j) := by
          rw [ht, Nat.add_mul, Nat.add_mul]
        have h9 : uN F * vN (dgs (σ0 b).1) (j + 1) * B32 ^ i = uN F * vN (dgs (σ0 b).1) j * B32 ^ i + uN F * uN ((σ0 b).1 j) * B32 ^ (i + j) := by
          show uN F * (vN (dgs (σ0 b).1) j + uN ((σ0 b).1 j) * B32 ^ j) * B32 ^ i = _
          rw [Nat.mul_add, Nat.add_mul, Nat.pow_add, Nat.mul_comm (B32 ^ i)]
          simp only [Nat.mul_assoc]
        rw [h9]
        omega
    · have e : j = kb := by omega
      subst e
      rw [if_pos (nI_le (Nat.le_refl _) (by omega))]
      refine ⟨_, rfl, fun s' hs => by (cases hs), fun r hr => ?_⟩
      obtain rfl := Sum.inr.inj hr
      exact ⟨f, Hs, Fs, dl, hcy, dh, hv⟩)
  exact ⟨r, f, hr, Hr, Fr1, dr, cr, kr, vr⟩
end Prd
