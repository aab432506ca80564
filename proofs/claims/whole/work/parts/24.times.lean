theorem sgv_mul {s t : Int32} (hs : s = 0 ∨ s = 1) (ht : t = 0 ∨ t = 1) {x y z : Nat} (h : z = x * y) : (if (if s = t then (0 : Int32) else 1) = 0 then (z : Int) else -(z : Int)) = sgv s x * sgv t y := by
  have e1 : ((x * y : Nat) : Int) = (x : Int) * y := Int.natCast_mul x y
  have i01 : ¬ ((0 : Int32) = 1) := by decide
  unfold sgv
  subst h
  rcases hs with rfl | rfl <;> rcases ht with rfl | rfl
  · rw [if_pos rfl, if_pos rfl, if_pos rfl, if_pos rfl, e1]
  · rw [if_neg i01, if_neg i10, if_pos rfl, if_neg i10, e1, Int.mul_neg]
  · rw [if_neg i10, if_neg i10, if_neg i10, if_pos rfl, e1, Int.neg_mul]
  · rw [if_pos rfl, if_pos rfl, if_neg i10, if_neg i10, e1, Int.neg_mul_neg]
theorem vN_zero {f : Nat → Int64} : ∀ {m : Nat}, (∀ j, j < m → f j = 0) → vN (dgs f) m = 0
  | 0, _ => rfl
  | m + 1, h => by
    show vN (dgs f) m + uN (f m) * B32 ^ m = 0
    rw [vN_zero (fun j hj => h j (by omega)), h m (by omega), uN_0]
    omega
section Tms
variable {L : Nat → Prop} {q : Nat → Nat} {h h' h'' : AH} {σ : Nat → WR} {V : Nat → Int} {a b c o : Nat}
theorem p_prodAll {fc : Nat → Int64} (H : HW L q h (va_up σ c (fc, (σ c).2))) (ha : L a) (hb : L b) (hc : L c) (hac : a ≠ c) (hbc : b ≠ c) {ka kb m : Nat} (hka : (σ a).2.1 = nI ka) (hkb : (σ b).2.1 = nI kb) (hm : m = ka + kb) (hm26 : m ≤ 26) (da : ∀ j, j < ka → uN ((σ a).1 j) < B32) (db : ∀ j, j < kb → uN ((σ b).1 j) < B32) (fz : ∀ j, j < m → fc j = 0) :
    ∃ (r : AH) (f : Nat → Int64), iter (fun x : AH × Int32 => zb_X8_product_41 a b c (nI m) x.1 x.2) FU (h, (0 : Int32)) = some r ∧ HW L q r (va_up σ c (f, (σ c).2)) ∧ Fr L q h r ∧ (∀ j, j < m → uN (f j) < B32) ∧ vN (dgs f) m = vN (dgs (σ a).1) ka * vN (dgs (σ b).1) kb := by
  obtain ⟨r, hr, f, Hr, Fr1, dr, vr⟩ := iter_FU (B := fun x : AH × Int32 => zb_X8_product_41 a b c (nI m) x.1 x.2)
    (fun i s => s.2 = nI i ∧ ∃ f : Nat → Int64, HW L q s.1 (va_up σ c (f, (σ c).2)) ∧ Fr L q h s.1 ∧ (∀ j, j < m → uN (f j) < B32) ∧ (∀ j, i + kb ≤ j → j < m → f j = 0) ∧ vN (dgs f) m = vN (dgs (σ a).1) i * vN (dgs (σ b).1) kb)
    (fun r => ∃ f : Nat → Int64, HW L q r (va_up σ c (f, (σ c).2)) ∧ Fr L q h r ∧ (∀ j, j < m → uN (f j) < B32) ∧ vN (dgs f) m = vN (dgs (σ a).1) ka * vN (dgs (σ b).1) kb)
    ka (by omega) (s := (h, (0 : Int32))) ⟨rfl, fc, H, Fr.rf, fun j hj => by rw [fz j hj, uN_0]; decide, fun j _ hj => fz j hj, by rw [vN_zero fz]; show 0 = 0 * _; rw [Nat.zero_mul]⟩ (by
    rintro i ⟨s, iv⟩ hi ⟨hiv, f, Hs, Fs, dl, dz, hv⟩
    dsimp only at hiv Hs Fs ⊢
    subst hiv
    unfold zb_X8_product_41
    have e1 : gI s a 8 1 = some (nI ka) := by rw [Hs.gI1 ha, va_un hac]; exact congrArg some hka
    rw [e1]
    simp only [Option.bind_some]
    by_cases hlt : i < ka
    · rw [if_neg (nI_ge hlt (by omega)), Hs.gR0 ha]
      simp only [Option.bind_some]
      have e2 : aJ s (q a) 1 (nI i) = some ((σ a).1 i) := by rw [Hs.aJ ha (by omega), va_un hac]
      rw [e2]
      simp only [Option.bind_some]
      obtain ⟨r, f2, er, Hr, Fr2, dr, cr, kr, vr⟩ := p_prodRow (a := a) Hs hb hc hbc (i := i) (m := m) hkb hm26 (by omega) db ((σ a).1 i) (da i hlt) dl
      rw [er]
      simp only [Option.bind_some]
      have e3 : gI r.1 b 8 1 = some (nI kb) := by rw [Hr.gI1 hb, va_un hbc]; exact congrArg some hkb
      rw [e3]
      simp only [Option.bind_some]
      rw [nI_add, if_neg (nI_ge (show i + kb < m by omega) (by omega)), Hr.gR0 hc]
      simp only [Option.bind_some]
      obtain ⟨g, eg, Hg, Fg⟩ := Hr.sJ hc (k := i + kb) (by omega) r.2
      rw [eg]
      simp only [Option.bind_some]
      refine ⟨_, rfl, fun s' hs => ?_, fun r hr => by (cases hr)⟩
      obtain rfl := Sum.inl.inj hs
      rw [va_us, va_uu] at Hg
      dsimp only at Hg ⊢
      refine ⟨hlt, nI_1 i, _, Hg, Fs.tr (Fr2.tr Fg), fun x hx => ?_, fun x h1 h2 => ?_, ?_⟩
      · by_cases e : x = i + kb
        · subst e; rw [pk_uLs]; exact cr
        · rw [pk_uLn e]; exact dr x hx
      · rw [pk_uLn (by omega), kr x (by omega)]
        exact dz x (by omega) h2
      · have hu := vN_upd (f := f2) (p := i + kb) r.2 (m := m) (by omega)
        rw [kr (i + kb) (Nat.le_refl _), dz (i + kb) (Nat.le_refl _) (by omega), uN_0, Nat.zero_mul, Nat.add_zero] at hu
        rw [hu, vr, hv]
        show _ = (vN (dgs (σ a).1) i + uN ((σ a).1 i) * B32 ^ i) * _
        rw [Nat.add_mul, Nat.mul_assoc (uN _), Nat.mul_assoc (uN _), Nat.mul_comm (B32 ^ i)]
    · rw [if_pos (nI_le (by omega) (by omega))]
      refine ⟨_, rfl, fun s' hs => by (cases hs), fun r hr => ?_⟩
      obtain rfl := Sum.inr.inj hr
      exact ⟨f, Hs, Fs, dl, by rw [show ka = i by omega]; exact hv⟩)
  exact ⟨r, f, hr, Hr, Fr1, dr, vr⟩
theorem v_product (W : WS L q h V) (ha : L a) (hb : L b) (hc : L c) (hac : a ≠ c) (hbc : b ≠ c) {na nb : Nat} (xa : (V a).natAbs < B32 ^ na) (xb : (V b).natAbs < B32 ^ nb) (hn : na + nb ≤ 26) :
    ∃ h', zs_X8_product h a b c = some h' ∧ WS L q h' (va_up V c (V a * V b)) ∧ Fr L q h h' := by
  obtain ⟨σ, H, hV⟩ := W
  obtain ⟨ka, a1, a2, a3, a4, a5, a6, a7⟩ := okW_sg (hV a ha)
  obtain ⟨kb, b1, b2, b3, b4, b5, b6, b7⟩ := okW_sg (hV b hb)
  have hka : ka ≤ na := vN_kle (d := dgs (σ a).1) (fun h0 => nz_uN (a4 h0)) (by rw [← a7]; exact xa)
  have hkb : kb ≤ nb := vN_kle (d := dgs (σ b).1) (fun h0 => nz_uN (b4 h0)) (by rw [← b7]; exact xb)
  unfold zs_X8_product zj_X8_product_191
  rw [H.gI1 ha, H.gI1 hb, a1, b1]
  simp only [Option.bind_some, lt_]
  rw [nI_add, show (26 : Int32) = nI 26 from rfl, if_neg (nI_nlt (by omega) (by omega))]
  obtain ⟨r, f, er, Hr, F1, fz⟩ := p_prodZero (a := a) (b := b) H hc (m := ka + kb) (by omega)
  rw [er]
  simp only [Option.bind_some]
  obtain ⟨r2, f2, er2, Hr2, F2, dr2, vr2⟩ := p_prodAll Hr ha hb hc hac hbc a1 b1 rfl (by omega) a3 b3 fz
  rw [er2]
  simp only [Option.bind_some]
  rw [Hr2.chk hc]
  simp only [Option.bind_some]
  obtain ⟨g, eg, Hg, Fg⟩ := p_trim Hr2 hc (c := ka + kb) (by omega)
  rw [eg]
  simp only [Option.bind_some]
  rw [va_us, va_uu] at Hg
  dsimp only at Hg
  have e1 : gI g a 8 2 = some (σ a).2.2 := by rw [Hg.gI2 ha, va_un hac]
  have e2 : gI g b 8 2 = some (σ b).2.2 := by rw [Hg.gI2 hb, va_un hbc]
  rw [e1, e2]
  simp only [Option.bind_some]
  rw [Hg.chk hc]
  simp only [Option.bind_some]
  have key : ∀ s : Int32, (s = if (σ a).2.2 = (σ b).2.2 then (0 : Int32) else 1) → ∃ h', ((zs_X8_takeSign g c s).bind fun g40 => some g40) = some h' ∧ WS L q h' (va_up V c (V a * V b)) ∧ Fr L q h h' := by
    intro s hs
    obtain ⟨g2, eg2, Hg2, Fg2⟩ := p_takeSign Hg hc (k := tl f2 (ka + kb)) (by rw [va_us]) (by have := tl_le f2 (ka + kb); omega) s
    rw [eg2]
    rw [va_us, va_uu] at Hg2
    dsimp only at Hg2
    have h9 := WS.up Hg2 hV (okW_fin (by omega) dr2 s)
    rw [hs, sgv_mul a5 b5 vr2, ← a6, ← b6] at h9
    exact ⟨g2, rfl, h9, F1.tr (F2.tr (Fg.tr Fg2))⟩
  by_cases hs : (σ a).2.2 = (σ b).2.2
  · rw [if_pos hs]
    exact key 0 (by rw [if_pos hs])
  · rw [if_neg hs]
    exact key 1 (by rw [if_neg hs])
end Tms
