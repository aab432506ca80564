def dgs (f : Nat → Int64) : Nat → Nat := fun i => uN (f i)
/-- part i of a whole of k parts -/
def pd (f : Nat → Int64) (k i : Nat) : Int64 := if i < k then f i else 0
theorem pd_vN {f : Nat → Int64} {k m : Nat} (h : k ≤ m) : vN (fun i => uN (pd f k i)) m = vN (dgs f) k := by
  rw [vN_0 (k := k) h (fun i a b => by simp [pd, show ¬ i < k by omega, uN_0])]
  exact vN_congr (fun i hi => by simp [pd, hi, dgs])
theorem pd_lt {f : Nat → Int64} {k : Nat} (h : ∀ i, i < k → uN (f i) < B32) (i : Nat) : uN (pd f k i) < B32 := by
  unfold pd
  split
  · exact h i (by assumption)
  · rw [uN_0]; decide
theorem uN_add3 {x y z : Int64} (hx : uN x < B32) (hy : uN y < B32) (hz : uN z ≤ 1) : uN (x + y + z) = uN x + uN y + uN z := by
  rw [uN_add, uN_add]
  unfold B32 at *
  omega
theorem uN_sh (x : Int64) : uN ((x.toUInt64 >>> (((32 : Int32)).toInt64.toUInt64 &&& Int64.toUInt64 63)).toInt64) = uN x / B32 := uN_s32 x
theorem uN_mk (x : Int64) : uN (x &&& (4294967295 : Int64)) = uN x % B32 := uN_lo x
theorem mdP (t P : Nat) : t % B32 * P + t / B32 * (4294967296 * P) = t * P := by
  rw [← Nat.mul_assoc, ← Nat.add_mul]
  congr 1
  show t % 4294967296 + t / 4294967296 * 4294967296 = t
  omega
theorem sub_facts {x y w t : Int64} (hx : uN x < B32) (hy : uN y < B32) (hw : w = 0 ∨ w = 1) (ht : t = x - y - w) : ((0 : Int64) ≤ t → uN t % B32 + uN y + uN w = uN x) ∧ (¬ (0 : Int64) ≤ t → uN t % B32 + uN y + uN w = uN x + B32) := by
  have hw2 : uN w ≤ 1 := by rcases hw with rfl | rfl <;> decide
  have e0 : t + w + y = x := by rw [ht]; rw [Int64.sub_add_cancel, Int64.sub_add_cancel]
  have e1 := congrArg uN e0
  rw [uN_add, uN_add] at e1
  have hl := uN_lt t
  have hi := uN_int t
  have h0 : ((0 : Int64) ≤ t) ↔ 0 ≤ t.toInt := by rw [Int64.le_iff_toInt_le]; exact Iff.rfl
  unfold B32 at *
  refine ⟨fun h => ?_, fun h => ?_⟩
  · rw [h0, hi] at h
    split at h <;> omega
  · rw [h0, hi] at h
    split at h <;> omega
section Sums
variable {L : Nat → Prop} {q : Nat → Nat} {h h' h'' : AH} {σ : Nat → WR} {a b c : Nat}
theorem p_addSizes (H : HW L q h σ) (ha : L a) (hb : L b) (hc : L c) {ka kb : Nat} (hka : (σ a).2.1 = nI ka) (hkb : (σ b).2.1 = nI kb) (ka25 : ka ≤ 25) (kb25 : kb ≤ 25) (da : ∀ i, i < ka → uN ((σ a).1 i) < B32) (db : ∀ i, i < kb → uN ((σ b).1 i) < B32) :
    ∃ (h' : AH) (f : Nat → Int64) (m : Nat), zs_X8_addSizes h a b c = some h' ∧ m ≤ 26 ∧ HW L q h' (va_up σ c (f, nI (tl f m), (σ c).2.2)) ∧ (∀ i, i < m → uN (f i) < B32) ∧ vN (dgs f) m = vN (dgs (σ a).1) ka + vN (dgs (σ b).1) kb ∧ Fr L q h h' := by
  obtain ⟨m, hm⟩ : ∃ m, m = if ka < kb then kb else ka := ⟨_, rfl⟩
  have hma : ka ≤ m := by rw [hm]; split <;> omega
  have hmb : kb ≤ m := by rw [hm]; split <;> omega
  have hm25 : m ≤ 25 := by rw [hm]; split <;> omega
  unfold zs_X8_addSizes
  rw [H.gI1 ha, H.gI1 hb, hka, hkb]
  simp only [Option.bind_some, lt_]
  have e1 : (if nI ka < nI kb then nI kb else nI ka) = nI m := by
    rw [hm]
    by_cases hlt : ka < kb
    · rw [if_pos (nI_lt hlt (by omega)), if_pos hlt]
    · rw [if_neg (nI_nlt (by omega) (by omega)), if_neg hlt]
  rw [e1]
  have e2 : (if (25 : Int32) < nI m then (25 : Int32) else nI m) = nI m := by
    rw [if_neg]
    have : (25 : Int32) = nI 25 := rfl
    rw [this]
    exact nI_nlt hm25 (by omega)
  rw [e2]
  obtain ⟨r, hr, f, Hr, Fr1, dr, cr, vr⟩ := iter_FU (B := fun x : AH × Int64 × Int32 => zb_X8_addSizes_23 a b c (nI m) x.1 x.2.1 x.2.2)
    (fun i s => s.2.2 = nI i ∧ ∃ f : Nat → Int64, HW L q s.1 (va_up σ c (f, (σ c).2)) ∧ Fr L q h s.1 ∧ (∀ j, j < i → uN (f j) < B32) ∧ (∀ j, i ≤ j → f j = (σ c).1 j) ∧ uN s.2.1 ≤ 1 ∧ vN (dgs f) i + uN s.2.1 * B32 ^ i = vN (fun j => uN (pd (σ a).1 ka j)) i + vN (fun j => uN (pd (σ b).1 kb j)) i)
    (fun r => ∃ f : Nat → Int64, HW L q r.1 (va_up σ c (f, (σ c).2)) ∧ Fr L q h r.1 ∧ (∀ j, j < m → uN (f j) < B32) ∧ uN r.2 ≤ 1 ∧ vN (dgs f) m + uN r.2 * B32 ^ m = vN (fun j => uN (pd (σ a).1 ka j)) m + vN (fun j => uN (pd (σ b).1 kb j)) m)
    m (by omega) (s := (h, (0 : Int64), (0 : Int32))) ⟨rfl, (σ c).1, by rw [va_ue]; exact H, Fr.rf, fun j hj => by omega, fun _ _ => rfl, by rw [uN_0]; omega, by simp only [uN_0]; rfl⟩ (by
    rintro i ⟨s, cy, iv⟩ hi ⟨hiv, f, Hs, Fs, dl, dh, hcy, hv⟩
    dsimp only at hiv Hs Fs hcy hv ⊢
    subst hiv
    unfold zb_X8_addSizes_23
    by_cases hlt : i < m
    · rw [if_neg (nI_ge hlt (by omega)), Hs.chk ha, Hs.chk hb]
      simp only [Option.bind_some]
      have pa : zs_X8_partAt s a (nI i) = some (pd (σ a).1 ka i) := by
        by_cases hac : a = c
        · subst hac
          rw [p_partAt Hs ha (k := ka) (by rw [va_us]; exact hka) (by omega) (by omega), va_us]
          simp only [pd, dh i (Nat.le_refl i)]
        · rw [p_partAt Hs ha (k := ka) (by rw [va_un hac]; exact hka) (by omega) (by omega), va_un hac]
          rfl
      have pb : zs_X8_partAt s b (nI i) = some (pd (σ b).1 kb i) := by
        by_cases hbc : b = c
        · subst hbc
          rw [p_partAt Hs hb (k := kb) (by rw [va_us]; exact hkb) (by omega) (by omega), va_us]
          simp only [pd, dh i (Nat.le_refl i)]
        · rw [p_partAt Hs hb (k := kb) (by rw [va_un hbc]; exact hkb) (by omega) (by omega), va_un hbc]
          rfl
      rw [pa, pb]
      simp only [Option.bind_some, lt_]
      rw [Hs.gR0 hc]
      simp only [Option.bind_some]
      obtain ⟨g, eg, Hg, Fg⟩ := Hs.sJ hc (k := i) (by omega) ((pd (σ a).1 ka i + pd (σ b).1 kb i + cy) &&& (4294967295 : Int64))
      rw [eg]
      simp only [Option.bind_some]
      refine ⟨_, rfl, fun s' hs => ?_, fun r hr => by (cases hr)⟩
      cases hs
      rw [va_us, va_uu] at Hg
      have et := uN_add3 (pd_lt da i) (pd_lt db i) hcy
      have l1 := pd_lt da i
      have l2 := pd_lt db i
      refine ⟨hlt, nI_1 i, _, Hg, Fs.tr Fg, fun j hj => ?_, fun j hj => ?_, ?_, ?_⟩
      · by_cases hji : j = i
        · subst hji
          rw [pk_uLs, uN_mk]
          exact Nat.mod_lt _ (by decide)
        · rw [pk_uLn hji]
          exact dl j (by omega)
      · rw [pk_uLn (by omega)]
        exact dh j (by omega)
      · rw [uN_sh, et]
        unfold B32 at l1 l2 ⊢
        omega
      · show vN (dgs (vp_updL f i _)) i + dgs (vp_updL f i _) i * B32 ^ i + _ = (vN _ i + uN (pd (σ a).1 ka i) * B32 ^ i) + (vN _ i + uN (pd (σ b).1 kb i) * B32 ^ i)
        rw [vN_congr (e := dgs f) (fun j hj => by simp only [dgs]; rw [pk_uLn (by omega)])]
        simp only [dgs]
        rw [pk_uLs, uN_mk, uN_sh, et, B32_s]
        have hm2 := mdP (uN (pd (σ a).1 ka i) + uN (pd (σ b).1 kb i) + uN cy) (B32 ^ i)
        rw [Nat.add_mul, Nat.add_mul] at hm2
        omega
    · have him : i = m := by omega
      subst him
      rw [if_pos (nI_le (Nat.le_refl _) (by omega))]
      refine ⟨_, rfl, fun s' hs => by (cases hs), fun r hr => ?_⟩
      cases hr
      exact ⟨f, Hs, Fs, dl, hcy, hv⟩)
  rw [hr]
  simp only [Option.bind_some]
  rw [Hr.gR0 hc]
  simp only [Option.bind_some]
  obtain ⟨g, eg, Hg, Fg⟩ := Hr.sJ hc (k := m) (by omega) r.2
  rw [eg]
  simp only [Option.bind_some]
  rw [Hg.chk hc]
  simp only [Option.bind_some]
  rw [va_us, va_uu] at Hg
  obtain ⟨g2, eg2, Hg2, Fg2⟩ := p_trim Hg hc (c := m + 1) (by omega)
  have e3 : nI m + (1 : Int32) = nI (m + 1) := nI_1 m
  rw [e3, eg2]
  rw [va_us, va_uu] at Hg2
  refine ⟨g2, vp_updL f m r.2, m + 1, rfl, by omega, Hg2, fun i hi => ?_, ?_, Fr1.tr (Fg.tr Fg2)⟩
  · by_cases him : i = m
    · subst him
      rw [pk_uLs]
      unfold B32
      omega
    · rw [pk_uLn him]
      exact dr i (by omega)
  · show vN (dgs (vp_updL f m r.2)) m + dgs (vp_updL f m r.2) m * B32 ^ m = _
    rw [vN_congr (e := dgs f) (fun j hj => by simp only [dgs]; rw [pk_uLn (by omega)])]
    simp only [dgs, pk_uLs]
    rw [vr, pd_vN hma, pd_vN hmb]
/-- a's size is not below b's -/
theorem p_subSizes (H : HW L q h σ) (ha : L a) (hb : L b) (hc : L c) {ka kb : Nat} (hka : (σ a).2.1 = nI ka) (hkb : (σ b).2.1 = nI kb) (ka26 : ka ≤ 26) (hkk : kb ≤ ka) (da : ∀ i, i < ka → uN ((σ a).1 i) < B32) (db : ∀ i, i < kb → uN ((σ b).1 i) < B32) (hge : vN (dgs (σ b).1) kb ≤ vN (dgs (σ a).1) ka) :
    ∃ (h' : AH) (f : Nat → Int64), zs_X8_subtractSizes h a b c = some h' ∧ HW L q h' (va_up σ c (f, nI (tl f ka), (σ c).2.2)) ∧ (∀ i, i < ka → uN (f i) < B32) ∧ vN (dgs f) ka = vN (dgs (σ a).1) ka - vN (dgs (σ b).1) kb ∧ Fr L q h h' := by
  unfold zs_X8_subtractSizes
  rw [H.gI1 ha, hka]
  simp only [Option.bind_some]
  obtain ⟨r, hr, f, Hr, Fr1, dr, by_, hby, vr⟩ := iter_FU (B := fun x : AH × Int64 × Int32 => zb_X8_subtractSizes_11 a b c (nI ka) x.1 x.2.1 x.2.2)
    (fun i s => s.2.2 = nI i ∧ ∃ f : Nat → Int64, HW L q s.1 (va_up σ c (f, (σ c).2)) ∧ Fr L q h s.1 ∧ (∀ j, j < i → uN (f j) < B32) ∧ (∀ j, i ≤ j → f j = (σ c).1 j) ∧ (s.2.1 = 0 ∨ s.2.1 = 1) ∧ vN (dgs f) i + vN (fun j => uN (pd (σ b).1 kb j)) i = vN (fun j => uN (pd (σ a).1 ka j)) i + uN s.2.1 * B32 ^ i)
    (fun r => ∃ f : Nat → Int64, HW L q r (va_up σ c (f, (σ c).2)) ∧ Fr L q h r ∧ (∀ j, j < ka → uN (f j) < B32) ∧ ∃ by_ : Nat, by_ ≤ 1 ∧ vN (dgs f) ka + vN (fun j => uN (pd (σ b).1 kb j)) ka = vN (fun j => uN (pd (σ a).1 ka j)) ka + by_ * B32 ^ ka)
    ka (by omega) (s := (h, (0 : Int64), (0 : Int32))) ⟨rfl, (σ c).1, by rw [va_ue]; exact H, Fr.rf, fun j hj => by omega, fun _ _ => rfl, Or.inl rfl, by simp only [uN_0]; rfl⟩ (by
    rintro i ⟨s, cy, iv⟩ hi ⟨hiv, f, Hs, Fs, dl, dh, hcy, hv⟩
    dsimp only at hiv Hs Fs hcy hv ⊢
    subst hiv
    unfold zb_X8_subtractSizes_11
    by_cases hlt : i < ka
    · rw [if_neg (nI_ge hlt (by omega)), Hs.chk ha, Hs.chk hb]
      simp only [Option.bind_some]
      have pa : zs_X8_partAt s a (nI i) = some (pd (σ a).1 ka i) := by
        by_cases hac : a = c
        · subst hac
          rw [p_partAt Hs ha (k := ka) (by rw [va_us]; exact hka) (by omega) (by omega), va_us]
          simp only [pd, dh i (Nat.le_refl i)]
        · rw [p_partAt Hs ha (k := ka) (by rw [va_un hac]; exact hka) (by omega) (by omega), va_un hac]
          rfl
      have pb : zs_X8_partAt s b (nI i) = some (pd (σ b).1 kb i) := by
        by_cases hbc : b = c
        · subst hbc
          rw [p_partAt Hs hb (k := kb) (by rw [va_us]; exact hkb) (by omega) (by omega), va_us]
          simp only [pd, dh i (Nat.le_refl i)]
        · rw [p_partAt Hs hb (k := kb) (by rw [va_un hbc]; exact hkb) (by omega) (by omega), va_un hbc]
          rfl
      rw [pa, pb]
      simp only [Option.bind_some, lt_]
      rw [Hs.gR0 hc]
      simp only [Option.bind_some]
      obtain ⟨t, et⟩ : ∃ t, t = pd (σ a).1 ka i - pd (σ b).1 kb i - cy := ⟨_, rfl⟩
      rw [← et]
      obtain ⟨g, eg, Hg, Fg⟩ := Hs.sJ hc (k := i) (by omega) (t &&& (4294967295 : Int64))
      rw [eg]
      simp only [Option.bind_some]
      rw [va_us, va_uu] at Hg
      have l1 := pd_lt da i
      have l2 := pd_lt db i
      have tt := sub_facts l1 l2 hcy et
      have base : ∀ (w : Int64), (w = 0 ∨ w = 1) → uN (pd (σ a).1 ka i) + uN w * B32 = uN t % B32 + uN (pd (σ b).1 kb i) + uN cy → ((nI i + (1 : Int32)) = nI (i + 1) ∧ ∃ f2 : Nat → Int64, HW L q g (va_up σ c (f2, (σ c).2)) ∧ Fr L q h g ∧ (∀ j, j < i + 1 → uN (f2 j) < B32) ∧ (∀ j, i + 1 ≤ j → f2 j = (σ c).1 j) ∧ (w = 0 ∨ w = 1) ∧ vN (dgs f2) (i + 1) + vN (fun j => uN (pd (σ b).1 kb j)) (i + 1) = vN (fun j => uN (pd (σ a).1 ka j)) (i + 1) + uN w * B32 ^ (i + 1)) := by
        intro w hw hq
        refine ⟨nI_1 i, _, Hg, Fs.tr Fg, fun j hj => ?_, fun j hj => ?_, hw, ?_⟩
        · by_cases hji : j = i
          · subst hji
            rw [pk_uLs, uN_mk]
            exact Nat.mod_lt _ (by decide)
          · rw [pk_uLn hji]
            exact dl j (by omega)
        · rw [pk_uLn (by omega)]
          exact dh j (by omega)
        · show vN (dgs (vp_updL f i _)) i + dgs (vp_updL f i _) i * B32 ^ i + (vN _ i + uN (pd (σ b).1 kb i) * B32 ^ i) = (vN _ i + uN (pd (σ a).1 ka i) * B32 ^ i) + _
          rw [vN_congr (e := dgs f) (fun j hj => by simp only [dgs]; rw [pk_uLn (by omega)])]
          simp only [dgs]
          rw [pk_uLs, uN_mk, B32_s]
          have h9 := congrArg (fun z => z * B32 ^ i) hq
          simp only [Nat.add_mul] at h9
          have h8 : uN w * B32 * B32 ^ i = uN w * (4294967296 * B32 ^ i) := by rw [Nat.mul_assoc]; rfl
          rw [h8] at h9
          have h7 : vN (dgs f) i + vN (fun j => uN (pd (σ b).1 kb j)) i = vN (fun j => uN (pd (σ a).1 ka j)) i + uN cy * B32 ^ i := hv
          omega
      by_cases hneg : (0 : Int64) ≤ t
      · rw [if_pos hneg]
        refine ⟨_, rfl, fun s' hs => ?_, fun r hr => by (cases hr)⟩
        cases hs
        exact ⟨hlt, base 0 (Or.inl rfl) (by rw [uN_0]; have := tt.1 hneg; omega)⟩
      · rw [if_neg hneg]
        refine ⟨_, rfl, fun s' hs => ?_, fun r hr => by (cases hr)⟩
        cases hs
        exact ⟨hlt, base 1 (Or.inr rfl) (by rw [uN_1]; have := tt.2 hneg; omega)⟩
    · have him : i = ka := by omega
      subst him
      rw [if_pos (nI_le (Nat.le_refl _) (by omega))]
      refine ⟨_, rfl, fun s' hs => by (cases hs), fun r hr => ?_⟩
      cases hr
      refine ⟨f, Hs, Fs, dl, uN cy, ?_, hv⟩
      rcases hcy with rfl | rfl
      · rw [uN_0]; omega
      · rw [uN_1]; omega)
  rw [hr]
  simp only [Option.bind_some]
  rw [Hr.chk hc]
  simp only [Option.bind_some]
  obtain ⟨g2, eg2, Hg2, Fg2⟩ := p_trim Hr hc (c := ka) (by omega)
  rw [eg2]
  rw [va_us, va_uu] at Hg2
  refine ⟨g2, f, rfl, Hg2, dr, ?_, Fr1.tr Fg2⟩
  rw [pd_vN (Nat.le_refl ka), pd_vN hkk] at vr
  have hl := vN_lt (d := dgs f) (k := ka) dr
  have hb0 : by_ = 0 := by
    rcases (show by_ = 0 ∨ by_ = 1 by omega) with e | e
    · exact e
    · rw [e, Nat.one_mul] at vr; omega
  rw [hb0, Nat.zero_mul] at vr
  omega
end Sums
