theorem top_nz {d : Nat → Nat} {k : Nat} (hk : 0 < k) (hd : ∀ i, i < k → d i < B32) (h : B32 ^ (k - 1) ≤ vN d k) : d (k - 1) ≠ 0 := by
  intro e
  obtain ⟨n, rfl⟩ : ∃ n, k = n + 1 := ⟨k - 1, by omega⟩
  have h1 := vN_lt (d := d) (k := n) (fun i hi => hd i (by omega))
  rw [Nat.add_sub_cancel] at e h
  have h2 : vN d (n + 1) = vN d n + d n * B32 ^ n := rfl
  rw [e, Nat.zero_mul] at h2
  omega
section Grw
variable {L : Nat → Prop} {q : Nat → Nat} {h h' h'' : AH} {σ : Nat → WR} {V : Nat → Int} {a b c o : Nat}
theorem v_grow (W : WS L q h V) (ho : L o) (hn : 0 ≤ V o) (F A : Int64) (hF0 : 0 < uN F) (hF : uN F < B32) (hA : uN A < B32) (hroom : (V o).natAbs * uN F + uN A < B32 ^ 26) :
    ∃ h', zs_X8_grow h o F A = some h' ∧ WS L q h' (va_up V o (((V o).natAbs * uN F + uN A : Nat) : Int)) ∧ Fr L q h h' := by
  obtain ⟨σ, H, hV⟩ := id W
  obtain ⟨k, a1, a2, a3, a4, a5, a6, a7⟩ := okW_sg (hV o ho)
  have hb0 : (σ o).2.2 = 0 := by
    have hb := v_below W ho
    rw [H.gI2 ho, if_neg (by omega)] at hb
    exact Option.some.inj hb
  unfold zs_X8_grow
  obtain ⟨r, hr, f, Hr, Fr1, dr, cr, vr⟩ := iter_FU (B := fun x : AH × Int64 × Int32 => zb_X8_grow_6 o F x.1 x.2.1 x.2.2)
    (fun i s => s.2.2 = nI i ∧ ∃ f : Nat → Int64, HW L q s.1 (va_up σ o (f, (σ o).2)) ∧ Fr L q h s.1 ∧ (∀ j, j < i → uN (f j) < B32) ∧ (∀ j, i ≤ j → f j = (σ o).1 j) ∧ uN s.2.1 < B32 ∧ vN (dgs f) i + uN s.2.1 * B32 ^ i = vN (dgs (σ o).1) i * uN F + uN A)
    (fun r => ∃ f : Nat → Int64, HW L q r.1 (va_up σ o (f, (σ o).2)) ∧ Fr L q h r.1 ∧ (∀ j, j < k → uN (f j) < B32) ∧ uN r.2 < B32 ∧ vN (dgs f) k + uN r.2 * B32 ^ k = vN (dgs (σ o).1) k * uN F + uN A)
    k (by omega) (s := (h, A, (0 : Int32))) ⟨rfl, (σ o).1, by rw [va_ue]; exact H, Fr.rf, fun j hj => by omega, fun _ _ => rfl, hA, by show 0 + uN A * B32 ^ 0 = 0 * uN F + uN A; rw [Nat.pow_zero]; omega⟩ (by
    rintro i ⟨s, cy, iv⟩ hi ⟨hiv, f, Hs, Fs, dl, dh, hcy, hv⟩
    dsimp only at hiv Hs Fs hcy hv ⊢
    subst hiv
    unfold zb_X8_grow_6
    have e1 : gI s o 8 1 = some (nI k) := by rw [Hs.gI1 ho, va_us]; exact congrArg some a1
    rw [e1]
    simp only [Option.bind_some]
    by_cases hlt : i < k
    · rw [if_neg (nI_ge hlt (by omega)), Hs.gR0 ho]
      simp only [Option.bind_some]
      have e2 : aJ s (q o) 1 (nI i) = some ((σ o).1 i) := by
        rw [Hs.aJ ho (by omega), va_us]
        exact congrArg some (dh i (Nat.le_refl i))
      rw [e2]
      simp only [Option.bind_some, lt_]
      have hp := a3 i hlt
      have hb1 : uN ((σ o).1 i) * uN F ≤ 4294967295 * 4294967295 := Nat.mul_le_mul (by unfold B32 at hp; omega) (by unfold B32 at hF; omega)
      have ht : uN ((σ o).1 i * F + cy) = uN ((σ o).1 i) * uN F + uN cy := by
        have hcy' : uN cy < 4294967296 := hcy
        rw [uN_addE (by rw [uN_mulE (by omega)]; omega), uN_mulE (by omega)]
      generalize ((σ o).1 i * F + cy) = t at ht ⊢
      obtain ⟨g, eg, Hg, Fg⟩ := Hs.sJ ho (k := i) (by omega) (t &&& (4294967295 : Int64))
      rw [eg]
      simp only [Option.bind_some]
      refine ⟨_, rfl, fun s' hs => ?_, fun r hr => by (cases hr)⟩
      obtain rfl := Sum.inl.inj hs
      rw [va_us, va_uu] at Hg
      dsimp only at Hg ⊢
      refine ⟨hlt, nI_1 i, _, Hg, Fs.tr Fg, fun j hj => ?_, fun j hj => ?_, ?_, ?_⟩
      · by_cases hji : j = i
        · subst hji
          rw [pk_uLs, uN_mk]
          exact Nat.mod_lt _ (by decide)
        · rw [pk_uLn hji]
          exact dl j (by omega)
      · rw [pk_uLn (by omega)]
        exact dh j (by omega)
      · rw [uN_sh, ht]
        have hcy' : uN cy < 4294967296 := hcy
        show _ / 4294967296 < 4294967296
        omega
      · show vN (dgs (vp_updL f i _)) i + dgs (vp_updL f i _) i * B32 ^ i + _ = (vN (dgs (σ o).1) i + uN ((σ o).1 i) * B32 ^ i) * uN F + uN A
        rw [vN_congr (e := dgs f) (fun j hj => by simp only [dgs]; rw [pk_uLn (by omega)])]
        simp only [dgs]
        rw [pk_uLs, uN_mk, uN_sh, B32_s]
        have hm2 := mdP (uN t) (B32 ^ i)
        have h8 : uN t * B32 ^ i = uN ((σ o).1 i) * B32 ^ i * uN F + uN cy * B32 ^ i := by
          rw [ht, Nat.add_mul, Nat.mul_assoc, Nat.mul_comm (uN F), ← Nat.mul_assoc]
        rw [Nat.add_mul]
        have h7 : vN (dgs f) i + uN cy * B32 ^ i = vN (dgs (σ o).1) i * uN F + uN A := hv
        show vN (dgs f) i + _ + _ = vN (dgs (σ o).1) i * uN F + _ + _
        omega
    · have him : i = k := by omega
      subst him
      rw [if_pos (nI_le (Nat.le_refl _) (by omega))]
      refine ⟨_, rfl, fun s' hs => by (cases hs), fun r hr => ?_⟩
      obtain rfl := Sum.inr.inj hr
      exact ⟨f, Hs, Fs, dl, hcy, hv⟩)
  rw [hr]
  simp only [Option.bind_some]
  rw [← a7] at vr
  have hge : (V o).natAbs ≤ (V o).natAbs * uN F := Nat.le_mul_of_pos_right _ hF0
  by_cases hz : r.2 = 0
  · rw [if_pos hz]
    rw [hz, uN_0, Nat.zero_mul, Nat.add_zero] at vr
    refine ⟨r.1, rfl, WS.up Hr hV ?_, Fr1⟩
    refine ⟨k, a1, a2, dr, fun h0 => ?_, Or.inl ⟨hb0, by rw [vr]⟩⟩
    have h5 : B32 ^ (k - 1) ≤ vN (dgs (σ o).1) k := by
      obtain ⟨n, rfl⟩ : ∃ n, k = n + 1 := ⟨k - 1, by omega⟩
      exact vN_ge (nz_uN (a4 h0))
    rw [← a7] at h5
    have h6 := top_nz (d := dgs f) h0 dr (by omega)
    exact fun e => h6 (by have e2 : f (k - 1) = 0 := e; show uN (f (k - 1)) = 0; rw [e2, uN_0])
  · rw [if_neg hz]
    have hcp : 1 ≤ uN r.2 := by have := nz_uN hz; omega
    have hk25 : k < 26 := by
      rcases Nat.lt_or_ge k 26 with hk | hk
      · exact hk
      · have : k = 26 := by omega
        subst this
        have : 1 * B32 ^ 26 ≤ uN r.2 * B32 ^ 26 := Nat.mul_le_mul_right _ hcp
        omega
    have e1 : gI r.1 o 8 1 = some (nI k) := by rw [Hr.gI1 ho, va_us]; exact congrArg some a1
    rw [e1]
    simp only [Option.bind_some]
    rw [show (26 : Int32) = nI 26 from rfl, if_neg (nI_ge hk25 (by omega)), Hr.gR0 ho]
    simp only [Option.bind_some]
    obtain ⟨g, eg, Hg, Fg⟩ := Hr.sJ ho (k := k) hk25 r.2
    rw [eg]
    simp only [Option.bind_some]
    rw [va_us, va_uu] at Hg
    dsimp only at Hg
    have e2 : gI g o 8 1 = some (nI k) := by rw [Hg.gI1 ho, va_us]; exact congrArg some a1
    rw [e2]
    simp only [Option.bind_some]
    obtain ⟨g2, eg2, Hg2, Fg2⟩ := Hg.pN ho (nI k + 1)
    rw [eg2]
    rw [va_us, va_uu] at Hg2
    dsimp only at Hg2
    refine ⟨g2, rfl, WS.up Hg2 hV ?_, Fr1.tr (Fg.tr Fg2)⟩
    refine ⟨k + 1, nI_1 k, by omega, fun i hi => ?_, fun _ => ?_, Or.inl ⟨hb0, ?_⟩⟩
    · dsimp only
      by_cases e : i = k
      · subst e; rw [pk_uLs]; exact cr
      · rw [pk_uLn e]; exact dr i (by omega)
    · dsimp only
      rw [Nat.add_sub_cancel, pk_uLs]
      exact hz
    · dsimp only
      rw [← vr]
      show ((vN (dgs f) k + uN r.2 * B32 ^ k : Nat) : Int) = ((vN (dgs (vp_updL f k r.2)) k + dgs (vp_updL f k r.2) k * B32 ^ k : Nat) : Int)
      rw [vN_congr (d := dgs (vp_updL f k r.2)) (e := dgs f) (fun j hj => by simp only [dgs]; rw [pk_uLn (by omega)])]
      simp only [dgs, pk_uLs]
end Grw
