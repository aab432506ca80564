/-- the digits of a number below B^m, in a row of m parts -/
theorem vN_of {f : Nat → Int64} {m N : Nat} (hN : N < B32 ^ m) (hf : ∀ j, j < m → uN (f j) = N / B32 ^ j % B32) : vN (dgs f) m = N := by
  have key : ∀ k, k ≤ m → vN (dgs f) k = N % B32 ^ k := by
    intro k
    induction k with
    | zero => intro _; show 0 = N % B32 ^ 0; rw [Nat.pow_zero, Nat.mod_one]
    | succ k ih =>
      intro hk
      show vN (dgs f) k + uN (f k) * B32 ^ k = N % B32 ^ (k + 1)
      rw [ih (by omega), hf k (by omega), Nat.pow_succ, Nat.mod_mul, Nat.mul_comm (B32 ^ k)]
  rw [key m (Nat.le_refl m), Nat.mod_eq_of_lt hN]
section Mov
variable {L : Nat → Prop} {q : Nat → Nat} {h h' h'' : AH} {σ : Nat → WR} {V : Nat → Int} {a b c o : Nat}
/-- a whole's parts, by its value, also while another one is written -/
theorem p_movedPart (H : HW L q h σ) (ho : L o) {x : Int} (hx : okW (σ o) x) {i : Nat} (hi : i < 1000) {n : Int32} (h1 : -2000 ≤ n.toInt) (h2 : n.toInt ≤ 2000) : zs_X8_movedPart h o (nI i) n = some (lN (mvN x.natAbs n.toInt / B32 ^ i % B32)) := by
  have W : WS (fun z => z = o) q h (fun _ => x) := ⟨σ, ⟨fun z hz => by subst hz; exact H.1 z ho, fun z z' hz hz' _ => by rw [hz, hz']⟩, fun z hz => by subst hz; exact hx⟩
  exact v_movedPart W rfl hi h1 h2
theorem mvN_lt {M k : Nat} {n : Int} (hM : M < B32 ^ k) {m : Nat} (hm : (k : Int) + n / 32 + 1 ≤ m) : mvN M n < B32 ^ m := by
  unfold mvN
  rw [B32_two] at hM ⊢
  split
  · rename_i h0
    have e1 : M * 2 ^ n.toNat < 2 ^ (32 * k) * 2 ^ n.toNat := Nat.mul_lt_mul_of_pos_right hM (Nat.pow_pos (by decide))
    rw [← Nat.pow_add] at e1
    exact Nat.lt_of_lt_of_le e1 (Nat.pow_le_pow_right (by decide) (by omega))
  · rename_i h0
    rw [Nat.div_lt_iff_lt_mul (Nat.pow_pos (by decide)), ← Nat.pow_add]
    exact Nat.lt_of_lt_of_le hM (Nat.pow_le_pow_right (by decide) (by omega))
/-- c is a, moved; c may be a where n is below 0 -/
theorem v_move (W : WS L q h V) (ha : L a) (hc : L c) {n : Int32} (h1 : -1000 ≤ n.toInt) (h2 : n.toInt ≤ 1000) (hac : a = c → n.toInt < 0) (hroom : mvN (V a).natAbs n.toInt < B32 ^ 26) :
    ∃ h', zs_X8_move h a n c = some h' ∧ WS L q h' (va_up V c (if V a < 0 then -((mvN (V a).natAbs n.toInt : Nat) : Int) else (mvN (V a).natAbs n.toInt : Nat))) ∧ Fr L q h h' := by
  obtain ⟨σ, H, hV⟩ := id W
  obtain ⟨k, a1, a2, a3, a4, a5, a6, a7⟩ := okW_sg (hV a ha)
  have hMk : (V a).natAbs < B32 ^ k := by rw [a7]; exact vN_lt a3
  unfold zs_X8_move
  rw [H.gI1 ha, a1]
  simp only [Option.bind_some, lt_]
  have hw := i32_shr5 n
  obtain ⟨w, hwe⟩ : ∃ w, w = n >>> ((5 : Int32) &&& 31) := ⟨_, rfl⟩
  rw [← hwe] at hw ⊢
  have hs : (nI k + w + 1).toInt = (k : Int) + n.toInt / 32 + 1 := by
    have e1 : (nI k + w).toInt = (k : Int) + n.toInt / 32 := by
      rw [Int32.toInt_add, nI_toInt (by omega), hw]
      exact Int.bmod_eq_of_le (by omega) (by omega)
    rw [Int32.toInt_add, e1, Int32.toInt_one]
    exact Int.bmod_eq_of_le (by omega) (by omega)
  generalize nI k + w + 1 = t at hs ⊢
  obtain ⟨m, hm⟩ : ∃ m : Nat, m = if 26 < t.toInt then 26 else t.toInt.toNat := ⟨_, rfl⟩
  have hm26 : m ≤ 26 := by rw [hm]; split <;> omega
  have e2 : (if (0 : Int32) < (if (26 : Int32) < t then (26 : Int32) else t) then (if (26 : Int32) < t then (26 : Int32) else t) else (0 : Int32)) = nI m := by
    have c26 : ((26 : Int32) < t) ↔ 26 < t.toInt := Int32.lt_iff_toInt_lt
    have c0 : ((0 : Int32) < t) ↔ 0 < t.toInt := Int32.lt_iff_toInt_lt
    by_cases h26 : 26 < t.toInt
    · rw [if_pos (c26.mpr h26), if_pos (by decide), hm, if_pos h26]
      rfl
    · rw [if_neg (fun e => h26 (c26.mp e)), hm, if_neg h26]
      by_cases h0 : 0 < t.toInt
      · rw [if_pos (c0.mpr h0)]
        exact i32_nn (by omega)
      · rw [if_neg (fun e => h0 (c0.mp e)), show t.toInt.toNat = 0 by omega]
        rfl
  rw [e2]
  have hmv : mvN (V a).natAbs n.toInt < B32 ^ m := by
    by_cases h26 : 26 < t.toInt
    · rw [hm, if_pos h26]; exact hroom
    · rw [hm, if_neg h26]
      by_cases h0 : 0 ≤ t.toInt
      · exact mvN_lt hMk (by omega)
      · have e9 := mvN_lt (n := n.toInt) (m := 0) hMk (by omega)
        rw [show t.toInt.toNat = 0 by omega]
        exact e9
  obtain ⟨N, hN⟩ : ∃ N, N = mvN (V a).natAbs n.toInt := ⟨_, rfl⟩
  rw [← hN] at hmv ⊢
  obtain ⟨r, hr, f, Hr, Fr1, dr⟩ := iter_FU (B := fun x : AH × Int32 => zb_X8_move_23 a n c (nI m) x.1 x.2)
    (fun i s => s.2 = nI i ∧ ∃ f : Nat → Int64, HW L q s.1 (va_up σ c (f, (σ c).2)) ∧ Fr L q h s.1 ∧ (∀ j, j < i → uN (f j) = N / B32 ^ j % B32) ∧ (∀ j, i ≤ j → f j = (σ c).1 j))
    (fun r => ∃ f : Nat → Int64, HW L q r (va_up σ c (f, (σ c).2)) ∧ Fr L q h r ∧ (∀ j, j < m → uN (f j) = N / B32 ^ j % B32))
    m (by omega) (s := (h, (0 : Int32))) ⟨rfl, (σ c).1, by rw [va_ue]; exact H, Fr.rf, fun j hj => by omega, fun _ _ => rfl⟩ (by
    rintro i ⟨s, iv⟩ hi ⟨hiv, f, Hs, Fs, fl, fh⟩
    dsimp only at hiv Hs Fs ⊢
    subst hiv
    unfold zb_X8_move_23
    by_cases hlt : i < m
    · rw [if_neg (nI_ge hlt (by omega)), Hs.gR0 hc, Hs.chk ha]
      simp only [Option.bind_some]
      have e3 : zs_X8_movedPart s a (nI i) n = some (lN (N / B32 ^ i % B32)) := by
        by_cases hac2 : a = c
        · have hneg := hac hac2
          obtain ⟨j, hj⟩ : ∃ j : Nat, (j : Int) + 1 = (i : Int) - n.toInt / 32 := ⟨((i : Int) - n.toInt / 32 - 1).toNat, by omega⟩
          have ej : nI i - n >>> ((5 : Int32) &&& 31) = nI (j + 1) := by
            apply Int32.toInt_inj.mp
            rw [Int32.toInt_sub, nI_toInt (by omega), i32_shr5, nI_toInt (by omega), Int.bmod_eq_of_le (by omega) (by omega)]
            omega
          have ep : ∀ x, i ≤ x → x < 2 ^ 31 → zs_X8_partAt s a (nI x) = zs_X8_partAt h a (nI x) := by
            intro x hx hx2
            rw [p_partAt Hs ha (k := k) (by rw [hac2, va_us, ← hac2]; exact a1) a2 hx2, p_partAt H ha a1 a2 hx2, hac2, va_us]
            dsimp only
            rw [fh x hx]
          have em : zs_X8_movedPart s a (nI i) n = zs_X8_movedPart h a (nI i) n := by
            unfold zs_X8_movedPart
            simp only [lt_]
            rw [Hs.chk ha, H.chk ha, ej]
            simp only [Option.bind_some]
            rw [nI_pred j, ep (j + 1) (by omega) (by omega), ep j (by omega) (by omega)]
          rw [em, hN]
          exact v_movedPart W ha (by omega) (by omega) (by omega)
        · rw [hN]
          exact p_movedPart Hs ha (by rw [va_un hac2]; exact hV a ha) (by omega) (by omega) (by omega)
      rw [e3]
      simp only [Option.bind_some]
      obtain ⟨g, eg, Hg, Fg⟩ := Hs.sJ hc (k := i) (by omega) (lN (N / B32 ^ i % B32))
      rw [eg]
      simp only [Option.bind_some]
      refine ⟨_, rfl, fun s' hs => ?_, fun r hr => by (cases hr)⟩
      obtain rfl := Sum.inl.inj hs
      rw [va_us, va_uu] at Hg
      refine ⟨hlt, nI_1 i, _, Hg, Fs.tr Fg, fun j hj => ?_, fun j hj => ?_⟩
      · by_cases e : j = i
        · subst e; rw [pk_uLs]; exact uN_lN (Nat.lt_trans (Nat.mod_lt _ (by decide)) (by decide))
        · rw [pk_uLn e]; exact fl j (by omega)
      · rw [pk_uLn (by omega)]; exact fh j (by omega)
    · rw [if_pos (nI_le (by omega) (by omega))]
      refine ⟨_, rfl, fun s' hs => by (cases hs), fun r hr => ?_⟩
      obtain rfl := Sum.inr.inj hr
      exact ⟨f, Hs, Fs, fun j hj => fl j (by omega)⟩)
  rw [hr]
  simp only [Option.bind_some]
  have eb : gI r a 8 2 = some (σ a).2.2 := by
    rw [Hr.gI2 ha]
    by_cases e : a = c
    · subst e; rw [va_us]
    · rw [va_un e]
  rw [eb, Hr.chk hc]
  simp only [Option.bind_some]
  obtain ⟨g, eg, Hg, Fg⟩ := p_trim Hr hc (c := m) hm26
  rw [eg]
  simp only [Option.bind_some]
  rw [va_us, va_uu] at Hg
  dsimp only at Hg
  rw [Hg.chk hc]
  simp only [Option.bind_some]
  obtain ⟨g2, eg2, Hg2, Fg2⟩ := p_takeSign Hg hc (k := tl f m) (by rw [va_us]) (by have := tl_le f m; omega) (σ a).2.2
  rw [eg2]
  rw [va_us, va_uu] at Hg2
  dsimp only at Hg2
  have hdig : ∀ i, i < m → uN (f i) < B32 := fun i hi => by rw [dr i hi]; exact Nat.mod_lt _ (by decide)
  have h9 := WS.up Hg2 hV (okW_fin hm26 hdig (σ a).2.2)
  rw [vN_of hmv dr] at h9
  have hb := v_below W ha
  rw [H.gI2 ha] at hb
  rw [Option.some.inj hb] at h9
  refine ⟨g2, rfl, ?_, Fr1.tr (Fg.tr Fg2)⟩
  by_cases hn : V a < 0
  · rw [if_pos hn] at h9 ⊢
    rw [if_neg i10] at h9
    exact h9
  · rw [if_neg hn] at h9 ⊢
    rw [if_pos rfl] at h9
    exact h9
end Mov
