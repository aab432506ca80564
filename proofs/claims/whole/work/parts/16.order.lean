theorem vN_up {d e : Nat → Nat} {j : Nat} : ∀ {k : Nat}, j ≤ k → (∀ i, j ≤ i → i < k → d i = e i) → vN d j < vN e j → vN d k < vN e k
  | 0, h, _, hl => by rw [show j = 0 by omega] at hl; exact hl
  | k + 1, h, hq, hl => by
    by_cases e1 : j = k + 1
    · rw [← e1]; exact hl
    · have := vN_up (d := d) (e := e) (k := k) (by omega) (fun i a b => hq i a (by omega)) hl
      show vN d k + d k * B32 ^ k < vN e k + e k * B32 ^ k
      rw [hq k (by omega) (by omega)]
      omega
theorem vN_cmp {d e : Nat → Nat} {j k : Nat} (hj : j < k) (hd : ∀ i, i < k → d i < B32) (hq : ∀ i, j < i → i < k → d i = e i) (hl : d j < e j) : vN d k < vN e k := by
  refine vN_up (j := j + 1) hj (fun i a b => hq i a b) ?_
  have h1 := vN_lt (d := d) (k := j) (fun i hi => hd i (by omega))
  have h2 : (d j + 1) * B32 ^ j ≤ e j * B32 ^ j := Nat.mul_le_mul_right _ hl
  rw [Nat.add_mul, Nat.one_mul] at h2
  show vN d j + d j * B32 ^ j < vN e j + e j * B32 ^ j
  omega
theorem vN_len {d e : Nat → Nat} {j k : Nat} (hjk : j < k) (hd : ∀ i, i < j → d i < B32) (ht : e (k - 1) ≠ 0) : vN d j < vN e k := by
  obtain ⟨n, rfl⟩ : ∃ n, k = n + 1 := ⟨k - 1, by omega⟩
  have h1 := vN_lt (d := d) (k := j) hd
  have h2 := vN_ge (d := e) (k := n) ht
  have h3 : B32 ^ j ≤ B32 ^ n := Nat.pow_le_pow_right (by decide) (by omega)
  omega
theorem uN_leI {x y : Int64} (hx : uN x < B32) (hy : uN y < B32) : x ≤ y ↔ uN x ≤ uN y := by
  have h1 := pk_lLE (a := uN x) (b := uN y) (by unfold B32 at hx; omega) (by unfold B32 at hy; omega)
  rw [lN_uN, lN_uN] at h1
  exact h1
theorem uN_ltI {x y : Int64} (hx : uN x < B32) (hy : uN y < B32) : x < y ↔ uN x < uN y := by
  have h1 := pk_lLT (a := uN x) (b := uN y) (by unfold B32 at hx; omega) (by unfold B32 at hy; omega)
  rw [lN_uN, lN_uN] at h1
  exact h1
def cmpI (x y : Nat) : Int32 := if x < y then -1 else if x = y then 0 else 1
theorem cmpI_lt {x y : Nat} (h : x < y) : cmpI x y = -1 := by simp [cmpI, h]
theorem cmpI_eq {x y : Nat} (h : x = y) : cmpI x y = 0 := by simp [cmpI, h]
theorem cmpI_gt {x y : Nat} (h : y < x) : cmpI x y = 1 := by
  unfold cmpI
  rw [if_neg (by omega), if_neg (by omega)]
section Ord
variable {L : Nat → Prop} {q : Nat → Nat} {h h' h'' : AH} {σ : Nat → WR} {a b c : Nat}
theorem p_orderSizes (H : HW L q h σ) (ha : L a) (hb : L b) {ka kb : Nat} (hka : (σ a).2.1 = nI ka) (hkb : (σ b).2.1 = nI kb) (ka26 : ka ≤ 26) (kb26 : kb ≤ 26) (da : ∀ i, i < ka → uN ((σ a).1 i) < B32) (db : ∀ i, i < kb → uN ((σ b).1 i) < B32) (ta : 0 < ka → (σ a).1 (ka - 1) ≠ 0) (tb : 0 < kb → (σ b).1 (kb - 1) ≠ 0) :
    zs_X8_orderSizes h a b = some (cmpI (vN (dgs (σ a).1) ka) (vN (dgs (σ b).1) kb)) := by
  have nz : ∀ {x : Int64}, x ≠ 0 → uN x ≠ 0 := fun hx e => hx (uN_inj (e.trans uN_0.symm))
  unfold zs_X8_orderSizes
  rw [H.gI1 ha, H.gI1 hb, hka, hkb]
  simp only [Option.bind_some]
  by_cases hk : ka = kb
  · subst hk
    rw [if_pos rfl]
    simp only [lt_]
    obtain ⟨r, hr, hz⟩ := iter_FU (B := fun x : Int32 => zb_X8_orderSizes_35 h a b x)
      (fun i s => s = nI (ka - i) - 1 ∧ ∀ j, ka - i ≤ j → j < ka → (σ a).1 j = (σ b).1 j)
      (fun r => match r with
        | .inl w => ∃ j, j < ka ∧ w = nI j ∧ (σ a).1 j ≠ (σ b).1 j ∧ ∀ i, j < i → i < ka → (σ a).1 i = (σ b).1 i
        | .inr _ => ∀ j, j < ka → (σ a).1 j = (σ b).1 j)
      ka (by omega) (s := nI ka - 1) ⟨rfl, fun j h1 h2 => by omega⟩ (by
      intro i s hi ⟨hs, heq⟩
      subst hs
      unfold zb_X8_orderSizes_35
      by_cases h0 : ka - i = 0
      · rw [h0, if_pos (by decide)]
        refine ⟨_, rfl, fun s' hs => by (cases hs), fun r hr => ?_⟩
        cases hr
        exact fun j hj => heq j (by omega) hj
      · obtain ⟨j, hj⟩ : ∃ j, ka - i = j + 1 := ⟨ka - i - 1, by omega⟩
        rw [hj] at heq ⊢
        rw [nI_pred j, if_neg (nI_pos (by omega)), H.gR0 ha, H.gR0 hb]
        simp only [Option.bind_some]
        rw [H.aJ ha (by omega), H.aJ hb (by omega)]
        simp only [Option.bind_some]
        by_cases he : (σ a).1 j = (σ b).1 j
        · rw [if_pos he]
          refine ⟨_, rfl, fun s' hs => ?_, fun r hr => by (cases hr)⟩
          obtain rfl := Sum.inl.inj hs
          refine ⟨by omega, ?_, fun x h1 h2 => ?_⟩
          · rw [show ka - (i + 1) = j by omega, Int32.sub_eq_add_neg]
          · by_cases hxj : x = j
            · rw [hxj]; exact he
            · exact heq x (by omega) h2
        · rw [if_neg he]
          refine ⟨_, rfl, fun s' hs => by (cases hs), fun r hr => ?_⟩
          cases hr
          exact ⟨j, by omega, rfl, he, fun x h1 h2 => heq x (by omega) h2⟩)
    rw [hr]
    simp only [Option.bind_some]
    cases r with
    | inl w =>
      obtain ⟨j, hj, rfl, hne, hab⟩ := hz
      dsimp only
      rw [H.gR0 ha, H.gR0 hb]
      simp only [Option.bind_some]
      rw [H.aJ ha (by omega), H.aJ hb (by omega)]
      simp only [Option.bind_some]
      have l1 := da j hj
      have l2 := db j hj
      by_cases hle : (σ b).1 j ≤ (σ a).1 j
      · rw [if_pos hle]
        have h1 := (uN_leI l2 l1).mp hle
        have h2 : uN ((σ b).1 j) ≠ uN ((σ a).1 j) := fun e => hne (uN_inj e.symm)
        rw [cmpI_gt (vN_cmp (d := dgs (σ b).1) (e := dgs (σ a).1) hj db (fun i a1 a2 => congrArg uN (hab i a1 a2).symm) (show uN ((σ b).1 j) < uN ((σ a).1 j) by omega))]
      · rw [if_neg hle]
        have h1 : ¬ uN ((σ b).1 j) ≤ uN ((σ a).1 j) := fun e => hle ((uN_leI l2 l1).mpr e)
        rw [cmpI_lt (vN_cmp (d := dgs (σ a).1) (e := dgs (σ b).1) hj da (fun i a1 a2 => congrArg uN (hab i a1 a2)) (show uN ((σ a).1 j) < uN ((σ b).1 j) by omega))]
    | inr w =>
      dsimp only
      rw [cmpI_eq (vN_congr (d := dgs (σ a).1) (e := dgs (σ b).1) (fun i hi => congrArg uN (hz i hi)))]
  · rw [if_neg (fun e => hk ((nI_eq (by omega) (by omega)).mp e))]
    by_cases hlt : ka < kb
    · rw [if_neg (nI_ge hlt (by omega)), cmpI_lt (vN_len (d := dgs (σ a).1) (e := dgs (σ b).1) hlt da (nz (tb (by omega))))]
    · rw [if_pos (nI_le (by omega) (by omega)), cmpI_gt (vN_len (d := dgs (σ b).1) (e := dgs (σ a).1) (by omega) db (nz (ta (by omega))))]
end Ord
