/-! the reference's object: wholes 0-63 pool, 64 zero, 65 one, 66 gcdX, 67 gcdY, 68-91 slots, 92-103 above, 104-115 below, 116-316 rests -/
def fx (i : Nat) : Nat := if i < 64 then 20 + 2 * i else if i < 68 then 2 * i - 126 else if i < 92 then 12 + 2 * i else if i < 104 then 4 * i - 172 else if i < 116 then 4 * i - 218 else 12 + 2 * i
def ar (n i : Nat) : Nat := n + fx i
theorem fx_at {i : Nat} (hi : i < 317) : (2 ≤ fx i ∧ fx i < 645) ∧ fx i % 2 = 0 ∧ (fx i < 10 ∨ 20 ≤ fx i) := by
  unfold fx
  repeat' split
  all_goals omega
theorem fx_inj {i j : Nat} (hi : i < 317) (hj : j < 317) (h : fx i = fx j) : i = j := by
  unfold fx at h
  by_cases a1 : i < 64
  · rw [if_pos a1] at h
    repeat' split at h
    all_goals omega
  · rw [if_neg a1] at h
    by_cases a2 : i < 68
    · rw [if_pos a2] at h
      repeat' split at h
      all_goals omega
    · rw [if_neg a2] at h
      by_cases a3 : i < 92
      · rw [if_pos a3] at h
        repeat' split at h
        all_goals omega
      · rw [if_neg a3] at h
        by_cases a4 : i < 104
        · rw [if_pos a4] at h
          repeat' split at h
          all_goals omega
        · rw [if_neg a4] at h
          by_cases a5 : i < 116
          · rw [if_pos a5] at h
            repeat' split at h
            all_goals omega
          · rw [if_neg a5] at h
            repeat' split at h
            all_goals omega
abbrev RWh : Type := (Nat → Int32) × Int32 × Int32
abbrev RD : Type := (Int32 × Int32) × (Value × Value) × (Int32 × Int32) × (Int32 × Int32) × ((Nat → Int32) × (Nat → Int32)) × ((Nat → Int32) × (Nat → Int32)) × ((Nat → Int32) × (Nat → Int32))
def RD.code (d : RD) : Int32 := d.1.1
def RD.top (d : RD) : Int32 := d.1.2
def RD.quo (d : RD) : Value := d.2.1.1
def RD.rst (d : RD) : Value := d.2.1.2
def RD.tpd (d : RD) : Int32 := d.2.2.1.1
def RD.osz (d : RD) : Int32 := d.2.2.1.2
def RD.hd (d : RD) : Int32 := d.2.2.2.1.1
def RD.rd (d : RD) : Int32 := d.2.2.2.1.2
def RD.tp (d : RD) : Nat → Int32 := d.2.2.2.2.1.1
def RD.ou (d : RD) : Nat → Int32 := d.2.2.2.2.1.2
def RD.tx (d : RD) : Nat → Int32 := d.2.2.2.2.2.1.1
def RD.ty (d : RD) : Nat → Int32 := d.2.2.2.2.2.1.2
def RD.dg (d : RD) : Nat → Int32 := d.2.2.2.2.2.2.1
def RD.fo (d : RD) : Nat → Int32 := d.2.2.2.2.2.2.2
def RD.set1 (d : RD) (c t : Int32) : RD := ((c, t), d.2)
def RD.set2 (d : RD) (q r : Value) : RD := (d.1, (q, r), d.2.2)
def RD.set3 (d : RD) (t o : Int32) : RD := (d.1, d.2.1, (t, o), d.2.2.2)
def RD.set4 (d : RD) (a b : Int32) : RD := (d.1, d.2.1, d.2.2.1, (a, b), d.2.2.2.2)
def RD.set5 (d : RD) (a b : Nat → Int32) : RD := (d.1, d.2.1, d.2.2.1, d.2.2.2.1, (a, b), d.2.2.2.2.2)
def RD.set6 (d : RD) (a b : Nat → Int32) : RD := (d.1, d.2.1, d.2.2.1, d.2.2.2.1, d.2.2.2.2.1, (a, b), d.2.2.2.2.2.2)
def RD.set7 (d : RD) (a b : Nat → Int32) : RD := (d.1, d.2.1, d.2.2.1, d.2.2.2.1, d.2.2.2.2.1, d.2.2.2.2.2.1, (a, b))
def rmain (n : Nat) (d : RD) : List Value := [.int d.code, .ref (n + 1), .int d.top, .ref (ar n 64), .ref (ar n 65), d.quo, d.rst, .ref (ar n 66), .ref (ar n 67), .ref (n + 10), .ref (n + 11), .ref (n + 12), .ref (n + 13), .int d.tpd, .ref (n + 14), .int d.osz, .ref (n + 15), .ref (n + 16), .ref (n + 17), .ref (n + 18), .ref (n + 19), .int d.hd, .int d.rd]
def crt (n : Nat) (d : RD) (o : Nat) : Option AE :=
  if o = 0 then some (.inr (11, rmain n d))
  else if o = 1 then some (.inl (5, 64, .inr (.inr (.inr (.inr (fun s => some (ar n s)))))))
  else if o = 10 then some (.inl (5, 24, .inr (.inr (.inr (.inr (fun s => some (ar n (68 + s))))))))
  else if o = 11 then some (.inl (5, 12, .inr (.inr (.inr (.inr (fun s => some (ar n (92 + s))))))))
  else if o = 12 then some (.inl (5, 12, .inr (.inr (.inr (.inr (fun s => some (ar n (104 + s))))))))
  else if o = 13 then some (.inl (2, 120, .inl d.tp))
  else if o = 14 then some (.inl (2, 400, .inl d.ou))
  else if o = 15 then some (.inl (0, 64, .inl d.tx))
  else if o = 16 then some (.inl (0, 64, .inl d.ty))
  else if o = 17 then some (.inl (0, 201, .inl d.dg))
  else if o = 18 then some (.inl (0, 201, .inl d.fo))
  else if o = 19 then some (.inl (5, 201, .inr (.inr (.inr (.inr (fun s => some (ar n (116 + s))))))))
  else none
theorem crt_all {n : Nat} {d : RD} {o : Nat} {e : AE} (h : crt n d o = some e) : o < 2 ∨ (10 ≤ o ∧ o < 20) := by
  rcases Nat.lt_or_ge o 20 with h1 | h1
  · rcases Nat.lt_or_ge o 2 with h2 | h2
    · exact Or.inl h2
    · rcases Nat.lt_or_ge o 10 with h3 | h3
      · exfalso
        unfold crt at h
        iterate 12 rw [if_neg (by omega)] at h
        cases h
      · exact Or.inr ⟨h3, h1⟩
  · exfalso
    unfold crt at h
    iterate 12 rw [if_neg (by omega)] at h
    cases h
def RH (n : Nat) (h : AH) (σ : Nat → RWh) : Prop := ∀ i, i < 317 → h.1 (ar n i) = some (.inr (10, [.int (σ i).2.2, .int (σ i).2.1, .ref (ar n i + 1)])) ∧ h.1 (ar n i + 1) = some (.inl (0, 100, .inl (σ i).1))
abbrev RW (B : AH) (n : Nat) (d : RD) (h : AH) (σ : Nat → RWh) : Prop := RH n h σ ∧ (∀ o e, crt n d o = some e → h.1 (n + o) = some e) ∧ h.2 = B.2 ∧ ∀ a, a < n ∨ n + 646 ≤ a → h.1 a = B.1 a
section Rwl
variable {B h h' : AH} {n : Nat} {d d' : RD} {σ : Nat → RWh} {i k : Nat}
theorem RW.sg (c : RW B n d h σ) (hi : i < 317) : gI h (ar n i) 10 0 = some (σ i).2.2 := by unfold gI; rw [(c.1 i hi).1]; rfl
theorem RW.sz (c : RW B n d h σ) (hi : i < 317) : gI h (ar n i) 10 1 = some (σ i).2.1 := by unfold gI; rw [(c.1 i hi).1]; rfl
theorem RW.rw (c : RW B n d h σ) (hi : i < 317) : gR h (ar n i) 10 2 = some (ar n i + 1) := by unfold gR; rw [(c.1 i hi).1]; rfl
theorem RW.ck (c : RW B n d h σ) (hi : i < 317) : chk h (ar n i) 10 = some () := by
  show (match h.1 (ar n i) with | some (.inr o) => if o.1 = 10 then some () else none | _ => none) = some ()
  rw [(c.1 i hi).1]; rfl
theorem RW.at (c : RW B n d h σ) (hi : i < 317) (hk : k < 100) : aI h (ar n i + 1) 0 (nI k) = some ((σ i).1 k) := aI_go (c.1 i hi).2 hk (by decide)
theorem RW.cell (c : RW B n d h σ) (hi : i < 317) (s z : Int32) : RW B n d (hset h (ar n i) (.inr (10, [.int s, .int z, .ref (ar n i + 1)]))) (va_up σ i ((σ i).1, z, s)) := by
  have hf := fx_at hi
  refine ⟨fun j hj => ?_, fun o e he => ?_, c.2.2.1, fun a ha => ?_⟩
  · have hg := fx_at hj
    have h1 : ar n j + 1 ≠ ar n i := by unfold ar; omega
    by_cases e : j = i
    · subst e
      rw [va_us]
      exact ⟨hset_at _ _ _, ((on_hset h (ar n j) _).2 _ h1).trans (c.1 j hj).2⟩
    · rw [va_un e]
      have h2 : ar n j ≠ ar n i := fun z => e (fx_inj hj hi (by unfold ar at z; omega))
      exact ⟨((on_hset h (ar n i) _).2 _ h2).trans (c.1 j hj).1, ((on_hset h (ar n i) _).2 _ h1).trans (c.1 j hj).2⟩
  · have := crt_all he
    rw [(on_hset h (ar n i) _).2 _ (by unfold ar; omega)]
    exact c.2.1 o e he
  · rw [(on_hset h (ar n i) _).2 _ (by unfold ar; omega)]
    exact c.2.2.2 a ha
theorem RW.row (c : RW B n d h σ) (hi : i < 317) (f : Nat → Int32) : RW B n d (hset h (ar n i + 1) (.inl (0, 100, .inl f))) (va_up σ i (f, (σ i).2)) := by
  have hf := fx_at hi
  refine ⟨fun j hj => ?_, fun o e he => ?_, c.2.2.1, fun a ha => ?_⟩
  · have hg := fx_at hj
    have h1 : ar n j ≠ ar n i + 1 := by unfold ar; omega
    by_cases e : j = i
    · subst e
      rw [va_us]
      exact ⟨((on_hset h (ar n j + 1) _).2 _ h1).trans (c.1 j hj).1, hset_at _ _ _⟩
    · rw [va_un e]
      have h2 : ar n j + 1 ≠ ar n i + 1 := fun z => e (fx_inj hj hi (by unfold ar at z; omega))
      exact ⟨((on_hset h (ar n i + 1) _).2 _ h1).trans (c.1 j hj).1, ((on_hset h (ar n i + 1) _).2 _ h2).trans (c.1 j hj).2⟩
  · have := crt_all he
    rw [(on_hset h (ar n i + 1) _).2 _ (by unfold ar; omega)]
    exact c.2.1 o e he
  · rw [(on_hset h (ar n i + 1) _).2 _ (by unfold ar; omega)]
    exact c.2.2.2 a ha
theorem RW.putS (c : RW B n d h σ) (hi : i < 317) (v : Int32) : ∃ h', pV h (ar n i) 10 0 (.int v) = some h' ∧ RW B n d h' (va_up σ i ((σ i).1, (σ i).2.1, v)) :=
  ⟨_, pV_go (c.1 i hi).1 (by decide : 0 < 3) _, c.cell hi v (σ i).2.1⟩
theorem RW.putN (c : RW B n d h σ) (hi : i < 317) (v : Int32) : ∃ h', pV h (ar n i) 10 1 (.int v) = some h' ∧ RW B n d h' (va_up σ i ((σ i).1, v, (σ i).2.2)) :=
  ⟨_, pV_go (c.1 i hi).1 (by decide : 1 < 3) _, c.cell hi (σ i).2.2 v⟩
theorem RW.put (c : RW B n d h σ) (hi : i < 317) (hk : k < 100) (x : Int32) : ∃ h', sI h (ar n i + 1) 0 (nI k) x = some h' ∧ RW B n d h' (va_up σ i (upd (σ i).1 k x, (σ i).2)) :=
  ⟨_, sI_go (c.1 i hi).2 hk (by decide) _, c.row hi _⟩
theorem RW.on (c : RW B n d h σ) {o : Nat} (ho : o < 2 ∨ (10 ≤ o ∧ o < 20)) (O : On (n + o) h h') (hv : ∀ e, crt n d' o = some e → h'.1 (n + o) = some e) (hd : ∀ o', o' ≠ o → crt n d' o' = crt n d o') : RW B n d' h' σ := by
  refine ⟨fun j hj => ?_, fun o' e he => ?_, O.1.trans c.2.2.1, fun a ha => ?_⟩
  · have hg := fx_at hj
    rw [O.2 _ (by unfold ar; omega), O.2 _ (by unfold ar; omega)]
    exact c.1 j hj
  · by_cases e1 : o' = o
    · subst e1; exact hv e he
    · rw [O.2 _ (by omega)]
      exact c.2.1 o' e (by rw [← hd o' e1]; exact he)
  · rw [O.2 a (by omega)]
    exact c.2.2.2 a ha
theorem RW.mR (c : RW B n d h σ) {k v : Nat} (hf : (rmain n d)[k]? = some (.ref v)) : gR h n 11 k = some v := by
  show (match h.1 n with | some (.inr o) => if o.1 = 11 then (match o.2[k]? with | some (.ref v) => some v | _ => none) else none | _ => none) = some v
  rw [show h.1 n = some (.inr (11, rmain n d)) from c.2.1 0 _ rfl]
  dsimp only
  rw [if_pos rfl, hf]
theorem RW.mI (c : RW B n d h σ) {k : Nat} {v : Int32} (hf : (rmain n d)[k]? = some (.int v)) : gI h n 11 k = some v := by
  show (match h.1 n with | some (.inr o) => if o.1 = 11 then (match o.2[k]? with | some (.int v) => some v | _ => none) else none | _ => none) = some v
  rw [show h.1 n = some (.inr (11, rmain n d)) from c.2.1 0 _ rfl]
  dsimp only
  rw [if_pos rfl, hf]
theorem RW.rm (c : RW B n d h σ) : chk h n 11 = some () ∧ gI h n 11 0 = some d.code ∧ gR h n 11 1 = some (n + 1) ∧ gI h n 11 2 = some d.top ∧ gR h n 11 3 = some (ar n 64) ∧ gR h n 11 4 = some (ar n 65) ∧ gR h n 11 7 = some (ar n 66) ∧ gR h n 11 8 = some (ar n 67) ∧ gR h n 11 9 = some (n + 10) ∧ gR h n 11 10 = some (n + 11) ∧ gR h n 11 11 = some (n + 12) ∧ gR h n 11 12 = some (n + 13) ∧ gI h n 11 13 = some d.tpd ∧ gR h n 11 14 = some (n + 14) ∧ gI h n 11 15 = some d.osz ∧ gR h n 11 16 = some (n + 15) ∧ gR h n 11 17 = some (n + 16) ∧ gR h n 11 18 = some (n + 17) ∧ gR h n 11 19 = some (n + 18) ∧ gR h n 11 20 = some (n + 19) ∧ gI h n 11 21 = some d.hd ∧ gI h n 11 22 = some d.rd := by
  refine ⟨?_, c.mI rfl, c.mR rfl, c.mI rfl, c.mR rfl, c.mR rfl, c.mR rfl, c.mR rfl, c.mR rfl, c.mR rfl, c.mR rfl, c.mR rfl, c.mI rfl, c.mR rfl, c.mI rfl, c.mR rfl, c.mR rfl, c.mR rfl, c.mR rfl, c.mR rfl, c.mI rfl, c.mI rfl⟩
  show (match h.1 n with | some (.inr o) => if o.1 = 11 then some () else none | _ => none) = some ()
  rw [show h.1 n = some (.inr (11, rmain n d)) from c.2.1 0 _ rfl]
  rfl
theorem RW.main (c : RW B n d h σ) {k : Nat} {v : Value} (hk : k < 23) (hd : (rmain n d).set k v = rmain n d') (hq : d'.2.2.2.2 = d.2.2.2.2) : ∃ h', pV h n 11 k v = some h' ∧ RW B n d' h' σ := by
  refine ⟨_, pV_go (c.2.1 0 _ rfl) (show k < (rmain n d).length from hk) v, c.on (o := 0) (by omega) (on_hset _ _ _) (fun e he => ?_) (fun o' ho => ?_)⟩
  · refine (hset_at _ _ _).trans ?_
    rw [hd]
    exact he
  · unfold crt RD.tp RD.ou RD.tx RD.ty RD.dg RD.fo
    rw [if_neg ho, if_neg ho, hq]
theorem aR_go {h : AH} {a kd N : Nat} {f : Nat → Option Nat} (ha : h.1 a = some (.inl (kd, N, .inr (.inr (.inr (.inr f)))))) {i : Nat} (hi : i < N) (hN : N < 1000) : aR h a kd (nI i) = f i := by
  show (match h.1 a with | some (.inl (k, n, .inr (.inr (.inr (.inr f))))) => if k = kd ∧ 0 ≤ (nI i).toInt ∧ (nI i).toInt < n then f (nI i).toNatClampNeg else none | _ => none) = _
  rw [ha]
  have := nI_rg hi (by omega)
  simp only [nI_clamp (show i < 2 ^ 31 by omega)]
  rw [if_pos ⟨trivial, this.1, this.2⟩]
theorem RW.pool (c : RW B n d h σ) (hk : k < 64) : aR h (n + 1) 5 (nI k) = some (ar n k) := aR_go (c.2.1 1 _ rfl) hk (by decide)
theorem RW.slot (c : RW B n d h σ) (hk : k < 24) : aR h (n + 10) 5 (nI k) = some (ar n (68 + k)) := aR_go (c.2.1 10 _ rfl) hk (by decide)
theorem RW.above (c : RW B n d h σ) (hk : k < 12) : aR h (n + 11) 5 (nI k) = some (ar n (92 + k)) := aR_go (c.2.1 11 _ rfl) hk (by decide)
theorem RW.below (c : RW B n d h σ) (hk : k < 12) : aR h (n + 12) 5 (nI k) = some (ar n (104 + k)) := aR_go (c.2.1 12 _ rfl) hk (by decide)
theorem RW.rests (c : RW B n d h σ) (hk : k < 201) : aR h (n + 19) 5 (nI k) = some (ar n (116 + k)) := aR_go (c.2.1 19 _ rfl) hk (by decide)
theorem RW.take (c : RW B n d h σ) {T : Nat} (hT : d.top = nI T) (hl : T < 64) : ∃ h', zs_X11_take h n = some (ar n T, h') ∧ RW B n (d.set1 d.code (nI (T + 1))) h' σ := by
  unfold zs_X11_take
  simp only [c.rm, Option.bind_some]
  obtain ⟨g1, e1, c1⟩ := c.main (k := 2) (v := .int (nI (T + 1))) (d' := d.set1 d.code (nI (T + 1))) (by decide) rfl rfl
  rw [hT, show nI T + (1 : Int32) = nI (T + 1) from nI_1 T, e1]
  simp only [c1.rm, Option.bind_some]
  have ec : (d.set1 d.code (nI (T + 1))).top = nI (T + 1) := rfl
  rw [ec, nI_pred, c1.pool hl]
  exact ⟨g1, rfl, c1⟩
end Rwl
