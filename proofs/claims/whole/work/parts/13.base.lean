/-! layer 2: wholes of the class. A whole: contents of its row, size, sign -/
abbrev WR : Type := (Nat → Int64) × Int32 × Int32
def HW (L : Nat → Prop) (q : Nat → Nat) (h : AH) (σ : Nat → WR) : Prop :=
  (∀ o, L o → h.1 o = some (.inr (8, [.ref (q o), .int (σ o).2.1, .int (σ o).2.2])) ∧ h.1 (q o) = some (.inl (1, 26, .inr (.inl (σ o).1)))) ∧ ∀ o o', L o → L o' → q o = q o' → o = o'
def Fr (L : Nat → Prop) (q : Nat → Nat) (h h' : AH) : Prop := h'.2 = h.2 ∧ ∀ a, (∀ o, L o → a ≠ o ∧ a ≠ q o) → h'.1 a = h.1 a
section HWs
variable {L : Nat → Prop} {q : Nat → Nat} {h h' h'' : AH} {σ : Nat → WR} {o o' : Nat}
theorem Fr.rf : Fr L q h h := ⟨rfl, fun _ _ => rfl⟩
theorem Fr.tr (a : Fr L q h h') (b : Fr L q h' h'') : Fr L q h h'' := ⟨b.1.trans a.1, fun x hx => (b.2 x hx).trans (a.2 x hx)⟩
theorem HW.ne (H : HW L q h σ) (ho : L o) (ho' : L o') : o ≠ q o' := by
  intro e
  have h1 := (H.1 o ho).1
  have h2 := (H.1 o' ho').2
  rw [← e, h1] at h2
  cases h2
theorem HW.chk (H : HW L q h σ) (ho : L o) : chk h o 8 = some () := by
  show (match h.1 o with | some (.inr o) => if o.1 = 8 then some () else none | _ => none) = some (); rw [(H.1 o ho).1]; rfl
theorem HW.gR0 (H : HW L q h σ) (ho : L o) : gR h o 8 0 = some (q o) := by
  unfold gR; rw [(H.1 o ho).1]; rfl
theorem HW.gI1 (H : HW L q h σ) (ho : L o) : gI h o 8 1 = some (σ o).2.1 := by
  unfold gI; rw [(H.1 o ho).1]; rfl
theorem HW.gI2 (H : HW L q h σ) (ho : L o) : gI h o 8 2 = some (σ o).2.2 := by
  unfold gI; rw [(H.1 o ho).1]; rfl
theorem nI_rg {k n : Nat} (hk : k < n) (hn : n < 2 ^ 31) : 0 ≤ (nI k).toInt ∧ (nI k).toInt < n := by
  rw [nI_toInt (by omega)]; omega
theorem HW.aJ (H : HW L q h σ) (ho : L o) {k : Nat} (hk : k < 26) : aJ h (q o) 1 (nI k) = some ((σ o).1 k) := by
  show (match h.1 (q o) with | some (.inl (k0, n, .inr (.inl f))) => if k0 = 1 ∧ 0 ≤ (nI k).toInt ∧ (nI k).toInt < n then some (f (nI k).toNatClampNeg) else none | _ => none) = _
  rw [(H.1 o ho).2]
  have := nI_rg hk (by omega)
  simp only [nI_clamp (show k < 2 ^ 31 by omega)]
  rw [if_pos ⟨trivial, this.1, this.2⟩]
theorem HW.set (H : HW L q h σ) (ho : L o) (n b : Int32) : HW L q (hset h o (.inr (8, [.ref (q o), .int n, .int b]))) (va_up σ o ((σ o).1, n, b)) ∧ Fr L q h (hset h o (.inr (8, [.ref (q o), .int n, .int b]))) := by
  refine ⟨⟨fun x hx => ⟨?_, ?_⟩, H.2⟩, rfl, fun a ha => ?_⟩
  · by_cases e : x = o
    · subst e; simp [hset, va_up]
    · simp [hset, va_up, e, (H.1 x hx).1]
  · have hne : q x ≠ o := fun e => H.ne ho hx e.symm
    by_cases e : x = o
    · subst e; simp [hset, va_up, hne, (H.1 x hx).2]
    · simp [hset, va_up, hne, e, (H.1 x hx).2]
  · have := (ha o ho).1
    simp [hset, this]
theorem HW.setA (H : HW L q h σ) (ho : L o) (f : Nat → Int64) : HW L q (hset h (q o) (.inl (1, 26, .inr (.inl f)))) (va_up σ o (f, (σ o).2)) ∧ Fr L q h (hset h (q o) (.inl (1, 26, .inr (.inl f)))) := by
  refine ⟨⟨fun x hx => ⟨?_, ?_⟩, H.2⟩, rfl, fun a ha => ?_⟩
  · have hne : x ≠ q o := H.ne hx ho
    by_cases e : x = o
    · subst e; simp [hset, va_up, hne, (H.1 x hx).1]
    · simp [hset, va_up, hne, e, (H.1 x hx).1]
  · by_cases e : x = o
    · subst e; simp [hset, va_up]
    · have hne : q x ≠ q o := fun z => e (H.2 x o hx ho z)
      simp [hset, va_up, hne, e, (H.1 x hx).2]
  · have := (ha o ho).2
    simp [hset, this]
theorem HW.pN (H : HW L q h σ) (ho : L o) (v : Int32) : ∃ h', pV h o 8 1 (.int v) = some h' ∧ HW L q h' (va_up σ o ((σ o).1, v, (σ o).2.2)) ∧ Fr L q h h' := by
  refine ⟨_, ?_, H.set ho v (σ o).2.2⟩
  unfold pV
  rw [(H.1 o ho).1]
  rfl
theorem HW.pB (H : HW L q h σ) (ho : L o) (v : Int32) : ∃ h', pV h o 8 2 (.int v) = some h' ∧ HW L q h' (va_up σ o ((σ o).1, (σ o).2.1, v)) ∧ Fr L q h h' := by
  refine ⟨_, ?_, H.set ho (σ o).2.1 v⟩
  unfold pV
  rw [(H.1 o ho).1]
  rfl
theorem HW.sJ (H : HW L q h σ) (ho : L o) {k : Nat} (hk : k < 26) (x : Int64) : ∃ h', sJ h (q o) 1 (nI k) x = some h' ∧ HW L q h' (va_up σ o (vp_updL (σ o).1 k x, (σ o).2)) ∧ Fr L q h h' := by
  refine ⟨_, ?_, H.setA ho (vp_updL (σ o).1 k x)⟩
  show (match h.1 (q o) with | some (.inl (k0, n, .inr (.inl f))) => if k0 = 1 ∧ 0 ≤ (nI k).toInt ∧ (nI k).toInt < n then some (hset h (q o) (.inl (1, n, .inr (.inl (vp_updL f (nI k).toNatClampNeg x))))) else none | _ => none) = _
  rw [(H.1 o ho).2]
  have := nI_rg hk (by omega)
  simp only [nI_clamp (show k < 2 ^ 31 by omega)]
  rw [if_pos ⟨trivial, this.1, this.2⟩]
end HWs
theorem va_uu {α : Type} (f : Nat → α) (k : Nat) (v w : α) : va_up (va_up f k v) k w = va_up f k w := bx_uu f k v w
theorem va_us {α : Type} (f : Nat → α) (k : Nat) (v : α) : va_up f k v k = v := by simp [va_up]
theorem va_un {α : Type} {f : Nat → α} {k j : Nat} {v : α} (h : j ≠ k) : va_up f k v j = f j := by simp [va_up, h]
theorem va_ue {α : Type} (f : Nat → α) (k : Nat) : va_up f k (f k) = f := by
  funext j
  by_cases h : j = k
  · subst h; exact va_us _ _ _
  · exact va_un h
/-! loops -/
theorem iter_up {σ ρ : Type} {B : σ → Option (σ ⊕ ρ)} (I : Nat → σ → Prop) (Z : ρ → Prop) (e : Nat) (hb : ∀ i s, i ≤ e → I i s → ∃ o, B s = some o ∧ (∀ s', o = .inl s' → i < e ∧ I (i + 1) s') ∧ (∀ r, o = .inr r → Z r)) : ∀ (n i : Nat) (s : σ), I i s → i ≤ e → e - i < n → ∃ r, iter B n s = some r ∧ Z r := by
  intro n
  induction n with
  | zero => intro i s _ _ h; omega
  | succ n ih =>
    intro i s hI hi hn
    obtain ⟨o, h1, h2, h3⟩ := hb i s hi hI
    unfold iter
    rw [h1]
    cases o with
    | inl s' =>
      obtain ⟨a, b⟩ := h2 s' rfl
      exact ih (i + 1) s' b (by omega) (by omega)
    | inr r => exact ⟨r, rfl, h3 r rfl⟩
theorem iter_FU {σ ρ : Type} {B : σ → Option (σ ⊕ ρ)} (I : Nat → σ → Prop) (Z : ρ → Prop) (e : Nat) (he : e < 1000000) {s : σ} (h0 : I 0 s) (hb : ∀ i s, i ≤ e → I i s → ∃ o, B s = some o ∧ (∀ s', o = .inl s' → i < e ∧ I (i + 1) s') ∧ (∀ r, o = .inr r → Z r)) : ∃ r, iter B FU s = some r ∧ Z r :=
  iter_up I Z e hb FU 0 s h0 (Nat.zero_le _) (by unfold FU; omega)
/-- a falling measure -/
theorem iter_ms {σ ρ : Type} {B : σ → Option (σ ⊕ ρ)} (I : σ → Prop) (μ : σ → Nat) (Z : ρ → Prop) (hb : ∀ s, I s → ∃ o, B s = some o ∧ (∀ s', o = .inl s' → I s' ∧ μ s' < μ s) ∧ (∀ r, o = .inr r → Z r)) {s : σ} (h0 : I s) (hm : μ s < 1000000) : ∃ r, iter B FU s = some r ∧ Z r := by
  have key : ∀ (n : Nat) (s : σ), I s → μ s < n → ∃ r, iter B n s = some r ∧ Z r := by
    intro n
    induction n with
    | zero => intro s _ h; omega
    | succ n ih =>
      intro s hI hn
      obtain ⟨o, h1, h2, h3⟩ := hb s hI
      unfold iter
      rw [h1]
      cases o with
      | inl s' =>
        obtain ⟨a, b⟩ := h2 s' rfl
        exact ih s' a (by omega)
      | inr r => exact ⟨r, rfl, h3 r rfl⟩
  exact key FU s h0 (by unfold FU; exact hm)
/-! numbers -/
def B32 : Nat := 4294967296
def vN (d : Nat → Nat) : Nat → Nat
  | 0 => 0
  | k + 1 => vN d k + d k * B32 ^ k
theorem vN_congr {d e : Nat → Nat} : ∀ {k : Nat}, (∀ i, i < k → d i = e i) → vN d k = vN e k
  | 0, _ => rfl
  | k + 1, h => by
    show vN d k + d k * B32 ^ k = vN e k + e k * B32 ^ k
    rw [vN_congr (fun i hi => h i (by omega)), h k (by omega)]
theorem B32_pos (k : Nat) : 0 < B32 ^ k := Nat.pow_pos (by decide)
theorem B32_s (k : Nat) : B32 ^ (k + 1) = 4294967296 * B32 ^ k := by rw [Nat.pow_succ, Nat.mul_comm]; rfl
theorem vN_lt {d : Nat → Nat} : ∀ {k : Nat}, (∀ i, i < k → d i < B32) → vN d k < B32 ^ k
  | 0, _ => by show 0 < B32 ^ 0; decide
  | k + 1, h => by
    have h1 := vN_lt (d := d) (k := k) (fun i hi => h i (by omega))
    have h2 := h k (by omega)
    show vN d k + d k * B32 ^ k < B32 ^ (k + 1)
    rw [B32_s]
    have h3 : (d k + 1) * B32 ^ k ≤ 4294967296 * B32 ^ k := Nat.mul_le_mul_right _ (by unfold B32 at h2; omega)
    rw [Nat.add_mul, Nat.one_mul] at h3
    omega
/-- the top part is not 0: no shorter number is as great -/
theorem vN_ge {d : Nat → Nat} {k : Nat} (h : d k ≠ 0) : B32 ^ k ≤ vN d (k + 1) := by
  show B32 ^ k ≤ vN d k + d k * B32 ^ k
  have : 1 * B32 ^ k ≤ d k * B32 ^ k := Nat.mul_le_mul_right _ (by omega)
  omega
theorem vN_0 {d : Nat → Nat} : ∀ {j k : Nat}, k ≤ j → (∀ i, k ≤ i → i < j → d i = 0) → vN d j = vN d k
  | 0, k, h, _ => by rw [show k = 0 by omega]
  | j + 1, k, h, hz => by
    by_cases e : k = j + 1
    · rw [e]
    · show vN d j + d j * B32 ^ j = vN d k
      rw [hz j (by omega) (by omega), vN_0 (j := j) (k := k) (by omega) (fun i a b => hz i a (by omega))]
      omega
theorem uN_0 : uN 0 = 0 := by decide
theorem uN_1 : uN 1 = 1 := by decide
theorem uN_lN {n : Nat} (h : n < 18446744073709551616) : uN (lN n) = n := wb_tn h
theorem lN_uN (x : Int64) : lN (uN x) = x := uN_inj (uN_lN (uN_lt x))
