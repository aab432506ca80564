/-! the heap as a function: cells of the law's own world, by address -/
abbrev AE : Type := (Nat × vp_A) ⊕ (Nat × List Value)
abbrev AH : Type := (Nat → Option AE) × Nat
abbrev hG : Type := va_G × (Nat → ClassId)
def hcv (D : hG) (e : AE) : va_E := match e with
  | .inl x => .inl (D.2 x.1, x.2)
  | .inr o => .inr o
def kty (k : Nat) : FieldType := match k with
  | 0 => .int
  | 1 => .long
  | 2 => .byte
  | 3 => .object "WideWholes$Whole"
  | 4 => .object "WideWholes$Ratio"
  | _ => .object "WideWholesModel$Whole"
def htys (D : hG) : List (ClassId × FieldType) := [(D.2 0, kty 0), (D.2 1, kty 1), (D.2 2, kty 2), (D.2 3, kty 3), (D.2 4, kty 4), (D.2 5, kty 5)]
def hK (D : hG) (U : State) : Prop := va_K D.1 vwCl (htys D) U ∧ va_AO "WideWholes$Whole" U ∧ va_AO "WideWholes$Ratio" U ∧ va_AO "WideWholesModel$Whole" U ∧ va_Nw wnest U
def hR (D : hG) (z : Nat) (h : AH) (H : Heap) : Prop := H.size = h.2 ∧ ∀ (a : Nat) (e : AE), h.1 a = some e → z ≤ a ∧ va_at D.1 vwCl (a, hcv D e) H
def hset (h : AH) (a : Nat) (e : AE) : AH := (fun q => if q = a then some e else h.1 q, h.2)
def hA (z : Nat) : Nat → Prop := fun q => z ≤ q
def hQ (D : hG) (z : Nat) (h' : AH) (r : Option Value) : Array Value → State → Outcome → State → Prop := fun _ st oc t => oc = .returned r ∧ hR D z h' t.heap ∧ va_F (hA z) st t
def hB (D : hG) (z : Nat) (h : AH) (U : State) : Prop := hK D U ∧ hR D z h U.heap ∧ z ≤ U.heap.size
/-- a method's contract: from h it returns r, the heap is h' then -/
def hC (l : Launch) (D : hG) (z : Nat) (y : MethodName) (cc : ByteArray) (maxL : Nat) (ret : Option FieldType) (fr lo mc ms : Nat) (av : List Value) (h h' : AH) (r : Option Value) : Prop :=
  Met l y (.code y cc maxL ret :: bg) ({ frames := fr, cells := mc, slots := ms, locals := lo } : Room) (va_Pc av (hB D z h)) (hQ D z h' r) mc ms (hA z)
/-! what a step does -/
def gI (h : AH) (a ci k : Nat) : Option Int32 := match h.1 a with
  | some (.inr o) => if o.1 = ci then (match o.2[k]? with | some (.int v) => some v | _ => none) else none
  | _ => none
def gR (h : AH) (a ci k : Nat) : Option Nat := match h.1 a with
  | some (.inr o) => if o.1 = ci then (match o.2[k]? with | some (.ref v) => some v | _ => none) else none
  | _ => none
def chk (h : AH) (a ci : Nat) : Option Unit := match h.1 a with
  | some (.inr o) => if o.1 = ci then some () else none
  | _ => none
def pV (h : AH) (a ci k : Nat) (v : Value) : Option AH := match h.1 a with
  | some (.inr o) => if o.1 = ci ∧ k < o.2.length then some (hset h a (.inr (ci, o.2.set k v))) else none
  | _ => none
def zk (v : Int32) : Option Unit := if v = 0 ∨ v = 1 then some () else none
def nz (v : Int32) : Option Unit := if v = 0 then none else some ()
def nzl (v : Int64) : Option Unit := if v = 0 then none else some ()
def aI (h : AH) (a kd : Nat) (i : Int32) : Option Int32 := match h.1 a with
  | some (.inl (k, n, .inl f)) => if k = kd ∧ 0 ≤ i.toInt ∧ i.toInt < n then some (f i.toNatClampNeg) else none
  | _ => none
def aJ (h : AH) (a kd : Nat) (i : Int32) : Option Int64 := match h.1 a with
  | some (.inl (k, n, .inr (.inl f))) => if k = kd ∧ 0 ≤ i.toInt ∧ i.toInt < n then some (f i.toNatClampNeg) else none
  | _ => none
def aR (h : AH) (a kd : Nat) (i : Int32) : Option Nat := match h.1 a with
  | some (.inl (k, n, .inr (.inr (.inr (.inr f))))) => if k = kd ∧ 0 ≤ i.toInt ∧ i.toInt < n then f i.toNatClampNeg else none
  | _ => none
def sI (h : AH) (a kd : Nat) (i x : Int32) : Option AH := match h.1 a with
  | some (.inl (k, n, .inl f)) => if k = kd ∧ 0 ≤ i.toInt ∧ i.toInt < n then some (hset h a (.inl (kd, n, .inl (upd f i.toNatClampNeg x)))) else none
  | _ => none
def sJ (h : AH) (a kd : Nat) (i : Int32) (x : Int64) : Option AH := match h.1 a with
  | some (.inl (k, n, .inr (.inl f))) => if k = kd ∧ 0 ≤ i.toInt ∧ i.toInt < n then some (hset h a (.inl (kd, n, .inr (.inl (vp_updL f i.toNatClampNeg x))))) else none
  | _ => none
def sR (h : AH) (a kd : Nat) (i : Int32) (v ci : Nat) : Option AH := match h.1 a, h.1 v with
  | some (.inl (k, n, .inr (.inr (.inr (.inr f))))), some (.inr o) => if k = kd ∧ o.1 = ci ∧ 0 ≤ i.toInt ∧ i.toInt < n then some (hset h a (.inl (kd, n, .inr (.inr (.inr (.inr (va_up f i.toNatClampNeg (some v)))))))) else none
  | _, _ => none
/-- a new cell -/
def nO (h : AH) (e : AE) : AH := (fun q => if q = h.2 then some e else h.1 q, h.2 + 1)
def lt_ {α β : Type} (e : α) (k : α → Option β) : Option β := k e
def iter {σ ρ : Type} (B : σ → Option (σ ⊕ ρ)) : Nat → σ → Option ρ
  | 0, _ => none
  | n + 1, s => match B s with
    | none => none
    | some (.inl s') => iter B n s'
    | some (.inr r) => some r
def FU : Nat := 1000000
theorem lt_inv {α β : Type} {e : α} {k : α → Option β} {o : β} (h : lt_ e k = some o) (t : α) (et : t = e) : k t = some o := by subst et; exact h
theorem bi_inv {α β : Type} {x : Option α} {k : α → Option β} {o : β} (h : x.bind k = some o) : ∃ a, x = some a ∧ k a = some o := by
  cases x with
  | none => cases h
  | some a => exact ⟨a, rfl, h⟩
theorem iter_W {σ ρ : Type} {B : σ → Option (σ ⊕ ρ)} (P : σ → Prop) (X : ρ → Prop) (hb : ∀ (s : σ) (o : σ ⊕ ρ), B s = some o → (∀ s', o = .inl s' → P s') → (∀ r, o = .inr r → X r) → P s) : ∀ (n : Nat) (s : σ) (r : ρ), iter B n s = some r → X r → P s := by
  intro n
  induction n with
  | zero => intro s r h; cases h
  | succ n ih =>
    intro s r h hX
    unfold iter at h
    split at h
    · cases h
    · rename_i s' hs
      exact hb s _ hs (fun t ht => by cases ht; exact ih s' r h hX) (fun r' hr => by cases hr)
    · rename_i r' hs
      cases h
      exact hb s _ hs (fun t ht => by cases ht) (fun r2 hr => by cases hr; exact hX)
/-! inversions -/
theorem gI_inv {h : AH} {a ci k : Nat} {v : Int32} (hv : gI h a ci k = some v) : ∃ fs, h.1 a = some (.inr (ci, fs)) ∧ fs[k]? = some (.int v) := by
  unfold gI at hv
  split at hv
  · rename_i o ho
    split at hv
    · rename_i hc
      split at hv
      · rename_i w hw
        cases hv
        subst hc
        exact ⟨o.2, ho, hw⟩
      · cases hv
    · cases hv
  · cases hv
theorem gR_inv {h : AH} {a ci k : Nat} {v : Nat} (hv : gR h a ci k = some v) : ∃ fs, h.1 a = some (.inr (ci, fs)) ∧ fs[k]? = some (.ref v) := by
  unfold gR at hv
  split at hv
  · rename_i o ho
    split at hv
    · rename_i hc
      split at hv
      · rename_i w hw
        cases hv
        subst hc
        exact ⟨o.2, ho, hw⟩
      · cases hv
    · cases hv
  · cases hv
theorem chk_inv {h : AH} {a ci : Nat} {v : Unit} (hv : chk h a ci = some v) : ∃ fs, h.1 a = some (.inr (ci, fs)) := by
  unfold chk at hv
  split at hv
  · rename_i o ho
    split at hv
    · rename_i hc
      subst hc
      exact ⟨o.2, ho⟩
    · cases hv
  · cases hv
theorem pV_inv {h h' : AH} {a ci k : Nat} {v : Value} (hv : pV h a ci k v = some h') : ∃ fs, h.1 a = some (.inr (ci, fs)) ∧ k < fs.length ∧ h' = hset h a (.inr (ci, fs.set k v)) := by
  unfold pV at hv
  split at hv
  · rename_i o ho
    split at hv
    · rename_i hc
      obtain ⟨rfl, hk⟩ := hc
      cases hv
      exact ⟨o.2, ho, hk, rfl⟩
    · cases hv
  · cases hv
theorem zk_inv {v : Int32} {u : Unit} (h : zk v = some u) : v = 0 ∨ v = 1 := by
  unfold zk at h
  split at h
  · assumption
  · cases h
theorem nz_inv {v : Int32} {u : Unit} (h : nz v = some u) : ¬ v = 0 := by
  unfold nz at h
  split at h
  · cases h
  · assumption
theorem nzl_inv {v : Int64} {u : Unit} (h : nzl v = some u) : ¬ v = 0 := by
  unfold nzl at h
  split at h
  · cases h
  · assumption
theorem aI_inv {h : AH} {a kd : Nat} {i v : Int32} (hv : aI h a kd i = some v) : ∃ (n : Nat) (f : Nat → Int32), h.1 a = some (.inl (kd, n, .inl f)) ∧ vp_in i n ∧ v = f i.toNatClampNeg := by
  unfold aI at hv
  split at hv
  · rename_i k n f ho
    split at hv
    · rename_i hc
      obtain ⟨rfl, h1, h2⟩ := hc
      cases hv
      exact ⟨n, f, ho, vp_in_iff.mpr ⟨h1, h2⟩, rfl⟩
    · cases hv
  · cases hv
theorem aJ_inv {h : AH} {a kd : Nat} {i : Int32} {v : Int64} (hv : aJ h a kd i = some v) : ∃ (n : Nat) (f : Nat → Int64), h.1 a = some (.inl (kd, n, .inr (.inl f))) ∧ vp_in i n ∧ v = f i.toNatClampNeg := by
  unfold aJ at hv
  split at hv
  · rename_i k n f ho
    split at hv
    · rename_i hc
      obtain ⟨rfl, h1, h2⟩ := hc
      cases hv
      exact ⟨n, f, ho, vp_in_iff.mpr ⟨h1, h2⟩, rfl⟩
    · cases hv
  · cases hv
theorem aR_inv {h : AH} {a kd : Nat} {i : Int32} {v : Nat} (hv : aR h a kd i = some v) : ∃ (n : Nat) (f : Nat → Option Nat), h.1 a = some (.inl (kd, n, .inr (.inr (.inr (.inr f))))) ∧ vp_in i n ∧ f i.toNatClampNeg = some v := by
  unfold aR at hv
  split at hv
  · rename_i k n f ho
    split at hv
    · rename_i hc
      obtain ⟨rfl, h1, h2⟩ := hc
      exact ⟨n, f, ho, vp_in_iff.mpr ⟨h1, h2⟩, hv⟩
    · cases hv
  · cases hv
theorem sI_inv {h h' : AH} {a kd : Nat} {i x : Int32} (hv : sI h a kd i x = some h') : ∃ (n : Nat) (f : Nat → Int32), h.1 a = some (.inl (kd, n, .inl f)) ∧ vp_in i n ∧ h' = hset h a (.inl (kd, n, .inl (upd f i.toNatClampNeg x))) := by
  unfold sI at hv
  split at hv
  · rename_i k n f ho
    split at hv
    · rename_i hc
      obtain ⟨rfl, h1, h2⟩ := hc
      cases hv
      exact ⟨n, f, ho, vp_in_iff.mpr ⟨h1, h2⟩, rfl⟩
    · cases hv
  · cases hv
theorem sJ_inv {h h' : AH} {a kd : Nat} {i : Int32} {x : Int64} (hv : sJ h a kd i x = some h') : ∃ (n : Nat) (f : Nat → Int64), h.1 a = some (.inl (kd, n, .inr (.inl f))) ∧ vp_in i n ∧ h' = hset h a (.inl (kd, n, .inr (.inl (vp_updL f i.toNatClampNeg x)))) := by
  unfold sJ at hv
  split at hv
  · rename_i k n f ho
    split at hv
    · rename_i hc
      obtain ⟨rfl, h1, h2⟩ := hc
      cases hv
      exact ⟨n, f, ho, vp_in_iff.mpr ⟨h1, h2⟩, rfl⟩
    · cases hv
  · cases hv
theorem sR_inv {h h' : AH} {a kd : Nat} {i : Int32} {v ci : Nat} (hv : sR h a kd i v ci = some h') : ∃ (n : Nat) (f : Nat → Option Nat) (vs : List Value), h.1 a = some (.inl (kd, n, .inr (.inr (.inr (.inr f))))) ∧ h.1 v = some (.inr (ci, vs)) ∧ vp_in i n ∧ h' = hset h a (.inl (kd, n, .inr (.inr (.inr (.inr (va_up f i.toNatClampNeg (some v))))))) := by
  unfold sR at hv
  split at hv
  · rename_i k n f o ho hv'
    split at hv
    · rename_i hc
      obtain ⟨rfl, rfl, h1, h2⟩ := hc
      cases hv
      exact ⟨n, f, o.2, ho, hv', vp_in_iff.mpr ⟨h1, h2⟩, rfl⟩
    · cases hv
  · cases hv
theorem hK.moved {D : hG} {u U : State} (hvm : u.WarmedH U.vm) (h : hK D u) : hK D U := ⟨va_K.moved hvm.alike h.1, va_AO.moved hvm.alike h.2.1, va_AO.moved hvm.alike h.2.2.1, va_AO.moved hvm.alike h.2.2.2.1, va_Nw.warmM hvm h.2.2.2.2⟩
theorem hK.same {D : hG} {u U : State} (hvm : u.vm = U.vm) (h : hK D u) : hK D U := ⟨va_K.moved (by rw [hvm]; exact Vm.Alike.refl _) h.1, va_AO.moved (by rw [hvm]; exact Vm.Alike.refl _) h.2.1, va_AO.moved (by rw [hvm]; exact Vm.Alike.refl _) h.2.2.1, va_AO.moved (by rw [hvm]; exact Vm.Alike.refl _) h.2.2.2.1, va_Nw.same rfl hvm h.2.2.2.2⟩
theorem hR.one {D : hG} {z : Nat} {h : AH} {H : Heap} (hr : hR D z h H) {a : Nat} {e : AE} (he : h.1 a = some e) : va_P D.1 vwCl [(a, hcv D e)] H := by
  intro k q hk
  cases k with
  | zero =>
    simp only [List.getElem?_cons_zero] at hk
    cases hk
    exact (hr.2 a e he).2
  | succ k => simp at hk
theorem hR.set {D : hG} {z : Nat} {h : AH} {H H1 : Heap} (hr : hR D z h H) {a : Nat} {e0 e : AE} (he : h.1 a = some e0) (hat : va_at D.1 vwCl (a, hcv D e) H1) (hz : H1.size = H.size) (ho : ∀ q : Nat, q ≠ a → H1[q]? = H[q]?) : hR D z (hset h a e) H1 := by
  refine ⟨hz.trans hr.1, fun b f hb => ?_⟩
  simp only [hset] at hb
  split at hb
  · rename_i hba
    subst hba
    cases hb
    exact ⟨(hr.2 b e0 he).1, hat⟩
  · rename_i hba
    exact ⟨(hr.2 b f hb).1, (hr.2 b f hb).2.kept (ho b hba)⟩
theorem hR.push {D : hG} {z : Nat} {h : AH} {H H1 : Heap} (hr : hR D z h H) {e : AE} (hz : z ≤ H.size) (hat : va_at D.1 vwCl (H.size, hcv D e) H1) (h1 : H1.size = H.size + 1) (ho : ∀ q : Nat, q < H.size → H1[q]? = H[q]?) : hR D z (nO h e) H1 := by
  refine ⟨by rw [h1, hr.1]; rfl, fun b f hb => ?_⟩
  simp only [nO] at hb
  split at hb
  · rename_i hba
    subst hba
    cases hb
    rw [← hr.1]
    exact ⟨hz, hat⟩
  · have := (hr.2 b f hb)
    exact ⟨this.1, this.2.kept (ho b this.2.lt)⟩
