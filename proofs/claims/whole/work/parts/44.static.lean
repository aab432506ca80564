/-- no cell of a whole -/
def nwk (e : AE) : Prop := match e with
  | .inr o => o.1 ≠ 8
  | .inl x => ¬ (x.1 = 1 ∧ x.2.1 = 26)
/-- cells that never change -/
def Sta (ST : Nat → Option AE) (h : AH) : Prop := ∀ a e, ST a = some e → h.1 a = some e
def Snw (ST : Nat → Option AE) : Prop := ∀ a e, ST a = some e → nwk e
section Stt
variable {L : Nat → Prop} {q : Nat → Nat} {h h' : AH} {σ : Nat → WR} {V : Nat → Int} {E : Nat → Prop} {ST : Nat → Option AE} {a : Nat}
theorem nw_off (H : HW L q h σ) {e : AE} (ha : h.1 a = some e) (hn : nwk e) : ∀ o, L o → a ≠ o ∧ a ≠ q o := by
  intro o ho
  refine ⟨fun z => ?_, fun z => ?_⟩
  · have h1 := (H.1 o ho).1
    rw [← z, ha] at h1
    obtain rfl := Option.some.inj h1
    exact hn rfl
  · have h1 := (H.1 o ho).2
    rw [← z, ha] at h1
    obtain rfl := Option.some.inj h1
    exact hn ⟨rfl, rfl⟩
theorem Sta.fx (W : WS L q h V) (s : Sta ST h) (hn : Snw ST) (p : Fx L q E h h') (hE : ∀ z e, ST z = some e → ¬ E z) : Sta ST h' := by
  obtain ⟨σ, H, -⟩ := W
  intro z e he
  exact (p.2 z (nw_off H (s z e he) (hn z e he)) (hE z e he)).trans (s z e he)
theorem Sta.fr (W : WS L q h V) (s : Sta ST h) (hn : Snw ST) (p : Fr L q h h') : Sta ST h' := s.fx W hn (E := fun _ => False) p.fx (fun _ _ _ => id)
theorem Sta.gR (s : Sta ST h) {a ci k v : Nat} {fs : List Value} (ha : ST a = some (.inr (ci, fs))) (hf : fs[k]? = some (.ref v)) : gR h a ci k = some v := by
  show (match h.1 a with | some (.inr o) => if o.1 = ci then (match o.2[k]? with | some (.ref v) => some v | _ => none) else none | _ => none) = some v
  rw [s a _ ha]
  dsimp only
  rw [if_pos rfl, hf]
theorem Sta.chk (s : Sta ST h) {a ci : Nat} {fs : List Value} (ha : ST a = some (.inr (ci, fs))) : chk h a ci = some () := by
  show (match h.1 a with | some (.inr o) => if o.1 = ci then some () else none | _ => none) = some ()
  rw [s a _ ha]
  dsimp only
  rw [if_pos rfl]
end Stt
