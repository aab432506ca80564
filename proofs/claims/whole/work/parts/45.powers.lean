section Pws
variable {L : Nat → Prop} {q : Nat → Nat} {h h' : AH} {V : Nat → Int} {ST : Nat → Option AE} {a u0 pr ud pp pb pf ps pfs pss : Nat}
/-- Powers' object -/
def PO (ST : Nat → Option AE) (u0 pr ud pp pb pf ps pfs pss : Nat) : Prop := ST u0 = some (.inr (3, [.ref pr, .ref ud, .ref pp, .ref pb, .ref pf, .ref ps, .ref pfs, .ref pss]))
/-- the result times a factor; product holds it too -/
theorem v_multiplyBy (W : WS L q h V) (s : Sta ST h) (hn : Snw ST) (o : PO ST u0 pr ud pp pb pf ps pfs pss) (ha : L a) (hr : L pr) (hp : L pp) (hrp : pr ≠ pp) (hap : a ≠ pp) {na nb : Nat} (xr : (V pr).natAbs < B32 ^ na) (xa : (V a).natAbs < B32 ^ nb) (hab : na + nb ≤ 26) :
    ∃ h', zs_X3_multiplyBy h u0 a = some (if (V pr * V a).natAbs < B32 ^ 12 then 1 else 0, h') ∧ WS L q h' (va_up (va_up V pp (V pr * V a)) pr (V pr * V a)) ∧ Sta ST h' ∧ Fr L q h h' := by
  unfold zs_X3_multiplyBy
  rw [s.gR o rfl, s.gR o rfl]
  simp only [Option.bind_some]
  obtain ⟨g1, e1, W1, F1⟩ := v_product W hr ha hp hrp hap xr xa hab
  rw [e1]
  simp only [Option.bind_some]
  have s1 := s.fr W hn F1
  rw [s1.gR o rfl, s1.gR o rfl]
  simp only [Option.bind_some]
  rw [v_chk W1 hr]
  simp only [Option.bind_some]
  obtain ⟨g2, e2, W2, F2⟩ := v_copy W1 hr hp
  rw [e2]
  simp only [Option.bind_some]
  have s2 := s1.fr W1 hn F2
  rw [s2.gR o rfl]
  simp only [Option.bind_some]
  rw [v_chk W2 hr, v_isWithin W2 hr]
  simp only [Option.bind_some]
  rw [va_us, va_us]
  rw [va_us] at W2
  refine ⟨g2, ?_, W2, s2, F1.tr F2⟩
  split
  · rfl
  · rfl
end Pws
