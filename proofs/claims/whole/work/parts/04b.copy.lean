def cpI (h : AH) (a0 : Nat) (sp : Int32) (a : Nat) (dp n : Int32) : Option AH := match h.1 a0, h.1 a with
  | some (.inl (k0, n0, .inl f)), some (.inl (k1, n1, .inl g)) => if k0 = 0 ∧ k1 = 0 ∧ 0 ≤ sp.toInt ∧ 0 ≤ dp.toInt ∧ 0 ≤ n.toInt ∧ sp.toInt + n.toInt ≤ n0 ∧ dp.toInt + n.toInt ≤ n1 then some (hset h a (.inl (0, n1, .inl (va_cpy f g sp.toNatClampNeg dp.toNatClampNeg n.toNatClampNeg)))) else none
  | _, _ => none
theorem cpI_inv {h h' : AH} {a0 a : Nat} {sp dp n : Int32} (hv : cpI h a0 sp a dp n = some h') : ∃ (n0 n1 : Nat) (f g : Nat → Int32), h.1 a0 = some (.inl (0, n0, .inl f)) ∧ h.1 a = some (.inl (0, n1, .inl g)) ∧ 0 ≤ sp.toInt ∧ 0 ≤ dp.toInt ∧ 0 ≤ n.toInt ∧ sp.toInt + n.toInt ≤ n0 ∧ dp.toInt + n.toInt ≤ n1 ∧ h' = hset h a (.inl (0, n1, .inl (va_cpy f g sp.toNatClampNeg dp.toNatClampNeg n.toNatClampNeg))) := by
  unfold cpI at hv
  split at hv
  · rename_i k0 n0 f k1 n1 g h0 h1
    split at hv
    · rename_i hc
      obtain ⟨rfl, rfl, c1, c2, c3, c4, c5⟩ := hc
      cases hv
      exact ⟨n0, n1, f, g, h0, h1, c1, c2, c3, c4, c5, rfl⟩
    · cases hv
  · cases hv
section HCopy
variable {p : Program} {l : Launch} {e : Env} {R : Room} {s : State} {m : MethodId} {args : Array Value} {below : List Frame} {meth : Method} {c : Code} {H : Heap} {locs : List Loc} {cells slots : Nat} {Q : State → Prop}
variable {cc : ByteArray} {pc : Nat} {ls : Array Slot} {rest : List Value} {D : hG} {z : Nat} {h h' : AH} {a a0 : Nat} {H0 : Heap}
theorem hv_cp (hexec : p.tables.exec = Jvm.exec) (hb : c.code = cc) (hml : c.maxLocals = ls.size) {own : String} {index : Nat} (hown : s.vm.findClass own = some m.cls) (hlink : (Cond.methodLink own index arraycopyName).before args s = true) (hnat : (Cond.native arraycopyName).before args s = true) (hstat : (Cond.static arraycopyName).before args s = true) (hini : (Cond.initialized "java/lang/System").before args s = true)
    (hk : hK D s) (hr : hR D z h H) (hS : va_S (hA z) H0 H locs) {sp dp n : Int32} (hv : cpI h a0 sp a dp n = some h')
    (hframes : 1 ≤ R.frames) (hlocals : (rest.map fun v => v.category).sum + (nativeFrameWords "java/lang/System" "arraycopy" 5 + 11) ≤ R.locals) (hdg : decode cc pc = .ok (.invokestatic index, 3))
    (kk : ∀ (H1 : Heap) (locs1 : List Loc), hR D z h' H1 → va_S (hA z) H0 H1 locs1 → W p l e R s m args below meth c H1 locs1 cells slots Q (F0 m (pc + 3) ls rest)) : W p l e R s m args below meth c H locs cells slots Q (F0 m pc ls (.int n :: .int dp :: .ref a :: .int sp :: .ref a0 :: rest)) := by
  obtain ⟨n0, n1, f, g, ha0, ha1, c1, c2, c3, c4, c5, rfl⟩ := cpI_inv hv
  have nn : ∀ w : Int32, 0 ≤ w.toInt → ¬ w < 0 ∧ w.toInt = (w.toNatClampNeg : Int) := by
    intro w hw
    refine ⟨fun q => ?_, ?_⟩
    · have := Int32.lt_iff_toInt_lt.mp q
      simp at this
      omega
    · show w.toInt = ((w.toInt.toNat : Nat) : Int)
      omega
  have h1 := (nn sp c1).1
  have h2 := (nn dp c2).1
  have h3 := (nn n c3).1
  have h4 : sp.toNatClampNeg + n.toNatClampNeg ≤ n0 := by have := (nn sp c1).2; have := (nn n c3).2; omega
  have h5 : dp.toNatClampNeg + n.toNatClampNeg ≤ n1 := by have := (nn dp c2).2; have := (nn n c3).2; omega
  intro T hT X
  have hc0 : H[a0]? = some (vp_cell (D.2 0) (n0, .inl f)) := hr.one ha0 0 _ rfl
  have hc1 : H[a]? = some (vp_cell (D.2 0) (n1, .inl g)) := hr.one ha1 0 _ rfl
  obtain ⟨-, k0, hk0, cm0, hkk0⟩ := (hk.1.2 0 _ rfl).1 n0 (fun j => .int (f j))
  obtain ⟨-, k1, hk1, cm1, hkk1⟩ := (hk.1.2 0 _ rfl).1 n1 (fun j => .int (g j))
  obtain ⟨vm', X', step⟩ := X.arraycopy hexec hown hlink hnat hstat hini (src := a0) (dst := a) (cs := vp_cell (D.2 0) (n0, .inl f)) (cd := vp_cell (D.2 0) (n1, .inl g)) (srcPos := sp) (destPos := dp) (n := n) (by rw [hT]; exact hc0) (by rw [hT]; exact hc1)
    (fun _ h => by cases h) (fun _ h => by cases h) (fun h => by cases h) (fun h => by cases h) hk0 hk1 hkk0 hkk1 (by simp [kty, refKind]) h1 h2 h3
    (by rw [(nn sp c1).2, (nn n c3).2]; show ¬ _ > ((arrV (D.2 0) n0 (fun j => .int (f j))).slots.size : Int); rw [arrV_size]; omega)
    (by rw [(nn dp c2).2, (nn n c3).2]; show ¬ _ > ((arrV (D.2 0) n1 (fun j => .int (g j))).slots.size : Int); rw [arrV_size]; omega)
    (fun vm₁ _ i hi => by
      have e : (vp_cell (D.2 0) (n0, .inl f)).slots.getD (sp.toNatClampNeg + i) .null = .int (f (sp.toNatClampNeg + i)) := by
        show (arrV (D.2 0) n0 (fun j => .int (f j))).slots.getD _ _ = _
        rw [Array.getD_eq_getD_getElem?, arrV_read _ _ (by omega)]
        rfl
      refine ⟨?_, ?_⟩
      · rw [e]
        rfl
      · rw [e]
        exact trivial)
    (g := F0 m pc ls (.int n :: .int dp :: .ref a :: .int sp :: .ref a0 :: rest)) rfl (by rw [hml]) (rest := rest) rfl (by rw [hb]; exact hdg) hframes (by show 2 * 0 + _ + _ ≤ _; omega)
  have e1 : copied (vp_cell (D.2 0) (n0, .inl f)) (vp_cell (D.2 0) (n1, .inl g)) sp dp n = vp_cell (D.2 0) (n1, .inl (va_cpy f g sp.toNatClampNeg dp.toNatClampNeg n.toNatClampNeg)) := va_copied (fun z => .int z) (D.2 0) (D.2 0) f g h4
  rw [e1] at X' step
  have hl : a < H.size := (Array.getElem?_eq_some_iff.mp hc1).1
  have hheap : ((T.setVm vm').setCell a (vp_cell (D.2 0) (n1, .inl (va_cpy f g sp.toNatClampNeg dp.toNatClampNeg n.toNatClampNeg)))).heap = H.setIfInBounds a (vp_cell (D.2 0) (n1, .inl (va_cpy f g sp.toNatClampNeg dp.toNatClampNeg n.toNatClampNeg))) := by rw [← hT]; rfl
  have oq : ∀ q : Nat, q ≠ a → (H.setIfInBounds a (vp_cell (D.2 0) (n1, .inl (va_cpy f g sp.toNatClampNeg dp.toNatClampNeg n.toNatClampNeg))))[q]? = H[q]? := fun q hq => by simp [Array.getElem?_setIfInBounds, Ne.symm hq]
  obtain ⟨t, a1, b1⟩ := kk _ _ (hr.set ha1 (show (H.setIfInBounds a _)[a]? = some _ by simp [Array.getElem?_setIfInBounds, hl]) (by simp) oq) ⟨by simp; exact hS.1, fun q g1 g2 => by
      rw [oq q (fun e => g2 (by rw [e]; exact (hr.2 a _ ha1).1))]
      exact hS.2.1 q g1 g2, fun q hq => by
      rcases List.mem_append.mp hq with h9 | h9
      · exact hS.2.2 q h9
      · obtain ⟨z9, -, hz9⟩ := List.mem_map.mp h9
        rw [← hz9]
        exact (hr.2 a _ ha1).1⟩ _ hheap X'
  exact ⟨t, step t a1, b1⟩
end HCopy
