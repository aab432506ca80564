section HMade
variable {p : Program} {l : Launch} {e : Env} {R : Room} {s : State} {m : MethodId} {args : Array Value} {below : List Frame} {meth : Method} {c : Code} {H : Heap} {locs : List Loc} {cells slots : Nat} {Q : State → Prop}
variable {cc bytes : ByteArray} {pc : Nat} {ls : Array Slot} {rest : List Value} {D : hG} {z : Nat} {h h' : AH} {a b : Nat} {H0 : Heap} {mc ms fr lo maxL nL n index : Nat} {own C : String} {y : MethodName}
theorem hv_new (hexec : p.tables.exec = Jvm.exec) (hb : c.code = cc) {T : u_T} {N ci : Nat} (hts : ∀ w ∈ bg, w.before args s = true) (hin : ∀ w ∈ u_ws C T N, w ∈ bg) (ty : Nat → FieldType) (hty : ∀ k, k < N → parseFieldDescriptor (T k).2.2.1 = some (ty k)) (hown : s.vm.findClass own = some m.cls) (hcl : Cond.classLink own index C ∈ bg) (hinst : Cond.instantiable C N ∈ bg) (hini : Cond.initialized C ∈ bg)
    (hk : hK D s) (hr : hR D z h H) (hz : z ≤ H0.size) (hS : va_S (hA z) H0 H locs) (hc : vwCl[ci]? = some (C, T, N)) (fs : List Value) (hfs : ∀ j, j < N → defaultValue (ty j) = vp_V fs j) (hcells : cells + 1 ≤ R.cells) (hslots : slots + N ≤ R.slots) (hdg : decode cc pc = .ok (.new index, 3))
    (kk : ∀ (H1 : Heap), hR D z (nO h (.inr (ci, fs))) H1 → va_S (hA z) H0 H1 locs → W p l e R s m args below meth c H1 locs (cells + 1) (slots + N) Q (F0 m (pc + 3) ls (.ref h.2 :: rest))) : W p l e R s m args below meth c H locs cells slots Q (F0 m pc ls rest) := by
  have hKn := hk.1.1 ci _ hc
  refine W.newcK hexec hb hown (hts _ hcl) (hts _ hinst) (hts _ hini) rfl hdg hcells hslots hKn.2.1 rfl fun H1 kC hkC e1 z1 o1 => ?_
  have h9 := kk H1 (hr.push (Nat.le_trans hz hS.1) ⟨_, hc, (u_born ty hts hin hKn hkC e1 hty).to hfs⟩ z1 o1) ⟨Nat.le_trans hS.1 (by omega), fun x h1 h2 => (o1 x (Nat.lt_of_lt_of_le h1 hS.1)).trans (hS.2.1 x h1 h2), hS.2.2⟩
  rw [← hr.1] at h9
  exact h9
theorem kty_prim {at_ : ArrayType} {kd : Nat} (h : newarray.typeOf at_ = kty kd) (hk : hK D s) (hkd : (htys D)[kd]? = some (D.2 kd, kty kd)) {cA : ClassId} (hA : s.vm.findClass ("[" ++ (newarray.typeOf at_).toString) = some cA) : cA = D.2 kd := by
  have h2 := (hk.1.2 kd _ hkd).2
  rw [h] at hA
  match kd, h2, hA, h with
  | 0, h2, hA, _ => exact Option.some.inj (hA.symm.trans h2)
  | 1, h2, hA, _ => exact Option.some.inj (hA.symm.trans h2)
  | 2, h2, hA, _ => exact Option.some.inj (hA.symm.trans h2)
  | 3, _, _, h => cases at_ <;> cases h
  | 4, _, _, h => cases at_ <;> cases h
  | (k + 5), _, _, h => cases at_ <;> cases h
theorem hv_newa (hexec : p.tables.exec = Jvm.exec) (hb : c.code = cc) (hts : ∀ w ∈ bg, w.before args s = true) {at_ : ArrayType} (kd : Nat) (hty : newarray.typeOf at_ = kty kd) (hkd : (htys D)[kd]? = some (D.2 kd, kty kd)) (harr : Cond.arrayClass (newarray.typeOf at_) ∈ bg)
    (hk : hK D s) (hr : hR D z h H) (hz : z ≤ H0.size) (hS : va_S (hA z) H0 H locs) {n : Int32} (N : Nat) (x : vp_A) (hx : ∀ cA, vp_cell cA x = arrV cA N (fun _ => defaultValue (newarray.typeOf at_))) (hn : ¬ n < 0) (hN : n.toNatClampNeg = N) (hbytes : N * componentBytes (newarray.typeOf at_) ≤ 536870912) (hcells : cells + 1 ≤ R.cells) (hslots : slots + N ≤ R.slots) (hdg : decode cc pc = .ok (.newarray at_, 2))
    (kk : ∀ (H1 : Heap), hR D z (nO h (.inl (kd, x))) H1 → va_S (hA z) H0 H1 locs → W p l e R s m args below meth c H1 locs (cells + 1) (slots + N) Q (F0 m (pc + 2) ls (.ref h.2 :: rest))) : W p l e R s m args below meth c H locs cells slots Q (F0 m pc ls (.int n :: rest)) := by
  refine va_newaK hexec hb (hts _ harr) (g := F0 m pc ls (.int n :: rest)) rfl hdg (rest := rest) rfl hn hN hbytes hcells hslots rfl fun H1 cA e1 z1 o1 hA1 hA2 => ?_
  have hcA := kty_prim hty hk hkd hA2
  subst hcA
  have h9 := kk H1 (hr.push (Nat.le_trans hz hS.1) (show H1[H.size]? = some (vp_cell (D.2 kd) x) by rw [hx]; exact e1) z1 o1) ⟨Nat.le_trans hS.1 (by omega), fun x h1 h2 => (o1 x (Nat.lt_of_lt_of_le h1 hS.1)).trans (hS.2.1 x h1 h2), hS.2.2⟩
  rw [← hr.1] at h9
  exact h9
theorem hv_newq (hexec : p.tables.exec = Jvm.exec) (hb : c.code = cc) (hown : s.vm.findClass own = some m.cls) (hts : ∀ w ∈ bg, w.before args s = true) (kd : Nat) (hkd : (htys D)[kd]? = some (D.2 kd, .object C)) (hcl : Cond.classLink own index C ∈ bg) (hover : va_AO C s)
    (hk : hK D s) (hr : hR D z h H) (hz : z ≤ H0.size) (hS : va_S (hA z) H0 H locs) {n : Int32} (N : Nat) (hn : ¬ n < 0) (hN : n.toNatClampNeg = N) (hbytes : N * 4 ≤ 536870912) (hcells : cells + 1 ≤ R.cells) (hslots : slots + N ≤ R.slots) (hdg : decode cc pc = .ok (.anewarray index, 3))
    (kk : ∀ (H1 : Heap), hR D z (nO h (.inl (kd, N, .inr (.inr (.inr (.inr (fun _ => none))))))) H1 → va_S (hA z) H0 H1 locs → W p l e R s m args below meth c H1 locs (cells + 1) (slots + N) Q (F0 m (pc + 3) ls (.ref h.2 :: rest))) : W p l e R s m args below meth c H locs cells slots Q (F0 m pc ls (.int n :: rest)) := by
  subst hN
  refine W.anew hexec hb hown (hts _ hcl) (va_AO.use hover) (g := F0 m pc ls (.int n :: rest)) rfl hdg (rest := rest) rfl hn hbytes hcells hslots fun cA kA comp f1 f2 f3 f4 => ?_
  obtain ⟨-, kA2, comp2, -, -, -, h4⟩ := hk.1.2 kd _ hkd
  have hcA : cA = D.2 kd := Option.some.inj (f1.symm.trans h4)
  subst hcA
  generalize hH1 : H.push ({ cls := D.2 kd, slots := Array.replicate n.toNatClampNeg .null, vm := .none } : Cell) = H1
  have z1 : H1.size = H.size + 1 := by rw [← hH1, Array.size_push]
  have e1 : H1[H.size]? = some (arrV (D.2 kd) n.toNatClampNeg (fun _ => .null)) := by rw [← hH1, Array.getElem?_push_size, ← arrV_new]
  have o1 : ∀ q : Nat, q < H.size → H1[q]? = H[q]? := fun q hq => by rw [← hH1, Array.getElem?_push, if_neg (Nat.ne_of_lt hq)]
  have h9 := kk H1 (hr.push (Nat.le_trans hz hS.1) (show H1[H.size]? = some (vp_cell (D.2 kd) _) by rw [vp_cell_q]; exact e1) z1 o1) ⟨Nat.le_trans hS.1 (by omega), fun x h1 h2 => (o1 x (Nat.lt_of_lt_of_le h1 hS.1)).trans (hS.2.1 x h1 h2), hS.2.2⟩
  rw [← hr.1] at h9
  exact h9
theorem hv_sR (hexec : p.tables.exec = Jvm.exec) (hb : c.code = cc) (hk : hK D s) (hr : hR D z h H) (hS : va_S (hA z) H0 H locs) {i : Int32} {v kd ci : Nat} {T : u_T} {N : Nat} (hkd : (htys D)[kd]? = some (D.2 kd, .object C)) (hc : vwCl[ci]? = some (C, T, N)) (hv : sR h a kd i v ci = some h') (hdg : decode cc pc = .ok (.aastore, 1))
    (kk : ∀ (H1 : Heap) (locs1 : List Loc), hR D z h' H1 → va_S (hA z) H0 H1 locs1 → W p l e R s m args below meth c H1 locs1 cells slots Q (F0 m (pc + 1) ls rest)) : W p l e R s m args below meth c H locs cells slots Q (F0 m pc ls (.ref v :: .int i :: .ref a :: rest)) := by
  obtain ⟨n, f, vs, h1, h2, hin, rfl⟩ := sR_inv hv
  have hlt : i.toNatClampNeg < n := Nat.not_le.mp fun q => hin (Or.inr q)
  have h0 : ¬ i < 0 := fun q => hin (Or.inl q)
  obtain ⟨r', hr', cellV, g1, g2, g3, -⟩ := hr.one h2 0 _ rfl
  have hcls := (hk.1.1 ci _ hc).2
  obtain ⟨kA, comp, k1, k2, k3, -⟩ := (hk.1.2 kd _ hkd).2
  have hcomp : comp = D.1.1 ci := Option.some.inj (k3.symm.trans hcls.1)
  subst hcomp
  obtain ⟨kC, hkC, -⟩ := hcls.2
  refine W.aast hexec hb (hr.one h1 0 _ rfl) (fun q h => by cases h) (fun h => by cases h) k1 k2 rfl hkC ⟨h0, by show _ < (arrV _ _ _).slots.size; rw [arrV_size]; exact hlt⟩ g1 (fun q h => by rw [g3] at h; cases h) (by rw [g2]; exact hkC) (by rw [g2]; exact va_assign hcls) rfl rfl hdg fun H1 e9 z9 oq => ?_
  refine kk H1 _ (hr.set h1 ?_ z9 oq) (hS.put z9 oq (hr.2 a _ h1).1)
  show H1[a]? = some (vp_cell _ _)
  rw [e9]
  show some ((vp_cell _ (n, .inr (.inr (.inr (.inr f))))).setSlot _ _) = some (vp_cell _ (n, .inr (.inr (.inr (.inr (va_up f i.toNatClampNeg (some v)))))))
  rw [vp_cell_q, vp_cell_q, arrV_store]
  congr 2
  funext q
  by_cases hq : q = i.toNatClampNeg
  · subst hq
    simp [updV, va_up, va_rf]
  · simp [updV, va_up, hq]
theorem hv_I0 (As rest : List Value) (hexec : p.tables.exec = Jvm.exec) (hb : c.code = cc) (hml : c.maxLocals = nL) (hown : s.vm.findClass own = some m.cls) (hts : ∀ w ∈ bg, w.before args s = true) (hk : hK D s) (hr : hR D z h H) (hz : z ≤ H0.size) (hS : va_S (hA z) H0 H locs)
    (hM : hC l D z y bytes maxL none fr lo mc ms (.ref b :: As) h h' none)
    (hlink : Cond.methodLink own index y ∈ bg) (hinst : Cond.instanceMethod y ∈ bg) (hini : Cond.initialized y.cls ∈ bg) (hcode : Cond.code y bytes maxL none ∈ bg) (hy1 : y.name = "<init>")
    (hd : y.cls ≠ "java/lang/invoke/MethodHandle" ∧ y.cls ≠ "java/lang/invoke/VarHandle" ∧ (parseMethodDescriptor y.desc).map (fun d => d.parameters.length) = some n) (hroom : fr + 1 ≤ R.frames ∧ 8 + (maxL + 11) + lo ≤ R.locals) (hcs : cells + mc ≤ R.cells ∧ slots + ms ≤ R.slots)
    (hn : As.length = n) (hsz : ls.size = nL) (hW : (rest.map fun v => v.category).sum ≤ 8) (hdg : decode cc pc = .ok (.invokespecial index, 3)) {st0 : List Value} (hst : st0 = As.reverse ++ .ref b :: rest)
    (kk : ∀ (H1 : Heap) (locs1 : List Loc), hR D z h' H1 → va_S (hA z) H0 H1 locs1 → W p l e R s m args below meth c H1 locs1 (cells + mc) (slots + ms) Q (F0 m (pc + 3) ls rest)) : W p l e R s m args below meth c H locs cells slots Q (F0 m pc ls st0) :=
  hv_invI hexec hb hml hown hts hk hr hz hS hM hlink hinst hini hcode hy1 hd hroom hcs hn hsz hst hW hdg kk
theorem hv_IN0 {host : String} (As rest : List Value) (hexec : p.tables.exec = Jvm.exec) (hb : c.code = cc) (hml : c.maxLocals = nL) (hown : s.vm.findClass own = some m.cls) (hts : ∀ w ∈ bg, w.before args s = true) (hk : hK D s) (hr : hR D z h H) (hz : z ≤ H0.size) (hS : va_S (hA z) H0 H locs)
    (hM : hC l D z y bytes maxL none fr lo mc ms (.ref b :: As) h h' none)
    (hlink : va_Nw (.methodLinkNest own index y host) s) (hinst : Cond.instanceMethod y ∈ bg) (hini : Cond.initialized y.cls ∈ bg) (hcode : Cond.code y bytes maxL none ∈ bg) (hy1 : y.name = "<init>")
    (hd : y.cls ≠ "java/lang/invoke/MethodHandle" ∧ y.cls ≠ "java/lang/invoke/VarHandle" ∧ (parseMethodDescriptor y.desc).map (fun d => d.parameters.length) = some n) (hroom : fr + 1 ≤ R.frames ∧ 8 + (maxL + 11) + lo ≤ R.locals) (hcs : cells + mc ≤ R.cells ∧ slots + ms ≤ R.slots)
    (hn : As.length = n) (hsz : ls.size = nL) (hW : (rest.map fun v => v.category).sum ≤ 8) (hdg : decode cc pc = .ok (.invokespecial index, 3)) {st0 : List Value} (hst : st0 = As.reverse ++ .ref b :: rest)
    (kk : ∀ (H1 : Heap) (locs1 : List Loc), hR D z h' H1 → va_S (hA z) H0 H1 locs1 → W p l e R s m args below meth c H1 locs1 (cells + mc) (slots + ms) Q (F0 m (pc + 3) ls rest)) : W p l e R s m args below meth c H locs cells slots Q (F0 m pc ls st0) := by
  have hG : GoodIn bg (Cond.code y bytes maxL none :: bg) := bg_in (fun w hw => by
    simp only [List.mem_cons] at hw
    rcases hw with rfl | hw <;> assumption)
  exact hv_call (va_runIN (host := host) (As := As) (rest := rest) ⟨hexec, hb, hml, hown, hts⟩ hM ⟨va_cnB n hts hG rfl rfl rfl hlink (hts _ hini) hd hroom, hy1, hts _ hinst⟩ ⟨hB_blind, fun U hU hW => ⟨rfl, hB_at hk hr (Nat.le_trans hz hS.1) hU hW⟩⟩ rfl hn hsz hst (by show 2 * 0 + _ ≤ _; omega) hdg hcs) hS kk
theorem al_lt {i : Int32} {N : Nat} {b : Int32} (hb : b.toInt = N) (h : ¬ b ≤ i) (h0 : 0 ≤ i.toInt) (hN : N < 1000) : i.toNatClampNeg < N ∧ (i + 1).toNatClampNeg = i.toNatClampNeg + 1 ∧ 0 ≤ (i + 1).toInt := by
  have h1 : i.toInt < N := by
    have := Int32.not_le.mp h
    have := Int32.lt_iff_toInt_lt.mp this
    omega
  have h2 : (i + 1).toInt = i.toInt + 1 := by
    rw [Int32.toInt_add, Int32.toInt_one]
    exact Int.bmod_eq_of_le (by omega) (by omega)
  refine ⟨?_, ?_, by omega⟩
  · show i.toInt.toNat < N
    omega
  · show (i + 1).toInt.toNat = i.toInt.toNat + 1
    omega
end HMade
theorem al_lt2 {i : Int32} {N : Nat} {b : Int32} (hb : b.toInt + 1 = N) (h : ¬ b < i) (h0 : 0 ≤ i.toInt) (hN : N < 1000) : i.toNatClampNeg < N ∧ (i + 1).toNatClampNeg = i.toNatClampNeg + 1 ∧ 0 ≤ (i + 1).toInt := by
  have h1 : i.toInt < N := by
    have := Int32.not_lt.mp h
    have := Int32.le_iff_toInt_le.mp this
    omega
  have h2 : (i + 1).toInt = i.toInt + 1 := by
    rw [Int32.toInt_add, Int32.toInt_one]
    exact Int.bmod_eq_of_le (by omega) (by omega)
  refine ⟨?_, ?_, by omega⟩
  · show i.toInt.toNat < N
    omega
  · show (i + 1).toInt.toNat = i.toInt.toNat + 1
    omega
