section HCalls
theorem bg_in {L : List Cond} (h : ∀ w ∈ L, w ∈ bg) : GoodIn bg L := fun w hw => ⟨h w hw, bg_good w (h w hw)⟩
theorem hC_of {l : Launch} {D : hG} {z : Nat} {y : MethodName} {cc : ByteArray} {maxL : Nat} {ret : Option FieldType} {fr lo mc ms : Nat} {av : List Value} {h h' : AH} {r : Option Value} (hy : plainName y.cls = true) (hlen : (lg_sl av).length ≤ maxL)
    (body : ∀ (p : Program) (e : Env) (s : State) (m : MethodId) (below : List Frame) (meth : Method) (c : Code), p.tables.exec = Jvm.exec → c.code = cc → c.maxLocals = maxL → meth.sig.returnType = ret → meth.locks = false → s.vm.findClass y.cls = some m.cls → meth.name = y.name → (∀ w ∈ bg, w.before av.toArray s = true) → hK D s → hR D z h s.heap → z ≤ s.heap.size → ∀ ls : Array Slot, lv_has ls maxL (lv_args 0 av) → W p l e ({ frames := fr, cells := mc, slots := ms, locals := lo } : Room) s m av.toArray below meth c s.heap [] 0 0 (MQ below (hQ D z h' r) av.toArray s mc ms (hA z)) (F0 m 0 ls [])) : hC l D z y cc maxL ret fr lo mc ms av h h' r := by
  refine Met.ofW (cc := cc) (maxL := maxL) (ret := ret) hy rfl ?_
  intro p e s m args below meth c s₁ B hml hv
  obtain ⟨rfl, hk, hr, hz⟩ := hv
  have hts := atoms_spec (ws := .code y cc maxL ret :: bg) B.pre
  have hl := lv_entry av (n := maxL) hlen
  rw [lg_entry_eq]
  exact body p e s m below meth c B.exec B.bytes hml B.returns B.notSynchronized (findClass_of_methodNamed B.named) (name_of_methodNamed B.named B.method).1 (fun w hw => hts w (List.mem_cons_of_mem _ hw)) hk hr hz _ hl
variable {p : Program} {l : Launch} {e : Env} {R : Room} {s : State} {m : MethodId} {args : Array Value} {below : List Frame} {meth : Method} {c : Code} {H : Heap} {locs : List Loc} {cells slots : Nat} {Q : State → Prop}
variable {cc bytes : ByteArray} {pc : Nat} {ls : Array Slot} {rest st0 As : List Value} {D : hG} {z : Nat} {h h' : AH} {a b : Nat} {H0 : Heap} {mc ms fr lo maxL nL n index : Nat} {r : Option Value} {own C : String} {y : MethodName} {ret : Option FieldType}
theorem hv_call {av : Array Value} (hr : va_Run p l e R s m args below meth c H locs cells slots mc ms (F0 m pc ls st0) rest (hQ D z h' r av) (hA z)) (hS : va_S (hA z) H0 H locs)
    (kk : ∀ (H1 : Heap) (locs1 : List Loc), hR D z h' H1 → va_S (hA z) H0 H1 locs1 → W p l e R s m args below meth c H1 locs1 (cells + mc) (slots + ms) Q (F0 m (pc + 3) ls (r.toList ++ rest))) : W p l e R s m args below meth c H locs cells slots Q (F0 m pc ls st0) := by
  intro T hT X
  obtain ⟨v, st₀, t, T', L, h0, X', hL, e1, e2, ⟨hv, hrr, hz, hk⟩, st⟩ := hr T hT X
  cases hv
  rw [h0] at hz hk
  obtain ⟨t2, a1, b1⟩ := kk T'.heap (locs ++ L) (by rw [e1]; exact hrr)
    ⟨Nat.le_trans hS.1 (by rw [e1]; exact hz), fun q h1 h2 => by rw [e1, hk q (Nat.lt_of_lt_of_le h1 hS.1) h2]; exact hS.2.1 q h1 h2, fun q hq => by
      rcases List.mem_append.mp hq with h9 | h9
      · exact hS.2.2 q h9
      · exact hL q h9⟩ T' rfl X'
  exact ⟨t2, st t2 a1, b1⟩
theorem hB_blind {av : List Value} : FrameBlind (va_Pc av (hB D z h)) := fun a U g mk q => ⟨q.1, hK.same (u := U) (U := U.calling g mk a) rfl q.2.1, q.2.2.1, q.2.2.2⟩
theorem hB_at (hk : hK D s) (hr : hR D z h H) (hz : z ≤ H.size) {U : State} (hU : U.heap = H) (hW : s.WarmedH U.vm) : hB D z h U := ⟨hK.moved hW hk, by rw [hU]; exact hr, by rw [hU]; exact hz⟩
theorem hv_invV (hexec : p.tables.exec = Jvm.exec) (hb : c.code = cc) (hml : c.maxLocals = nL) (hown : s.vm.findClass own = some m.cls) (hts : ∀ w ∈ bg, w.before args s = true) (hk : hK D s) (hr : hR D z h H) (hz : z ≤ H0.size) (hS : va_S (hA z) H0 H locs) {T : u_T} {N ci : Nat} {u : Unit}
    (hM : hC l D z y bytes maxL ret fr lo mc ms (.ref b :: As) h h' r) (hrec : chk h b ci = some u) (hc : vwCl[ci]? = some (C, T, N))
    (hlink : Cond.methodLink own index y ∈ bg) (hinst : Cond.instanceMethod y ∈ bg) (hsel : Cond.selects C y y ∈ bg) (hini : Cond.initialized C ∈ bg) (hcode : Cond.code y bytes maxL ret ∈ bg)
    (hd : y.cls = C ∧ y.cls ≠ "java/lang/invoke/MethodHandle" ∧ y.cls ≠ "java/lang/invoke/VarHandle" ∧ (parseMethodDescriptor y.desc).map (fun d => d.parameters.length) = some n) (hroom : fr + 1 ≤ R.frames ∧ 8 + (maxL + 11) + lo ≤ R.locals) (hcs : cells + mc ≤ R.cells ∧ slots + ms ≤ R.slots)
    (hn : As.length = n) (hsz : ls.size = nL) (hst : st0 = As.reverse ++ .ref b :: rest) (hW : (rest.map fun v => v.category).sum ≤ 8) (hdg : decode cc pc = .ok (.invokevirtual index, 3))
    (kk : ∀ (H1 : Heap) (locs1 : List Loc), hR D z h' H1 → va_S (hA z) H0 H1 locs1 → W p l e R s m args below meth c H1 locs1 (cells + mc) (slots + ms) Q (F0 m (pc + 3) ls (r.toList ++ rest))) : W p l e R s m args below meth c H locs cells slots Q (F0 m pc ls st0) := by
  obtain ⟨fs, hfs⟩ := chk_inv hrec
  have hG : GoodIn bg (wsV own index C y (Cond.code y bytes maxL ret :: bg)) := bg_in (fun w hw => by
    simp only [wsV, List.mem_append, List.mem_cons, List.not_mem_nil, or_false] at hw
    rcases hw with (rfl | rfl | rfl | rfl) | rfl | hw <;> assumption)
  refine hv_call (va_runV (As := As) (rest := rest) ⟨hexec, hb, hml, hown, hts⟩ hM (cwV n hts hG rfl rfl rfl hd hroom) ⟨hB_blind, va_recv (q0 := 0) hk.1 (hr.one hfs) hc rfl, fun U hU hW => ⟨rfl, hB_at hk hr (Nat.le_trans hz hS.1) hU hW⟩⟩ rfl hn hsz hst (by show 2 * 0 + _ ≤ _; omega) hdg hcs) hS kk
theorem hv_invS (hexec : p.tables.exec = Jvm.exec) (hb : c.code = cc) (hml : c.maxLocals = nL) (hown : s.vm.findClass own = some m.cls) (hts : ∀ w ∈ bg, w.before args s = true) (hk : hK D s) (hr : hR D z h H) (hz : z ≤ H0.size) (hS : va_S (hA z) H0 H locs)
    (hM : hC l D z y bytes maxL ret fr lo mc ms As h h' r)
    (hlink : Cond.methodLink own index y ∈ bg) (hstat : Cond.static y ∈ bg) (hini : Cond.initialized y.cls ∈ bg) (hcode : Cond.code y bytes maxL ret ∈ bg)
    (hd : y.cls ≠ "java/lang/invoke/MethodHandle" ∧ y.cls ≠ "java/lang/invoke/VarHandle" ∧ (parseMethodDescriptor y.desc).map (fun d => d.parameters.length) = some n) (hroom : fr + 1 ≤ R.frames ∧ 8 + (maxL + 11) + lo ≤ R.locals) (hcs : cells + mc ≤ R.cells ∧ slots + ms ≤ R.slots)
    (hn : As.length = n) (hsz : ls.size = nL) (hst : st0 = As.reverse ++ rest) (hW : (rest.map fun v => v.category).sum ≤ 8) (hdg : decode cc pc = .ok (.invokestatic index, 3))
    (kk : ∀ (H1 : Heap) (locs1 : List Loc), hR D z h' H1 → va_S (hA z) H0 H1 locs1 → W p l e R s m args below meth c H1 locs1 (cells + mc) (slots + ms) Q (F0 m (pc + 3) ls (r.toList ++ rest))) : W p l e R s m args below meth c H locs cells slots Q (F0 m pc ls st0) := by
  have hG : GoodIn bg (va_wsS own index y (Cond.code y bytes maxL ret :: bg)) := bg_in (fun w hw => by
    simp only [va_wsS, List.mem_append, List.mem_cons, List.not_mem_nil, or_false] at hw
    rcases hw with (rfl | rfl | rfl) | rfl | hw <;> assumption)
  refine hv_call (va_runS (As := As) (rest := rest) ⟨hexec, hb, hml, hown, hts⟩ hM (va_cwS n hts hG rfl rfl rfl hd hroom) ⟨hB_blind, fun U hU hW => ⟨rfl, hB_at hk hr (Nat.le_trans hz hS.1) hU hW⟩⟩ rfl hn hsz hst (by show 2 * 0 + _ ≤ _; omega) hdg hcs) hS kk
theorem hv_invI (hexec : p.tables.exec = Jvm.exec) (hb : c.code = cc) (hml : c.maxLocals = nL) (hown : s.vm.findClass own = some m.cls) (hts : ∀ w ∈ bg, w.before args s = true) (hk : hK D s) (hr : hR D z h H) (hz : z ≤ H0.size) (hS : va_S (hA z) H0 H locs)
    (hM : hC l D z y bytes maxL none fr lo mc ms (.ref b :: As) h h' r)
    (hlink : Cond.methodLink own index y ∈ bg) (hinst : Cond.instanceMethod y ∈ bg) (hini : Cond.initialized y.cls ∈ bg) (hcode : Cond.code y bytes maxL none ∈ bg) (hy1 : y.name = "<init>")
    (hd : y.cls ≠ "java/lang/invoke/MethodHandle" ∧ y.cls ≠ "java/lang/invoke/VarHandle" ∧ (parseMethodDescriptor y.desc).map (fun d => d.parameters.length) = some n) (hroom : fr + 1 ≤ R.frames ∧ 8 + (maxL + 11) + lo ≤ R.locals) (hcs : cells + mc ≤ R.cells ∧ slots + ms ≤ R.slots)
    (hn : As.length = n) (hsz : ls.size = nL) (hst : st0 = As.reverse ++ .ref b :: rest) (hW : (rest.map fun v => v.category).sum ≤ 8) (hdg : decode cc pc = .ok (.invokespecial index, 3))
    (kk : ∀ (H1 : Heap) (locs1 : List Loc), hR D z h' H1 → va_S (hA z) H0 H1 locs1 → W p l e R s m args below meth c H1 locs1 (cells + mc) (slots + ms) Q (F0 m (pc + 3) ls (r.toList ++ rest))) : W p l e R s m args below meth c H locs cells slots Q (F0 m pc ls st0) := by
  have hG : GoodIn bg (Cond.code y bytes maxL none :: bg) := bg_in (fun w hw => by
    simp only [List.mem_cons] at hw
    rcases hw with rfl | hw <;> assumption)
  refine hv_call (va_runI (As := As) (rest := rest) ⟨hexec, hb, hml, hown, hts⟩ hM (cwI n hts hG rfl rfl rfl (hts _ hini) (hts _ hlink) (hts _ hinst) hy1 hd hroom) ⟨hB_blind, fun U hU hW => ⟨rfl, hB_at hk hr (Nat.le_trans hz hS.1) hU hW⟩⟩ rfl hn hsz hst (by show 2 * 0 + _ ≤ _; omega) hdg hcs) hS kk
theorem hv_lc_le (hexec : p.tables.exec = Jvm.exec) (hb : c.code = cc) {x y : Int64} {off : Int} {tgt : Nat} (h1 : decode cc pc = .ok (.lcmp, 1)) (h2 : decode cc (pc + 1) = .ok (.ifCond .le off, 3)) (ht : ((pc + 1 : Nat) : Int) + off = (tgt : Int)) (kt : x ≤ y → W p l e R s m args below meth c H locs cells slots Q (F0 m tgt ls rest)) (kf : ¬ x ≤ y → W p l e R s m args below meth c H locs cells slots Q (F0 m (pc + 1 + 3) ls rest)) : W p l e R s m args below meth c H locs cells slots Q (F0 m pc ls (.long y :: .long x :: rest)) :=
  W.lcmp hexec hb h1 (lv_if_le hexec hb h2 ht (fun q => kt ((lg_le x y).mp q)) (fun q => kf (fun z => q ((lg_le x y).mpr z))))
theorem hv_lc_gt (hexec : p.tables.exec = Jvm.exec) (hb : c.code = cc) {x y : Int64} {off : Int} {tgt : Nat} (h1 : decode cc pc = .ok (.lcmp, 1)) (h2 : decode cc (pc + 1) = .ok (.ifCond .gt off, 3)) (ht : ((pc + 1 : Nat) : Int) + off = (tgt : Int)) (kt : y < x → W p l e R s m args below meth c H locs cells slots Q (F0 m tgt ls rest)) (kf : ¬ y < x → W p l e R s m args below meth c H locs cells slots Q (F0 m (pc + 1 + 3) ls rest)) : W p l e R s m args below meth c H locs cells slots Q (F0 m pc ls (.long y :: .long x :: rest)) :=
  W.lcmp hexec hb h1 (lv_if_gt hexec hb h2 ht (fun q => kt ((lg_gt x y).mp q)) (fun q => kf (fun z => q ((lg_gt x y).mpr z))))
theorem hv_lc_lt (hexec : p.tables.exec = Jvm.exec) (hb : c.code = cc) {x y : Int64} {off : Int} {tgt : Nat} (h1 : decode cc pc = .ok (.lcmp, 1)) (h2 : decode cc (pc + 1) = .ok (.ifCond .lt off, 3)) (ht : ((pc + 1 : Nat) : Int) + off = (tgt : Int)) (kt : x < y → W p l e R s m args below meth c H locs cells slots Q (F0 m tgt ls rest)) (kf : ¬ x < y → W p l e R s m args below meth c H locs cells slots Q (F0 m (pc + 1 + 3) ls rest)) : W p l e R s m args below meth c H locs cells slots Q (F0 m pc ls (.long y :: .long x :: rest)) :=
  W.lcmp hexec hb h1 (lv_if_lt hexec hb h2 ht (fun q => kt ((lg_lt x y).mp q)) (fun q => kf (fun z => q ((lg_lt x y).mpr z))))
theorem hv_lc_ge (hexec : p.tables.exec = Jvm.exec) (hb : c.code = cc) {x y : Int64} {off : Int} {tgt : Nat} (h1 : decode cc pc = .ok (.lcmp, 1)) (h2 : decode cc (pc + 1) = .ok (.ifCond .ge off, 3)) (ht : ((pc + 1 : Nat) : Int) + off = (tgt : Int)) (kt : y ≤ x → W p l e R s m args below meth c H locs cells slots Q (F0 m tgt ls rest)) (kf : ¬ y ≤ x → W p l e R s m args below meth c H locs cells slots Q (F0 m (pc + 1 + 3) ls rest)) : W p l e R s m args below meth c H locs cells slots Q (F0 m pc ls (.long y :: .long x :: rest)) :=
  W.lcmp hexec hb h1 (lv_if_ge hexec hb h2 ht (fun q => kt ((lg_ge x y).mp q)) (fun q => kf (fun z => q ((lg_ge x y).mpr z))))
theorem hv_lc_eq (hexec : p.tables.exec = Jvm.exec) (hb : c.code = cc) {x y : Int64} {off : Int} {tgt : Nat} (h1 : decode cc pc = .ok (.lcmp, 1)) (h2 : decode cc (pc + 1) = .ok (.ifCond .eq off, 3)) (ht : ((pc + 1 : Nat) : Int) + off = (tgt : Int)) (kt : x = y → W p l e R s m args below meth c H locs cells slots Q (F0 m tgt ls rest)) (kf : ¬ x = y → W p l e R s m args below meth c H locs cells slots Q (F0 m (pc + 1 + 3) ls rest)) : W p l e R s m args below meth c H locs cells slots Q (F0 m pc ls (.long y :: .long x :: rest)) :=
  W.lcmp hexec hb h1 (lv_if_eq hexec hb h2 ht (fun q => kt ((lg_eq x y).mp q)) (fun q => kf (fun z => q ((lg_eq x y).mpr z))))
theorem hv_lc_ne (hexec : p.tables.exec = Jvm.exec) (hb : c.code = cc) {x y : Int64} {off : Int} {tgt : Nat} (h1 : decode cc pc = .ok (.lcmp, 1)) (h2 : decode cc (pc + 1) = .ok (.ifCond .ne off, 3)) (ht : ((pc + 1 : Nat) : Int) + off = (tgt : Int)) (kt : ¬ x = y → W p l e R s m args below meth c H locs cells slots Q (F0 m tgt ls rest)) (kf : x = y → W p l e R s m args below meth c H locs cells slots Q (F0 m (pc + 1 + 3) ls rest)) : W p l e R s m args below meth c H locs cells slots Q (F0 m pc ls (.long y :: .long x :: rest)) :=
  W.lcmp hexec hb h1 (lv_if_ne hexec hb h2 ht (fun q => kt (fun z => q ((lg_eq x y).mpr z))) (fun q => kf ((lg_eq x y).mp q)))
end HCalls
section HCalls2
variable {p : Program} {l : Launch} {e : Env} {R : Room} {s : State} {m : MethodId} {args : Array Value} {below : List Frame} {meth : Method} {c : Code} {H : Heap} {locs : List Loc} {cells slots : Nat} {Q : State → Prop}
variable {cc bytes : ByteArray} {pc : Nat} {ls : Array Slot} {rest As : List Value} {D : hG} {z : Nat} {h h' : AH} {a b : Nat} {H0 : Heap} {fr lo maxL nL n index : Nat} {v : Value} {own C : String} {y : MethodName} {ret : Option FieldType}
theorem hv_V1 {T : u_T} {N ci : Nat} {u : Unit} (As rest : List Value) (hexec : p.tables.exec = Jvm.exec) (hb : c.code = cc) (hml : c.maxLocals = nL) (hown : s.vm.findClass own = some m.cls) (hts : ∀ w ∈ bg, w.before args s = true) (hk : hK D s) (hr : hR D z h H) (hz : z ≤ H0.size) (hS : va_S (hA z) H0 H locs)
    (hM : hC l D z y bytes maxL ret fr lo 0 0 (.ref b :: As) h h' (some v)) (hrec : chk h b ci = some u) (hc : vwCl[ci]? = some (C, T, N))
    (hlink : Cond.methodLink own index y ∈ bg) (hinst : Cond.instanceMethod y ∈ bg) (hsel : Cond.selects C y y ∈ bg) (hini : Cond.initialized C ∈ bg) (hcode : Cond.code y bytes maxL ret ∈ bg)
    (hd : y.cls = C ∧ y.cls ≠ "java/lang/invoke/MethodHandle" ∧ y.cls ≠ "java/lang/invoke/VarHandle" ∧ (parseMethodDescriptor y.desc).map (fun d => d.parameters.length) = some n) (hroom : fr + 1 ≤ R.frames ∧ 8 + (maxL + 11) + lo ≤ R.locals) (hcs : cells ≤ R.cells ∧ slots ≤ R.slots)
    (hn : As.length = n) (hsz : ls.size = nL) (hW : (rest.map fun v => v.category).sum ≤ 8) (hdg : decode cc pc = .ok (.invokevirtual index, 3)) {st0 : List Value} (hst : st0 = As.reverse ++ .ref b :: rest)
    (kk : ∀ (H1 : Heap) (locs1 : List Loc), hR D z h' H1 → va_S (hA z) H0 H1 locs1 → W p l e R s m args below meth c H1 locs1 cells slots Q (F0 m (pc + 3) ls (v :: rest))) : W p l e R s m args below meth c H locs cells slots Q (F0 m pc ls st0) :=
  hv_invV hexec hb hml hown hts hk hr hz hS hM hrec hc hlink hinst hsel hini hcode hd hroom hcs hn hsz hst hW hdg kk
theorem hv_V0 {T : u_T} {N ci : Nat} {u : Unit} (As rest : List Value) (hexec : p.tables.exec = Jvm.exec) (hb : c.code = cc) (hml : c.maxLocals = nL) (hown : s.vm.findClass own = some m.cls) (hts : ∀ w ∈ bg, w.before args s = true) (hk : hK D s) (hr : hR D z h H) (hz : z ≤ H0.size) (hS : va_S (hA z) H0 H locs)
    (hM : hC l D z y bytes maxL ret fr lo 0 0 (.ref b :: As) h h' none) (hrec : chk h b ci = some u) (hc : vwCl[ci]? = some (C, T, N))
    (hlink : Cond.methodLink own index y ∈ bg) (hinst : Cond.instanceMethod y ∈ bg) (hsel : Cond.selects C y y ∈ bg) (hini : Cond.initialized C ∈ bg) (hcode : Cond.code y bytes maxL ret ∈ bg)
    (hd : y.cls = C ∧ y.cls ≠ "java/lang/invoke/MethodHandle" ∧ y.cls ≠ "java/lang/invoke/VarHandle" ∧ (parseMethodDescriptor y.desc).map (fun d => d.parameters.length) = some n) (hroom : fr + 1 ≤ R.frames ∧ 8 + (maxL + 11) + lo ≤ R.locals) (hcs : cells ≤ R.cells ∧ slots ≤ R.slots)
    (hn : As.length = n) (hsz : ls.size = nL) (hW : (rest.map fun v => v.category).sum ≤ 8) (hdg : decode cc pc = .ok (.invokevirtual index, 3)) {st0 : List Value} (hst : st0 = As.reverse ++ .ref b :: rest)
    (kk : ∀ (H1 : Heap) (locs1 : List Loc), hR D z h' H1 → va_S (hA z) H0 H1 locs1 → W p l e R s m args below meth c H1 locs1 cells slots Q (F0 m (pc + 3) ls rest)) : W p l e R s m args below meth c H locs cells slots Q (F0 m pc ls st0) :=
  hv_invV hexec hb hml hown hts hk hr hz hS hM hrec hc hlink hinst hsel hini hcode hd hroom hcs hn hsz hst hW hdg kk
theorem hv_S1 (As rest : List Value) (hexec : p.tables.exec = Jvm.exec) (hb : c.code = cc) (hml : c.maxLocals = nL) (hown : s.vm.findClass own = some m.cls) (hts : ∀ w ∈ bg, w.before args s = true) (hk : hK D s) (hr : hR D z h H) (hz : z ≤ H0.size) (hS : va_S (hA z) H0 H locs)
    (hM : hC l D z y bytes maxL ret fr lo 0 0 As h h' (some v))
    (hlink : Cond.methodLink own index y ∈ bg) (hstat : Cond.static y ∈ bg) (hini : Cond.initialized y.cls ∈ bg) (hcode : Cond.code y bytes maxL ret ∈ bg)
    (hd : y.cls ≠ "java/lang/invoke/MethodHandle" ∧ y.cls ≠ "java/lang/invoke/VarHandle" ∧ (parseMethodDescriptor y.desc).map (fun d => d.parameters.length) = some n) (hroom : fr + 1 ≤ R.frames ∧ 8 + (maxL + 11) + lo ≤ R.locals) (hcs : cells ≤ R.cells ∧ slots ≤ R.slots)
    (hn : As.length = n) (hsz : ls.size = nL) (hW : (rest.map fun v => v.category).sum ≤ 8) (hdg : decode cc pc = .ok (.invokestatic index, 3)) {st0 : List Value} (hst : st0 = As.reverse ++ rest)
    (kk : ∀ (H1 : Heap) (locs1 : List Loc), hR D z h' H1 → va_S (hA z) H0 H1 locs1 → W p l e R s m args below meth c H1 locs1 cells slots Q (F0 m (pc + 3) ls (v :: rest))) : W p l e R s m args below meth c H locs cells slots Q (F0 m pc ls st0) :=
  hv_invS hexec hb hml hown hts hk hr hz hS hM hlink hstat hini hcode hd hroom hcs hn hsz hst hW hdg kk
theorem hv_S0 (As rest : List Value) (hexec : p.tables.exec = Jvm.exec) (hb : c.code = cc) (hml : c.maxLocals = nL) (hown : s.vm.findClass own = some m.cls) (hts : ∀ w ∈ bg, w.before args s = true) (hk : hK D s) (hr : hR D z h H) (hz : z ≤ H0.size) (hS : va_S (hA z) H0 H locs)
    (hM : hC l D z y bytes maxL ret fr lo 0 0 As h h' none)
    (hlink : Cond.methodLink own index y ∈ bg) (hstat : Cond.static y ∈ bg) (hini : Cond.initialized y.cls ∈ bg) (hcode : Cond.code y bytes maxL ret ∈ bg)
    (hd : y.cls ≠ "java/lang/invoke/MethodHandle" ∧ y.cls ≠ "java/lang/invoke/VarHandle" ∧ (parseMethodDescriptor y.desc).map (fun d => d.parameters.length) = some n) (hroom : fr + 1 ≤ R.frames ∧ 8 + (maxL + 11) + lo ≤ R.locals) (hcs : cells ≤ R.cells ∧ slots ≤ R.slots)
    (hn : As.length = n) (hsz : ls.size = nL) (hW : (rest.map fun v => v.category).sum ≤ 8) (hdg : decode cc pc = .ok (.invokestatic index, 3)) {st0 : List Value} (hst : st0 = As.reverse ++ rest)
    (kk : ∀ (H1 : Heap) (locs1 : List Loc), hR D z h' H1 → va_S (hA z) H0 H1 locs1 → W p l e R s m args below meth c H1 locs1 cells slots Q (F0 m (pc + 3) ls rest)) : W p l e R s m args below meth c H locs cells slots Q (F0 m pc ls st0) :=
  hv_invS hexec hb hml hown hts hk hr hz hS hM hlink hstat hini hcode hd hroom hcs hn hsz hst hW hdg kk
theorem zk_n {v : Int32} (h : v = 0 ∨ v = 1) : narrow .boolean (.int v) = .int v := by rcases h with rfl | rfl <;> rfl
theorem zk_f {v : Int32} (h : v = 0 ∨ v = 1) : fits .boolean (.int v) = true := by rcases h with rfl | rfl <;> rfl
theorem ii_v (x : Int32) {a b : Int32} (h : a = b) : x + a = x + b := by rw [h]
end HCalls2
