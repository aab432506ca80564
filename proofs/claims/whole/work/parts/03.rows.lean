section HRows
variable {p : Program} {l : Launch} {e : Env} {R : Room} {s : State} {m : MethodId} {args : Array Value} {below : List Frame} {meth : Method} {c : Code} {H : Heap} {locs : List Loc} {cells slots : Nat} {Q : State → Prop}
variable {cc : ByteArray} {pc : Nat} {ls : Array Slot} {rest : List Value} {D : hG} {z : Nat} {h : AH} {a : Nat} {H0 : Heap}
theorem hv_gI (hexec : p.tables.exec = Jvm.exec) (hb : c.code = cc) {own C : String} {T : u_T} {N ci index : Nat} (hts : ∀ w ∈ bg, w.before args s = true) (hin : ∀ w ∈ u_ws C T N, w ∈ bg) (hown : s.vm.findClass own = some m.cls) (hk : hK D s) (hr : hR D z h H) (hc : vwCl[ci]? = some (C, T, N)) (k : Nat) (hkN : k < N) (hlink : (Cond.fieldLink own index (T k).1 (T k).2.1 (T k).2.2.1).before args s = true) {v : Int32} (hv : gI h a ci k = some v) (hdg : decode cc pc = .ok (.getfield index, 3))
    (kk : W p l e R s m args below meth c H locs cells slots Q (F0 m (pc + 3) ls (.int v :: rest))) : W p l e R s m args below meth c H locs cells slots Q (F0 m pc ls (.ref a :: rest)) := by
  obtain ⟨fs, h1, h2⟩ := gI_inv hv
  exact va_get hexec hb hts hin hown hk.1 (hr.one h1) 0 rfl hc k hkN hlink (fun _ h9 => h9) h2 hdg kk
theorem hv_gR (hexec : p.tables.exec = Jvm.exec) (hb : c.code = cc) {own C : String} {T : u_T} {N ci index : Nat} (hts : ∀ w ∈ bg, w.before args s = true) (hin : ∀ w ∈ u_ws C T N, w ∈ bg) (hown : s.vm.findClass own = some m.cls) (hk : hK D s) (hr : hR D z h H) (hc : vwCl[ci]? = some (C, T, N)) (k : Nat) (hkN : k < N) (hlink : (Cond.fieldLink own index (T k).1 (T k).2.1 (T k).2.2.1).before args s = true) {v : Nat} (hv : gR h a ci k = some v) (hdg : decode cc pc = .ok (.getfield index, 3))
    (kk : W p l e R s m args below meth c H locs cells slots Q (F0 m (pc + 3) ls (.ref v :: rest))) : W p l e R s m args below meth c H locs cells slots Q (F0 m pc ls (.ref a :: rest)) := by
  obtain ⟨fs, h1, h2⟩ := gR_inv hv
  exact va_get hexec hb hts hin hown hk.1 (hr.one h1) 0 rfl hc k hkN hlink (fun _ h9 => h9) h2 hdg kk
theorem hv_pV (hexec : p.tables.exec = Jvm.exec) (hb : c.code = cc) {own C : String} {T : u_T} {N ci index : Nat} (hts : ∀ w ∈ bg, w.before args s = true) (hin : ∀ w ∈ u_ws C T N, w ∈ bg) (ty0 : Nat → FieldType) (hty : ∀ k, k < N → parseFieldDescriptor (T k).2.2.1 = some (ty0 k)) (hnm : ∀ a, a < N → ∀ b, b < N → a ≠ b → (T a).2.1 ≠ (T b).2.1) (hown : s.vm.findClass own = some m.cls) (hk : hK D s) (hr : hR D z h H) (hS : va_S (hA z) H0 H locs) (hc : vwCl[ci]? = some (C, T, N)) (k : Nat) (hkN : k < N) (hlink : (Cond.fieldLink own index (T k).1 (T k).2.1 (T k).2.2.1).before args s = true) (hfin : (T k).2.2.2 = false) {v : Value} (hn : narrow (ty0 k) v = v) (hfit : fits (ty0 k) v = true) {h' : AH} (hv : pV h a ci k v = some h') (hdg : decode cc pc = .ok (.putfield index, 3))
    (kk : ∀ (H1 : Heap) (locs1 : List Loc), hR D z h' H1 → va_S (hA z) H0 H1 locs1 → W p l e R s m args below meth c H1 locs1 cells slots Q (F0 m (pc + 3) ls rest)) : W p l e R s m args below meth c H locs cells slots Q (F0 m pc ls (v :: .ref a :: rest)) := by
  obtain ⟨fs, h1, hl, rfl⟩ := pV_inv hv
  have hap := va_apart (own := own) hts hin ty0 hty hnm hk.1 hc
  obtain ⟨r, g1, cell, q1, q2, q3, q4⟩ := hr.one h1 0 _ rfl
  have hrr : r = (C, T, N) := Option.some.inj (g1.symm.trans hc)
  subst hrr
  obtain ⟨hSl, hfc, kC, hkC, hkind⟩ := hk.1.1 ci _ hc
  obtain ⟨cf, kf, fi, f, hi, hsl⟩ := hSl k hkN
  have hlay := hts _ (hin _ (u_in_lay hkN))
  unfold u_lay at hlay
  rw [if_neg (by rw [hfin]; decide)] at hlay
  have hst := (u_facts hfc hkC (u_lays hts hin hkN) hi).1
  have h6 := u_store hfc hkC hkind hlay hi (hty k hkN) hn hfit
  refine W.putK hexec hb (f := f) ⟨hown, hlink, ⟨_, _, _, hi⟩, hst⟩ (by rw [q2]; exact h6) q1 q3 (by rw [hsl]; exact k2_hasslot (q4 k hkN)) rfl rfl hdg fun H' e1 e2 e3 => ?_
  rw [hsl] at e1 ⊢
  exact kk H' _ (hr.set h1 ⟨_, hc, t_OB.to (V := updV (vp_V fs) k v) ⟨_, e1, q2, q3, t_set q4 hap hkN v⟩ (fun j _ => vp_updV_set hl v j)⟩ e2 e3) (hS.put e2 e3 (hr.2 a _ h1).1)
theorem hv_pF (hexec : p.tables.exec = Jvm.exec) (hb : c.code = cc) {own C : String} {T : u_T} {N ci index : Nat} (hts : ∀ w ∈ bg, w.before args s = true) (hin : ∀ w ∈ u_ws C T N, w ∈ bg) (ty0 : Nat → FieldType) (hty : ∀ k, k < N → parseFieldDescriptor (T k).2.2.1 = some (ty0 k)) (hnm : ∀ a, a < N → ∀ b, b < N → a ≠ b → (T a).2.1 ≠ (T b).2.1) (hown : s.vm.findClass own = some m.cls) (hk : hK D s) (hr : hR D z h H) (hS : va_S (hA z) H0 H locs) (hc : vwCl[ci]? = some (C, T, N)) (k : Nat) (hkN : k < N) (hlink : (Cond.fieldLink own index (T k).1 (T k).2.1 (T k).2.2.1).before args s = true) (hfin : (T k).2.2.2 = true) (hin2 : meth.name = "<init>") (hdecl : (T k).1 = own) {v : Value} (hn : narrow (ty0 k) v = v) (hfit : fits (ty0 k) v = true) {h' : AH} (hv : pV h a ci k v = some h') (hdg : decode cc pc = .ok (.putfield index, 3))
    (kk : ∀ (H1 : Heap) (locs1 : List Loc), hR D z h' H1 → va_S (hA z) H0 H1 locs1 → W p l e R s m args below meth c H1 locs1 cells slots Q (F0 m (pc + 3) ls rest)) : W p l e R s m args below meth c H locs cells slots Q (F0 m pc ls (v :: .ref a :: rest)) := by
  obtain ⟨fs, h1, hl, rfl⟩ := pV_inv hv
  have hap := va_apart (own := own) hts hin ty0 hty hnm hk.1 hc
  obtain ⟨r, g1, cell, q1, q2, q3, q4⟩ := hr.one h1 0 _ rfl
  have hrr : r = (C, T, N) := Option.some.inj (g1.symm.trans hc)
  subst hrr
  obtain ⟨hSl, hfc, kC, hkC, hkind⟩ := hk.1.1 ci _ hc
  obtain ⟨cf, kf, fi, f, hi, hsl⟩ := hSl k hkN
  have hlay := hts _ (hin _ (u_in_lay hkN))
  unfold u_lay at hlay
  rw [if_pos hfin] at hlay
  have hst := (u_facts hfc hkC (u_lays hts hin hkN) hi).1
  have hcf : m.cls = cf := by
    obtain ⟨_, _, c', _, _, _, -, -, hf', -, -, -, hown2, -⟩ := Cond.laysFinal_spec hlay
    have e1 : c' = cf := by have := hi.symm.trans hf'; simp at this; exact this.1.symm
    rw [hdecl] at hown2
    rw [← e1]; exact Option.some.inj (hown.symm.trans hown2)
  have h6 := u_fits hfc hkC hkind (Or.inr hlay) hi (hty k hkN) hn hfit
  refine W.putFinK hexec hb hown hlink hi hst hcf hin2 (by rw [q2]; exact h6) q1 q3 (by rw [hsl]; exact k2_hasslot (q4 k hkN)) rfl rfl hdg fun H' e1 e2 e3 => ?_
  rw [hsl] at e1 ⊢
  exact kk H' _ (hr.set h1 ⟨_, hc, t_OB.to (V := updV (vp_V fs) k v) ⟨_, e1, q2, q3, t_set q4 hap hkN v⟩ (fun j _ => vp_updV_set hl v j)⟩ e2 e3) (hS.put e2 e3 (hr.2 a _ h1).1)
theorem hv_aI (hexec : p.tables.exec = Jvm.exec) (hb : c.code = cc) (hk : hK D s) (hr : hR D z h H) {i v : Int32} (hv : aI h a 0 i = some v) (hdg : decode cc pc = .ok (.iaload, 1))
    (kk : W p l e R s m args below meth c H locs cells slots Q (F0 m (pc + 1) ls (.int v :: rest))) : W p l e R s m args below meth c H locs cells slots Q (F0 m pc ls (.int i :: .ref a :: rest)) := by
  obtain ⟨n, f, h1, h2, rfl⟩ := aI_inv hv
  exact va_iald hexec hb hk.1 (hr.one h1) 0 0 rfl rfl h2 hdg kk
theorem hv_aB (hexec : p.tables.exec = Jvm.exec) (hb : c.code = cc) (hk : hK D s) (hr : hR D z h H) {i v : Int32} (hv : aI h a 2 i = some v) (hdg : decode cc pc = .ok (.baload, 1))
    (kk : W p l e R s m args below meth c H locs cells slots Q (F0 m (pc + 1) ls (.int v :: rest))) : W p l e R s m args below meth c H locs cells slots Q (F0 m pc ls (.int i :: .ref a :: rest)) := by
  obtain ⟨n, f, h1, h2, rfl⟩ := aI_inv hv
  exact va_bald hexec hb hk.1 (hr.one h1) 0 2 rfl rfl h2 hdg kk
theorem hv_aJ (hexec : p.tables.exec = Jvm.exec) (hb : c.code = cc) (hk : hK D s) (hr : hR D z h H) {i : Int32} {v : Int64} (hv : aJ h a 1 i = some v) (hdg : decode cc pc = .ok (.laload, 1))
    (kk : W p l e R s m args below meth c H locs cells slots Q (F0 m (pc + 1) ls (.long v :: rest))) : W p l e R s m args below meth c H locs cells slots Q (F0 m pc ls (.int i :: .ref a :: rest)) := by
  obtain ⟨n, f, h1, h2, rfl⟩ := aJ_inv hv
  exact va_lald hexec hb hk.1 (hr.one h1) 0 1 rfl rfl h2 hdg kk
theorem hv_aR (hexec : p.tables.exec = Jvm.exec) (hb : c.code = cc) (hk : hK D s) (hr : hR D z h H) {i : Int32} {v kd : Nat} {C : String} (hkd : (htys D)[kd]? = some (D.2 kd, .object C)) (hv : aR h a kd i = some v) (hdg : decode cc pc = .ok (.aaload, 1))
    (kk : W p l e R s m args below meth c H locs cells slots Q (F0 m (pc + 1) ls (.ref v :: rest))) : W p l e R s m args below meth c H locs cells slots Q (F0 m pc ls (.int i :: .ref a :: rest)) := by
  obtain ⟨n, f, h1, h2, h3⟩ := aR_inv hv
  refine va_aldq (C := C) hexec hb hk.1 (hr.one h1) 0 kd rfl hkd h2 hdg ?_
  rw [h3]
  exact kk
theorem hv_sI (hexec : p.tables.exec = Jvm.exec) (hb : c.code = cc) (hk : hK D s) (hr : hR D z h H) (hS : va_S (hA z) H0 H locs) {i x : Int32} {h' : AH} (hv : sI h a 0 i x = some h') (hdg : decode cc pc = .ok (.iastore, 1))
    (kk : ∀ (H1 : Heap) (locs1 : List Loc), hR D z h' H1 → va_S (hA z) H0 H1 locs1 → W p l e R s m args below meth c H1 locs1 cells slots Q (F0 m (pc + 1) ls rest)) : W p l e R s m args below meth c H locs cells slots Q (F0 m pc ls (.int x :: .int i :: .ref a :: rest)) := by
  obtain ⟨n, f, h1, hin, rfl⟩ := sI_inv hv
  refine W.iast hexec hb (hr.one h1 0 _ rfl) ((hk.1.2 0 _ rfl).1 n (fun j => .int (f j))) (fun q => by cases q) (by show ¬ (i < 0 ∨ (arrV _ _ _).slots.size ≤ _); rw [arrV_size]; exact hin) rfl rfl hdg fun H1 e9 z9 oq => ?_
  refine kk H1 _ (hr.set h1 ?_ z9 oq) (hS.put z9 oq (hr.2 a _ h1).1)
  show H1[a]? = some (vp_cell _ _)
  rw [e9]
  show some ((vp_cell _ (n, .inl f)).setSlot _ _) = some (vp_cell _ (n, .inl (upd f i.toNatClampNeg x)))
  rw [vp_cell_i, vp_cell_i, arrV_store]
  congr 2
  funext q
  by_cases hq : q = i.toNatClampNeg
  · subst hq
    simp [updV, upd]
  · simp [updV, upd, hq]
theorem hv_sB (hexec : p.tables.exec = Jvm.exec) (hb : c.code = cc) (hk : hK D s) (hr : hR D z h H) (hS : va_S (hA z) H0 H locs) {i x : Int32} {h' : AH} (hv : sI h a 2 i x.toInt8.toInt32 = some h') (hdg : decode cc pc = .ok (.bastore, 1))
    (kk : ∀ (H1 : Heap) (locs1 : List Loc), hR D z h' H1 → va_S (hA z) H0 H1 locs1 → W p l e R s m args below meth c H1 locs1 cells slots Q (F0 m (pc + 1) ls rest)) : W p l e R s m args below meth c H locs cells slots Q (F0 m pc ls (.int x :: .int i :: .ref a :: rest)) := by
  obtain ⟨n, f, h1, hin, rfl⟩ := sI_inv hv
  refine W.bast hexec hb (hr.one h1 0 _ rfl) ((hk.1.2 2 _ rfl).1 n (fun j => .int (f j))) (fun q => by cases q) (by show ¬ (i < 0 ∨ (arrV _ _ _).slots.size ≤ _); rw [arrV_size]; exact hin) rfl rfl hdg fun H1 e9 z9 oq => ?_
  refine kk H1 _ (hr.set h1 ?_ z9 oq) (hS.put z9 oq (hr.2 a _ h1).1)
  show H1[a]? = some (vp_cell _ _)
  rw [e9]
  show some ((vp_cell _ (n, .inl f)).setSlot _ _) = some (vp_cell _ (n, .inl (upd f i.toNatClampNeg x.toInt8.toInt32)))
  rw [vp_cell_i, vp_cell_i, arrV_store]
  congr 2
  funext q
  by_cases hq : q = i.toNatClampNeg
  · subst hq
    simp [updV, upd, narrow]
  · simp [updV, upd, hq]
theorem hv_sJ (hexec : p.tables.exec = Jvm.exec) (hb : c.code = cc) (hk : hK D s) (hr : hR D z h H) (hS : va_S (hA z) H0 H locs) {i : Int32} {x : Int64} {h' : AH} (hv : sJ h a 1 i x = some h') (hdg : decode cc pc = .ok (.lastore, 1))
    (kk : ∀ (H1 : Heap) (locs1 : List Loc), hR D z h' H1 → va_S (hA z) H0 H1 locs1 → W p l e R s m args below meth c H1 locs1 cells slots Q (F0 m (pc + 1) ls rest)) : W p l e R s m args below meth c H locs cells slots Q (F0 m pc ls (.long x :: .int i :: .ref a :: rest)) := by
  obtain ⟨n, f, h1, hin, rfl⟩ := sJ_inv hv
  refine W.last hexec hb (hr.one h1 0 _ rfl) ((hk.1.2 1 _ rfl).1 n (fun j => .long (f j))) (fun q => by cases q) (by show ¬ (i < 0 ∨ (arrV _ _ _).slots.size ≤ _); rw [arrV_size]; exact hin) rfl rfl hdg fun H1 e9 z9 oq => ?_
  refine kk H1 _ (hr.set h1 ?_ z9 oq) (hS.put z9 oq (hr.2 a _ h1).1)
  show H1[a]? = some (vp_cell _ _)
  rw [e9]
  show some ((vp_cell _ (n, .inr (.inl f))).setSlot _ _) = some (vp_cell _ (n, .inr (.inl (vp_updL f i.toNatClampNeg x))))
  rw [vp_cell_l, vp_cell_l, arrV_store]
  congr 2
  funext q
  by_cases hq : q = i.toNatClampNeg
  · subst hq
    simp [updV, vp_updL]
  · simp [updV, vp_updL, hq]
/-- the end -/
theorem hv_iret {v : Int32} (hexec : p.tables.exec = Jvm.exec) (hb : c.code = cc) (hrt : meth.sig.returnType = some .int) (hlocks : meth.locks = false) (hr : hR D z h H) (hS : va_S (hA z) s.heap H locs) (hdg : decode cc pc = .ok (.ireturn, 1)) : W p l e R s m args below meth c H locs cells slots (MQ below (hQ D z h (some (.int v))) args s cells slots (hA z)) (F0 m pc ls [.int v]) :=
  W.iret hexec hb hrt (fun t ht _ => ⟨rfl, by rw [ht]; exact hr, hS.F ht⟩) hS.2.2 hdg hlocks
theorem hv_zret {v : Int32} (hexec : p.tables.exec = Jvm.exec) (hb : c.code = cc) (hrt : meth.sig.returnType = some .boolean) (hlocks : meth.locks = false) (hr : hR D z h H) (hS : va_S (hA z) s.heap H locs) (hz : v = 0 ∨ v = 1) (hdg : decode cc pc = .ok (.ireturn, 1)) : W p l e R s m args below meth c H locs cells slots (MQ below (hQ D z h (some (.int v))) args s cells slots (hA z)) (F0 m pc ls [.int v]) :=
  W.zret hexec hb hrt (by rcases hz with rfl | rfl <;> rfl) (fun t ht _ => ⟨rfl, by rw [ht]; exact hr, hS.F ht⟩) hS.2.2 hdg hlocks
theorem hv_lret {v : Int64} (hexec : p.tables.exec = Jvm.exec) (hb : c.code = cc) (hrt : meth.sig.returnType = some .long) (hlocks : meth.locks = false) (hr : hR D z h H) (hS : va_S (hA z) s.heap H locs) (hdg : decode cc pc = .ok (.lreturn, 1)) : W p l e R s m args below meth c H locs cells slots (MQ below (hQ D z h (some (.long v))) args s cells slots (hA z)) (F0 m pc ls [.long v]) :=
  W.lret hexec hb hrt (fun t ht _ => ⟨rfl, by rw [ht]; exact hr, hS.F ht⟩) hS.2.2 hdg hlocks
theorem hv_vret (hexec : p.tables.exec = Jvm.exec) (hb : c.code = cc) (hrt : meth.sig.returnType = none) (hlocks : meth.locks = false) (hr : hR D z h H) (hS : va_S (hA z) s.heap H locs) (hdg : decode cc pc = .ok (.return_, 1)) : W p l e R s m args below meth c H locs cells slots (MQ below (hQ D z h none) args s cells slots (hA z)) (F0 m pc ls []) :=
  W.vret hexec hb hrt (fun t ht _ => ⟨rfl, by rw [ht]; exact hr, hS.F ht⟩) hS.2.2 hdg hlocks
theorem hv_aret {v : Nat} {rt : FieldType} (hexec : p.tables.exec = Jvm.exec) (hb : c.code = cc) (hrt : meth.sig.returnType = some rt) (hrt2 : (∃ n, rt = .object n) ∨ ∃ t, rt = .array t) (hlocks : meth.locks = false) (hr : hR D z h H) (hS : va_S (hA z) s.heap H locs) (hdg : decode cc pc = .ok (.areturn, 1)) : W p l e R s m args below meth c H locs cells slots (MQ below (hQ D z h (some (.ref v))) args s cells slots (hA z)) (F0 m pc ls [.ref v]) :=
  W.aret hexec hb hrt hrt2 (Or.inr ⟨v, rfl⟩) (fun t ht _ => ⟨rfl, by rw [ht]; exact hr, hS.F ht⟩) hS.2.2 hdg hlocks
/-- a long comparison and its branch -/
theorem lg_le (x y : Int64) : lg_cmp x y ≤ 0 ↔ x ≤ y := by
  unfold lg_cmp
  split
  · rename_i hgt
    exact ⟨fun q => absurd q (by decide), fun q => absurd hgt (Int64.not_lt.mpr q)⟩
  · rename_i hgt
    split
    · rename_i heq
      subst heq
      exact ⟨fun _ => Int64.le_refl _, fun _ => by decide⟩
    · exact ⟨fun _ => Int64.not_lt.mp hgt, fun _ => by decide⟩
theorem lg_eq (x y : Int64) : lg_cmp x y = 0 ↔ x = y := by
  unfold lg_cmp
  split
  · rename_i hgt
    refine ⟨fun q => absurd q (by decide), fun q => ?_⟩
    subst q
    exact absurd hgt (Int64.lt_irrefl)
  · split
    · rename_i heq
      exact ⟨fun _ => heq, fun _ => rfl⟩
    · rename_i hne
      exact ⟨fun q => absurd q (by decide), fun q => absurd q hne⟩
theorem lg_ge (x y : Int64) : 0 ≤ lg_cmp x y ↔ y ≤ x := by
  unfold lg_cmp
  split
  · rename_i hgt
    exact ⟨fun _ => Int64.le_of_lt hgt, fun _ => by decide⟩
  · rename_i hgt
    split
    · rename_i heq
      subst heq
      exact ⟨fun _ => Int64.le_refl _, fun _ => by decide⟩
    · rename_i hne
      exact ⟨fun q => absurd q (by decide), fun q => absurd (Int64.le_antisymm (Int64.not_lt.mp hgt) q) hne⟩
theorem lg_lt (x y : Int64) : lg_cmp x y < 0 ↔ x < y := by
  rw [← Int32.not_le, lg_ge, Int64.not_le]
theorem lg_gt (x y : Int64) : 0 < lg_cmp x y ↔ y < x := by
  rw [← Int32.not_le, lg_le, Int64.not_le]
end HRows
