theorem dX8_takeSign_0 : decode cX8_takeSign 0 = .ok (.aload_n 0, 1) := by decide +kernel
theorem dX8_takeSign_1 : decode cX8_takeSign 1 = .ok (.iload_n 1, 1) := by decide +kernel
theorem dX8_takeSign_2 : decode cX8_takeSign 2 = .ok (.ifCond .eq 14, 3) := by decide +kernel
theorem dX8_takeSign_5 : decode cX8_takeSign 5 = .ok (.aload_n 0, 1) := by decide +kernel
theorem dX8_takeSign_6 : decode cX8_takeSign 6 = .ok (.getfield 15, 3) := by decide +kernel
theorem dX8_takeSign_9 : decode cX8_takeSign 9 = .ok (.ifCond .le 7, 3) := by decide +kernel
theorem dX8_takeSign_12 : decode cX8_takeSign 12 = .ok (.iconst 1, 1) := by decide +kernel
theorem dX8_takeSign_13 : decode cX8_takeSign 13 = .ok (.goto 4, 3) := by decide +kernel
theorem dX8_takeSign_16 : decode cX8_takeSign 16 = .ok (.iconst 0, 1) := by decide +kernel
theorem dX8_takeSign_17 : decode cX8_takeSign 17 = .ok (.putfield 19, 3) := by decide +kernel
theorem dX8_takeSign_20 : decode cX8_takeSign 20 = .ok (.return_, 1) := by decide +kernel
def zj_X8_takeSign_17 (g2 : AH) (t0_17 : Int32) (t1_17 : Nat) : Option AH :=
  (zk t0_17).bind fun _ => (pV g2 t1_17 8 2 (.int t0_17)).bind fun g4 => some g4
def zs_X8_takeSign (h : AH) (u0 : Nat) (u1 : Int32) : Option AH :=
  (if u1 = 0 then zj_X8_takeSign_17 h ((0 : Int32)) u0 else (gI h u0 8 1).bind fun x5 => (if x5 ≤ 0 then zj_X8_takeSign_17 h ((0 : Int32)) u0 else zj_X8_takeSign_17 h ((1 : Int32)) u0))
set_option maxRecDepth 100000 in
set_option maxHeartbeats 4000000 in
theorem zm_X8_takeSign (l : Launch) (D : hG) (z : Nat) {h : AH} {u0 : Nat} {u1 : Int32} {h' : AH} (hs : zs_X8_takeSign h u0 u1 = some h') : hC l D z yX8_takeSign cX8_takeSign 2 (Option.none : Option Jvm.ClassFile.FieldType) 0 0 0 0 [.ref u0, .int u1] h h' none := by
  refine hC_of (by decide) (Nat.le_of_ble_eq_true rfl) ?_
  intro p e s m below meth c hx hb hml hrt hlk hown hnm hts hk hr hz ls hl
  replace hown : s.vm.findClass RX8 = some m.cls := hown
  replace hl : lv_has ls 2 [(0, .ref u0), (1, .int u1)] := hl
  have hS : va_S (hA z) s.heap s.heap [] := va_S.rf
  suffices hgo : ∀ (H : Heap) (locs : List Loc), hR D z h H → va_S (hA z) s.heap H locs → W p l e ({ frames := 0, cells := 0, slots := 0, locals := 0 } : Room) s m ([.ref u0, .int u1] : List Value).toArray below meth c H locs 0 0 (MQ below (hQ D z h' none) ([.ref u0, .int u1] : List Value).toArray s 0 0 (hA z)) (F0 m 0 ls []) from hgo _ _ hr hS
  clear hr hS
  intro H locs hr hS
  have hJ17 : ∀ (g2 : AH) (t0_17 : Int32) (t1_17 : Nat) (H : Heap) (locs : List Loc) (ls : Array Slot), zj_X8_takeSign_17 g2 t0_17 t1_17 = some h' → hR D z g2 H → va_S (hA z) s.heap H locs → lv_has ls 2 [] → W p l e ({ frames := 0, cells := 0, slots := 0, locals := 0 } : Room) s m ([.ref u0, .int u1] : List Value).toArray below meth c H locs 0 0 (MQ below (hQ D z h' none) ([.ref u0, .int u1] : List Value).toArray s 0 0 (hA z)) (F0 m 17 ls [.int t0_17, .ref t1_17]) := by
    intro g2 t0_17 t1_17 H locs ls hs hr hS hl
    unfold zj_X8_takeSign_17 at hs
    obtain ⟨_, ex3, hs⟩ := bi_inv hs
    obtain ⟨g4, eg4, hs⟩ := bi_inv hs
    refine hv_pV (C := RX8) (T := TX8) (N := 3) (ci := 8) hx hb hts inX8 tyX8 tyX8_ok nmX8 hown hk hr hS rfl 2 (by decide) (hts _ tw_42) rfl (zk_n (zk_inv ex3)) (zk_f (zk_inv ex3)) eg4 dX8_takeSign_17 (fun H locs hr hS => ?_)
    cases hs
    exact hv_vret hx hb hrt hlk hr hS dX8_takeSign_20
  unfold zs_X8_takeSign at hs
  refine lv_aload_n hx hb dX8_takeSign_0 rfl (lv_at hl 0 rfl) ?_
  refine lv_iload_n hx hb dX8_takeSign_1 rfl (lv_at hl 1 rfl) ?_
  refine lv_if_eq (tgt := 16) hx hb dX8_takeSign_2 (by decide) (fun c1 => ?_) (fun c1 => ?_)
  · rw [if_pos c1] at hs
    refine lv_iconst (v := 0) hx hb dX8_takeSign_16 (by decide) ?_
    exact hJ17 h ((0 : Int32)) u0 H locs ls hs hr hS (lv_sub hl [] rfl)
  · rw [if_neg c1] at hs
    refine lv_aload_n hx hb dX8_takeSign_5 rfl (lv_at hl 0 rfl) ?_
    obtain ⟨x5, ex5, hs⟩ := bi_inv hs
    refine hv_gI (C := RX8) (T := TX8) (N := 3) (ci := 8) hx hb hts inX8 hown hk hr rfl 1 (by decide) (hts _ tw_39) ex5 dX8_takeSign_6 ?_
    refine lv_if_le (tgt := 16) hx hb dX8_takeSign_9 (by decide) (fun c6 => ?_) (fun c6 => ?_)
    · rw [if_pos c6] at hs
      refine lv_iconst (v := 0) hx hb dX8_takeSign_16 (by decide) ?_
      exact hJ17 h ((0 : Int32)) u0 H locs ls hs hr hS (lv_sub hl [] rfl)
    · rw [if_neg c6] at hs
      refine lv_iconst (v := 1) hx hb dX8_takeSign_12 (by decide) ?_
      refine lv_goto (tgt := 17) hx hb dX8_takeSign_13 (by decide) ?_
      exact hJ17 h ((1 : Int32)) u0 H locs ls hs hr hS (lv_sub hl [] rfl)
theorem dX8_isZero_0 : decode cX8_isZero 0 = .ok (.aload_n 0, 1) := by decide +kernel
theorem dX8_isZero_1 : decode cX8_isZero 1 = .ok (.getfield 15, 3) := by decide +kernel
theorem dX8_isZero_4 : decode cX8_isZero 4 = .ok (.ifCond .ne 7, 3) := by decide +kernel
theorem dX8_isZero_7 : decode cX8_isZero 7 = .ok (.iconst 1, 1) := by decide +kernel
theorem dX8_isZero_8 : decode cX8_isZero 8 = .ok (.goto 4, 3) := by decide +kernel
theorem dX8_isZero_11 : decode cX8_isZero 11 = .ok (.iconst 0, 1) := by decide +kernel
theorem dX8_isZero_12 : decode cX8_isZero 12 = .ok (.ireturn, 1) := by decide +kernel
def zs_X8_isZero (h : AH) (u0 : Nat) : Option Int32 :=
  (gI h u0 8 1).bind fun x1 => (if x1 = 0 then some ((1 : Int32)) else some ((0 : Int32)))
set_option maxRecDepth 100000 in
set_option maxHeartbeats 4000000 in
theorem zm_X8_isZero (l : Launch) (D : hG) (z : Nat) {h : AH} {u0 : Nat} {r : Int32} (hs : zs_X8_isZero h u0 = some r) : hC l D z yX8_isZero cX8_isZero 1 (Option.some Jvm.ClassFile.FieldType.boolean) 0 0 0 0 [.ref u0] h h (some (.int r)) := by
  refine hC_of (by decide) (Nat.le_of_ble_eq_true rfl) ?_
  intro p e s m below meth c hx hb hml hrt hlk hown hnm hts hk hr hz ls hl
  replace hown : s.vm.findClass RX8 = some m.cls := hown
  replace hl : lv_has ls 1 [(0, .ref u0)] := hl
  have hS : va_S (hA z) s.heap s.heap [] := va_S.rf
  suffices hgo : ∀ (H : Heap) (locs : List Loc), hR D z h H → va_S (hA z) s.heap H locs → W p l e ({ frames := 0, cells := 0, slots := 0, locals := 0 } : Room) s m ([.ref u0] : List Value).toArray below meth c H locs 0 0 (MQ below (hQ D z h (some (.int r))) ([.ref u0] : List Value).toArray s 0 0 (hA z)) (F0 m 0 ls []) from hgo _ _ hr hS
  clear hr hS
  intro H locs hr hS
  unfold zs_X8_isZero at hs
  refine lv_aload_n hx hb dX8_isZero_0 rfl (lv_at hl 0 rfl) ?_
  obtain ⟨x1, ex1, hs⟩ := bi_inv hs
  refine hv_gI (C := RX8) (T := TX8) (N := 3) (ci := 8) hx hb hts inX8 hown hk hr rfl 1 (by decide) (hts _ tw_39) ex1 dX8_isZero_1 ?_
  refine lv_if_ne (tgt := 11) hx hb dX8_isZero_4 (by decide) (fun c2 => ?_) (fun c2 => ?_)
  · rw [if_neg c2] at hs
    refine lv_iconst (v := 0) hx hb dX8_isZero_11 (by decide) ?_
    cases hs
    exact hv_zret hx hb hrt hlk hr hS (by decide) dX8_isZero_12
  · rw [if_pos c2] at hs
    refine lv_iconst (v := 1) hx hb dX8_isZero_7 (by decide) ?_
    refine lv_goto (tgt := 12) hx hb dX8_isZero_8 (by decide) ?_
    cases hs
    exact hv_zret hx hb hrt hlk hr hS (by decide) dX8_isZero_12
theorem dX8_partAt_0 : decode cX8_partAt 0 = .ok (.iload_n 1, 1) := by decide +kernel
theorem dX8_partAt_1 : decode cX8_partAt 1 = .ok (.ifCond .lt 20, 3) := by decide +kernel
theorem dX8_partAt_4 : decode cX8_partAt 4 = .ok (.iload_n 1, 1) := by decide +kernel
theorem dX8_partAt_5 : decode cX8_partAt 5 = .ok (.aload_n 0, 1) := by decide +kernel
theorem dX8_partAt_6 : decode cX8_partAt 6 = .ok (.getfield 15, 3) := by decide +kernel
theorem dX8_partAt_9 : decode cX8_partAt 9 = .ok (.if_icmp .ge 12, 3) := by decide +kernel
theorem dX8_partAt_12 : decode cX8_partAt 12 = .ok (.aload_n 0, 1) := by decide +kernel
theorem dX8_partAt_13 : decode cX8_partAt 13 = .ok (.getfield 9, 3) := by decide +kernel
theorem dX8_partAt_16 : decode cX8_partAt 16 = .ok (.iload_n 1, 1) := by decide +kernel
theorem dX8_partAt_17 : decode cX8_partAt 17 = .ok (.laload, 1) := by decide +kernel
theorem dX8_partAt_18 : decode cX8_partAt 18 = .ok (.goto 4, 3) := by decide +kernel
theorem dX8_partAt_21 : decode cX8_partAt 21 = .ok (.lconst 0, 1) := by decide +kernel
theorem dX8_partAt_22 : decode cX8_partAt 22 = .ok (.lreturn, 1) := by decide +kernel
def zs_X8_partAt (h : AH) (u0 : Nat) (u1 : Int32) : Option Int64 :=
  (if u1 < 0 then some ((0 : Int64)) else (gI h u0 8 1).bind fun x2 => (if x2 ≤ u1 then some ((0 : Int64)) else (gR h u0 8 0).bind fun x4 => (aJ h x4 1 u1).bind fun x5 => some x5))
set_option maxRecDepth 100000 in
set_option maxHeartbeats 4000000 in
theorem zm_X8_partAt (l : Launch) (D : hG) (z : Nat) {h : AH} {u0 : Nat} {u1 : Int32} {r : Int64} (hs : zs_X8_partAt h u0 u1 = some r) : hC l D z yX8_partAt cX8_partAt 2 (Option.some Jvm.ClassFile.FieldType.long) 0 0 0 0 [.ref u0, .int u1] h h (some (.long r)) := by
  refine hC_of (by decide) (Nat.le_of_ble_eq_true rfl) ?_
  intro p e s m below meth c hx hb hml hrt hlk hown hnm hts hk hr hz ls hl
  replace hown : s.vm.findClass RX8 = some m.cls := hown
  replace hl : lv_has ls 2 [(0, .ref u0), (1, .int u1)] := hl
  have hS : va_S (hA z) s.heap s.heap [] := va_S.rf
  suffices hgo : ∀ (H : Heap) (locs : List Loc), hR D z h H → va_S (hA z) s.heap H locs → W p l e ({ frames := 0, cells := 0, slots := 0, locals := 0 } : Room) s m ([.ref u0, .int u1] : List Value).toArray below meth c H locs 0 0 (MQ below (hQ D z h (some (.long r))) ([.ref u0, .int u1] : List Value).toArray s 0 0 (hA z)) (F0 m 0 ls []) from hgo _ _ hr hS
  clear hr hS
  intro H locs hr hS
  unfold zs_X8_partAt at hs
  refine lv_iload_n hx hb dX8_partAt_0 rfl (lv_at hl 1 rfl) ?_
  refine lv_if_lt (tgt := 21) hx hb dX8_partAt_1 (by decide) (fun c1 => ?_) (fun c1 => ?_)
  · rw [if_pos c1] at hs
    refine lv_lconst (v := 0) hx hb dX8_partAt_21 (by decide) ?_
    cases hs
    exact hv_lret hx hb hrt hlk hr hS dX8_partAt_22
  · rw [if_neg c1] at hs
    refine lv_iload_n hx hb dX8_partAt_4 rfl (lv_at hl 1 rfl) ?_
    refine lv_aload_n hx hb dX8_partAt_5 rfl (lv_at hl 0 rfl) ?_
    obtain ⟨x2, ex2, hs⟩ := bi_inv hs
    refine hv_gI (C := RX8) (T := TX8) (N := 3) (ci := 8) hx hb hts inX8 hown hk hr rfl 1 (by decide) (hts _ tw_39) ex2 dX8_partAt_6 ?_
    refine lv_icmp_ge (tgt := 21) hx hb dX8_partAt_9 (by decide) (fun c3 => ?_) (fun c3 => ?_)
    · rw [if_pos c3] at hs
      refine lv_lconst (v := 0) hx hb dX8_partAt_21 (by decide) ?_
      cases hs
      exact hv_lret hx hb hrt hlk hr hS dX8_partAt_22
    · rw [if_neg c3] at hs
      refine lv_aload_n hx hb dX8_partAt_12 rfl (lv_at hl 0 rfl) ?_
      obtain ⟨x4, ex4, hs⟩ := bi_inv hs
      refine hv_gR (C := RX8) (T := TX8) (N := 3) (ci := 8) hx hb hts inX8 hown hk hr rfl 0 (by decide) (hts _ tw_36) ex4 dX8_partAt_13 ?_
      refine lv_iload_n hx hb dX8_partAt_16 rfl (lv_at hl 1 rfl) ?_
      obtain ⟨x5, ex5, hs⟩ := bi_inv hs
      refine hv_aJ hx hb hk hr ex5 dX8_partAt_17 ?_
      refine lv_goto (tgt := 22) hx hb dX8_partAt_18 (by decide) ?_
      cases hs
      exact hv_lret hx hb hrt hlk hr hS dX8_partAt_22
theorem dX8_trim_0 : decode cX8_trim 0 = .ok (.aload_n 0, 1) := by decide +kernel
theorem dX8_trim_1 : decode cX8_trim 1 = .ok (.iload_n 1, 1) := by decide +kernel
theorem dX8_trim_2 : decode cX8_trim 2 = .ok (.putfield 15, 3) := by decide +kernel
theorem dX8_trim_5 : decode cX8_trim 5 = .ok (.aload_n 0, 1) := by decide +kernel
theorem dX8_trim_6 : decode cX8_trim 6 = .ok (.getfield 15, 3) := by decide +kernel
theorem dX8_trim_9 : decode cX8_trim 9 = .ok (.ifCond .le 32, 3) := by decide +kernel
theorem dX8_trim_12 : decode cX8_trim 12 = .ok (.aload_n 0, 1) := by decide +kernel
theorem dX8_trim_13 : decode cX8_trim 13 = .ok (.getfield 9, 3) := by decide +kernel
theorem dX8_trim_16 : decode cX8_trim 16 = .ok (.aload_n 0, 1) := by decide +kernel
theorem dX8_trim_17 : decode cX8_trim 17 = .ok (.getfield 15, 3) := by decide +kernel
theorem dX8_trim_20 : decode cX8_trim 20 = .ok (.iconst 1, 1) := by decide +kernel
theorem dX8_trim_21 : decode cX8_trim 21 = .ok (.isub, 1) := by decide +kernel
theorem dX8_trim_22 : decode cX8_trim 22 = .ok (.laload, 1) := by decide +kernel
theorem dX8_trim_23 : decode cX8_trim 23 = .ok (.lconst 0, 1) := by decide +kernel
theorem dX8_trim_24 : decode cX8_trim 24 = .ok (.lcmp, 1) := by decide +kernel
theorem dX8_trim_25 : decode cX8_trim 25 = .ok (.ifCond .ne 16, 3) := by decide +kernel
theorem dX8_trim_28 : decode cX8_trim 28 = .ok (.aload_n 0, 1) := by decide +kernel
theorem dX8_trim_29 : decode cX8_trim 29 = .ok (.dup, 1) := by decide +kernel
theorem dX8_trim_30 : decode cX8_trim 30 = .ok (.getfield 15, 3) := by decide +kernel
theorem dX8_trim_33 : decode cX8_trim 33 = .ok (.iconst 1, 1) := by decide +kernel
theorem dX8_trim_34 : decode cX8_trim 34 = .ok (.isub, 1) := by decide +kernel
theorem dX8_trim_35 : decode cX8_trim 35 = .ok (.putfield 15, 3) := by decide +kernel
theorem dX8_trim_38 : decode cX8_trim 38 = .ok (.goto (-33), 3) := by decide +kernel
theorem dX8_trim_41 : decode cX8_trim 41 = .ok (.return_, 1) := by decide +kernel
def zb_X8_trim_5 (w0 : Nat) (g2 : AH) : Option ((AH) ⊕ (AH)) :=
  (gI g2 w0 8 1).bind fun x3 => (if x3 ≤ 0 then some (.inr g2) else (gR g2 w0 8 0).bind fun x5 => (gI g2 w0 8 1).bind fun x6 => (aJ g2 x5 1 (x6 - ((1 : Int32)))).bind fun x7 => (if x7 = (0 : Int64) then (gI g2 w0 8 1).bind fun x9 => (pV g2 w0 8 1 (.int (x9 - ((1 : Int32))))).bind fun g10 => some (.inl g10) else some (.inr g2)))
def zs_X8_trim (h : AH) (u0 : Nat) (u1 : Int32) : Option AH :=
  (pV h u0 8 1 (.int u1)).bind fun g1 => (iter (fun q : AH => zb_X8_trim_5 u0 q) FU g1).bind fun r11 => some r11
set_option maxRecDepth 100000 in
set_option maxHeartbeats 4000000 in
theorem zm_X8_trim (l : Launch) (D : hG) (z : Nat) {h : AH} {u0 : Nat} {u1 : Int32} {h' : AH} (hs : zs_X8_trim h u0 u1 = some h') : hC l D z yX8_trim cX8_trim 2 (Option.none : Option Jvm.ClassFile.FieldType) 0 0 0 0 [.ref u0, .int u1] h h' none := by
  refine hC_of (by decide) (Nat.le_of_ble_eq_true rfl) ?_
  intro p e s m below meth c hx hb hml hrt hlk hown hnm hts hk hr hz ls hl
  replace hown : s.vm.findClass RX8 = some m.cls := hown
  replace hl : lv_has ls 2 [(0, .ref u0), (1, .int u1)] := hl
  have hS : va_S (hA z) s.heap s.heap [] := va_S.rf
  suffices hgo : ∀ (H : Heap) (locs : List Loc), hR D z h H → va_S (hA z) s.heap H locs → W p l e ({ frames := 0, cells := 0, slots := 0, locals := 0 } : Room) s m ([.ref u0, .int u1] : List Value).toArray below meth c H locs 0 0 (MQ below (hQ D z h' none) ([.ref u0, .int u1] : List Value).toArray s 0 0 (hA z)) (F0 m 0 ls []) from hgo _ _ hr hS
  clear hr hS
  intro H locs hr hS
  unfold zs_X8_trim at hs
  refine lv_aload_n hx hb dX8_trim_0 rfl (lv_at hl 0 rfl) ?_
  refine lv_iload_n hx hb dX8_trim_1 rfl (lv_at hl 1 rfl) ?_
  obtain ⟨g1, eg1, hs⟩ := bi_inv hs
  refine hv_pV (C := RX8) (T := TX8) (N := 3) (ci := 8) hx hb hts inX8 tyX8 tyX8_ok nmX8 hown hk hr hS rfl 1 (by decide) (hts _ tw_39) rfl rfl rfl eg1 dX8_trim_2 (fun H locs hr hS => ?_)
  obtain ⟨r11, er11, hs⟩ := bi_inv hs
  refine iter_W (fun (q : AH) => ∀ (H : Heap) (locs : List Loc) (ls : Array Slot), hR D z q H → va_S (hA z) s.heap H locs → lv_has ls 2 [(0, .ref u0)] → W p l e ({ frames := 0, cells := 0, slots := 0, locals := 0 } : Room) s m ([.ref u0, .int u1] : List Value).toArray below meth c H locs 0 0 (MQ below (hQ D z h' none) ([.ref u0, .int u1] : List Value).toArray s 0 0 (hA z)) (F0 m 5 ls [])) (fun (x : AH) => ∀ (H : Heap) (locs : List Loc) (ls : Array Slot), hR D z x H → va_S (hA z) s.heap H locs → lv_has ls 2 [] → W p l e ({ frames := 0, cells := 0, slots := 0, locals := 0 } : Room) s m ([.ref u0, .int u1] : List Value).toArray below meth c H locs 0 0 (MQ below (hQ D z h' none) ([.ref u0, .int u1] : List Value).toArray s 0 0 (hA z)) (F0 m 41 ls [])) ?_ FU _ r11 er11 ?_ H locs ls hr hS (lv_sub hl [0] rfl)
  · intro q o hs hcont hexit
    obtain ⟨g2, rfl⟩ : ∃ q2, q2 = q := ⟨_, rfl⟩
    replace hs : zb_X8_trim_5 u0 g2 = some o := hs
    intro H locs ls hr hS hl
    unfold zb_X8_trim_5 at hs
    refine lv_aload_n hx hb dX8_trim_5 rfl (lv_at hl 0 rfl) ?_
    obtain ⟨x3, ex3, hs⟩ := bi_inv hs
    refine hv_gI (C := RX8) (T := TX8) (N := 3) (ci := 8) hx hb hts inX8 hown hk hr rfl 1 (by decide) (hts _ tw_39) ex3 dX8_trim_6 ?_
    refine lv_if_le (tgt := 41) hx hb dX8_trim_9 (by decide) (fun c4 => ?_) (fun c4 => ?_)
    · rw [if_pos c4] at hs
      cases hs
      exact hexit _ rfl H locs ls hr hS (lv_sub hl [] rfl)
    · rw [if_neg c4] at hs
      refine lv_aload_n hx hb dX8_trim_12 rfl (lv_at hl 0 rfl) ?_
      obtain ⟨x5, ex5, hs⟩ := bi_inv hs
      refine hv_gR (C := RX8) (T := TX8) (N := 3) (ci := 8) hx hb hts inX8 hown hk hr rfl 0 (by decide) (hts _ tw_36) ex5 dX8_trim_13 ?_
      refine lv_aload_n hx hb dX8_trim_16 rfl (lv_at hl 0 rfl) ?_
      obtain ⟨x6, ex6, hs⟩ := bi_inv hs
      refine hv_gI (C := RX8) (T := TX8) (N := 3) (ci := 8) hx hb hts inX8 hown hk hr rfl 1 (by decide) (hts _ tw_39) ex6 dX8_trim_17 ?_
      refine lv_iconst (v := 1) hx hb dX8_trim_20 (by decide) ?_
      refine lv_isub hx hb dX8_trim_21 ?_
      obtain ⟨x7, ex7, hs⟩ := bi_inv hs
      refine hv_aJ hx hb hk hr ex7 dX8_trim_22 ?_
      refine lv_lconst (v := 0) hx hb dX8_trim_23 (by decide) ?_
      refine hv_lc_ne (tgt := 41) hx hb dX8_trim_24 dX8_trim_25 (by decide) (fun c8 => ?_) (fun c8 => ?_)
      · rw [if_neg c8] at hs
        cases hs
        exact hexit _ rfl H locs ls hr hS (lv_sub hl [] rfl)
      · rw [if_pos c8] at hs
        refine lv_aload_n hx hb dX8_trim_28 rfl (lv_at hl 0 rfl) ?_
        refine lv_dup hx hb dX8_trim_29 rfl ?_
        obtain ⟨x9, ex9, hs⟩ := bi_inv hs
        refine hv_gI (C := RX8) (T := TX8) (N := 3) (ci := 8) hx hb hts inX8 hown hk hr rfl 1 (by decide) (hts _ tw_39) ex9 dX8_trim_30 ?_
        refine lv_iconst (v := 1) hx hb dX8_trim_33 (by decide) ?_
        refine lv_isub hx hb dX8_trim_34 ?_
        obtain ⟨g10, eg10, hs⟩ := bi_inv hs
        refine hv_pV (C := RX8) (T := TX8) (N := 3) (ci := 8) hx hb hts inX8 tyX8 tyX8_ok nmX8 hown hk hr hS rfl 1 (by decide) (hts _ tw_39) rfl rfl rfl eg10 dX8_trim_35 (fun H locs hr hS => ?_)
        refine lv_goto (tgt := 5) hx hb dX8_trim_38 (by decide) ?_
        cases hs
        exact hcont _ rfl H locs ls hr hS (lv_sub hl [0] rfl)
  · intro H locs ls hr hS hl
    cases hs
    exact hv_vret hx hb hrt hlk hr hS dX8_trim_41
theorem dX8_grow_0 : decode cX8_grow 0 = .ok (.lload_n 3, 1) := by decide +kernel
theorem dX8_grow_1 : decode cX8_grow 1 = .ok (.lstore 5, 2) := by decide +kernel
theorem dX8_grow_3 : decode cX8_grow 3 = .ok (.iconst 0, 1) := by decide +kernel
theorem dX8_grow_4 : decode cX8_grow 4 = .ok (.istore 7, 2) := by decide +kernel
theorem dX8_grow_6 : decode cX8_grow 6 = .ok (.iload 7, 2) := by decide +kernel
theorem dX8_grow_8 : decode cX8_grow 8 = .ok (.aload_n 0, 1) := by decide +kernel
theorem dX8_grow_9 : decode cX8_grow 9 = .ok (.getfield 15, 3) := by decide +kernel
theorem dX8_grow_12 : decode cX8_grow 12 = .ok (.if_icmp .ge 43, 3) := by decide +kernel
theorem dX8_grow_15 : decode cX8_grow 15 = .ok (.aload_n 0, 1) := by decide +kernel
theorem dX8_grow_16 : decode cX8_grow 16 = .ok (.getfield 9, 3) := by decide +kernel
theorem dX8_grow_19 : decode cX8_grow 19 = .ok (.iload 7, 2) := by decide +kernel
theorem dX8_grow_21 : decode cX8_grow 21 = .ok (.laload, 1) := by decide +kernel
theorem dX8_grow_22 : decode cX8_grow 22 = .ok (.lload_n 1, 1) := by decide +kernel
theorem dX8_grow_23 : decode cX8_grow 23 = .ok (.lmul, 1) := by decide +kernel
theorem dX8_grow_24 : decode cX8_grow 24 = .ok (.lload 5, 2) := by decide +kernel
theorem dX8_grow_26 : decode cX8_grow 26 = .ok (.ladd, 1) := by decide +kernel
theorem dX8_grow_27 : decode cX8_grow 27 = .ok (.lstore 8, 2) := by decide +kernel
theorem dX8_grow_29 : decode cX8_grow 29 = .ok (.aload_n 0, 1) := by decide +kernel
theorem dX8_grow_30 : decode cX8_grow 30 = .ok (.getfield 9, 3) := by decide +kernel
theorem dX8_grow_33 : decode cX8_grow 33 = .ok (.iload 7, 2) := by decide +kernel
theorem dX8_grow_35 : decode cX8_grow 35 = .ok (.lload 8, 2) := by decide +kernel
theorem dX8_grow_37 : decode cX8_grow 37 = .ok (.ldc2_w 23, 3) := by decide +kernel
theorem dX8_grow_40 : decode cX8_grow 40 = .ok (.land, 1) := by decide +kernel
theorem dX8_grow_41 : decode cX8_grow 41 = .ok (.lastore, 1) := by decide +kernel
theorem dX8_grow_42 : decode cX8_grow 42 = .ok (.lload 8, 2) := by decide +kernel
theorem dX8_grow_44 : decode cX8_grow 44 = .ok (.bipush 32, 2) := by decide +kernel
theorem dX8_grow_46 : decode cX8_grow 46 = .ok (.lushr, 1) := by decide +kernel
theorem dX8_grow_47 : decode cX8_grow 47 = .ok (.lstore 5, 2) := by decide +kernel
theorem dX8_grow_49 : decode cX8_grow 49 = .ok (.iinc 7 1, 3) := by decide +kernel
theorem dX8_grow_52 : decode cX8_grow 52 = .ok (.goto (-46), 3) := by decide +kernel
theorem dX8_grow_55 : decode cX8_grow 55 = .ok (.lload 5, 2) := by decide +kernel
theorem dX8_grow_57 : decode cX8_grow 57 = .ok (.lconst 0, 1) := by decide +kernel
theorem dX8_grow_58 : decode cX8_grow 58 = .ok (.lcmp, 1) := by decide +kernel
theorem dX8_grow_59 : decode cX8_grow 59 = .ok (.ifCond .eq 33, 3) := by decide +kernel
theorem dX8_grow_62 : decode cX8_grow 62 = .ok (.aload_n 0, 1) := by decide +kernel
theorem dX8_grow_63 : decode cX8_grow 63 = .ok (.getfield 15, 3) := by decide +kernel
theorem dX8_grow_66 : decode cX8_grow 66 = .ok (.bipush 26, 2) := by decide +kernel
theorem dX8_grow_68 : decode cX8_grow 68 = .ok (.if_icmp .ge 24, 3) := by decide +kernel
theorem dX8_grow_71 : decode cX8_grow 71 = .ok (.aload_n 0, 1) := by decide +kernel
theorem dX8_grow_72 : decode cX8_grow 72 = .ok (.getfield 9, 3) := by decide +kernel
theorem dX8_grow_75 : decode cX8_grow 75 = .ok (.aload_n 0, 1) := by decide +kernel
theorem dX8_grow_76 : decode cX8_grow 76 = .ok (.getfield 15, 3) := by decide +kernel
theorem dX8_grow_79 : decode cX8_grow 79 = .ok (.lload 5, 2) := by decide +kernel
theorem dX8_grow_81 : decode cX8_grow 81 = .ok (.lastore, 1) := by decide +kernel
theorem dX8_grow_82 : decode cX8_grow 82 = .ok (.aload_n 0, 1) := by decide +kernel
theorem dX8_grow_83 : decode cX8_grow 83 = .ok (.dup, 1) := by decide +kernel
theorem dX8_grow_84 : decode cX8_grow 84 = .ok (.getfield 15, 3) := by decide +kernel
theorem dX8_grow_87 : decode cX8_grow 87 = .ok (.iconst 1, 1) := by decide +kernel
theorem dX8_grow_88 : decode cX8_grow 88 = .ok (.iadd, 1) := by decide +kernel
theorem dX8_grow_89 : decode cX8_grow 89 = .ok (.putfield 15, 3) := by decide +kernel
theorem dX8_grow_92 : decode cX8_grow 92 = .ok (.return_, 1) := by decide +kernel
def zb_X8_grow_6 (w0 : Nat) (w1 : Int64) (g1 : AH) (w5 : Int64) (w7 : Int32) : Option ((AH × Int64 × Int32) ⊕ ((AH × Int64))) :=
  (gI g1 w0 8 1).bind fun x2 => (if x2 ≤ w7 then some (.inr ((g1, w5))) else (gR g1 w0 8 0).bind fun x4 => (aJ g1 x4 1 w7).bind fun x5 => lt_ ((x5 * w1) + w5) fun x6 => (gR g1 w0 8 0).bind fun x7 => (sJ g1 x7 1 w7 (x6 &&& ((4294967295 : Int64)))).bind fun g8 => lt_ ((x6.toUInt64 >>> (((32 : Int32)).toInt64.toUInt64 &&& Int64.toUInt64 63)).toInt64) fun x9 => some (.inl (g8, x9, w7 + (1 : Int32))))
def zs_X8_grow (h : AH) (u0 : Nat) (u1 : Int64) (u3 : Int64) : Option AH :=
  (iter (fun q : AH × Int64 × Int32 => zb_X8_grow_6 u0 u1 q.1 q.2.1 q.2.2) FU (h, u3, (0 : Int32))).bind fun r10 => (if r10.2 = (0 : Int64) then some r10.1 else (gI r10.1 u0 8 1).bind fun x12 => (if (26 : Int32) ≤ x12 then some r10.1 else (gR r10.1 u0 8 0).bind fun x14 => (gI r10.1 u0 8 1).bind fun x15 => (sJ r10.1 x14 1 x15 r10.2).bind fun g16 => (gI g16 u0 8 1).bind fun x17 => (pV g16 u0 8 1 (.int (x17 + ((1 : Int32))))).bind fun g18 => some g18))
set_option maxRecDepth 100000 in
set_option maxHeartbeats 4000000 in
theorem zm_X8_grow (l : Launch) (D : hG) (z : Nat) {h : AH} {u0 : Nat} {u1 : Int64} {u3 : Int64} {h' : AH} (hs : zs_X8_grow h u0 u1 u3 = some h') : hC l D z yX8_grow cX8_grow 10 (Option.none : Option Jvm.ClassFile.FieldType) 0 0 0 0 [.ref u0, .long u1, .long u3] h h' none := by
  refine hC_of (by decide) (Nat.le_of_ble_eq_true rfl) ?_
  intro p e s m below meth c hx hb hml hrt hlk hown hnm hts hk hr hz ls hl
  replace hown : s.vm.findClass RX8 = some m.cls := hown
  replace hl : lv_has ls 10 [(0, .ref u0), (1, .long u1), (3, .long u3)] := hl
  have hS : va_S (hA z) s.heap s.heap [] := va_S.rf
  suffices hgo : ∀ (H : Heap) (locs : List Loc), hR D z h H → va_S (hA z) s.heap H locs → W p l e ({ frames := 0, cells := 0, slots := 0, locals := 0 } : Room) s m ([.ref u0, .long u1, .long u3] : List Value).toArray below meth c H locs 0 0 (MQ below (hQ D z h' none) ([.ref u0, .long u1, .long u3] : List Value).toArray s 0 0 (hA z)) (F0 m 0 ls []) from hgo _ _ hr hS
  clear hr hS
  intro H locs hr hS
  unfold zs_X8_grow at hs
  refine lv_lload_n hx hb dX8_grow_0 rfl (lv_at hl 2 rfl) ?_
  refine lv_lstore (lv' := [(5, .long u3), (0, .ref u0), (1, .long u1), (3, .long u3)]) hx hb dX8_grow_1 hl (by decide) rfl (fun ls hl => ?_)
  refine lv_iconst (v := 0) hx hb dX8_grow_3 (by decide) ?_
  refine lv_istore (lv' := [(7, .int ((0 : Int32))), (5, .long u3), (0, .ref u0), (1, .long u1), (3, .long u3)]) hx hb dX8_grow_4 hl (by decide) rfl (fun ls hl => ?_)
  obtain ⟨r10, er10, hs⟩ := bi_inv hs
  refine iter_W (fun (q : AH × Int64 × Int32) => ∀ (H : Heap) (locs : List Loc) (ls : Array Slot), hR D z q.1 H → va_S (hA z) s.heap H locs → lv_has ls 10 [(0, .ref u0), (1, .long u1), (5, .long q.2.1), (7, .int q.2.2)] → W p l e ({ frames := 0, cells := 0, slots := 0, locals := 0 } : Room) s m ([.ref u0, .long u1, .long u3] : List Value).toArray below meth c H locs 0 0 (MQ below (hQ D z h' none) ([.ref u0, .long u1, .long u3] : List Value).toArray s 0 0 (hA z)) (F0 m 6 ls [])) (fun (x : (AH × Int64)) => ∀ (H : Heap) (locs : List Loc) (ls : Array Slot), hR D z x.1 H → va_S (hA z) s.heap H locs → lv_has ls 10 [(0, .ref u0), (5, .long x.2)] → W p l e ({ frames := 0, cells := 0, slots := 0, locals := 0 } : Room) s m ([.ref u0, .long u1, .long u3] : List Value).toArray below meth c H locs 0 0 (MQ below (hQ D z h' none) ([.ref u0, .long u1, .long u3] : List Value).toArray s 0 0 (hA z)) (F0 m 55 ls [])) ?_ FU _ r10 er10 ?_ H locs ls hr hS (lv_sub hl [2, 3, 1, 0] rfl)
  · intro q o hs hcont hexit
    obtain ⟨g1, w5, w7⟩ := q
    replace hs : zb_X8_grow_6 u0 u1 g1 w5 w7 = some o := hs
    intro H locs ls hr hS hl
    unfold zb_X8_grow_6 at hs
    refine lv_iload hx hb dX8_grow_6 (lv_at hl 3 rfl) ?_
    refine lv_aload_n hx hb dX8_grow_8 rfl (lv_at hl 0 rfl) ?_
    obtain ⟨x2, ex2, hs⟩ := bi_inv hs
    refine hv_gI (C := RX8) (T := TX8) (N := 3) (ci := 8) hx hb hts inX8 hown hk hr rfl 1 (by decide) (hts _ tw_39) ex2 dX8_grow_9 ?_
    refine lv_icmp_ge (tgt := 55) hx hb dX8_grow_12 (by decide) (fun c3 => ?_) (fun c3 => ?_)
    · rw [if_pos c3] at hs
      cases hs
      exact hexit _ rfl H locs ls hr hS (lv_sub hl [0, 2] rfl)
    · rw [if_neg c3] at hs
      refine lv_aload_n hx hb dX8_grow_15 rfl (lv_at hl 0 rfl) ?_
      obtain ⟨x4, ex4, hs⟩ := bi_inv hs
      refine hv_gR (C := RX8) (T := TX8) (N := 3) (ci := 8) hx hb hts inX8 hown hk hr rfl 0 (by decide) (hts _ tw_36) ex4 dX8_grow_16 ?_
      refine lv_iload hx hb dX8_grow_19 (lv_at hl 3 rfl) ?_
      obtain ⟨x5, ex5, hs⟩ := bi_inv hs
      refine hv_aJ hx hb hk hr ex5 dX8_grow_21 ?_
      refine lv_lload_n hx hb dX8_grow_22 rfl (lv_at hl 1 rfl) ?_
      refine lv_lmul hx hb dX8_grow_23 ?_
      refine lv_lload hx hb dX8_grow_24 (lv_at hl 2 rfl) ?_
      refine lv_ladd hx hb dX8_grow_26 ?_
      refine lv_topl (fun x6 ex6 => ?_)
      replace hs := lt_inv hs x6 ex6
      refine lv_lstore (lv' := [(8, .long x6), (0, .ref u0), (1, .long u1), (5, .long w5), (7, .int w7)]) hx hb dX8_grow_27 hl (by decide) rfl (fun ls hl => ?_)
      refine lv_aload_n hx hb dX8_grow_29 rfl (lv_at hl 1 rfl) ?_
      obtain ⟨x7, ex7, hs⟩ := bi_inv hs
      refine hv_gR (C := RX8) (T := TX8) (N := 3) (ci := 8) hx hb hts inX8 hown hk hr rfl 0 (by decide) (hts _ tw_36) ex7 dX8_grow_30 ?_
      refine lv_iload hx hb dX8_grow_33 (lv_at hl 4 rfl) ?_
      refine lv_lload hx hb dX8_grow_35 (lv_at hl 0 rfl) ?_
      refine lv_ldc2 hx hb hown (hts _ tw_69) dX8_grow_37 ?_
      refine lv_land hx hb dX8_grow_40 ?_
      obtain ⟨g8, eg8, hs⟩ := bi_inv hs
      refine hv_sJ hx hb hk hr hS eg8 dX8_grow_41 (fun H locs hr hS => ?_)
      refine lv_lload hx hb dX8_grow_42 (lv_at hl 0 rfl) ?_
      refine lv_bipush (v := 32) hx hb dX8_grow_44 (by decide) ?_
      refine lv_lushr hx hb dX8_grow_46 rfl ?_
      refine lv_topl (fun x9 ex9 => ?_)
      replace hs := lt_inv hs x9 ex9
      refine lv_lstore (lv' := [(5, .long x9), (8, .long x6), (0, .ref u0), (1, .long u1), (7, .int w7)]) hx hb dX8_grow_47 hl (by decide) rfl (fun ls hl => ?_)
      refine lv_iinc (v := w7 + (1 : Int32)) (lv' := [(7, .int (w7 + (1 : Int32))), (5, .long x9), (8, .long x6), (0, .ref u0), (1, .long u1)]) hx hb dX8_grow_49 hl (k := 4) rfl (ii_v _ (by decide)) (by decide) rfl (fun ls hl => ?_)
      refine lv_goto (tgt := 6) hx hb dX8_grow_52 (by decide) ?_
      cases hs
      exact hcont _ rfl H locs ls hr hS (lv_sub hl [3, 4, 1, 0] rfl)
  · intro H locs ls hr hS hl
    refine lv_lload hx hb dX8_grow_55 (lv_at hl 1 rfl) ?_
    refine lv_lconst (v := 0) hx hb dX8_grow_57 (by decide) ?_
    refine hv_lc_eq (tgt := 92) hx hb dX8_grow_58 dX8_grow_59 (by decide) (fun c11 => ?_) (fun c11 => ?_)
    · rw [if_pos c11] at hs
      cases hs
      exact hv_vret hx hb hrt hlk hr hS dX8_grow_92
    · rw [if_neg c11] at hs
      refine lv_aload_n hx hb dX8_grow_62 rfl (lv_at hl 0 rfl) ?_
      obtain ⟨x12, ex12, hs⟩ := bi_inv hs
      refine hv_gI (C := RX8) (T := TX8) (N := 3) (ci := 8) hx hb hts inX8 hown hk hr rfl 1 (by decide) (hts _ tw_39) ex12 dX8_grow_63 ?_
      refine lv_bipush (v := 26) hx hb dX8_grow_66 (by decide) ?_
      refine lv_icmp_ge (tgt := 92) hx hb dX8_grow_68 (by decide) (fun c13 => ?_) (fun c13 => ?_)
      · rw [if_pos c13] at hs
        cases hs
        exact hv_vret hx hb hrt hlk hr hS dX8_grow_92
      · rw [if_neg c13] at hs
        refine lv_aload_n hx hb dX8_grow_71 rfl (lv_at hl 0 rfl) ?_
        obtain ⟨x14, ex14, hs⟩ := bi_inv hs
        refine hv_gR (C := RX8) (T := TX8) (N := 3) (ci := 8) hx hb hts inX8 hown hk hr rfl 0 (by decide) (hts _ tw_36) ex14 dX8_grow_72 ?_
        refine lv_aload_n hx hb dX8_grow_75 rfl (lv_at hl 0 rfl) ?_
        obtain ⟨x15, ex15, hs⟩ := bi_inv hs
        refine hv_gI (C := RX8) (T := TX8) (N := 3) (ci := 8) hx hb hts inX8 hown hk hr rfl 1 (by decide) (hts _ tw_39) ex15 dX8_grow_76 ?_
        refine lv_lload hx hb dX8_grow_79 (lv_at hl 1 rfl) ?_
        obtain ⟨g16, eg16, hs⟩ := bi_inv hs
        refine hv_sJ hx hb hk hr hS eg16 dX8_grow_81 (fun H locs hr hS => ?_)
        refine lv_aload_n hx hb dX8_grow_82 rfl (lv_at hl 0 rfl) ?_
        refine lv_dup hx hb dX8_grow_83 rfl ?_
        obtain ⟨x17, ex17, hs⟩ := bi_inv hs
        refine hv_gI (C := RX8) (T := TX8) (N := 3) (ci := 8) hx hb hts inX8 hown hk hr rfl 1 (by decide) (hts _ tw_39) ex17 dX8_grow_84 ?_
        refine lv_iconst (v := 1) hx hb dX8_grow_87 (by decide) ?_
        refine lv_iadd hx hb dX8_grow_88 ?_
        obtain ⟨g18, eg18, hs⟩ := bi_inv hs
        refine hv_pV (C := RX8) (T := TX8) (N := 3) (ci := 8) hx hb hts inX8 tyX8 tyX8_ok nmX8 hown hk hr hS rfl 1 (by decide) (hts _ tw_39) rfl rfl rfl eg18 dX8_grow_89 (fun H locs hr hS => ?_)
        cases hs
        exact hv_vret hx hb hrt hlk hr hS dX8_grow_92
