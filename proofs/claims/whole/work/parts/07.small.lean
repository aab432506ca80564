theorem dX5_clear_0 : decode cX5_clear 0 = .ok (.aload_n 0, 1) := by decide +kernel
theorem dX5_clear_1 : decode cX5_clear 1 = .ok (.iconst 0, 1) := by decide +kernel
theorem dX5_clear_2 : decode cX5_clear 2 = .ok (.putfield 9, 3) := by decide +kernel
theorem dX5_clear_5 : decode cX5_clear 5 = .ok (.return_, 1) := by decide +kernel
def zs_X5_clear (h : AH) (u0 : Nat) : Option AH :=
  (pV h u0 5 0 (.int ((0 : Int32)))).bind fun g1 => some g1
set_option maxRecDepth 100000 in
set_option maxHeartbeats 4000000 in
theorem zm_X5_clear (l : Launch) (D : hG) (z : Nat) {h : AH} {u0 : Nat} {h' : AH} (hs : zs_X5_clear h u0 = some h') : hC l D z yX5_clear cX5_clear 1 (Option.none : Option Jvm.ClassFile.FieldType) 0 0 0 0 [.ref u0] h h' none := by
  refine hC_of (by decide) (Nat.le_of_ble_eq_true rfl) ?_
  intro p e s m below meth c hx hb hml hrt hlk hown hnm hts hk hr hz ls hl
  replace hown : s.vm.findClass RX5 = some m.cls := hown
  replace hl : lv_has ls 1 [(0, .ref u0)] := hl
  have hS : va_S (hA z) s.heap s.heap [] := va_S.rf
  suffices hgo : ∀ (H : Heap) (locs : List Loc), hR D z h H → va_S (hA z) s.heap H locs → W p l e ({ frames := 0, cells := 0, slots := 0, locals := 0 } : Room) s m ([.ref u0] : List Value).toArray below meth c H locs 0 0 (MQ below (hQ D z h' none) ([.ref u0] : List Value).toArray s 0 0 (hA z)) (F0 m 0 ls []) from hgo _ _ hr hS
  clear hr hS
  intro H locs hr hS
  unfold zs_X5_clear at hs
  refine lv_aload_n hx hb dX5_clear_0 rfl (lv_at hl 0 rfl) ?_
  refine lv_iconst (v := 0) hx hb dX5_clear_1 (by decide) ?_
  obtain ⟨g1, eg1, hs⟩ := bi_inv hs
  refine hv_pV (C := RX5) (T := TX5) (N := 2) (ci := 5) hx hb hts inX5 tyX5 tyX5_ok nmX5 hown hk hr hS rfl 0 (by decide) (hts _ tw_97) rfl rfl rfl eg1 dX5_clear_2 (fun H locs hr hS => ?_)
  obtain rfl := Option.some.inj hs
  exact hv_vret hx hb hrt hlk hr hS dX5_clear_5
theorem dX5_init_0 : decode cX5_init 0 = .ok (.aload_n 0, 1) := by decide +kernel
theorem dX5_init_1 : decode cX5_init 1 = .ok (.invokespecial 3, 3) := by decide +kernel
theorem dX5_init_4 : decode cX5_init 4 = .ok (.aload_n 0, 1) := by decide +kernel
theorem dX5_init_5 : decode cX5_init 5 = .ok (.iconst 0, 1) := by decide +kernel
theorem dX5_init_6 : decode cX5_init 6 = .ok (.putfield 9, 3) := by decide +kernel
theorem dX5_init_9 : decode cX5_init 9 = .ok (.aload_n 0, 1) := by decide +kernel
theorem dX5_init_10 : decode cX5_init 10 = .ok (.bipush 120, 2) := by decide +kernel
theorem dX5_init_12 : decode cX5_init 12 = .ok (.newarray .int, 2) := by decide +kernel
theorem dX5_init_14 : decode cX5_init 14 = .ok (.putfield 15, 3) := by decide +kernel
theorem dX5_init_17 : decode cX5_init 17 = .ok (.return_, 1) := by decide +kernel
def zs_X5_init (h : AH) (u0 : Nat) : Option AH :=
  (pV h u0 5 0 (.int ((0 : Int32)))).bind fun g1 => lt_ (nO g1 (.inl (0, (120, .inl (fun _ => 0))))) fun g2 => (pV g2 u0 5 1 (.ref g1.2)).bind fun g3 => some g3
set_option maxRecDepth 100000 in
set_option maxHeartbeats 4000000 in
theorem zm_X5_init (l : Launch) (D : hG) (z : Nat) {h : AH} {u0 : Nat} {h' : AH} (hs : zs_X5_init h u0 = some h') : hC l D z yX5_init cX5_init 1 (Option.none : Option Jvm.ClassFile.FieldType) 1 21 1 120 [.ref u0] h h' none := by
  refine hC_of (by decide) (Nat.le_of_ble_eq_true rfl) ?_
  intro p e s m below meth c hx hb hml hrt hlk hown hnm hts hk hr hz ls hl
  replace hown : s.vm.findClass RX5 = some m.cls := hown
  replace hl : lv_has ls 1 [(0, .ref u0)] := hl
  have hS : va_S (hA z) s.heap s.heap [] := va_S.rf
  suffices hgo : ∀ (H : Heap) (locs : List Loc), hR D z h H → va_S (hA z) s.heap H locs → W p l e ({ frames := 1, cells := 1, slots := 120, locals := 21 } : Room) s m ([.ref u0] : List Value).toArray below meth c H locs 0 0 (MQ below (hQ D z h' none) ([.ref u0] : List Value).toArray s 1 120 (hA z)) (F0 m 0 ls []) from hgo _ _ hr hS
  clear hr hS
  intro H locs hr hS
  unfold zs_X5_init at hs
  refine lv_aload_n hx hb dX5_init_0 rfl (lv_at hl 0 rfl) ?_
  refine W.objInit hx hb hown (hts _ tw_96) (hts _ tw_27) (hts _ tw_28) rfl (by rw [hml]; exact hl.1) rfl dX5_init_1 (by decide) (Nat.le_of_ble_eq_true rfl) ?_
  refine W.eq (g2 := F0 m 4 ls []) rfl ?_
  refine lv_aload_n hx hb dX5_init_4 rfl (lv_at hl 0 rfl) ?_
  refine lv_iconst (v := 0) hx hb dX5_init_5 (by decide) ?_
  obtain ⟨g1, eg1, hs⟩ := bi_inv hs
  refine hv_pV (C := RX5) (T := TX5) (N := 2) (ci := 5) hx hb hts inX5 tyX5 tyX5_ok nmX5 hown hk hr hS rfl 0 (by decide) (hts _ tw_97) rfl rfl rfl eg1 dX5_init_6 (fun H locs hr hS => ?_)
  refine lv_aload_n hx hb dX5_init_9 rfl (lv_at hl 0 rfl) ?_
  refine lv_bipush (v := 120) hx hb dX5_init_10 (by decide) ?_
  refine hv_newa (at_ := .int) hx hb hts 0 rfl rfl tw_105 hk hr hz hS 120 (120, .inl (fun _ => 0)) (fun _ => rfl) (by decide) (by decide) (by decide) (by show _ ≤ (1 : Nat); omega) (by show _ ≤ (120 : Nat); omega) dX5_init_12 (fun H hr hS => ?_)
  obtain ⟨g2, eg2⟩ : ∃ q, q = nO g1 (.inl (0, (120, .inl (fun _ => 0)))) := ⟨_, rfl⟩
  rw [← eg2] at hr
  replace hs := lt_inv hs g2 eg2
  obtain ⟨g3, eg3, hs⟩ := bi_inv hs
  refine hv_pF (C := RX5) (T := TX5) (N := 2) (ci := 5) hx hb hts inX5 tyX5 tyX5_ok nmX5 hown hk hr hS rfl 1 (by decide) (hts _ tw_99) rfl hnm rfl rfl rfl eg3 dX5_init_14 (fun H locs hr hS => ?_)
  obtain rfl := Option.some.inj hs
  exact hv_vret hx hb hrt hlk hr hS dX5_init_17
theorem dX5_isDigit_0 : decode cX5_isDigit 0 = .ok (.iload_n 0, 1) := by decide +kernel
theorem dX5_isDigit_1 : decode cX5_isDigit 1 = .ok (.ifCond .lt 12, 3) := by decide +kernel
theorem dX5_isDigit_4 : decode cX5_isDigit 4 = .ok (.iload_n 0, 1) := by decide +kernel
theorem dX5_isDigit_5 : decode cX5_isDigit 5 = .ok (.iload_n 1, 1) := by decide +kernel
theorem dX5_isDigit_6 : decode cX5_isDigit 6 = .ok (.if_icmp .ge 7, 3) := by decide +kernel
theorem dX5_isDigit_9 : decode cX5_isDigit 9 = .ok (.iconst 1, 1) := by decide +kernel
theorem dX5_isDigit_10 : decode cX5_isDigit 10 = .ok (.goto 4, 3) := by decide +kernel
theorem dX5_isDigit_13 : decode cX5_isDigit 13 = .ok (.iconst 0, 1) := by decide +kernel
theorem dX5_isDigit_14 : decode cX5_isDigit 14 = .ok (.ireturn, 1) := by decide +kernel
def zs_X5_isDigit (h : AH) (u0 : Int32) (u1 : Int32) : Option Int32 :=
  (if u0 < 0 then some ((0 : Int32)) else (if u1 ≤ u0 then some ((0 : Int32)) else some ((1 : Int32))))
set_option maxRecDepth 100000 in
set_option maxHeartbeats 4000000 in
theorem zm_X5_isDigit (l : Launch) (D : hG) (z : Nat) {h : AH} {u0 : Int32} {u1 : Int32} {r : Int32} (hs : zs_X5_isDigit h u0 u1 = some r) : hC l D z yX5_isDigit cX5_isDigit 2 (Option.some Jvm.ClassFile.FieldType.boolean) 0 0 0 0 [.int u0, .int u1] h h (some (.int r)) := by
  refine hC_of (by decide) (Nat.le_of_ble_eq_true rfl) ?_
  intro p e s m below meth c hx hb hml hrt hlk hown hnm hts hk hr hz ls hl
  replace hown : s.vm.findClass RX5 = some m.cls := hown
  replace hl : lv_has ls 2 [(0, .int u0), (1, .int u1)] := hl
  have hS : va_S (hA z) s.heap s.heap [] := va_S.rf
  suffices hgo : ∀ (H : Heap) (locs : List Loc), hR D z h H → va_S (hA z) s.heap H locs → W p l e ({ frames := 0, cells := 0, slots := 0, locals := 0 } : Room) s m ([.int u0, .int u1] : List Value).toArray below meth c H locs 0 0 (MQ below (hQ D z h (some (.int r))) ([.int u0, .int u1] : List Value).toArray s 0 0 (hA z)) (F0 m 0 ls []) from hgo _ _ hr hS
  clear hr hS
  intro H locs hr hS
  unfold zs_X5_isDigit at hs
  refine lv_iload_n hx hb dX5_isDigit_0 rfl (lv_at hl 0 rfl) ?_
  refine lv_if_lt (tgt := 13) hx hb dX5_isDigit_1 (by decide) (fun c1 => ?_) (fun c1 => ?_)
  · rw [if_pos c1] at hs
    refine lv_iconst (v := 0) hx hb dX5_isDigit_13 (by decide) ?_
    obtain rfl := Option.some.inj hs
    exact hv_zret hx hb hrt hlk hr hS (by decide) dX5_isDigit_14
  · rw [if_neg c1] at hs
    refine lv_iload_n hx hb dX5_isDigit_4 rfl (lv_at hl 0 rfl) ?_
    refine lv_iload_n hx hb dX5_isDigit_5 rfl (lv_at hl 1 rfl) ?_
    refine lv_icmp_ge (tgt := 13) hx hb dX5_isDigit_6 (by decide) (fun c2 => ?_) (fun c2 => ?_)
    · rw [if_pos c2] at hs
      refine lv_iconst (v := 0) hx hb dX5_isDigit_13 (by decide) ?_
      obtain rfl := Option.some.inj hs
      exact hv_zret hx hb hrt hlk hr hS (by decide) dX5_isDigit_14
    · rw [if_neg c2] at hs
      refine lv_iconst (v := 1) hx hb dX5_isDigit_9 (by decide) ?_
      refine lv_goto (tgt := 14) hx hb dX5_isDigit_10 (by decide) ?_
      obtain rfl := Option.some.inj hs
      exact hv_zret hx hb hrt hlk hr hS (by decide) dX5_isDigit_14
theorem dX5_signs_0 : decode cX5_signs 0 = .ok (.aload_n 0, 1) := by decide +kernel
theorem dX5_signs_1 : decode cX5_signs 1 = .ok (.getfield 9, 3) := by decide +kernel
theorem dX5_signs_4 : decode cX5_signs 4 = .ok (.ifCond .le 18, 3) := by decide +kernel
theorem dX5_signs_7 : decode cX5_signs 7 = .ok (.aload_n 0, 1) := by decide +kernel
theorem dX5_signs_8 : decode cX5_signs 8 = .ok (.getfield 15, 3) := by decide +kernel
theorem dX5_signs_11 : decode cX5_signs 11 = .ok (.iconst 0, 1) := by decide +kernel
theorem dX5_signs_12 : decode cX5_signs 12 = .ok (.iaload, 1) := by decide +kernel
theorem dX5_signs_13 : decode cX5_signs 13 = .ok (.bipush 45, 2) := by decide +kernel
theorem dX5_signs_15 : decode cX5_signs 15 = .ok (.if_icmp .ne 7, 3) := by decide +kernel
theorem dX5_signs_18 : decode cX5_signs 18 = .ok (.iconst 1, 1) := by decide +kernel
theorem dX5_signs_19 : decode cX5_signs 19 = .ok (.goto 4, 3) := by decide +kernel
theorem dX5_signs_22 : decode cX5_signs 22 = .ok (.iconst 0, 1) := by decide +kernel
theorem dX5_signs_23 : decode cX5_signs 23 = .ok (.ireturn, 1) := by decide +kernel
def zs_X5_signs (h : AH) (u0 : Nat) : Option Int32 :=
  (gI h u0 5 0).bind fun x1 => (if x1 ≤ 0 then some ((0 : Int32)) else (gR h u0 5 1).bind fun x3 => (aI h x3 0 ((0 : Int32))).bind fun x4 => (if x4 = (45 : Int32) then some ((1 : Int32)) else some ((0 : Int32))))
set_option maxRecDepth 100000 in
set_option maxHeartbeats 4000000 in
theorem zm_X5_signs (l : Launch) (D : hG) (z : Nat) {h : AH} {u0 : Nat} {r : Int32} (hs : zs_X5_signs h u0 = some r) : hC l D z yX5_signs cX5_signs 1 (Option.some Jvm.ClassFile.FieldType.int) 0 0 0 0 [.ref u0] h h (some (.int r)) := by
  refine hC_of (by decide) (Nat.le_of_ble_eq_true rfl) ?_
  intro p e s m below meth c hx hb hml hrt hlk hown hnm hts hk hr hz ls hl
  replace hown : s.vm.findClass RX5 = some m.cls := hown
  replace hl : lv_has ls 1 [(0, .ref u0)] := hl
  have hS : va_S (hA z) s.heap s.heap [] := va_S.rf
  suffices hgo : ∀ (H : Heap) (locs : List Loc), hR D z h H → va_S (hA z) s.heap H locs → W p l e ({ frames := 0, cells := 0, slots := 0, locals := 0 } : Room) s m ([.ref u0] : List Value).toArray below meth c H locs 0 0 (MQ below (hQ D z h (some (.int r))) ([.ref u0] : List Value).toArray s 0 0 (hA z)) (F0 m 0 ls []) from hgo _ _ hr hS
  clear hr hS
  intro H locs hr hS
  unfold zs_X5_signs at hs
  refine lv_aload_n hx hb dX5_signs_0 rfl (lv_at hl 0 rfl) ?_
  obtain ⟨x1, ex1, hs⟩ := bi_inv hs
  refine hv_gI (C := RX5) (T := TX5) (N := 2) (ci := 5) hx hb hts inX5 hown hk hr rfl 0 (by decide) (hts _ tw_97) ex1 dX5_signs_1 ?_
  refine lv_if_le (tgt := 22) hx hb dX5_signs_4 (by decide) (fun c2 => ?_) (fun c2 => ?_)
  · rw [if_pos c2] at hs
    refine lv_iconst (v := 0) hx hb dX5_signs_22 (by decide) ?_
    obtain rfl := Option.some.inj hs
    exact hv_iret hx hb hrt hlk hr hS dX5_signs_23
  · rw [if_neg c2] at hs
    refine lv_aload_n hx hb dX5_signs_7 rfl (lv_at hl 0 rfl) ?_
    obtain ⟨x3, ex3, hs⟩ := bi_inv hs
    refine hv_gR (C := RX5) (T := TX5) (N := 2) (ci := 5) hx hb hts inX5 hown hk hr rfl 1 (by decide) (hts _ tw_99) ex3 dX5_signs_8 ?_
    refine lv_iconst (v := 0) hx hb dX5_signs_11 (by decide) ?_
    obtain ⟨x4, ex4, hs⟩ := bi_inv hs
    refine hv_aI hx hb hk hr ex4 dX5_signs_12 ?_
    refine lv_bipush (v := 45) hx hb dX5_signs_13 (by decide) ?_
    refine lv_icmp_ne (tgt := 22) hx hb dX5_signs_15 (by decide) (fun c5 => ?_) (fun c5 => ?_)
    · rw [if_neg c5] at hs
      refine lv_iconst (v := 0) hx hb dX5_signs_22 (by decide) ?_
      obtain rfl := Option.some.inj hs
      exact hv_iret hx hb hrt hlk hr hS dX5_signs_23
    · rw [if_pos c5] at hs
      refine lv_iconst (v := 1) hx hb dX5_signs_18 (by decide) ?_
      refine lv_goto (tgt := 23) hx hb dX5_signs_19 (by decide) ?_
      obtain rfl := Option.some.inj hs
      exact hv_iret hx hb hrt hlk hr hS dX5_signs_23
theorem dX5_valueAt_0 : decode cX5_valueAt 0 = .ok (.aload_n 0, 1) := by decide +kernel
theorem dX5_valueAt_1 : decode cX5_valueAt 1 = .ok (.getfield 15, 3) := by decide +kernel
theorem dX5_valueAt_4 : decode cX5_valueAt 4 = .ok (.iload_n 1, 1) := by decide +kernel
theorem dX5_valueAt_5 : decode cX5_valueAt 5 = .ok (.iaload, 1) := by decide +kernel
theorem dX5_valueAt_6 : decode cX5_valueAt 6 = .ok (.istore_n 2, 1) := by decide +kernel
theorem dX5_valueAt_7 : decode cX5_valueAt 7 = .ok (.iload_n 2, 1) := by decide +kernel
theorem dX5_valueAt_8 : decode cX5_valueAt 8 = .ok (.bipush 48, 2) := by decide +kernel
theorem dX5_valueAt_10 : decode cX5_valueAt 10 = .ok (.if_icmp .lt 14, 3) := by decide +kernel
theorem dX5_valueAt_13 : decode cX5_valueAt 13 = .ok (.iload_n 2, 1) := by decide +kernel
theorem dX5_valueAt_14 : decode cX5_valueAt 14 = .ok (.bipush 57, 2) := by decide +kernel
theorem dX5_valueAt_16 : decode cX5_valueAt 16 = .ok (.if_icmp .gt 8, 3) := by decide +kernel
theorem dX5_valueAt_19 : decode cX5_valueAt 19 = .ok (.iload_n 2, 1) := by decide +kernel
theorem dX5_valueAt_20 : decode cX5_valueAt 20 = .ok (.bipush 48, 2) := by decide +kernel
theorem dX5_valueAt_22 : decode cX5_valueAt 22 = .ok (.isub, 1) := by decide +kernel
theorem dX5_valueAt_23 : decode cX5_valueAt 23 = .ok (.ireturn, 1) := by decide +kernel
theorem dX5_valueAt_24 : decode cX5_valueAt 24 = .ok (.iload_n 2, 1) := by decide +kernel
theorem dX5_valueAt_25 : decode cX5_valueAt 25 = .ok (.bipush 97, 2) := by decide +kernel
theorem dX5_valueAt_27 : decode cX5_valueAt 27 = .ok (.if_icmp .lt 19, 3) := by decide +kernel
theorem dX5_valueAt_30 : decode cX5_valueAt 30 = .ok (.iload_n 2, 1) := by decide +kernel
theorem dX5_valueAt_31 : decode cX5_valueAt 31 = .ok (.bipush 122, 2) := by decide +kernel
theorem dX5_valueAt_33 : decode cX5_valueAt 33 = .ok (.if_icmp .gt 13, 3) := by decide +kernel
theorem dX5_valueAt_36 : decode cX5_valueAt 36 = .ok (.iload_n 2, 1) := by decide +kernel
theorem dX5_valueAt_37 : decode cX5_valueAt 37 = .ok (.bipush 97, 2) := by decide +kernel
theorem dX5_valueAt_39 : decode cX5_valueAt 39 = .ok (.isub, 1) := by decide +kernel
theorem dX5_valueAt_40 : decode cX5_valueAt 40 = .ok (.bipush 10, 2) := by decide +kernel
theorem dX5_valueAt_42 : decode cX5_valueAt 42 = .ok (.iadd, 1) := by decide +kernel
theorem dX5_valueAt_43 : decode cX5_valueAt 43 = .ok (.goto 4, 3) := by decide +kernel
theorem dX5_valueAt_46 : decode cX5_valueAt 46 = .ok (.iconst (-1), 1) := by decide +kernel
theorem dX5_valueAt_47 : decode cX5_valueAt 47 = .ok (.ireturn, 1) := by decide +kernel
def zj_X5_valueAt_24 (h : AH) (y2_24 : Int32) : Option Int32 :=
  (if y2_24 < (97 : Int32) then some ((-1 : Int32)) else (if (122 : Int32) < y2_24 then some ((-1 : Int32)) else some ((y2_24 - ((97 : Int32))) + ((10 : Int32)))))
def zs_X5_valueAt (h : AH) (u0 : Nat) (u1 : Int32) : Option Int32 :=
  (gR h u0 5 1).bind fun x1 => (aI h x1 0 u1).bind fun x2 => (if x2 < (48 : Int32) then zj_X5_valueAt_24 h x2 else (if (57 : Int32) < x2 then zj_X5_valueAt_24 h x2 else some (x2 - ((48 : Int32)))))
set_option maxRecDepth 100000 in
set_option maxHeartbeats 4000000 in
theorem zm_X5_valueAt (l : Launch) (D : hG) (z : Nat) {h : AH} {u0 : Nat} {u1 : Int32} {r : Int32} (hs : zs_X5_valueAt h u0 u1 = some r) : hC l D z yX5_valueAt cX5_valueAt 3 (Option.some Jvm.ClassFile.FieldType.int) 0 0 0 0 [.ref u0, .int u1] h h (some (.int r)) := by
  refine hC_of (by decide) (Nat.le_of_ble_eq_true rfl) ?_
  intro p e s m below meth c hx hb hml hrt hlk hown hnm hts hk hr hz ls hl
  replace hown : s.vm.findClass RX5 = some m.cls := hown
  replace hl : lv_has ls 3 [(0, .ref u0), (1, .int u1)] := hl
  have hS : va_S (hA z) s.heap s.heap [] := va_S.rf
  suffices hgo : ∀ (H : Heap) (locs : List Loc), hR D z h H → va_S (hA z) s.heap H locs → W p l e ({ frames := 0, cells := 0, slots := 0, locals := 0 } : Room) s m ([.ref u0, .int u1] : List Value).toArray below meth c H locs 0 0 (MQ below (hQ D z h (some (.int r))) ([.ref u0, .int u1] : List Value).toArray s 0 0 (hA z)) (F0 m 0 ls []) from hgo _ _ hr hS
  clear hr hS
  intro H locs hr hS
  have hJ24 : ∀ (y2_24 : Int32) (H : Heap) (locs : List Loc) (ls : Array Slot), zj_X5_valueAt_24 h y2_24 = some r → hR D z h H → va_S (hA z) s.heap H locs → lv_has ls 3 [(2, .int y2_24)] → W p l e ({ frames := 0, cells := 0, slots := 0, locals := 0 } : Room) s m ([.ref u0, .int u1] : List Value).toArray below meth c H locs 0 0 (MQ below (hQ D z h (some (.int r))) ([.ref u0, .int u1] : List Value).toArray s 0 0 (hA z)) (F0 m 24 ls []) := by
    intro y2_24 H locs ls hs hr hS hl
    unfold zj_X5_valueAt_24 at hs
    refine lv_iload_n hx hb dX5_valueAt_24 rfl (lv_at hl 0 rfl) ?_
    refine lv_bipush (v := 97) hx hb dX5_valueAt_25 (by decide) ?_
    refine lv_icmp_lt (tgt := 46) hx hb dX5_valueAt_27 (by decide) (fun c4 => ?_) (fun c4 => ?_)
    · rw [if_pos c4] at hs
      refine lv_iconst (v := (-1)) hx hb dX5_valueAt_46 (by decide) ?_
      obtain rfl := Option.some.inj hs
      exact hv_iret hx hb hrt hlk hr hS dX5_valueAt_47
    · rw [if_neg c4] at hs
      refine lv_iload_n hx hb dX5_valueAt_30 rfl (lv_at hl 0 rfl) ?_
      refine lv_bipush (v := 122) hx hb dX5_valueAt_31 (by decide) ?_
      refine lv_icmp_gt (tgt := 46) hx hb dX5_valueAt_33 (by decide) (fun c5 => ?_) (fun c5 => ?_)
      · rw [if_pos c5] at hs
        refine lv_iconst (v := (-1)) hx hb dX5_valueAt_46 (by decide) ?_
        obtain rfl := Option.some.inj hs
        exact hv_iret hx hb hrt hlk hr hS dX5_valueAt_47
      · rw [if_neg c5] at hs
        refine lv_iload_n hx hb dX5_valueAt_36 rfl (lv_at hl 0 rfl) ?_
        refine lv_bipush (v := 97) hx hb dX5_valueAt_37 (by decide) ?_
        refine lv_isub hx hb dX5_valueAt_39 ?_
        refine lv_bipush (v := 10) hx hb dX5_valueAt_40 (by decide) ?_
        refine lv_iadd hx hb dX5_valueAt_42 ?_
        refine lv_goto (tgt := 47) hx hb dX5_valueAt_43 (by decide) ?_
        obtain rfl := Option.some.inj hs
        exact hv_iret hx hb hrt hlk hr hS dX5_valueAt_47
  unfold zs_X5_valueAt at hs
  refine lv_aload_n hx hb dX5_valueAt_0 rfl (lv_at hl 0 rfl) ?_
  obtain ⟨x1, ex1, hs⟩ := bi_inv hs
  refine hv_gR (C := RX5) (T := TX5) (N := 2) (ci := 5) hx hb hts inX5 hown hk hr rfl 1 (by decide) (hts _ tw_99) ex1 dX5_valueAt_1 ?_
  refine lv_iload_n hx hb dX5_valueAt_4 rfl (lv_at hl 1 rfl) ?_
  obtain ⟨x2, ex2, hs⟩ := bi_inv hs
  refine hv_aI hx hb hk hr ex2 dX5_valueAt_5 ?_
  refine lv_istore_n (lv' := [(2, .int x2), (0, .ref u0), (1, .int u1)]) hx hb dX5_valueAt_6 rfl hl (by decide) rfl (fun ls hl => ?_)
  refine lv_iload_n hx hb dX5_valueAt_7 rfl (lv_at hl 0 rfl) ?_
  refine lv_bipush (v := 48) hx hb dX5_valueAt_8 (by decide) ?_
  refine lv_icmp_lt (tgt := 24) hx hb dX5_valueAt_10 (by decide) (fun c3 => ?_) (fun c3 => ?_)
  · rw [if_pos c3] at hs
    exact hJ24 x2 H locs ls hs hr hS (lv_sub hl [0] rfl)
  · rw [if_neg c3] at hs
    refine lv_iload_n hx hb dX5_valueAt_13 rfl (lv_at hl 0 rfl) ?_
    refine lv_bipush (v := 57) hx hb dX5_valueAt_14 (by decide) ?_
    refine lv_icmp_gt (tgt := 24) hx hb dX5_valueAt_16 (by decide) (fun c6 => ?_) (fun c6 => ?_)
    · rw [if_pos c6] at hs
      exact hJ24 x2 H locs ls hs hr hS (lv_sub hl [0] rfl)
    · rw [if_neg c6] at hs
      refine lv_iload_n hx hb dX5_valueAt_19 rfl (lv_at hl 0 rfl) ?_
      refine lv_bipush (v := 48) hx hb dX5_valueAt_20 (by decide) ?_
      refine lv_isub hx hb dX5_valueAt_22 ?_
      obtain rfl := Option.some.inj hs
      exact hv_iret hx hb hrt hlk hr hS dX5_valueAt_23
theorem dX5_spellInto_0 : decode cX5_spellInto 0 = .ok (.aload_n 1, 1) := by decide +kernel
theorem dX5_spellInto_1 : decode cX5_spellInto 1 = .ok (.lconst 0, 1) := by decide +kernel
theorem dX5_spellInto_2 : decode cX5_spellInto 2 = .ok (.invokevirtual 33, 3) := by decide +kernel
theorem dX5_spellInto_5 : decode cX5_spellInto 5 = .ok (.aload_n 0, 1) := by decide +kernel
theorem dX5_spellInto_6 : decode cX5_spellInto 6 = .ok (.invokevirtual 21, 3) := by decide +kernel
theorem dX5_spellInto_9 : decode cX5_spellInto 9 = .ok (.istore_n 3, 1) := by decide +kernel
theorem dX5_spellInto_10 : decode cX5_spellInto 10 = .ok (.iload_n 3, 1) := by decide +kernel
theorem dX5_spellInto_11 : decode cX5_spellInto 11 = .ok (.aload_n 0, 1) := by decide +kernel
theorem dX5_spellInto_12 : decode cX5_spellInto 12 = .ok (.getfield 9, 3) := by decide +kernel
theorem dX5_spellInto_15 : decode cX5_spellInto 15 = .ok (.if_icmp .ge 21, 3) := by decide +kernel
theorem dX5_spellInto_18 : decode cX5_spellInto 18 = .ok (.aload_n 1, 1) := by decide +kernel
theorem dX5_spellInto_19 : decode cX5_spellInto 19 = .ok (.iload_n 2, 1) := by decide +kernel
theorem dX5_spellInto_20 : decode cX5_spellInto 20 = .ok (.i2l, 1) := by decide +kernel
theorem dX5_spellInto_21 : decode cX5_spellInto 21 = .ok (.aload_n 0, 1) := by decide +kernel
theorem dX5_spellInto_22 : decode cX5_spellInto 22 = .ok (.iload_n 3, 1) := by decide +kernel
theorem dX5_spellInto_23 : decode cX5_spellInto 23 = .ok (.invokevirtual 25, 3) := by decide +kernel
theorem dX5_spellInto_26 : decode cX5_spellInto 26 = .ok (.i2l, 1) := by decide +kernel
theorem dX5_spellInto_27 : decode cX5_spellInto 27 = .ok (.invokevirtual 39, 3) := by decide +kernel
theorem dX5_spellInto_30 : decode cX5_spellInto 30 = .ok (.iinc 3 1, 3) := by decide +kernel
theorem dX5_spellInto_33 : decode cX5_spellInto 33 = .ok (.goto (-23), 3) := by decide +kernel
theorem dX5_spellInto_36 : decode cX5_spellInto 36 = .ok (.aload_n 1, 1) := by decide +kernel
theorem dX5_spellInto_37 : decode cX5_spellInto 37 = .ok (.aload_n 0, 1) := by decide +kernel
theorem dX5_spellInto_38 : decode cX5_spellInto 38 = .ok (.invokevirtual 21, 3) := by decide +kernel
theorem dX5_spellInto_41 : decode cX5_spellInto 41 = .ok (.iconst 1, 1) := by decide +kernel
theorem dX5_spellInto_42 : decode cX5_spellInto 42 = .ok (.if_icmp .ne 7, 3) := by decide +kernel
theorem dX5_spellInto_45 : decode cX5_spellInto 45 = .ok (.iconst 1, 1) := by decide +kernel
theorem dX5_spellInto_46 : decode cX5_spellInto 46 = .ok (.goto 4, 3) := by decide +kernel
theorem dX5_spellInto_49 : decode cX5_spellInto 49 = .ok (.iconst 0, 1) := by decide +kernel
theorem dX5_spellInto_50 : decode cX5_spellInto 50 = .ok (.invokevirtual 43, 3) := by decide +kernel
theorem dX5_spellInto_53 : decode cX5_spellInto 53 = .ok (.return_, 1) := by decide +kernel
def zb_X5_spellInto_10 (w0 : Nat) (w1 : Nat) (w2 : Int32) (g5 : AH) (w3 : Int32) : Option ((AH × Int32) ⊕ (AH)) :=
  (gI g5 w0 5 0).bind fun x6 => (if x6 ≤ w3 then some (Sum.inr g5) else (chk g5 w0 5).bind fun _ => (zs_X5_valueAt g5 w0 w3).bind fun x9 => (chk g5 w1 8).bind fun _ => (zs_X8_grow g5 w1 w2.toInt64 x9.toInt64).bind fun g11 => some (Sum.inl ((g11, w3 + (1 : Int32)))))
def zj_X5_spellInto_50 (g16 : AH) (t0_50 : Int32) (t1_50 : Nat) : Option AH :=
  (chk g16 t1_50 8).bind fun _ => (zs_X8_takeSign g16 t1_50 t0_50).bind fun g18 => some g18
def zs_X5_spellInto (h : AH) (u0 : Nat) (u1 : Nat) (u2 : Int32) : Option AH :=
  (chk h u1 8).bind fun _ => (zs_X8_become h u1 ((0 : Int64))).bind fun g2 => (chk g2 u0 5).bind fun _ => (zs_X5_signs g2 u0).bind fun x4 => (iter (fun q : AH × Int32 => zb_X5_spellInto_10 u0 u1 u2 q.1 q.2) FU ((g2, x4))).bind fun r12 => (chk r12 u0 5).bind fun _ => (zs_X5_signs r12 u0).bind fun x14 => (if x14 = (1 : Int32) then zj_X5_spellInto_50 r12 ((1 : Int32)) u1 else zj_X5_spellInto_50 r12 ((0 : Int32)) u1)
set_option maxRecDepth 100000 in
set_option maxHeartbeats 4000000 in
theorem zm_X5_spellInto (l : Launch) (D : hG) (z : Nat) {h : AH} {u0 : Nat} {u1 : Nat} {u2 : Int32} {h' : AH} (hs : zs_X5_spellInto h u0 u1 u2 = some h') : hC l D z yX5_spellInto cX5_spellInto 4 (Option.none : Option Jvm.ClassFile.FieldType) 2 45 0 0 [.ref u0, .ref u1, .int u2] h h' none := by
  refine hC_of (by decide) (Nat.le_of_ble_eq_true rfl) ?_
  intro p e s m below meth c hx hb hml hrt hlk hown hnm hts hk hr hz ls hl
  replace hown : s.vm.findClass RX5 = some m.cls := hown
  replace hl : lv_has ls 4 [(0, .ref u0), (1, .ref u1), (2, .int u2)] := hl
  have hS : va_S (hA z) s.heap s.heap [] := va_S.rf
  suffices hgo : ∀ (H : Heap) (locs : List Loc), hR D z h H → va_S (hA z) s.heap H locs → W p l e ({ frames := 2, cells := 0, slots := 0, locals := 45 } : Room) s m ([.ref u0, .ref u1, .int u2] : List Value).toArray below meth c H locs 0 0 (MQ below (hQ D z h' none) ([.ref u0, .ref u1, .int u2] : List Value).toArray s 0 0 (hA z)) (F0 m 0 ls []) from hgo _ _ hr hS
  clear hr hS
  intro H locs hr hS
  have hJ50 : ∀ (g16 : AH) (t0_50 : Int32) (t1_50 : Nat) (H : Heap) (locs : List Loc) (ls : Array Slot), zj_X5_spellInto_50 g16 t0_50 t1_50 = some h' → hR D z g16 H → va_S (hA z) s.heap H locs → lv_has ls 4 [] → W p l e ({ frames := 2, cells := 0, slots := 0, locals := 45 } : Room) s m ([.ref u0, .ref u1, .int u2] : List Value).toArray below meth c H locs 0 0 (MQ below (hQ D z h' none) ([.ref u0, .ref u1, .int u2] : List Value).toArray s 0 0 (hA z)) (F0 m 50 ls [.int t0_50, .ref t1_50]) := by
    intro g16 t0_50 t1_50 H locs ls hs hr hS hl
    unfold zj_X5_spellInto_50 at hs
    obtain ⟨_, ex17, hs⟩ := bi_inv hs
    obtain ⟨g18, eg18, hs⟩ := bi_inv hs
    refine hv_V0 (n := 1) [.int t0_50] [] hx hb hml hown hts hk hr hz hS (zm_X8_takeSign l D z eg18) ex17 rfl tw_359 tw_75 tw_76 tw_2 tw_77 (by decide +kernel) (by decide) ⟨(Nat.zero_le _), (Nat.zero_le _)⟩ rfl hl.1 (Nat.le_of_ble_eq_true rfl) dX5_spellInto_50 rfl (fun H locs hr hS => ?_)
    obtain rfl := Option.some.inj hs
    exact hv_vret hx hb hrt hlk hr hS dX5_spellInto_53
  unfold zs_X5_spellInto at hs
  refine lv_aload_n hx hb dX5_spellInto_0 rfl (lv_at hl 1 rfl) ?_
  refine lv_lconst (v := 0) hx hb dX5_spellInto_1 (by decide) ?_
  obtain ⟨_, ex1, hs⟩ := bi_inv hs
  obtain ⟨g2, eg2, hs⟩ := bi_inv hs
  refine hv_V0 (n := 1) [.long ((0 : Int64))] [] hx hb hml hown hts hk hr hz hS (zm_X8_become l D z eg2) ex1 rfl tw_354 tw_66 tw_67 tw_2 tw_68 (by decide +kernel) (by decide) ⟨(Nat.zero_le _), (Nat.zero_le _)⟩ rfl hl.1 (Nat.le_of_ble_eq_true rfl) dX5_spellInto_2 rfl (fun H locs hr hS => ?_)
  refine lv_aload_n hx hb dX5_spellInto_5 rfl (lv_at hl 0 rfl) ?_
  obtain ⟨_, ex3, hs⟩ := bi_inv hs
  obtain ⟨x4, ex4, hs⟩ := bi_inv hs
  refine hv_V1 (n := 0) [] [] hx hb hml hown hts hk hr hz hS (zm_X5_signs l D z ex4) ex3 rfl tw_339 tw_341 ts_0 tw_4 tw_342 (by decide +kernel) (by decide) ⟨(Nat.zero_le _), (Nat.zero_le _)⟩ rfl hl.1 (Nat.le_of_ble_eq_true rfl) dX5_spellInto_6 rfl (fun H locs hr hS => ?_)
  refine lv_istore_n (lv' := [(3, .int x4), (0, .ref u0), (1, .ref u1), (2, .int u2)]) hx hb dX5_spellInto_9 rfl hl (by decide) rfl (fun ls hl => ?_)
  obtain ⟨r12, er12, hs⟩ := bi_inv hs
  refine iter_W (fun (q : AH × Int32) => ∀ (H : Heap) (locs : List Loc) (ls : Array Slot), hR D z q.1 H → va_S (hA z) s.heap H locs → lv_has ls 4 [(0, .ref u0), (1, .ref u1), (2, .int u2), (3, .int q.2)] → W p l e ({ frames := 2, cells := 0, slots := 0, locals := 45 } : Room) s m ([.ref u0, .ref u1, .int u2] : List Value).toArray below meth c H locs 0 0 (MQ below (hQ D z h' none) ([.ref u0, .ref u1, .int u2] : List Value).toArray s 0 0 (hA z)) (F0 m 10 ls [])) (fun (x : AH) => ∀ (H : Heap) (locs : List Loc) (ls : Array Slot), hR D z x H → va_S (hA z) s.heap H locs → lv_has ls 4 [(0, .ref u0), (1, .ref u1)] → W p l e ({ frames := 2, cells := 0, slots := 0, locals := 45 } : Room) s m ([.ref u0, .ref u1, .int u2] : List Value).toArray below meth c H locs 0 0 (MQ below (hQ D z h' none) ([.ref u0, .ref u1, .int u2] : List Value).toArray s 0 0 (hA z)) (F0 m 36 ls [])) ?_ FU _ r12 er12 ?_ H locs ls hr hS (lv_sub hl [1, 2, 3, 0] rfl)
  · intro q o hs hcont hexit
    obtain ⟨g5, w3⟩ := q
    replace hs : zb_X5_spellInto_10 u0 u1 u2 g5 w3 = some o := hs
    intro H locs ls hr hS hl
    unfold zb_X5_spellInto_10 at hs
    refine lv_iload_n hx hb dX5_spellInto_10 rfl (lv_at hl 3 rfl) ?_
    refine lv_aload_n hx hb dX5_spellInto_11 rfl (lv_at hl 0 rfl) ?_
    obtain ⟨x6, ex6, hs⟩ := bi_inv hs
    refine hv_gI (C := RX5) (T := TX5) (N := 2) (ci := 5) hx hb hts inX5 hown hk hr rfl 0 (by decide) (hts _ tw_97) ex6 dX5_spellInto_12 ?_
    refine lv_icmp_ge (tgt := 36) hx hb dX5_spellInto_15 (by decide) (fun c7 => ?_) (fun c7 => ?_)
    · rw [if_pos c7] at hs
      obtain rfl := Option.some.inj hs
      exact hexit _ rfl H locs ls hr hS (lv_sub hl [0, 1] rfl)
    · rw [if_neg c7] at hs
      refine lv_aload_n hx hb dX5_spellInto_18 rfl (lv_at hl 1 rfl) ?_
      refine lv_iload_n hx hb dX5_spellInto_19 rfl (lv_at hl 2 rfl) ?_
      refine lv_i2l hx hb dX5_spellInto_20 rfl ?_
      refine lv_aload_n hx hb dX5_spellInto_21 rfl (lv_at hl 0 rfl) ?_
      refine lv_iload_n hx hb dX5_spellInto_22 rfl (lv_at hl 3 rfl) ?_
      obtain ⟨_, ex8, hs⟩ := bi_inv hs
      obtain ⟨x9, ex9, hs⟩ := bi_inv hs
      refine hv_V1 (n := 1) [.int w3] [.long u2.toInt64, .ref u1] hx hb hml hown hts hk hr hz hS (zm_X5_valueAt l D z ex9) ex8 rfl tw_343 tw_345 ts_1 tw_4 tw_346 (by decide +kernel) (by decide) ⟨(Nat.zero_le _), (Nat.zero_le _)⟩ rfl hl.1 (Nat.le_of_ble_eq_true rfl) dX5_spellInto_23 rfl (fun H locs hr hS => ?_)
      refine lv_i2l hx hb dX5_spellInto_26 rfl ?_
      obtain ⟨_, ex10, hs⟩ := bi_inv hs
      obtain ⟨g11, eg11, hs⟩ := bi_inv hs
      refine hv_V0 (n := 2) [.long u2.toInt64, .long x9.toInt64] [] hx hb hml hown hts hk hr hz hS (zm_X8_grow l D z eg11) ex10 rfl tw_355 tw_356 tw_357 tw_2 tw_358 (by decide +kernel) (by decide) ⟨(Nat.zero_le _), (Nat.zero_le _)⟩ rfl hl.1 (Nat.le_of_ble_eq_true rfl) dX5_spellInto_27 rfl (fun H locs hr hS => ?_)
      refine lv_iinc (v := w3 + (1 : Int32)) (lv' := [(3, .int (w3 + (1 : Int32))), (0, .ref u0), (1, .ref u1), (2, .int u2)]) hx hb dX5_spellInto_30 hl (k := 3) rfl (ii_v _ (by decide)) (by decide) rfl (fun ls hl => ?_)
      refine lv_goto (tgt := 10) hx hb dX5_spellInto_33 (by decide) ?_
      obtain rfl := Option.some.inj hs
      exact hcont _ rfl H locs ls hr hS (lv_sub hl [1, 2, 3, 0] rfl)
  · intro H locs ls hr hS hl
    refine lv_aload_n hx hb dX5_spellInto_36 rfl (lv_at hl 1 rfl) ?_
    refine lv_aload_n hx hb dX5_spellInto_37 rfl (lv_at hl 0 rfl) ?_
    obtain ⟨_, ex13, hs⟩ := bi_inv hs
    obtain ⟨x14, ex14, hs⟩ := bi_inv hs
    refine hv_V1 (n := 0) [] [.ref u1] hx hb hml hown hts hk hr hz hS (zm_X5_signs l D z ex14) ex13 rfl tw_339 tw_341 ts_0 tw_4 tw_342 (by decide +kernel) (by decide) ⟨(Nat.zero_le _), (Nat.zero_le _)⟩ rfl hl.1 (Nat.le_of_ble_eq_true rfl) dX5_spellInto_38 rfl (fun H locs hr hS => ?_)
    refine lv_iconst (v := 1) hx hb dX5_spellInto_41 (by decide) ?_
    refine lv_icmp_ne (tgt := 49) hx hb dX5_spellInto_42 (by decide) (fun c15 => ?_) (fun c15 => ?_)
    · rw [if_neg c15] at hs
      refine lv_iconst (v := 0) hx hb dX5_spellInto_49 (by decide) ?_
      exact hJ50 r12 ((0 : Int32)) u1 H locs ls hs hr hS (lv_sub hl [] rfl)
    · rw [if_pos c15] at hs
      refine lv_iconst (v := 1) hx hb dX5_spellInto_45 (by decide) ?_
      refine lv_goto (tgt := 50) hx hb dX5_spellInto_46 (by decide) ?_
      exact hJ50 r12 ((1 : Int32)) u1 H locs ls hs hr hS (lv_sub hl [] rfl)
theorem dX5_takeBytes_0 : decode cX5_takeBytes 0 = .ok (.aload_n 0, 1) := by decide +kernel
theorem dX5_takeBytes_1 : decode cX5_takeBytes 1 = .ok (.getfield 9, 3) := by decide +kernel
theorem dX5_takeBytes_4 : decode cX5_takeBytes 4 = .ok (.iload_n 3, 1) := by decide +kernel
theorem dX5_takeBytes_5 : decode cX5_takeBytes 5 = .ok (.iadd, 1) := by decide +kernel
theorem dX5_takeBytes_6 : decode cX5_takeBytes 6 = .ok (.bipush 120, 2) := by decide +kernel
theorem dX5_takeBytes_8 : decode cX5_takeBytes 8 = .ok (.if_icmp .le 5, 3) := by decide +kernel
theorem dX5_takeBytes_11 : decode cX5_takeBytes 11 = .ok (.iconst 0, 1) := by decide +kernel
theorem dX5_takeBytes_12 : decode cX5_takeBytes 12 = .ok (.ireturn, 1) := by decide +kernel
theorem dX5_takeBytes_13 : decode cX5_takeBytes 13 = .ok (.iload_n 3, 1) := by decide +kernel
theorem dX5_takeBytes_14 : decode cX5_takeBytes 14 = .ok (.iconst 1, 1) := by decide +kernel
theorem dX5_takeBytes_15 : decode cX5_takeBytes 15 = .ok (.isub, 1) := by decide +kernel
theorem dX5_takeBytes_16 : decode cX5_takeBytes 16 = .ok (.istore 4, 2) := by decide +kernel
theorem dX5_takeBytes_18 : decode cX5_takeBytes 18 = .ok (.iload 4, 2) := by decide +kernel
theorem dX5_takeBytes_20 : decode cX5_takeBytes 20 = .ok (.ifCond .lt 40, 3) := by decide +kernel
theorem dX5_takeBytes_23 : decode cX5_takeBytes 23 = .ok (.aload_n 0, 1) := by decide +kernel
theorem dX5_takeBytes_24 : decode cX5_takeBytes 24 = .ok (.getfield 15, 3) := by decide +kernel
theorem dX5_takeBytes_27 : decode cX5_takeBytes 27 = .ok (.aload_n 0, 1) := by decide +kernel
theorem dX5_takeBytes_28 : decode cX5_takeBytes 28 = .ok (.getfield 9, 3) := by decide +kernel
theorem dX5_takeBytes_31 : decode cX5_takeBytes 31 = .ok (.lload_n 1, 1) := by decide +kernel
theorem dX5_takeBytes_32 : decode cX5_takeBytes 32 = .ok (.bipush 8, 2) := by decide +kernel
theorem dX5_takeBytes_34 : decode cX5_takeBytes 34 = .ok (.iload 4, 2) := by decide +kernel
theorem dX5_takeBytes_36 : decode cX5_takeBytes 36 = .ok (.imul, 1) := by decide +kernel
theorem dX5_takeBytes_37 : decode cX5_takeBytes 37 = .ok (.lushr, 1) := by decide +kernel
theorem dX5_takeBytes_38 : decode cX5_takeBytes 38 = .ok (.ldc2_w 19, 3) := by decide +kernel
theorem dX5_takeBytes_41 : decode cX5_takeBytes 41 = .ok (.land, 1) := by decide +kernel
theorem dX5_takeBytes_42 : decode cX5_takeBytes 42 = .ok (.l2i, 1) := by decide +kernel
theorem dX5_takeBytes_43 : decode cX5_takeBytes 43 = .ok (.iastore, 1) := by decide +kernel
theorem dX5_takeBytes_44 : decode cX5_takeBytes 44 = .ok (.aload_n 0, 1) := by decide +kernel
theorem dX5_takeBytes_45 : decode cX5_takeBytes 45 = .ok (.dup, 1) := by decide +kernel
theorem dX5_takeBytes_46 : decode cX5_takeBytes 46 = .ok (.getfield 9, 3) := by decide +kernel
theorem dX5_takeBytes_49 : decode cX5_takeBytes 49 = .ok (.iconst 1, 1) := by decide +kernel
theorem dX5_takeBytes_50 : decode cX5_takeBytes 50 = .ok (.iadd, 1) := by decide +kernel
theorem dX5_takeBytes_51 : decode cX5_takeBytes 51 = .ok (.putfield 9, 3) := by decide +kernel
theorem dX5_takeBytes_54 : decode cX5_takeBytes 54 = .ok (.iinc 4 (-1), 3) := by decide +kernel
theorem dX5_takeBytes_57 : decode cX5_takeBytes 57 = .ok (.goto (-39), 3) := by decide +kernel
theorem dX5_takeBytes_60 : decode cX5_takeBytes 60 = .ok (.iconst 1, 1) := by decide +kernel
theorem dX5_takeBytes_61 : decode cX5_takeBytes 61 = .ok (.ireturn, 1) := by decide +kernel
def zb_X5_takeBytes_18 (w0 : Nat) (w1 : Int64) (g4 : AH) (w4 : Int32) : Option ((AH × Int32) ⊕ (AH)) :=
  (if w4 < 0 then some (Sum.inr g4) else (gR g4 w0 5 1).bind fun x6 => (gI g4 w0 5 0).bind fun x7 => (sI g4 x6 0 x7 ((((w1.toUInt64 >>> ((((8 : Int32)) * w4).toInt64.toUInt64 &&& Int64.toUInt64 63)).toInt64) &&& ((255 : Int64))).toInt32)).bind fun g8 => (gI g8 w0 5 0).bind fun x9 => (pV g8 w0 5 0 (.int (x9 + ((1 : Int32))))).bind fun g10 => some (Sum.inl ((g10, w4 + (-1 : Int32)))))
def zs_X5_takeBytes (h : AH) (u0 : Nat) (u1 : Int64) (u3 : Int32) : Option (Int32 × AH) :=
  (gI h u0 5 0).bind fun x1 => (if x1 + u3 ≤ (120 : Int32) then lt_ (u3 - ((1 : Int32))) fun x3 => (iter (fun q : AH × Int32 => zb_X5_takeBytes_18 u0 u1 q.1 q.2) FU ((h, x3))).bind fun r11 => some ((1 : Int32), r11) else some ((0 : Int32), h))
set_option maxRecDepth 100000 in
set_option maxHeartbeats 4000000 in
theorem zm_X5_takeBytes (l : Launch) (D : hG) (z : Nat) {h : AH} {u0 : Nat} {u1 : Int64} {u3 : Int32} {r : Int32} {h' : AH} (hs : zs_X5_takeBytes h u0 u1 u3 = some (r, h')) : hC l D z yX5_takeBytes cX5_takeBytes 5 (Option.some Jvm.ClassFile.FieldType.boolean) 0 0 0 0 [.ref u0, .long u1, .int u3] h h' (some (.int r)) := by
  refine hC_of (by decide) (Nat.le_of_ble_eq_true rfl) ?_
  intro p e s m below meth c hx hb hml hrt hlk hown hnm hts hk hr hz ls hl
  replace hown : s.vm.findClass RX5 = some m.cls := hown
  replace hl : lv_has ls 5 [(0, .ref u0), (1, .long u1), (3, .int u3)] := hl
  have hS : va_S (hA z) s.heap s.heap [] := va_S.rf
  suffices hgo : ∀ (H : Heap) (locs : List Loc), hR D z h H → va_S (hA z) s.heap H locs → W p l e ({ frames := 0, cells := 0, slots := 0, locals := 0 } : Room) s m ([.ref u0, .long u1, .int u3] : List Value).toArray below meth c H locs 0 0 (MQ below (hQ D z h' (some (.int r))) ([.ref u0, .long u1, .int u3] : List Value).toArray s 0 0 (hA z)) (F0 m 0 ls []) from hgo _ _ hr hS
  clear hr hS
  intro H locs hr hS
  unfold zs_X5_takeBytes at hs
  refine lv_aload_n hx hb dX5_takeBytes_0 rfl (lv_at hl 0 rfl) ?_
  obtain ⟨x1, ex1, hs⟩ := bi_inv hs
  refine hv_gI (C := RX5) (T := TX5) (N := 2) (ci := 5) hx hb hts inX5 hown hk hr rfl 0 (by decide) (hts _ tw_97) ex1 dX5_takeBytes_1 ?_
  refine lv_iload_n hx hb dX5_takeBytes_4 rfl (lv_at hl 2 rfl) ?_
  refine lv_iadd hx hb dX5_takeBytes_5 ?_
  refine lv_bipush (v := 120) hx hb dX5_takeBytes_6 (by decide) ?_
  refine lv_icmp_le (tgt := 13) hx hb dX5_takeBytes_8 (by decide) (fun c2 => ?_) (fun c2 => ?_)
  · rw [if_pos c2] at hs
    refine lv_iload_n hx hb dX5_takeBytes_13 rfl (lv_at hl 2 rfl) ?_
    refine lv_iconst (v := 1) hx hb dX5_takeBytes_14 (by decide) ?_
    refine lv_isub hx hb dX5_takeBytes_15 ?_
    refine lv_topi (fun x3 ex3 => ?_)
    replace hs := lt_inv hs x3 ex3
    refine lv_istore (lv' := [(4, .int x3), (0, .ref u0), (1, .long u1), (3, .int u3)]) hx hb dX5_takeBytes_16 hl (by decide) rfl (fun ls hl => ?_)
    obtain ⟨r11, er11, hs⟩ := bi_inv hs
    refine iter_W (fun (q : AH × Int32) => ∀ (H : Heap) (locs : List Loc) (ls : Array Slot), hR D z q.1 H → va_S (hA z) s.heap H locs → lv_has ls 5 [(0, .ref u0), (1, .long u1), (4, .int q.2)] → W p l e ({ frames := 0, cells := 0, slots := 0, locals := 0 } : Room) s m ([.ref u0, .long u1, .int u3] : List Value).toArray below meth c H locs 0 0 (MQ below (hQ D z h' (some (.int r))) ([.ref u0, .long u1, .int u3] : List Value).toArray s 0 0 (hA z)) (F0 m 18 ls [])) (fun (x : AH) => ∀ (H : Heap) (locs : List Loc) (ls : Array Slot), hR D z x H → va_S (hA z) s.heap H locs → lv_has ls 5 [] → W p l e ({ frames := 0, cells := 0, slots := 0, locals := 0 } : Room) s m ([.ref u0, .long u1, .int u3] : List Value).toArray below meth c H locs 0 0 (MQ below (hQ D z h' (some (.int r))) ([.ref u0, .long u1, .int u3] : List Value).toArray s 0 0 (hA z)) (F0 m 60 ls [])) ?_ FU _ r11 er11 ?_ H locs ls hr hS (lv_sub hl [1, 2, 0] rfl)
    · intro q o hs hcont hexit
      obtain ⟨g4, w4⟩ := q
      replace hs : zb_X5_takeBytes_18 u0 u1 g4 w4 = some o := hs
      intro H locs ls hr hS hl
      unfold zb_X5_takeBytes_18 at hs
      refine lv_iload hx hb dX5_takeBytes_18 (lv_at hl 2 rfl) ?_
      refine lv_if_lt (tgt := 60) hx hb dX5_takeBytes_20 (by decide) (fun c5 => ?_) (fun c5 => ?_)
      · rw [if_pos c5] at hs
        obtain rfl := Option.some.inj hs
        exact hexit _ rfl H locs ls hr hS (lv_sub hl [] rfl)
      · rw [if_neg c5] at hs
        refine lv_aload_n hx hb dX5_takeBytes_23 rfl (lv_at hl 0 rfl) ?_
        obtain ⟨x6, ex6, hs⟩ := bi_inv hs
        refine hv_gR (C := RX5) (T := TX5) (N := 2) (ci := 5) hx hb hts inX5 hown hk hr rfl 1 (by decide) (hts _ tw_99) ex6 dX5_takeBytes_24 ?_
        refine lv_aload_n hx hb dX5_takeBytes_27 rfl (lv_at hl 0 rfl) ?_
        obtain ⟨x7, ex7, hs⟩ := bi_inv hs
        refine hv_gI (C := RX5) (T := TX5) (N := 2) (ci := 5) hx hb hts inX5 hown hk hr rfl 0 (by decide) (hts _ tw_97) ex7 dX5_takeBytes_28 ?_
        refine lv_lload_n hx hb dX5_takeBytes_31 rfl (lv_at hl 1 rfl) ?_
        refine lv_bipush (v := 8) hx hb dX5_takeBytes_32 (by decide) ?_
        refine lv_iload hx hb dX5_takeBytes_34 (lv_at hl 2 rfl) ?_
        refine lv_imul hx hb dX5_takeBytes_36 ?_
        refine lv_lushr hx hb dX5_takeBytes_37 rfl ?_
        refine lv_ldc2 hx hb hown (hts _ tw_327) dX5_takeBytes_38 ?_
        refine lv_land hx hb dX5_takeBytes_41 ?_
        refine lv_l2i hx hb dX5_takeBytes_42 rfl ?_
        obtain ⟨g8, eg8, hs⟩ := bi_inv hs
        refine hv_sI hx hb hk hr hS eg8 dX5_takeBytes_43 (fun H locs hr hS => ?_)
        refine lv_aload_n hx hb dX5_takeBytes_44 rfl (lv_at hl 0 rfl) ?_
        refine lv_dup hx hb dX5_takeBytes_45 rfl ?_
        obtain ⟨x9, ex9, hs⟩ := bi_inv hs
        refine hv_gI (C := RX5) (T := TX5) (N := 2) (ci := 5) hx hb hts inX5 hown hk hr rfl 0 (by decide) (hts _ tw_97) ex9 dX5_takeBytes_46 ?_
        refine lv_iconst (v := 1) hx hb dX5_takeBytes_49 (by decide) ?_
        refine lv_iadd hx hb dX5_takeBytes_50 ?_
        obtain ⟨g10, eg10, hs⟩ := bi_inv hs
        refine hv_pV (C := RX5) (T := TX5) (N := 2) (ci := 5) hx hb hts inX5 tyX5 tyX5_ok nmX5 hown hk hr hS rfl 0 (by decide) (hts _ tw_97) rfl rfl rfl eg10 dX5_takeBytes_51 (fun H locs hr hS => ?_)
        refine lv_iinc (v := w4 + (-1 : Int32)) (lv' := [(4, .int (w4 + (-1 : Int32))), (0, .ref u0), (1, .long u1)]) hx hb dX5_takeBytes_54 hl (k := 2) rfl (ii_v _ (by decide)) (by decide) rfl (fun ls hl => ?_)
        refine lv_goto (tgt := 18) hx hb dX5_takeBytes_57 (by decide) ?_
        obtain rfl := Option.some.inj hs
        exact hcont _ rfl H locs ls hr hS (lv_sub hl [1, 2, 0] rfl)
    · intro H locs ls hr hS hl
      refine lv_iconst (v := 1) hx hb dX5_takeBytes_60 (by decide) ?_
      obtain ⟨rfl, rfl⟩ := Prod.mk.inj (Option.some.inj hs)
      exact hv_zret hx hb hrt hlk hr hS (by decide) dX5_takeBytes_61
  · rw [if_neg c2] at hs
    refine lv_iconst (v := 0) hx hb dX5_takeBytes_11 (by decide) ?_
    obtain ⟨rfl, rfl⟩ := Prod.mk.inj (Option.some.inj hs)
    exact hv_zret hx hb hrt hlk hr hS (by decide) dX5_takeBytes_12
theorem dX5_wrongPlace_0 : decode cX5_wrongPlace 0 = .ok (.aload_n 0, 1) := by decide +kernel
theorem dX5_wrongPlace_1 : decode cX5_wrongPlace 1 = .ok (.invokevirtual 21, 3) := by decide +kernel
theorem dX5_wrongPlace_4 : decode cX5_wrongPlace 4 = .ok (.istore_n 2, 1) := by decide +kernel
theorem dX5_wrongPlace_5 : decode cX5_wrongPlace 5 = .ok (.iload_n 2, 1) := by decide +kernel
theorem dX5_wrongPlace_6 : decode cX5_wrongPlace 6 = .ok (.aload_n 0, 1) := by decide +kernel
theorem dX5_wrongPlace_7 : decode cX5_wrongPlace 7 = .ok (.getfield 9, 3) := by decide +kernel
theorem dX5_wrongPlace_10 : decode cX5_wrongPlace 10 = .ok (.if_icmp .ne 8, 3) := by decide +kernel
theorem dX5_wrongPlace_13 : decode cX5_wrongPlace 13 = .ok (.aload_n 0, 1) := by decide +kernel
theorem dX5_wrongPlace_14 : decode cX5_wrongPlace 14 = .ok (.getfield 9, 3) := by decide +kernel
theorem dX5_wrongPlace_17 : decode cX5_wrongPlace 17 = .ok (.ireturn, 1) := by decide +kernel
theorem dX5_wrongPlace_18 : decode cX5_wrongPlace 18 = .ok (.iload_n 2, 1) := by decide +kernel
theorem dX5_wrongPlace_19 : decode cX5_wrongPlace 19 = .ok (.istore_n 3, 1) := by decide +kernel
theorem dX5_wrongPlace_20 : decode cX5_wrongPlace 20 = .ok (.iload_n 3, 1) := by decide +kernel
theorem dX5_wrongPlace_21 : decode cX5_wrongPlace 21 = .ok (.aload_n 0, 1) := by decide +kernel
theorem dX5_wrongPlace_22 : decode cX5_wrongPlace 22 = .ok (.getfield 9, 3) := by decide +kernel
theorem dX5_wrongPlace_25 : decode cX5_wrongPlace 25 = .ok (.if_icmp .ge 23, 3) := by decide +kernel
theorem dX5_wrongPlace_28 : decode cX5_wrongPlace 28 = .ok (.aload_n 0, 1) := by decide +kernel
theorem dX5_wrongPlace_29 : decode cX5_wrongPlace 29 = .ok (.iload_n 3, 1) := by decide +kernel
theorem dX5_wrongPlace_30 : decode cX5_wrongPlace 30 = .ok (.invokevirtual 25, 3) := by decide +kernel
theorem dX5_wrongPlace_33 : decode cX5_wrongPlace 33 = .ok (.iload_n 1, 1) := by decide +kernel
theorem dX5_wrongPlace_34 : decode cX5_wrongPlace 34 = .ok (.invokestatic 29, 3) := by decide +kernel
theorem dX5_wrongPlace_37 : decode cX5_wrongPlace 37 = .ok (.ifCond .ne 5, 3) := by decide +kernel
theorem dX5_wrongPlace_40 : decode cX5_wrongPlace 40 = .ok (.iload_n 3, 1) := by decide +kernel
theorem dX5_wrongPlace_41 : decode cX5_wrongPlace 41 = .ok (.ireturn, 1) := by decide +kernel
theorem dX5_wrongPlace_42 : decode cX5_wrongPlace 42 = .ok (.iinc 3 1, 3) := by decide +kernel
theorem dX5_wrongPlace_45 : decode cX5_wrongPlace 45 = .ok (.goto (-25), 3) := by decide +kernel
theorem dX5_wrongPlace_48 : decode cX5_wrongPlace 48 = .ok (.iconst (-1), 1) := by decide +kernel
theorem dX5_wrongPlace_49 : decode cX5_wrongPlace 49 = .ok (.ireturn, 1) := by decide +kernel
def zb_X5_wrongPlace_20 (h : AH) (w0 : Nat) (w1 : Int32) (w3 : Int32) : Option ((Int32) ⊕ (Int32 ⊕ Unit)) :=
  (gI h w0 5 0).bind fun x5 => (if x5 ≤ w3 then some (Sum.inr ((Sum.inr (())))) else (chk h w0 5).bind fun _ => (zs_X5_valueAt h w0 w3).bind fun x8 => (zs_X5_isDigit h x8 w1).bind fun x9 => (if x9 = 0 then some (Sum.inr ((Sum.inl w3))) else some (Sum.inl (w3 + (1 : Int32)))))
def zs_X5_wrongPlace (h : AH) (u0 : Nat) (u1 : Int32) : Option Int32 :=
  (chk h u0 5).bind fun _ => (zs_X5_signs h u0).bind fun x2 => (gI h u0 5 0).bind fun x3 => (if x2 = x3 then (gI h u0 5 0).bind fun x14 => some x14 else (iter (fun q : Int32 => zb_X5_wrongPlace_20 h u0 u1 q) FU x2).bind fun r11 => (match r11 with | .inl r12 => some r12 | .inr r13 => some ((-1 : Int32))))
set_option maxRecDepth 100000 in
set_option maxHeartbeats 4000000 in
theorem zm_X5_wrongPlace (l : Launch) (D : hG) (z : Nat) {h : AH} {u0 : Nat} {u1 : Int32} {r : Int32} (hs : zs_X5_wrongPlace h u0 u1 = some r) : hC l D z yX5_wrongPlace cX5_wrongPlace 4 (Option.some Jvm.ClassFile.FieldType.int) 1 22 0 0 [.ref u0, .int u1] h h (some (.int r)) := by
  refine hC_of (by decide) (Nat.le_of_ble_eq_true rfl) ?_
  intro p e s m below meth c hx hb hml hrt hlk hown hnm hts hk hr hz ls hl
  replace hown : s.vm.findClass RX5 = some m.cls := hown
  replace hl : lv_has ls 4 [(0, .ref u0), (1, .int u1)] := hl
  have hS : va_S (hA z) s.heap s.heap [] := va_S.rf
  suffices hgo : ∀ (H : Heap) (locs : List Loc), hR D z h H → va_S (hA z) s.heap H locs → W p l e ({ frames := 1, cells := 0, slots := 0, locals := 22 } : Room) s m ([.ref u0, .int u1] : List Value).toArray below meth c H locs 0 0 (MQ below (hQ D z h (some (.int r))) ([.ref u0, .int u1] : List Value).toArray s 0 0 (hA z)) (F0 m 0 ls []) from hgo _ _ hr hS
  clear hr hS
  intro H locs hr hS
  unfold zs_X5_wrongPlace at hs
  refine lv_aload_n hx hb dX5_wrongPlace_0 rfl (lv_at hl 0 rfl) ?_
  obtain ⟨_, ex1, hs⟩ := bi_inv hs
  obtain ⟨x2, ex2, hs⟩ := bi_inv hs
  refine hv_V1 (n := 0) [] [] hx hb hml hown hts hk hr hz hS (zm_X5_signs l D z ex2) ex1 rfl tw_339 tw_341 ts_0 tw_4 tw_342 (by decide +kernel) (by decide) ⟨(Nat.zero_le _), (Nat.zero_le _)⟩ rfl hl.1 (Nat.le_of_ble_eq_true rfl) dX5_wrongPlace_1 rfl (fun H locs hr hS => ?_)
  refine lv_istore_n (lv' := [(2, .int x2), (0, .ref u0), (1, .int u1)]) hx hb dX5_wrongPlace_4 rfl hl (by decide) rfl (fun ls hl => ?_)
  refine lv_iload_n hx hb dX5_wrongPlace_5 rfl (lv_at hl 0 rfl) ?_
  refine lv_aload_n hx hb dX5_wrongPlace_6 rfl (lv_at hl 1 rfl) ?_
  obtain ⟨x3, ex3, hs⟩ := bi_inv hs
  refine hv_gI (C := RX5) (T := TX5) (N := 2) (ci := 5) hx hb hts inX5 hown hk hr rfl 0 (by decide) (hts _ tw_97) ex3 dX5_wrongPlace_7 ?_
  refine lv_icmp_ne (tgt := 18) hx hb dX5_wrongPlace_10 (by decide) (fun c4 => ?_) (fun c4 => ?_)
  · rw [if_neg c4] at hs
    refine lv_iload_n hx hb dX5_wrongPlace_18 rfl (lv_at hl 0 rfl) ?_
    refine lv_istore_n (lv' := [(3, .int x2), (2, .int x2), (0, .ref u0), (1, .int u1)]) hx hb dX5_wrongPlace_19 rfl hl (by decide) rfl (fun ls hl => ?_)
    obtain ⟨r11, er11, hs⟩ := bi_inv hs
    refine iter_W (fun (q : Int32) => ∀ (H : Heap) (locs : List Loc) (ls : Array Slot), hR D z h H → va_S (hA z) s.heap H locs → lv_has ls 4 [(0, .ref u0), (1, .int u1), (3, .int q)] → W p l e ({ frames := 1, cells := 0, slots := 0, locals := 22 } : Room) s m ([.ref u0, .int u1] : List Value).toArray below meth c H locs 0 0 (MQ below (hQ D z h (some (.int r))) ([.ref u0, .int u1] : List Value).toArray s 0 0 (hA z)) (F0 m 20 ls [])) (fun (x : Int32 ⊕ Unit) => (Sum.elim (fun x => ∀ (H : Heap) (locs : List Loc) (ls : Array Slot), hR D z h H → va_S (hA z) s.heap H locs → lv_has ls 4 [(3, .int x)] → W p l e ({ frames := 1, cells := 0, slots := 0, locals := 22 } : Room) s m ([.ref u0, .int u1] : List Value).toArray below meth c H locs 0 0 (MQ below (hQ D z h (some (.int r))) ([.ref u0, .int u1] : List Value).toArray s 0 0 (hA z)) (F0 m 40 ls [])) (fun x => ∀ (H : Heap) (locs : List Loc) (ls : Array Slot), hR D z h H → va_S (hA z) s.heap H locs → lv_has ls 4 [] → W p l e ({ frames := 1, cells := 0, slots := 0, locals := 22 } : Room) s m ([.ref u0, .int u1] : List Value).toArray below meth c H locs 0 0 (MQ below (hQ D z h (some (.int r))) ([.ref u0, .int u1] : List Value).toArray s 0 0 (hA z)) (F0 m 48 ls []))) x) ?_ FU _ r11 er11 ?_ H locs ls hr hS (lv_sub hl [2, 3, 0] rfl)
    · intro q o hs hcont hexit
      obtain ⟨w3, rfl⟩ : ∃ q2, q2 = q := ⟨_, rfl⟩
      replace hs : zb_X5_wrongPlace_20 h u0 u1 w3 = some o := hs
      intro H locs ls hr hS hl
      unfold zb_X5_wrongPlace_20 at hs
      refine lv_iload_n hx hb dX5_wrongPlace_20 rfl (lv_at hl 2 rfl) ?_
      refine lv_aload_n hx hb dX5_wrongPlace_21 rfl (lv_at hl 0 rfl) ?_
      obtain ⟨x5, ex5, hs⟩ := bi_inv hs
      refine hv_gI (C := RX5) (T := TX5) (N := 2) (ci := 5) hx hb hts inX5 hown hk hr rfl 0 (by decide) (hts _ tw_97) ex5 dX5_wrongPlace_22 ?_
      refine lv_icmp_ge (tgt := 48) hx hb dX5_wrongPlace_25 (by decide) (fun c6 => ?_) (fun c6 => ?_)
      · rw [if_pos c6] at hs
        obtain rfl := Option.some.inj hs
        exact hexit _ rfl H locs ls hr hS (lv_sub hl [] rfl)
      · rw [if_neg c6] at hs
        refine lv_aload_n hx hb dX5_wrongPlace_28 rfl (lv_at hl 0 rfl) ?_
        refine lv_iload_n hx hb dX5_wrongPlace_29 rfl (lv_at hl 2 rfl) ?_
        obtain ⟨_, ex7, hs⟩ := bi_inv hs
        obtain ⟨x8, ex8, hs⟩ := bi_inv hs
        refine hv_V1 (n := 1) [.int w3] [] hx hb hml hown hts hk hr hz hS (zm_X5_valueAt l D z ex8) ex7 rfl tw_343 tw_345 ts_1 tw_4 tw_346 (by decide +kernel) (by decide) ⟨(Nat.zero_le _), (Nat.zero_le _)⟩ rfl hl.1 (Nat.le_of_ble_eq_true rfl) dX5_wrongPlace_30 rfl (fun H locs hr hS => ?_)
        refine lv_iload_n hx hb dX5_wrongPlace_33 rfl (lv_at hl 1 rfl) ?_
        obtain ⟨x9, ex9, hs⟩ := bi_inv hs
        refine hv_S1 (n := 2) [.int x8, .int u1] [] hx hb hml hown hts hk hr hz hS (zm_X5_isDigit l D z ex9) tw_347 tw_348 tw_4 tw_349 (by decide +kernel) (by decide) ⟨(Nat.zero_le _), (Nat.zero_le _)⟩ rfl hl.1 (Nat.le_of_ble_eq_true rfl) dX5_wrongPlace_34 rfl (fun H locs hr hS => ?_)
        refine lv_if_ne (tgt := 42) hx hb dX5_wrongPlace_37 (by decide) (fun c10 => ?_) (fun c10 => ?_)
        · rw [if_neg c10] at hs
          refine lv_iinc (v := w3 + (1 : Int32)) (lv' := [(3, .int (w3 + (1 : Int32))), (0, .ref u0), (1, .int u1)]) hx hb dX5_wrongPlace_42 hl (k := 2) rfl (ii_v _ (by decide)) (by decide) rfl (fun ls hl => ?_)
          refine lv_goto (tgt := 20) hx hb dX5_wrongPlace_45 (by decide) ?_
          obtain rfl := Option.some.inj hs
          exact hcont _ rfl H locs ls hr hS (lv_sub hl [1, 2, 0] rfl)
        · rw [if_pos c10] at hs
          obtain rfl := Option.some.inj hs
          exact hexit _ rfl H locs ls hr hS (lv_sub hl [2] rfl)
    · cases r11 with
      | inl r12 =>
        intro H locs ls hr hS hl
        replace hs := hs
        dsimp only at hs
        refine lv_iload_n hx hb dX5_wrongPlace_40 rfl (lv_at hl 0 rfl) ?_
        obtain rfl := Option.some.inj hs
        exact hv_iret hx hb hrt hlk hr hS dX5_wrongPlace_41
      | inr r13 =>
        dsimp only at hs
        intro H locs ls hr hS hl
        refine lv_iconst (v := (-1)) hx hb dX5_wrongPlace_48 (by decide) ?_
        obtain rfl := Option.some.inj hs
        exact hv_iret hx hb hrt hlk hr hS dX5_wrongPlace_49
  · rw [if_pos c4] at hs
    refine lv_aload_n hx hb dX5_wrongPlace_13 rfl (lv_at hl 1 rfl) ?_
    obtain ⟨x14, ex14, hs⟩ := bi_inv hs
    refine hv_gI (C := RX5) (T := TX5) (N := 2) (ci := 5) hx hb hts inX5 hown hk hr rfl 0 (by decide) (hts _ tw_97) ex14 dX5_wrongPlace_14 ?_
    obtain rfl := Option.some.inj hs
    exact hv_iret hx hb hrt hlk hr hS dX5_wrongPlace_17
theorem dX6_add_0 : decode cX6_add 0 = .ok (.aload_n 0, 1) := by decide +kernel
theorem dX6_add_1 : decode cX6_add 1 = .ok (.getfield 9, 3) := by decide +kernel
theorem dX6_add_4 : decode cX6_add 4 = .ok (.sipush 385, 3) := by decide +kernel
theorem dX6_add_7 : decode cX6_add 7 = .ok (.if_icmp .ge 23, 3) := by decide +kernel
theorem dX6_add_10 : decode cX6_add 10 = .ok (.aload_n 0, 1) := by decide +kernel
theorem dX6_add_11 : decode cX6_add 11 = .ok (.getfield 15, 3) := by decide +kernel
theorem dX6_add_14 : decode cX6_add 14 = .ok (.aload_n 0, 1) := by decide +kernel
theorem dX6_add_15 : decode cX6_add 15 = .ok (.getfield 9, 3) := by decide +kernel
theorem dX6_add_18 : decode cX6_add 18 = .ok (.iload_n 1, 1) := by decide +kernel
theorem dX6_add_19 : decode cX6_add 19 = .ok (.iastore, 1) := by decide +kernel
theorem dX6_add_20 : decode cX6_add 20 = .ok (.aload_n 0, 1) := by decide +kernel
theorem dX6_add_21 : decode cX6_add 21 = .ok (.dup, 1) := by decide +kernel
theorem dX6_add_22 : decode cX6_add 22 = .ok (.getfield 9, 3) := by decide +kernel
theorem dX6_add_25 : decode cX6_add 25 = .ok (.iconst 1, 1) := by decide +kernel
theorem dX6_add_26 : decode cX6_add 26 = .ok (.iadd, 1) := by decide +kernel
theorem dX6_add_27 : decode cX6_add 27 = .ok (.putfield 9, 3) := by decide +kernel
theorem dX6_add_30 : decode cX6_add 30 = .ok (.return_, 1) := by decide +kernel
def zs_X6_add (h : AH) (u0 : Nat) (u1 : Int32) : Option AH :=
  (gI h u0 6 0).bind fun x1 => (if (385 : Int32) ≤ x1 then some h else (gR h u0 6 1).bind fun x3 => (gI h u0 6 0).bind fun x4 => (sI h x3 0 x4 u1).bind fun g5 => (gI g5 u0 6 0).bind fun x6 => (pV g5 u0 6 0 (.int (x6 + ((1 : Int32))))).bind fun g7 => some g7)
set_option maxRecDepth 100000 in
set_option maxHeartbeats 4000000 in
theorem zm_X6_add (l : Launch) (D : hG) (z : Nat) {h : AH} {u0 : Nat} {u1 : Int32} {h' : AH} (hs : zs_X6_add h u0 u1 = some h') : hC l D z yX6_add cX6_add 2 (Option.none : Option Jvm.ClassFile.FieldType) 0 0 0 0 [.ref u0, .int u1] h h' none := by
  refine hC_of (by decide) (Nat.le_of_ble_eq_true rfl) ?_
  intro p e s m below meth c hx hb hml hrt hlk hown hnm hts hk hr hz ls hl
  replace hown : s.vm.findClass RX6 = some m.cls := hown
  replace hl : lv_has ls 2 [(0, .ref u0), (1, .int u1)] := hl
  have hS : va_S (hA z) s.heap s.heap [] := va_S.rf
  suffices hgo : ∀ (H : Heap) (locs : List Loc), hR D z h H → va_S (hA z) s.heap H locs → W p l e ({ frames := 0, cells := 0, slots := 0, locals := 0 } : Room) s m ([.ref u0, .int u1] : List Value).toArray below meth c H locs 0 0 (MQ below (hQ D z h' none) ([.ref u0, .int u1] : List Value).toArray s 0 0 (hA z)) (F0 m 0 ls []) from hgo _ _ hr hS
  clear hr hS
  intro H locs hr hS
  unfold zs_X6_add at hs
  refine lv_aload_n hx hb dX6_add_0 rfl (lv_at hl 0 rfl) ?_
  obtain ⟨x1, ex1, hs⟩ := bi_inv hs
  refine hv_gI (C := RX6) (T := TX6) (N := 3) (ci := 6) hx hb hts inX6 hown hk hr rfl 0 (by decide) (hts _ tw_114) ex1 dX6_add_1 ?_
  refine lv_sipush (v := 385) hx hb dX6_add_4 (by decide) ?_
  refine lv_icmp_ge (tgt := 30) hx hb dX6_add_7 (by decide) (fun c2 => ?_) (fun c2 => ?_)
  · rw [if_pos c2] at hs
    obtain rfl := Option.some.inj hs
    exact hv_vret hx hb hrt hlk hr hS dX6_add_30
  · rw [if_neg c2] at hs
    refine lv_aload_n hx hb dX6_add_10 rfl (lv_at hl 0 rfl) ?_
    obtain ⟨x3, ex3, hs⟩ := bi_inv hs
    refine hv_gR (C := RX6) (T := TX6) (N := 3) (ci := 6) hx hb hts inX6 hown hk hr rfl 1 (by decide) (hts _ tw_116) ex3 dX6_add_11 ?_
    refine lv_aload_n hx hb dX6_add_14 rfl (lv_at hl 0 rfl) ?_
    obtain ⟨x4, ex4, hs⟩ := bi_inv hs
    refine hv_gI (C := RX6) (T := TX6) (N := 3) (ci := 6) hx hb hts inX6 hown hk hr rfl 0 (by decide) (hts _ tw_114) ex4 dX6_add_15 ?_
    refine lv_iload_n hx hb dX6_add_18 rfl (lv_at hl 1 rfl) ?_
    obtain ⟨g5, eg5, hs⟩ := bi_inv hs
    refine hv_sI hx hb hk hr hS eg5 dX6_add_19 (fun H locs hr hS => ?_)
    refine lv_aload_n hx hb dX6_add_20 rfl (lv_at hl 0 rfl) ?_
    refine lv_dup hx hb dX6_add_21 rfl ?_
    obtain ⟨x6, ex6, hs⟩ := bi_inv hs
    refine hv_gI (C := RX6) (T := TX6) (N := 3) (ci := 6) hx hb hts inX6 hown hk hr rfl 0 (by decide) (hts _ tw_114) ex6 dX6_add_22 ?_
    refine lv_iconst (v := 1) hx hb dX6_add_25 (by decide) ?_
    refine lv_iadd hx hb dX6_add_26 ?_
    obtain ⟨g7, eg7, hs⟩ := bi_inv hs
    refine hv_pV (C := RX6) (T := TX6) (N := 3) (ci := 6) hx hb hts inX6 tyX6 tyX6_ok nmX6 hown hk hr hS rfl 0 (by decide) (hts _ tw_114) rfl rfl rfl eg7 dX6_add_27 (fun H locs hr hS => ?_)
    obtain rfl := Option.some.inj hs
    exact hv_vret hx hb hrt hlk hr hS dX6_add_30
theorem dX6_init_0 : decode cX6_init 0 = .ok (.aload_n 0, 1) := by decide +kernel
theorem dX6_init_1 : decode cX6_init 1 = .ok (.invokespecial 3, 3) := by decide +kernel
theorem dX6_init_4 : decode cX6_init 4 = .ok (.aload_n 0, 1) := by decide +kernel
theorem dX6_init_5 : decode cX6_init 5 = .ok (.iconst 0, 1) := by decide +kernel
theorem dX6_init_6 : decode cX6_init 6 = .ok (.putfield 9, 3) := by decide +kernel
theorem dX6_init_9 : decode cX6_init 9 = .ok (.aload_n 0, 1) := by decide +kernel
theorem dX6_init_10 : decode cX6_init 10 = .ok (.sipush 385, 3) := by decide +kernel
theorem dX6_init_13 : decode cX6_init 13 = .ok (.newarray .int, 2) := by decide +kernel
theorem dX6_init_15 : decode cX6_init 15 = .ok (.putfield 15, 3) := by decide +kernel
theorem dX6_init_18 : decode cX6_init 18 = .ok (.aload_n 0, 1) := by decide +kernel
theorem dX6_init_19 : decode cX6_init 19 = .ok (.new 19, 3) := by decide +kernel
theorem dX6_init_22 : decode cX6_init 22 = .ok (.dup, 1) := by decide +kernel
theorem dX6_init_23 : decode cX6_init 23 = .ok (.invokespecial 21, 3) := by decide +kernel
theorem dX6_init_26 : decode cX6_init 26 = .ok (.putfield 22, 3) := by decide +kernel
theorem dX6_init_29 : decode cX6_init 29 = .ok (.return_, 1) := by decide +kernel
def zs_X6_init (h : AH) (u0 : Nat) : Option AH :=
  (pV h u0 6 0 (.int ((0 : Int32)))).bind fun g1 => lt_ (nO g1 (.inl (0, (385, .inl (fun _ => 0))))) fun g2 => (pV g2 u0 6 1 (.ref g1.2)).bind fun g3 => lt_ (nO g3 (.inr (8, [.null, .int 0, .int 0]))) fun g4 => (zs_X8_init g4 g3.2).bind fun g5 => (pV g5 u0 6 2 (.ref g3.2)).bind fun g6 => some g6
set_option maxRecDepth 100000 in
set_option maxHeartbeats 4000000 in
theorem zm_X6_init (l : Launch) (D : hG) (z : Nat) {h : AH} {u0 : Nat} {h' : AH} (hs : zs_X6_init h u0 = some h') : hC l D z yX6_init cX6_init 1 (Option.none : Option Jvm.ClassFile.FieldType) 2 41 3 414 [.ref u0] h h' none := by
  refine hC_of (by decide) (Nat.le_of_ble_eq_true rfl) ?_
  intro p e s m below meth c hx hb hml hrt hlk hown hnm hts hk hr hz ls hl
  replace hown : s.vm.findClass RX6 = some m.cls := hown
  replace hl : lv_has ls 1 [(0, .ref u0)] := hl
  have hS : va_S (hA z) s.heap s.heap [] := va_S.rf
  suffices hgo : ∀ (H : Heap) (locs : List Loc), hR D z h H → va_S (hA z) s.heap H locs → W p l e ({ frames := 2, cells := 3, slots := 414, locals := 41 } : Room) s m ([.ref u0] : List Value).toArray below meth c H locs 0 0 (MQ below (hQ D z h' none) ([.ref u0] : List Value).toArray s 3 414 (hA z)) (F0 m 0 ls []) from hgo _ _ hr hS
  clear hr hS
  intro H locs hr hS
  unfold zs_X6_init at hs
  refine lv_aload_n hx hb dX6_init_0 rfl (lv_at hl 0 rfl) ?_
  refine W.objInit hx hb hown (hts _ tw_111) (hts _ tw_27) (hts _ tw_28) rfl (by rw [hml]; exact hl.1) rfl dX6_init_1 (by decide) (Nat.le_of_ble_eq_true rfl) ?_
  refine W.eq (g2 := F0 m 4 ls []) rfl ?_
  refine lv_aload_n hx hb dX6_init_4 rfl (lv_at hl 0 rfl) ?_
  refine lv_iconst (v := 0) hx hb dX6_init_5 (by decide) ?_
  obtain ⟨g1, eg1, hs⟩ := bi_inv hs
  refine hv_pV (C := RX6) (T := TX6) (N := 3) (ci := 6) hx hb hts inX6 tyX6 tyX6_ok nmX6 hown hk hr hS rfl 0 (by decide) (hts _ tw_114) rfl rfl rfl eg1 dX6_init_6 (fun H locs hr hS => ?_)
  refine lv_aload_n hx hb dX6_init_9 rfl (lv_at hl 0 rfl) ?_
  refine lv_sipush (v := 385) hx hb dX6_init_10 (by decide) ?_
  refine hv_newa (at_ := .int) hx hb hts 0 rfl rfl tw_105 hk hr hz hS 385 (385, .inl (fun _ => 0)) (fun _ => rfl) (by decide) (by decide) (by decide) (by show _ ≤ (3 : Nat); omega) (by show _ ≤ (414 : Nat); omega) dX6_init_13 (fun H hr hS => ?_)
  obtain ⟨g2, eg2⟩ : ∃ q, q = nO g1 (.inl (0, (385, .inl (fun _ => 0)))) := ⟨_, rfl⟩
  rw [← eg2] at hr
  replace hs := lt_inv hs g2 eg2
  obtain ⟨g3, eg3, hs⟩ := bi_inv hs
  refine hv_pF (C := RX6) (T := TX6) (N := 3) (ci := 6) hx hb hts inX6 tyX6 tyX6_ok nmX6 hown hk hr hS rfl 1 (by decide) (hts _ tw_116) rfl hnm rfl rfl rfl eg3 dX6_init_15 (fun H locs hr hS => ?_)
  refine lv_aload_n hx hb dX6_init_18 rfl (lv_at hl 0 rfl) ?_
  refine hv_new (C := RX8) (T := TX8) (N := 3) (ci := 8) hx hb hts inX8 tyX8 tyX8_ok hown tw_112 tw_31 tw_2 hk hr hz hS rfl [.null, .int 0, .int 0] (by decide +kernel) (by show _ ≤ (3 : Nat); omega) (by show _ ≤ (414 : Nat); omega) dX6_init_19 (fun H hr hS => ?_)
  obtain ⟨g4, eg4⟩ : ∃ q, q = nO g3 (.inr (8, [.null, .int 0, .int 0])) := ⟨_, rfl⟩
  rw [← eg4] at hr
  replace hs := lt_inv hs g4 eg4
  refine lv_dup hx hb dX6_init_22 rfl ?_
  obtain ⟨g5, eg5, hs⟩ := bi_inv hs
  refine hv_I0 (n := 0) [] [.ref g3.2, .ref u0] hx hb hml hown hts hk hr hz hS (zm_X8_init l D z eg5) tw_113 tw_33 tw_2 tw_34 rfl (by decide +kernel) (by decide) ⟨(by show _ ≤ (3 : Nat); omega), (by show _ ≤ (414 : Nat); omega)⟩ rfl hl.1 (Nat.le_of_ble_eq_true rfl) dX6_init_23 rfl (fun H locs hr hS => ?_)
  obtain ⟨g6, eg6, hs⟩ := bi_inv hs
  refine hv_pF (C := RX6) (T := TX6) (N := 3) (ci := 6) hx hb hts inX6 tyX6 tyX6_ok nmX6 hown hk hr hS rfl 2 (by decide) (hts _ tw_118) rfl hnm rfl rfl rfl eg6 dX6_init_26 (fun H locs hr hS => ?_)
  obtain rfl := Option.some.inj hs
  exact hv_vret hx hb hrt hlk hr hS dX6_init_29
theorem dX6_letter_0 : decode cX6_letter 0 = .ok (.iload_n 0, 1) := by decide +kernel
theorem dX6_letter_1 : decode cX6_letter 1 = .ok (.bipush 10, 2) := by decide +kernel
theorem dX6_letter_3 : decode cX6_letter 3 = .ok (.if_icmp .ge 10, 3) := by decide +kernel
theorem dX6_letter_6 : decode cX6_letter 6 = .ok (.bipush 48, 2) := by decide +kernel
theorem dX6_letter_8 : decode cX6_letter 8 = .ok (.iload_n 0, 1) := by decide +kernel
theorem dX6_letter_9 : decode cX6_letter 9 = .ok (.iadd, 1) := by decide +kernel
theorem dX6_letter_10 : decode cX6_letter 10 = .ok (.goto 10, 3) := by decide +kernel
theorem dX6_letter_13 : decode cX6_letter 13 = .ok (.bipush 97, 2) := by decide +kernel
theorem dX6_letter_15 : decode cX6_letter 15 = .ok (.iload_n 0, 1) := by decide +kernel
theorem dX6_letter_16 : decode cX6_letter 16 = .ok (.iadd, 1) := by decide +kernel
theorem dX6_letter_17 : decode cX6_letter 17 = .ok (.bipush 10, 2) := by decide +kernel
theorem dX6_letter_19 : decode cX6_letter 19 = .ok (.isub, 1) := by decide +kernel
theorem dX6_letter_20 : decode cX6_letter 20 = .ok (.ireturn, 1) := by decide +kernel
def zs_X6_letter (h : AH) (u0 : Int32) : Option Int32 :=
  (if (10 : Int32) ≤ u0 then some ((((97 : Int32)) + u0) - ((10 : Int32))) else some (((48 : Int32)) + u0))
set_option maxRecDepth 100000 in
set_option maxHeartbeats 4000000 in
theorem zm_X6_letter (l : Launch) (D : hG) (z : Nat) {h : AH} {u0 : Int32} {r : Int32} (hs : zs_X6_letter h u0 = some r) : hC l D z yX6_letter cX6_letter 1 (Option.some Jvm.ClassFile.FieldType.int) 0 0 0 0 [.int u0] h h (some (.int r)) := by
  refine hC_of (by decide) (Nat.le_of_ble_eq_true rfl) ?_
  intro p e s m below meth c hx hb hml hrt hlk hown hnm hts hk hr hz ls hl
  replace hown : s.vm.findClass RX6 = some m.cls := hown
  replace hl : lv_has ls 1 [(0, .int u0)] := hl
  have hS : va_S (hA z) s.heap s.heap [] := va_S.rf
  suffices hgo : ∀ (H : Heap) (locs : List Loc), hR D z h H → va_S (hA z) s.heap H locs → W p l e ({ frames := 0, cells := 0, slots := 0, locals := 0 } : Room) s m ([.int u0] : List Value).toArray below meth c H locs 0 0 (MQ below (hQ D z h (some (.int r))) ([.int u0] : List Value).toArray s 0 0 (hA z)) (F0 m 0 ls []) from hgo _ _ hr hS
  clear hr hS
  intro H locs hr hS
  unfold zs_X6_letter at hs
  refine lv_iload_n hx hb dX6_letter_0 rfl (lv_at hl 0 rfl) ?_
  refine lv_bipush (v := 10) hx hb dX6_letter_1 (by decide) ?_
  refine lv_icmp_ge (tgt := 13) hx hb dX6_letter_3 (by decide) (fun c1 => ?_) (fun c1 => ?_)
  · rw [if_pos c1] at hs
    refine lv_bipush (v := 97) hx hb dX6_letter_13 (by decide) ?_
    refine lv_iload_n hx hb dX6_letter_15 rfl (lv_at hl 0 rfl) ?_
    refine lv_iadd hx hb dX6_letter_16 ?_
    refine lv_bipush (v := 10) hx hb dX6_letter_17 (by decide) ?_
    refine lv_isub hx hb dX6_letter_19 ?_
    obtain rfl := Option.some.inj hs
    exact hv_iret hx hb hrt hlk hr hS dX6_letter_20
  · rw [if_neg c1] at hs
    refine lv_bipush (v := 48) hx hb dX6_letter_6 (by decide) ?_
    refine lv_iload_n hx hb dX6_letter_8 rfl (lv_at hl 0 rfl) ?_
    refine lv_iadd hx hb dX6_letter_9 ?_
    refine lv_goto (tgt := 20) hx hb dX6_letter_10 (by decide) ?_
    obtain rfl := Option.some.inj hs
    exact hv_iret hx hb hrt hlk hr hS dX6_letter_20
theorem dX6_turnRound_0 : decode cX6_turnRound 0 = .ok (.iconst 0, 1) := by decide +kernel
theorem dX6_turnRound_1 : decode cX6_turnRound 1 = .ok (.istore_n 1, 1) := by decide +kernel
theorem dX6_turnRound_2 : decode cX6_turnRound 2 = .ok (.aload_n 0, 1) := by decide +kernel
theorem dX6_turnRound_3 : decode cX6_turnRound 3 = .ok (.getfield 9, 3) := by decide +kernel
theorem dX6_turnRound_6 : decode cX6_turnRound 6 = .ok (.iconst 1, 1) := by decide +kernel
theorem dX6_turnRound_7 : decode cX6_turnRound 7 = .ok (.isub, 1) := by decide +kernel
theorem dX6_turnRound_8 : decode cX6_turnRound 8 = .ok (.istore_n 2, 1) := by decide +kernel
theorem dX6_turnRound_9 : decode cX6_turnRound 9 = .ok (.iload_n 1, 1) := by decide +kernel
theorem dX6_turnRound_10 : decode cX6_turnRound 10 = .ok (.iload_n 2, 1) := by decide +kernel
theorem dX6_turnRound_11 : decode cX6_turnRound 11 = .ok (.if_icmp .ge 38, 3) := by decide +kernel
theorem dX6_turnRound_14 : decode cX6_turnRound 14 = .ok (.aload_n 0, 1) := by decide +kernel
theorem dX6_turnRound_15 : decode cX6_turnRound 15 = .ok (.getfield 15, 3) := by decide +kernel
theorem dX6_turnRound_18 : decode cX6_turnRound 18 = .ok (.iload_n 1, 1) := by decide +kernel
theorem dX6_turnRound_19 : decode cX6_turnRound 19 = .ok (.iaload, 1) := by decide +kernel
theorem dX6_turnRound_20 : decode cX6_turnRound 20 = .ok (.istore_n 3, 1) := by decide +kernel
theorem dX6_turnRound_21 : decode cX6_turnRound 21 = .ok (.aload_n 0, 1) := by decide +kernel
theorem dX6_turnRound_22 : decode cX6_turnRound 22 = .ok (.getfield 15, 3) := by decide +kernel
theorem dX6_turnRound_25 : decode cX6_turnRound 25 = .ok (.iload_n 1, 1) := by decide +kernel
theorem dX6_turnRound_26 : decode cX6_turnRound 26 = .ok (.aload_n 0, 1) := by decide +kernel
theorem dX6_turnRound_27 : decode cX6_turnRound 27 = .ok (.getfield 15, 3) := by decide +kernel
theorem dX6_turnRound_30 : decode cX6_turnRound 30 = .ok (.iload_n 2, 1) := by decide +kernel
theorem dX6_turnRound_31 : decode cX6_turnRound 31 = .ok (.iaload, 1) := by decide +kernel
theorem dX6_turnRound_32 : decode cX6_turnRound 32 = .ok (.iastore, 1) := by decide +kernel
theorem dX6_turnRound_33 : decode cX6_turnRound 33 = .ok (.aload_n 0, 1) := by decide +kernel
theorem dX6_turnRound_34 : decode cX6_turnRound 34 = .ok (.getfield 15, 3) := by decide +kernel
theorem dX6_turnRound_37 : decode cX6_turnRound 37 = .ok (.iload_n 2, 1) := by decide +kernel
theorem dX6_turnRound_38 : decode cX6_turnRound 38 = .ok (.iload_n 3, 1) := by decide +kernel
theorem dX6_turnRound_39 : decode cX6_turnRound 39 = .ok (.iastore, 1) := by decide +kernel
theorem dX6_turnRound_40 : decode cX6_turnRound 40 = .ok (.iinc 1 1, 3) := by decide +kernel
theorem dX6_turnRound_43 : decode cX6_turnRound 43 = .ok (.iinc 2 (-1), 3) := by decide +kernel
theorem dX6_turnRound_46 : decode cX6_turnRound 46 = .ok (.goto (-37), 3) := by decide +kernel
theorem dX6_turnRound_49 : decode cX6_turnRound 49 = .ok (.return_, 1) := by decide +kernel
def zb_X6_turnRound_9 (w0 : Nat) (g3 : AH) (w1 : Int32) (w2 : Int32) : Option ((AH × Int32 × Int32) ⊕ (AH)) :=
  (if w2 ≤ w1 then some (Sum.inr g3) else (gR g3 w0 6 1).bind fun x5 => (aI g3 x5 0 w1).bind fun x6 => (gR g3 w0 6 1).bind fun x7 => (gR g3 w0 6 1).bind fun x8 => (aI g3 x8 0 w2).bind fun x9 => (sI g3 x7 0 w1 x9).bind fun g10 => (gR g10 w0 6 1).bind fun x11 => (sI g10 x11 0 w2 x6).bind fun g12 => some (Sum.inl ((g12, w1 + (1 : Int32), w2 + (-1 : Int32)))))
def zs_X6_turnRound (h : AH) (u0 : Nat) : Option AH :=
  (gI h u0 6 0).bind fun x1 => lt_ (x1 - ((1 : Int32))) fun x2 => (iter (fun q : AH × Int32 × Int32 => zb_X6_turnRound_9 u0 q.1 q.2.1 q.2.2) FU ((h, (0 : Int32), x2))).bind fun r13 => some r13
set_option maxRecDepth 100000 in
set_option maxHeartbeats 4000000 in
theorem zm_X6_turnRound (l : Launch) (D : hG) (z : Nat) {h : AH} {u0 : Nat} {h' : AH} (hs : zs_X6_turnRound h u0 = some h') : hC l D z yX6_turnRound cX6_turnRound 4 (Option.none : Option Jvm.ClassFile.FieldType) 0 0 0 0 [.ref u0] h h' none := by
  refine hC_of (by decide) (Nat.le_of_ble_eq_true rfl) ?_
  intro p e s m below meth c hx hb hml hrt hlk hown hnm hts hk hr hz ls hl
  replace hown : s.vm.findClass RX6 = some m.cls := hown
  replace hl : lv_has ls 4 [(0, .ref u0)] := hl
  have hS : va_S (hA z) s.heap s.heap [] := va_S.rf
  suffices hgo : ∀ (H : Heap) (locs : List Loc), hR D z h H → va_S (hA z) s.heap H locs → W p l e ({ frames := 0, cells := 0, slots := 0, locals := 0 } : Room) s m ([.ref u0] : List Value).toArray below meth c H locs 0 0 (MQ below (hQ D z h' none) ([.ref u0] : List Value).toArray s 0 0 (hA z)) (F0 m 0 ls []) from hgo _ _ hr hS
  clear hr hS
  intro H locs hr hS
  unfold zs_X6_turnRound at hs
  refine lv_iconst (v := 0) hx hb dX6_turnRound_0 (by decide) ?_
  refine lv_istore_n (lv' := [(1, .int ((0 : Int32))), (0, .ref u0)]) hx hb dX6_turnRound_1 rfl hl (by decide) rfl (fun ls hl => ?_)
  refine lv_aload_n hx hb dX6_turnRound_2 rfl (lv_at hl 1 rfl) ?_
  obtain ⟨x1, ex1, hs⟩ := bi_inv hs
  refine hv_gI (C := RX6) (T := TX6) (N := 3) (ci := 6) hx hb hts inX6 hown hk hr rfl 0 (by decide) (hts _ tw_114) ex1 dX6_turnRound_3 ?_
  refine lv_iconst (v := 1) hx hb dX6_turnRound_6 (by decide) ?_
  refine lv_isub hx hb dX6_turnRound_7 ?_
  refine lv_topi (fun x2 ex2 => ?_)
  replace hs := lt_inv hs x2 ex2
  refine lv_istore_n (lv' := [(2, .int x2), (1, .int ((0 : Int32))), (0, .ref u0)]) hx hb dX6_turnRound_8 rfl hl (by decide) rfl (fun ls hl => ?_)
  obtain ⟨r13, er13, hs⟩ := bi_inv hs
  refine iter_W (fun (q : AH × Int32 × Int32) => ∀ (H : Heap) (locs : List Loc) (ls : Array Slot), hR D z q.1 H → va_S (hA z) s.heap H locs → lv_has ls 4 [(0, .ref u0), (1, .int q.2.1), (2, .int q.2.2)] → W p l e ({ frames := 0, cells := 0, slots := 0, locals := 0 } : Room) s m ([.ref u0] : List Value).toArray below meth c H locs 0 0 (MQ below (hQ D z h' none) ([.ref u0] : List Value).toArray s 0 0 (hA z)) (F0 m 9 ls [])) (fun (x : AH) => ∀ (H : Heap) (locs : List Loc) (ls : Array Slot), hR D z x H → va_S (hA z) s.heap H locs → lv_has ls 4 [] → W p l e ({ frames := 0, cells := 0, slots := 0, locals := 0 } : Room) s m ([.ref u0] : List Value).toArray below meth c H locs 0 0 (MQ below (hQ D z h' none) ([.ref u0] : List Value).toArray s 0 0 (hA z)) (F0 m 49 ls [])) ?_ FU _ r13 er13 ?_ H locs ls hr hS (lv_sub hl [2, 1, 0] rfl)
  · intro q o hs hcont hexit
    obtain ⟨g3, w1, w2⟩ := q
    replace hs : zb_X6_turnRound_9 u0 g3 w1 w2 = some o := hs
    intro H locs ls hr hS hl
    unfold zb_X6_turnRound_9 at hs
    refine lv_iload_n hx hb dX6_turnRound_9 rfl (lv_at hl 1 rfl) ?_
    refine lv_iload_n hx hb dX6_turnRound_10 rfl (lv_at hl 2 rfl) ?_
    refine lv_icmp_ge (tgt := 49) hx hb dX6_turnRound_11 (by decide) (fun c4 => ?_) (fun c4 => ?_)
    · rw [if_pos c4] at hs
      obtain rfl := Option.some.inj hs
      exact hexit _ rfl H locs ls hr hS (lv_sub hl [] rfl)
    · rw [if_neg c4] at hs
      refine lv_aload_n hx hb dX6_turnRound_14 rfl (lv_at hl 0 rfl) ?_
      obtain ⟨x5, ex5, hs⟩ := bi_inv hs
      refine hv_gR (C := RX6) (T := TX6) (N := 3) (ci := 6) hx hb hts inX6 hown hk hr rfl 1 (by decide) (hts _ tw_116) ex5 dX6_turnRound_15 ?_
      refine lv_iload_n hx hb dX6_turnRound_18 rfl (lv_at hl 1 rfl) ?_
      obtain ⟨x6, ex6, hs⟩ := bi_inv hs
      refine hv_aI hx hb hk hr ex6 dX6_turnRound_19 ?_
      refine lv_istore_n (lv' := [(3, .int x6), (0, .ref u0), (1, .int w1), (2, .int w2)]) hx hb dX6_turnRound_20 rfl hl (by decide) rfl (fun ls hl => ?_)
      refine lv_aload_n hx hb dX6_turnRound_21 rfl (lv_at hl 1 rfl) ?_
      obtain ⟨x7, ex7, hs⟩ := bi_inv hs
      refine hv_gR (C := RX6) (T := TX6) (N := 3) (ci := 6) hx hb hts inX6 hown hk hr rfl 1 (by decide) (hts _ tw_116) ex7 dX6_turnRound_22 ?_
      refine lv_iload_n hx hb dX6_turnRound_25 rfl (lv_at hl 2 rfl) ?_
      refine lv_aload_n hx hb dX6_turnRound_26 rfl (lv_at hl 1 rfl) ?_
      obtain ⟨x8, ex8, hs⟩ := bi_inv hs
      refine hv_gR (C := RX6) (T := TX6) (N := 3) (ci := 6) hx hb hts inX6 hown hk hr rfl 1 (by decide) (hts _ tw_116) ex8 dX6_turnRound_27 ?_
      refine lv_iload_n hx hb dX6_turnRound_30 rfl (lv_at hl 3 rfl) ?_
      obtain ⟨x9, ex9, hs⟩ := bi_inv hs
      refine hv_aI hx hb hk hr ex9 dX6_turnRound_31 ?_
      obtain ⟨g10, eg10, hs⟩ := bi_inv hs
      refine hv_sI hx hb hk hr hS eg10 dX6_turnRound_32 (fun H locs hr hS => ?_)
      refine lv_aload_n hx hb dX6_turnRound_33 rfl (lv_at hl 1 rfl) ?_
      obtain ⟨x11, ex11, hs⟩ := bi_inv hs
      refine hv_gR (C := RX6) (T := TX6) (N := 3) (ci := 6) hx hb hts inX6 hown hk hr rfl 1 (by decide) (hts _ tw_116) ex11 dX6_turnRound_34 ?_
      refine lv_iload_n hx hb dX6_turnRound_37 rfl (lv_at hl 3 rfl) ?_
      refine lv_iload_n hx hb dX6_turnRound_38 rfl (lv_at hl 0 rfl) ?_
      obtain ⟨g12, eg12, hs⟩ := bi_inv hs
      refine hv_sI hx hb hk hr hS eg12 dX6_turnRound_39 (fun H locs hr hS => ?_)
      refine lv_iinc (v := w1 + (1 : Int32)) (lv' := [(1, .int (w1 + (1 : Int32))), (3, .int x6), (0, .ref u0), (2, .int w2)]) hx hb dX6_turnRound_40 hl (k := 2) rfl (ii_v _ (by decide)) (by decide) rfl (fun ls hl => ?_)
      refine lv_iinc (v := w2 + (-1 : Int32)) (lv' := [(2, .int (w2 + (-1 : Int32))), (1, .int (w1 + (1 : Int32))), (3, .int x6), (0, .ref u0)]) hx hb dX6_turnRound_43 hl (k := 3) rfl (ii_v _ (by decide)) (by decide) rfl (fun ls hl => ?_)
      refine lv_goto (tgt := 9) hx hb dX6_turnRound_46 (by decide) ?_
      obtain rfl := Option.some.inj hs
      exact hcont _ rfl H locs ls hr hS (lv_sub hl [3, 1, 0] rfl)
  · intro H locs ls hr hS hl
    obtain rfl := Option.some.inj hs
    exact hv_vret hx hb hrt hlk hr hS dX6_turnRound_49
theorem dX6_spell_0 : decode cX6_spell 0 = .ok (.aload_n 0, 1) := by decide +kernel
theorem dX6_spell_1 : decode cX6_spell 1 = .ok (.getfield 22, 3) := by decide +kernel
theorem dX6_spell_4 : decode cX6_spell 4 = .ok (.aload_n 1, 1) := by decide +kernel
theorem dX6_spell_5 : decode cX6_spell 5 = .ok (.invokevirtual 26, 3) := by decide +kernel
theorem dX6_spell_8 : decode cX6_spell 8 = .ok (.aload_n 0, 1) := by decide +kernel
theorem dX6_spell_9 : decode cX6_spell 9 = .ok (.iconst 0, 1) := by decide +kernel
theorem dX6_spell_10 : decode cX6_spell 10 = .ok (.putfield 9, 3) := by decide +kernel
theorem dX6_spell_13 : decode cX6_spell 13 = .ok (.aload_n 0, 1) := by decide +kernel
theorem dX6_spell_14 : decode cX6_spell 14 = .ok (.aload_n 0, 1) := by decide +kernel
theorem dX6_spell_15 : decode cX6_spell 15 = .ok (.getfield 22, 3) := by decide +kernel
theorem dX6_spell_18 : decode cX6_spell 18 = .ok (.iload_n 2, 1) := by decide +kernel
theorem dX6_spell_19 : decode cX6_spell 19 = .ok (.i2l, 1) := by decide +kernel
theorem dX6_spell_20 : decode cX6_spell 20 = .ok (.invokevirtual 30, 3) := by decide +kernel
theorem dX6_spell_23 : decode cX6_spell 23 = .ok (.l2i, 1) := by decide +kernel
theorem dX6_spell_24 : decode cX6_spell 24 = .ok (.invokestatic 34, 3) := by decide +kernel
theorem dX6_spell_27 : decode cX6_spell 27 = .ok (.invokevirtual 38, 3) := by decide +kernel
theorem dX6_spell_30 : decode cX6_spell 30 = .ok (.aload_n 0, 1) := by decide +kernel
theorem dX6_spell_31 : decode cX6_spell 31 = .ok (.getfield 22, 3) := by decide +kernel
theorem dX6_spell_34 : decode cX6_spell 34 = .ok (.invokevirtual 42, 3) := by decide +kernel
theorem dX6_spell_37 : decode cX6_spell 37 = .ok (.ifCond .ne 13, 3) := by decide +kernel
theorem dX6_spell_40 : decode cX6_spell 40 = .ok (.aload_n 0, 1) := by decide +kernel
theorem dX6_spell_41 : decode cX6_spell 41 = .ok (.getfield 9, 3) := by decide +kernel
theorem dX6_spell_44 : decode cX6_spell 44 = .ok (.sipush 385, 3) := by decide +kernel
theorem dX6_spell_47 : decode cX6_spell 47 = .ok (.if_icmp .lt (-34), 3) := by decide +kernel
theorem dX6_spell_50 : decode cX6_spell 50 = .ok (.aload_n 1, 1) := by decide +kernel
theorem dX6_spell_51 : decode cX6_spell 51 = .ok (.getfield 46, 3) := by decide +kernel
theorem dX6_spell_54 : decode cX6_spell 54 = .ok (.ifCond .eq 9, 3) := by decide +kernel
theorem dX6_spell_57 : decode cX6_spell 57 = .ok (.aload_n 0, 1) := by decide +kernel
theorem dX6_spell_58 : decode cX6_spell 58 = .ok (.bipush 45, 2) := by decide +kernel
theorem dX6_spell_60 : decode cX6_spell 60 = .ok (.invokevirtual 38, 3) := by decide +kernel
theorem dX6_spell_63 : decode cX6_spell 63 = .ok (.aload_n 0, 1) := by decide +kernel
theorem dX6_spell_64 : decode cX6_spell 64 = .ok (.invokevirtual 50, 3) := by decide +kernel
theorem dX6_spell_67 : decode cX6_spell 67 = .ok (.return_, 1) := by decide +kernel
def zb_X6_spell_13 (w0 : Nat) (w1 : Nat) (w2 : Int32) (g5 : AH) : Option ((AH) ⊕ (AH)) :=
  (gR g5 w0 6 2).bind fun x6 => (chk g5 x6 8).bind fun _ => (zs_X8_shrink g5 x6 w2.toInt64).bind fun x8 => (zs_X6_letter x8.2 x8.1.toInt32).bind fun x9 => (chk x8.2 w0 6).bind fun _ => (zs_X6_add x8.2 w0 x9).bind fun g11 => (gR g11 w0 6 2).bind fun x12 => (chk g11 x12 8).bind fun _ => (zs_X8_isZero g11 x12).bind fun x14 => (if x14 = 0 then (gI g11 w0 6 0).bind fun x16 => (if x16 < (385 : Int32) then some (Sum.inl g11) else some (Sum.inr g11)) else some (Sum.inr g11))
def zj_X6_spell_63 (g21 : AH) (y0_63 : Nat) : Option AH :=
  (chk g21 y0_63 6).bind fun _ => (zs_X6_turnRound g21 y0_63).bind fun g23 => some g23
def zs_X6_spell (h : AH) (u0 : Nat) (u1 : Nat) (u2 : Int32) : Option AH :=
  (gR h u0 6 2).bind fun x1 => (chk h x1 8).bind fun _ => (zs_X8_copy h x1 u1).bind fun g3 => (pV g3 u0 6 0 (.int ((0 : Int32)))).bind fun g4 => (iter (fun q : AH => zb_X6_spell_13 u0 u1 u2 q) FU g4).bind fun r18 => (gI r18 u1 8 2).bind fun x19 => (if x19 = 0 then zj_X6_spell_63 r18 u0 else (chk r18 u0 6).bind fun _ => (zs_X6_add r18 u0 ((45 : Int32))).bind fun g25 => zj_X6_spell_63 g25 u0)
set_option maxRecDepth 100000 in
set_option maxHeartbeats 4000000 in
theorem zm_X6_spell (l : Launch) (D : hG) (z : Nat) {h : AH} {u0 : Nat} {u1 : Nat} {u2 : Int32} {h' : AH} (hs : zs_X6_spell h u0 u1 u2 = some h') : hC l D z yX6_spell cX6_spell 3 (Option.none : Option Jvm.ClassFile.FieldType) 2 54 0 0 [.ref u0, .ref u1, .int u2] h h' none := by
  refine hC_of (by decide) (Nat.le_of_ble_eq_true rfl) ?_
  intro p e s m below meth c hx hb hml hrt hlk hown hnm hts hk hr hz ls hl
  replace hown : s.vm.findClass RX6 = some m.cls := hown
  replace hl : lv_has ls 3 [(0, .ref u0), (1, .ref u1), (2, .int u2)] := hl
  have hS : va_S (hA z) s.heap s.heap [] := va_S.rf
  suffices hgo : ∀ (H : Heap) (locs : List Loc), hR D z h H → va_S (hA z) s.heap H locs → W p l e ({ frames := 2, cells := 0, slots := 0, locals := 54 } : Room) s m ([.ref u0, .ref u1, .int u2] : List Value).toArray below meth c H locs 0 0 (MQ below (hQ D z h' none) ([.ref u0, .ref u1, .int u2] : List Value).toArray s 0 0 (hA z)) (F0 m 0 ls []) from hgo _ _ hr hS
  clear hr hS
  intro H locs hr hS
  have hJ63 : ∀ (g21 : AH) (y0_63 : Nat) (H : Heap) (locs : List Loc) (ls : Array Slot), zj_X6_spell_63 g21 y0_63 = some h' → hR D z g21 H → va_S (hA z) s.heap H locs → lv_has ls 3 [(0, .ref y0_63)] → W p l e ({ frames := 2, cells := 0, slots := 0, locals := 54 } : Room) s m ([.ref u0, .ref u1, .int u2] : List Value).toArray below meth c H locs 0 0 (MQ below (hQ D z h' none) ([.ref u0, .ref u1, .int u2] : List Value).toArray s 0 0 (hA z)) (F0 m 63 ls []) := by
    intro g21 y0_63 H locs ls hs hr hS hl
    unfold zj_X6_spell_63 at hs
    refine lv_aload_n hx hb dX6_spell_63 rfl (lv_at hl 0 rfl) ?_
    obtain ⟨_, ex22, hs⟩ := bi_inv hs
    obtain ⟨g23, eg23, hs⟩ := bi_inv hs
    refine hv_V0 (n := 0) [] [] hx hb hml hown hts hk hr hz hS (zm_X6_turnRound l D z eg23) ex22 rfl tw_403 tw_405 ts_4 tw_5 tw_406 (by decide +kernel) (by decide) ⟨(Nat.zero_le _), (Nat.zero_le _)⟩ rfl hl.1 (Nat.le_of_ble_eq_true rfl) dX6_spell_64 rfl (fun H locs hr hS => ?_)
    obtain rfl := Option.some.inj hs
    exact hv_vret hx hb hrt hlk hr hS dX6_spell_67
  unfold zs_X6_spell at hs
  refine lv_aload_n hx hb dX6_spell_0 rfl (lv_at hl 0 rfl) ?_
  obtain ⟨x1, ex1, hs⟩ := bi_inv hs
  refine hv_gR (C := RX6) (T := TX6) (N := 3) (ci := 6) hx hb hts inX6 hown hk hr rfl 2 (by decide) (hts _ tw_118) ex1 dX6_spell_1 ?_
  refine lv_aload_n hx hb dX6_spell_4 rfl (lv_at hl 1 rfl) ?_
  obtain ⟨_, ex2, hs⟩ := bi_inv hs
  obtain ⟨g3, eg3, hs⟩ := bi_inv hs
  refine hv_V0 (n := 1) [.ref u1] [] hx hb hml hown hts hk hr hz hS (zm_X8_copy l D z eg3) ex2 rfl tw_384 tw_373 tw_374 tw_2 tw_375 (by decide +kernel) (by decide) ⟨(Nat.zero_le _), (Nat.zero_le _)⟩ rfl hl.1 (Nat.le_of_ble_eq_true rfl) dX6_spell_5 rfl (fun H locs hr hS => ?_)
  refine lv_aload_n hx hb dX6_spell_8 rfl (lv_at hl 0 rfl) ?_
  refine lv_iconst (v := 0) hx hb dX6_spell_9 (by decide) ?_
  obtain ⟨g4, eg4, hs⟩ := bi_inv hs
  refine hv_pV (C := RX6) (T := TX6) (N := 3) (ci := 6) hx hb hts inX6 tyX6 tyX6_ok nmX6 hown hk hr hS rfl 0 (by decide) (hts _ tw_114) rfl rfl rfl eg4 dX6_spell_10 (fun H locs hr hS => ?_)
  obtain ⟨r18, er18, hs⟩ := bi_inv hs
  refine iter_W (fun (q : AH) => ∀ (H : Heap) (locs : List Loc) (ls : Array Slot), hR D z q H → va_S (hA z) s.heap H locs → lv_has ls 3 [(0, .ref u0), (1, .ref u1), (2, .int u2)] → W p l e ({ frames := 2, cells := 0, slots := 0, locals := 54 } : Room) s m ([.ref u0, .ref u1, .int u2] : List Value).toArray below meth c H locs 0 0 (MQ below (hQ D z h' none) ([.ref u0, .ref u1, .int u2] : List Value).toArray s 0 0 (hA z)) (F0 m 13 ls [])) (fun (x : AH) => ∀ (H : Heap) (locs : List Loc) (ls : Array Slot), hR D z x H → va_S (hA z) s.heap H locs → lv_has ls 3 [(0, .ref u0), (1, .ref u1)] → W p l e ({ frames := 2, cells := 0, slots := 0, locals := 54 } : Room) s m ([.ref u0, .ref u1, .int u2] : List Value).toArray below meth c H locs 0 0 (MQ below (hQ D z h' none) ([.ref u0, .ref u1, .int u2] : List Value).toArray s 0 0 (hA z)) (F0 m 50 ls [])) ?_ FU _ r18 er18 ?_ H locs ls hr hS (lv_sub hl [0, 1, 2] rfl)
  · intro q o hs hcont hexit
    obtain ⟨g5, rfl⟩ : ∃ q2, q2 = q := ⟨_, rfl⟩
    replace hs : zb_X6_spell_13 u0 u1 u2 g5 = some o := hs
    intro H locs ls hr hS hl
    unfold zb_X6_spell_13 at hs
    refine lv_aload_n hx hb dX6_spell_13 rfl (lv_at hl 0 rfl) ?_
    refine lv_aload_n hx hb dX6_spell_14 rfl (lv_at hl 0 rfl) ?_
    obtain ⟨x6, ex6, hs⟩ := bi_inv hs
    refine hv_gR (C := RX6) (T := TX6) (N := 3) (ci := 6) hx hb hts inX6 hown hk hr rfl 2 (by decide) (hts _ tw_118) ex6 dX6_spell_15 ?_
    refine lv_iload_n hx hb dX6_spell_18 rfl (lv_at hl 2 rfl) ?_
    refine lv_i2l hx hb dX6_spell_19 rfl ?_
    obtain ⟨_, ex7, hs⟩ := bi_inv hs
    obtain ⟨x8, ex8, hs⟩ := bi_inv hs
    refine hv_V1 (n := 1) [.long u2.toInt64] [.ref u0] hx hb hml hown hts hk hr hz hS (zm_X8_shrink l D z ex8) ex7 rfl tw_385 tw_386 tw_387 tw_2 tw_388 (by decide +kernel) (by decide) ⟨(Nat.zero_le _), (Nat.zero_le _)⟩ rfl hl.1 (Nat.le_of_ble_eq_true rfl) dX6_spell_20 rfl (fun H locs hr hS => ?_)
    refine lv_l2i hx hb dX6_spell_23 rfl ?_
    obtain ⟨x9, ex9, hs⟩ := bi_inv hs
    refine hv_S1 (n := 1) [.int x8.1.toInt32] [.ref u0] hx hb hml hown hts hk hr hz hS (zm_X6_letter l D z ex9) tw_392 tw_393 tw_5 tw_394 (by decide +kernel) (by decide) ⟨(Nat.zero_le _), (Nat.zero_le _)⟩ rfl hl.1 (Nat.le_of_ble_eq_true rfl) dX6_spell_24 rfl (fun H locs hr hS => ?_)
    obtain ⟨_, ex10, hs⟩ := bi_inv hs
    obtain ⟨g11, eg11, hs⟩ := bi_inv hs
    refine hv_V0 (n := 1) [.int x9] [] hx hb hml hown hts hk hr hz hS (zm_X6_add l D z eg11) ex10 rfl tw_395 tw_397 ts_3 tw_5 tw_398 (by decide +kernel) (by decide) ⟨(Nat.zero_le _), (Nat.zero_le _)⟩ rfl hl.1 (Nat.le_of_ble_eq_true rfl) dX6_spell_27 rfl (fun H locs hr hS => ?_)
    refine lv_aload_n hx hb dX6_spell_30 rfl (lv_at hl 0 rfl) ?_
    obtain ⟨x12, ex12, hs⟩ := bi_inv hs
    refine hv_gR (C := RX6) (T := TX6) (N := 3) (ci := 6) hx hb hts inX6 hown hk hr rfl 2 (by decide) (hts _ tw_118) ex12 dX6_spell_31 ?_
    obtain ⟨_, ex13, hs⟩ := bi_inv hs
    obtain ⟨x14, ex14, hs⟩ := bi_inv hs
    refine hv_V1 (n := 0) [] [] hx hb hml hown hts hk hr hz hS (zm_X8_isZero l D z ex14) ex13 rfl tw_399 tw_400 tw_401 tw_2 tw_402 (by decide +kernel) (by decide) ⟨(Nat.zero_le _), (Nat.zero_le _)⟩ rfl hl.1 (Nat.le_of_ble_eq_true rfl) dX6_spell_34 rfl (fun H locs hr hS => ?_)
    refine lv_if_ne (tgt := 50) hx hb dX6_spell_37 (by decide) (fun c15 => ?_) (fun c15 => ?_)
    · rw [if_neg c15] at hs
      obtain rfl := Option.some.inj hs
      exact hexit _ rfl H locs ls hr hS (lv_sub hl [0, 1] rfl)
    · rw [if_pos c15] at hs
      refine lv_aload_n hx hb dX6_spell_40 rfl (lv_at hl 0 rfl) ?_
      obtain ⟨x16, ex16, hs⟩ := bi_inv hs
      refine hv_gI (C := RX6) (T := TX6) (N := 3) (ci := 6) hx hb hts inX6 hown hk hr rfl 0 (by decide) (hts _ tw_114) ex16 dX6_spell_41 ?_
      refine lv_sipush (v := 385) hx hb dX6_spell_44 (by decide) ?_
      refine lv_icmp_lt (tgt := 13) hx hb dX6_spell_47 (by decide) (fun c17 => ?_) (fun c17 => ?_)
      · rw [if_pos c17] at hs
        obtain rfl := Option.some.inj hs
        exact hcont _ rfl H locs ls hr hS (lv_sub hl [0, 1, 2] rfl)
      · rw [if_neg c17] at hs
        obtain rfl := Option.some.inj hs
        exact hexit _ rfl H locs ls hr hS (lv_sub hl [0, 1] rfl)
  · intro H locs ls hr hS hl
    refine lv_aload_n hx hb dX6_spell_50 rfl (lv_at hl 1 rfl) ?_
    obtain ⟨x19, ex19, hs⟩ := bi_inv hs
    refine hv_gI (C := RX8) (T := TX8) (N := 3) (ci := 8) hx hb hts inX8 hown hk hr rfl 2 (by decide) (hts _ tw_45) ex19 dX6_spell_51 ?_
    refine lv_if_eq (tgt := 63) hx hb dX6_spell_54 (by decide) (fun c20 => ?_) (fun c20 => ?_)
    · rw [if_pos c20] at hs
      exact hJ63 r18 u0 H locs ls hs hr hS (lv_sub hl [0] rfl)
    · rw [if_neg c20] at hs
      refine lv_aload_n hx hb dX6_spell_57 rfl (lv_at hl 0 rfl) ?_
      refine lv_bipush (v := 45) hx hb dX6_spell_58 (by decide) ?_
      obtain ⟨_, ex24, hs⟩ := bi_inv hs
      obtain ⟨g25, eg25, hs⟩ := bi_inv hs
      refine hv_V0 (n := 1) [.int ((45 : Int32))] [] hx hb hml hown hts hk hr hz hS (zm_X6_add l D z eg25) ex24 rfl tw_395 tw_397 ts_3 tw_5 tw_398 (by decide +kernel) (by decide) ⟨(Nat.zero_le _), (Nat.zero_le _)⟩ rfl hl.1 (Nat.le_of_ble_eq_true rfl) dX6_spell_60 rfl (fun H locs hr hS => ?_)
      exact hJ63 g25 u0 H locs ls hs hr hS (lv_sub hl [0] rfl)
theorem dX7_bitAt_0 : decode cX7_bitAt 0 = .ok (.iconst 0, 1) := by decide +kernel
theorem dX7_bitAt_1 : decode cX7_bitAt 1 = .ok (.iload_n 1, 1) := by decide +kernel
theorem dX7_bitAt_2 : decode cX7_bitAt 2 = .ok (.iconst 5, 1) := by decide +kernel
theorem dX7_bitAt_3 : decode cX7_bitAt 3 = .ok (.ishr, 1) := by decide +kernel
theorem dX7_bitAt_4 : decode cX7_bitAt 4 = .ok (.bipush 12, 2) := by decide +kernel
theorem dX7_bitAt_6 : decode cX7_bitAt 6 = .ok (.invokestatic 45, 3) := by decide +kernel
theorem dX7_bitAt_9 : decode cX7_bitAt 9 = .ok (.invokestatic 51, 3) := by decide +kernel
theorem dX7_bitAt_12 : decode cX7_bitAt 12 = .ok (.istore_n 2, 1) := by decide +kernel
theorem dX7_bitAt_13 : decode cX7_bitAt 13 = .ok (.aload_n 0, 1) := by decide +kernel
theorem dX7_bitAt_14 : decode cX7_bitAt 14 = .ok (.getfield 9, 3) := by decide +kernel
theorem dX7_bitAt_17 : decode cX7_bitAt 17 = .ok (.iload_n 2, 1) := by decide +kernel
theorem dX7_bitAt_18 : decode cX7_bitAt 18 = .ok (.laload, 1) := by decide +kernel
theorem dX7_bitAt_19 : decode cX7_bitAt 19 = .ok (.iload_n 1, 1) := by decide +kernel
theorem dX7_bitAt_20 : decode cX7_bitAt 20 = .ok (.bipush 31, 2) := by decide +kernel
theorem dX7_bitAt_22 : decode cX7_bitAt 22 = .ok (.iand, 1) := by decide +kernel
theorem dX7_bitAt_23 : decode cX7_bitAt 23 = .ok (.lushr, 1) := by decide +kernel
theorem dX7_bitAt_24 : decode cX7_bitAt 24 = .ok (.lconst 1, 1) := by decide +kernel
theorem dX7_bitAt_25 : decode cX7_bitAt 25 = .ok (.land, 1) := by decide +kernel
theorem dX7_bitAt_26 : decode cX7_bitAt 26 = .ok (.l2i, 1) := by decide +kernel
theorem dX7_bitAt_27 : decode cX7_bitAt 27 = .ok (.ireturn, 1) := by decide +kernel
def zs_X7_bitAt (h : AH) (u0 : Nat) (u1 : Int32) : Option Int32 :=
  lt_ (if (12 : Int32) < u1 >>> (((5 : Int32)) &&& 31) then (12 : Int32) else u1 >>> (((5 : Int32)) &&& 31)) fun x1 => lt_ (if (0 : Int32) < x1 then x1 else (0 : Int32)) fun x2 => (gR h u0 7 0).bind fun x3 => (aJ h x3 1 x2).bind fun x4 => some ((((x4.toUInt64 >>> ((u1 &&& ((31 : Int32))).toInt64.toUInt64 &&& Int64.toUInt64 63)).toInt64) &&& ((1 : Int64))).toInt32)
set_option maxRecDepth 100000 in
set_option maxHeartbeats 4000000 in
theorem zm_X7_bitAt (l : Launch) (D : hG) (z : Nat) {h : AH} {u0 : Nat} {u1 : Int32} {r : Int32} (hs : zs_X7_bitAt h u0 u1 = some r) : hC l D z yX7_bitAt cX7_bitAt 3 (Option.some Jvm.ClassFile.FieldType.int) 1 21 0 0 [.ref u0, .int u1] h h (some (.int r)) := by
  refine hC_of (by decide) (Nat.le_of_ble_eq_true rfl) ?_
  intro p e s m below meth c hx hb hml hrt hlk hown hnm hts hk hr hz ls hl
  replace hown : s.vm.findClass RX7 = some m.cls := hown
  replace hl : lv_has ls 3 [(0, .ref u0), (1, .int u1)] := hl
  have hS : va_S (hA z) s.heap s.heap [] := va_S.rf
  suffices hgo : ∀ (H : Heap) (locs : List Loc), hR D z h H → va_S (hA z) s.heap H locs → W p l e ({ frames := 1, cells := 0, slots := 0, locals := 21 } : Room) s m ([.ref u0, .int u1] : List Value).toArray below meth c H locs 0 0 (MQ below (hQ D z h (some (.int r))) ([.ref u0, .int u1] : List Value).toArray s 0 0 (hA z)) (F0 m 0 ls []) from hgo _ _ hr hS
  clear hr hS
  intro H locs hr hS
  unfold zs_X7_bitAt at hs
  refine lv_iconst (v := 0) hx hb dX7_bitAt_0 (by decide) ?_
  refine lv_iload_n hx hb dX7_bitAt_1 rfl (lv_at hl 1 rfl) ?_
  refine lv_iconst (v := 5) hx hb dX7_bitAt_2 (by decide) ?_
  refine lv_ishr hx hb dX7_bitAt_3 ?_
  refine lv_bipush (v := 12) hx hb dX7_bitAt_4 (by decide) ?_
  refine va_mmin hx hb (hml.trans hl.1.symm) hown (hts _ tw_655) (hts _ tw_463) (hts _ tw_15) (hts _ tw_464) (by decide) (Nat.le_of_ble_eq_true rfl) (Nat.zero_le _) (Nat.zero_le _) dX7_bitAt_6 ?_
  refine lv_topi (fun x1 ex1 => ?_)
  replace hs := lt_inv hs x1 ex1
  refine va_mmax hx hb (hml.trans hl.1.symm) hown (hts _ tw_656) (hts _ tw_460) (hts _ tw_15) (hts _ tw_461) (by decide) (Nat.le_of_ble_eq_true rfl) (Nat.zero_le _) (Nat.zero_le _) dX7_bitAt_9 ?_
  refine lv_topi (fun x2 ex2 => ?_)
  replace hs := lt_inv hs x2 ex2
  refine lv_istore_n (lv' := [(2, .int x2), (0, .ref u0), (1, .int u1)]) hx hb dX7_bitAt_12 rfl hl (by decide) rfl (fun ls hl => ?_)
  refine lv_aload_n hx hb dX7_bitAt_13 rfl (lv_at hl 1 rfl) ?_
  obtain ⟨x3, ex3, hs⟩ := bi_inv hs
  refine hv_gR (C := RX7) (T := TX7) (N := 1) (ci := 7) hx hb hts inX7 hown hk hr rfl 0 (by decide) (hts _ tw_270) ex3 dX7_bitAt_14 ?_
  refine lv_iload_n hx hb dX7_bitAt_17 rfl (lv_at hl 0 rfl) ?_
  obtain ⟨x4, ex4, hs⟩ := bi_inv hs
  refine hv_aJ hx hb hk hr ex4 dX7_bitAt_18 ?_
  refine lv_iload_n hx hb dX7_bitAt_19 rfl (lv_at hl 2 rfl) ?_
  refine lv_bipush (v := 31) hx hb dX7_bitAt_20 (by decide) ?_
  refine lv_iand hx hb dX7_bitAt_22 ?_
  refine lv_lushr hx hb dX7_bitAt_23 rfl ?_
  refine lv_lconst (v := 1) hx hb dX7_bitAt_24 (by decide) ?_
  refine lv_land hx hb dX7_bitAt_25 ?_
  refine lv_l2i hx hb dX7_bitAt_26 rfl ?_
  obtain rfl := Option.some.inj hs
  exact hv_iret hx hb hrt hlk hr hS dX7_bitAt_27
theorem dX7_init_0 : decode cX7_init 0 = .ok (.aload_n 0, 1) := by decide +kernel
theorem dX7_init_1 : decode cX7_init 1 = .ok (.invokespecial 3, 3) := by decide +kernel
theorem dX7_init_4 : decode cX7_init 4 = .ok (.aload_n 0, 1) := by decide +kernel
theorem dX7_init_5 : decode cX7_init 5 = .ok (.bipush 13, 2) := by decide +kernel
theorem dX7_init_7 : decode cX7_init 7 = .ok (.newarray .long, 2) := by decide +kernel
theorem dX7_init_9 : decode cX7_init 9 = .ok (.putfield 9, 3) := by decide +kernel
theorem dX7_init_12 : decode cX7_init 12 = .ok (.return_, 1) := by decide +kernel
def zs_X7_init (h : AH) (u0 : Nat) : Option AH :=
  lt_ (nO h (.inl (1, (13, .inr (.inl (fun _ => 0)))))) fun g1 => (pV g1 u0 7 0 (.ref h.2)).bind fun g2 => some g2
set_option maxRecDepth 100000 in
set_option maxHeartbeats 4000000 in
theorem zm_X7_init (l : Launch) (D : hG) (z : Nat) {h : AH} {u0 : Nat} {h' : AH} (hs : zs_X7_init h u0 = some h') : hC l D z yX7_init cX7_init 1 (Option.none : Option Jvm.ClassFile.FieldType) 1 21 1 13 [.ref u0] h h' none := by
  refine hC_of (by decide) (Nat.le_of_ble_eq_true rfl) ?_
  intro p e s m below meth c hx hb hml hrt hlk hown hnm hts hk hr hz ls hl
  replace hown : s.vm.findClass RX7 = some m.cls := hown
  replace hl : lv_has ls 1 [(0, .ref u0)] := hl
  have hS : va_S (hA z) s.heap s.heap [] := va_S.rf
  suffices hgo : ∀ (H : Heap) (locs : List Loc), hR D z h H → va_S (hA z) s.heap H locs → W p l e ({ frames := 1, cells := 1, slots := 13, locals := 21 } : Room) s m ([.ref u0] : List Value).toArray below meth c H locs 0 0 (MQ below (hQ D z h' none) ([.ref u0] : List Value).toArray s 1 13 (hA z)) (F0 m 0 ls []) from hgo _ _ hr hS
  clear hr hS
  intro H locs hr hS
  unfold zs_X7_init at hs
  refine lv_aload_n hx hb dX7_init_0 rfl (lv_at hl 0 rfl) ?_
  refine W.objInit hx hb hown (hts _ tw_269) (hts _ tw_27) (hts _ tw_28) rfl (by rw [hml]; exact hl.1) rfl dX7_init_1 (by decide) (Nat.le_of_ble_eq_true rfl) ?_
  refine W.eq (g2 := F0 m 4 ls []) rfl ?_
  refine lv_aload_n hx hb dX7_init_4 rfl (lv_at hl 0 rfl) ?_
  refine lv_bipush (v := 13) hx hb dX7_init_5 (by decide) ?_
  refine hv_newa (at_ := .long) hx hb hts 1 rfl rfl tw_55 hk hr hz hS 13 (13, .inr (.inl (fun _ => 0))) (fun _ => rfl) (by decide) (by decide) (by decide) (by show _ ≤ (1 : Nat); omega) (by show _ ≤ (13 : Nat); omega) dX7_init_7 (fun H hr hS => ?_)
  obtain ⟨g1, eg1⟩ : ∃ q, q = nO h (.inl (1, (13, .inr (.inl (fun _ => 0))))) := ⟨_, rfl⟩
  rw [← eg1] at hr
  replace hs := lt_inv hs g1 eg1
  obtain ⟨g2, eg2, hs⟩ := bi_inv hs
  refine hv_pF (C := RX7) (T := TX7) (N := 1) (ci := 7) hx hb hts inX7 tyX7 tyX7_ok nmX7 hown hk hr hS rfl 0 (by decide) (hts _ tw_270) rfl hnm rfl rfl rfl eg2 dX7_init_9 (fun H locs hr hS => ?_)
  obtain rfl := Option.some.inj hs
  exact hv_vret hx hb hrt hlk hr hS dX7_init_12
theorem dX7_isBelow_0 : decode cX7_isBelow 0 = .ok (.aload_n 0, 1) := by decide +kernel
theorem dX7_isBelow_1 : decode cX7_isBelow 1 = .ok (.getfield 9, 3) := by decide +kernel
theorem dX7_isBelow_4 : decode cX7_isBelow 4 = .ok (.bipush 12, 2) := by decide +kernel
theorem dX7_isBelow_6 : decode cX7_isBelow 6 = .ok (.laload, 1) := by decide +kernel
theorem dX7_isBelow_7 : decode cX7_isBelow 7 = .ok (.lconst 0, 1) := by decide +kernel
theorem dX7_isBelow_8 : decode cX7_isBelow 8 = .ok (.lcmp, 1) := by decide +kernel
theorem dX7_isBelow_9 : decode cX7_isBelow 9 = .ok (.ifCond .eq 7, 3) := by decide +kernel
theorem dX7_isBelow_12 : decode cX7_isBelow 12 = .ok (.iconst 1, 1) := by decide +kernel
theorem dX7_isBelow_13 : decode cX7_isBelow 13 = .ok (.goto 4, 3) := by decide +kernel
theorem dX7_isBelow_16 : decode cX7_isBelow 16 = .ok (.iconst 0, 1) := by decide +kernel
theorem dX7_isBelow_17 : decode cX7_isBelow 17 = .ok (.ireturn, 1) := by decide +kernel
def zs_X7_isBelow (h : AH) (u0 : Nat) : Option Int32 :=
  (gR h u0 7 0).bind fun x1 => (aJ h x1 1 ((12 : Int32))).bind fun x2 => (if x2 = (0 : Int64) then some ((0 : Int32)) else some ((1 : Int32)))
set_option maxRecDepth 100000 in
set_option maxHeartbeats 4000000 in
theorem zm_X7_isBelow (l : Launch) (D : hG) (z : Nat) {h : AH} {u0 : Nat} {r : Int32} (hs : zs_X7_isBelow h u0 = some r) : hC l D z yX7_isBelow cX7_isBelow 1 (Option.some Jvm.ClassFile.FieldType.boolean) 0 0 0 0 [.ref u0] h h (some (.int r)) := by
  refine hC_of (by decide) (Nat.le_of_ble_eq_true rfl) ?_
  intro p e s m below meth c hx hb hml hrt hlk hown hnm hts hk hr hz ls hl
  replace hown : s.vm.findClass RX7 = some m.cls := hown
  replace hl : lv_has ls 1 [(0, .ref u0)] := hl
  have hS : va_S (hA z) s.heap s.heap [] := va_S.rf
  suffices hgo : ∀ (H : Heap) (locs : List Loc), hR D z h H → va_S (hA z) s.heap H locs → W p l e ({ frames := 0, cells := 0, slots := 0, locals := 0 } : Room) s m ([.ref u0] : List Value).toArray below meth c H locs 0 0 (MQ below (hQ D z h (some (.int r))) ([.ref u0] : List Value).toArray s 0 0 (hA z)) (F0 m 0 ls []) from hgo _ _ hr hS
  clear hr hS
  intro H locs hr hS
  unfold zs_X7_isBelow at hs
  refine lv_aload_n hx hb dX7_isBelow_0 rfl (lv_at hl 0 rfl) ?_
  obtain ⟨x1, ex1, hs⟩ := bi_inv hs
  refine hv_gR (C := RX7) (T := TX7) (N := 1) (ci := 7) hx hb hts inX7 hown hk hr rfl 0 (by decide) (hts _ tw_270) ex1 dX7_isBelow_1 ?_
  refine lv_bipush (v := 12) hx hb dX7_isBelow_4 (by decide) ?_
  obtain ⟨x2, ex2, hs⟩ := bi_inv hs
  refine hv_aJ hx hb hk hr ex2 dX7_isBelow_6 ?_
  refine lv_lconst (v := 0) hx hb dX7_isBelow_7 (by decide) ?_
  refine hv_lc_eq (tgt := 16) hx hb dX7_isBelow_8 dX7_isBelow_9 (by decide) (fun c3 => ?_) (fun c3 => ?_)
  · rw [if_pos c3] at hs
    refine lv_iconst (v := 0) hx hb dX7_isBelow_16 (by decide) ?_
    obtain rfl := Option.some.inj hs
    exact hv_zret hx hb hrt hlk hr hS (by decide) dX7_isBelow_17
  · rw [if_neg c3] at hs
    refine lv_iconst (v := 1) hx hb dX7_isBelow_12 (by decide) ?_
    refine lv_goto (tgt := 17) hx hb dX7_isBelow_13 (by decide) ?_
    obtain rfl := Option.some.inj hs
    exact hv_zret hx hb hrt hlk hr hS (by decide) dX7_isBelow_17
theorem dX7_join_0 : decode cX7_join 0 = .ok (.iconst 0, 1) := by decide +kernel
theorem dX7_join_1 : decode cX7_join 1 = .ok (.istore_n 3, 1) := by decide +kernel
theorem dX7_join_2 : decode cX7_join 2 = .ok (.iload_n 3, 1) := by decide +kernel
theorem dX7_join_3 : decode cX7_join 3 = .ok (.bipush 12, 2) := by decide +kernel
theorem dX7_join_5 : decode cX7_join 5 = .ok (.if_icmp .gt 96, 3) := by decide +kernel
theorem dX7_join_8 : decode cX7_join 8 = .ok (.aload_n 0, 1) := by decide +kernel
theorem dX7_join_9 : decode cX7_join 9 = .ok (.getfield 9, 3) := by decide +kernel
theorem dX7_join_12 : decode cX7_join 12 = .ok (.iload_n 3, 1) := by decide +kernel
theorem dX7_join_13 : decode cX7_join 13 = .ok (.laload, 1) := by decide +kernel
theorem dX7_join_14 : decode cX7_join 14 = .ok (.lstore 4, 2) := by decide +kernel
theorem dX7_join_16 : decode cX7_join 16 = .ok (.aload_n 2, 1) := by decide +kernel
theorem dX7_join_17 : decode cX7_join 17 = .ok (.getfield 9, 3) := by decide +kernel
theorem dX7_join_20 : decode cX7_join 20 = .ok (.iload_n 3, 1) := by decide +kernel
theorem dX7_join_21 : decode cX7_join 21 = .ok (.laload, 1) := by decide +kernel
theorem dX7_join_22 : decode cX7_join 22 = .ok (.lstore 6, 2) := by decide +kernel
theorem dX7_join_24 : decode cX7_join 24 = .ok (.iload_n 1, 1) := by decide +kernel
theorem dX7_join_25 : decode cX7_join 25 = .ok (.ifCond .ne 17, 3) := by decide +kernel
theorem dX7_join_28 : decode cX7_join 28 = .ok (.aload_n 0, 1) := by decide +kernel
theorem dX7_join_29 : decode cX7_join 29 = .ok (.getfield 9, 3) := by decide +kernel
theorem dX7_join_32 : decode cX7_join 32 = .ok (.iload_n 3, 1) := by decide +kernel
theorem dX7_join_33 : decode cX7_join 33 = .ok (.lload 4, 2) := by decide +kernel
theorem dX7_join_35 : decode cX7_join 35 = .ok (.lload 6, 2) := by decide +kernel
theorem dX7_join_37 : decode cX7_join 37 = .ok (.land, 1) := by decide +kernel
theorem dX7_join_38 : decode cX7_join 38 = .ok (.lastore, 1) := by decide +kernel
theorem dX7_join_39 : decode cX7_join 39 = .ok (.goto 56, 3) := by decide +kernel
theorem dX7_join_42 : decode cX7_join 42 = .ok (.iload_n 1, 1) := by decide +kernel
theorem dX7_join_43 : decode cX7_join 43 = .ok (.iconst 1, 1) := by decide +kernel
theorem dX7_join_44 : decode cX7_join 44 = .ok (.if_icmp .ne 17, 3) := by decide +kernel
theorem dX7_join_47 : decode cX7_join 47 = .ok (.aload_n 0, 1) := by decide +kernel
theorem dX7_join_48 : decode cX7_join 48 = .ok (.getfield 9, 3) := by decide +kernel
theorem dX7_join_51 : decode cX7_join 51 = .ok (.iload_n 3, 1) := by decide +kernel
theorem dX7_join_52 : decode cX7_join 52 = .ok (.lload 4, 2) := by decide +kernel
theorem dX7_join_54 : decode cX7_join 54 = .ok (.lload 6, 2) := by decide +kernel
theorem dX7_join_56 : decode cX7_join 56 = .ok (.lor, 1) := by decide +kernel
theorem dX7_join_57 : decode cX7_join 57 = .ok (.lastore, 1) := by decide +kernel
theorem dX7_join_58 : decode cX7_join 58 = .ok (.goto 37, 3) := by decide +kernel
theorem dX7_join_61 : decode cX7_join 61 = .ok (.iload_n 1, 1) := by decide +kernel
theorem dX7_join_62 : decode cX7_join 62 = .ok (.iconst 2, 1) := by decide +kernel
theorem dX7_join_63 : decode cX7_join 63 = .ok (.if_icmp .ne 17, 3) := by decide +kernel
theorem dX7_join_66 : decode cX7_join 66 = .ok (.aload_n 0, 1) := by decide +kernel
theorem dX7_join_67 : decode cX7_join 67 = .ok (.getfield 9, 3) := by decide +kernel
theorem dX7_join_70 : decode cX7_join 70 = .ok (.iload_n 3, 1) := by decide +kernel
theorem dX7_join_71 : decode cX7_join 71 = .ok (.lload 4, 2) := by decide +kernel
theorem dX7_join_73 : decode cX7_join 73 = .ok (.lload 6, 2) := by decide +kernel
theorem dX7_join_75 : decode cX7_join 75 = .ok (.lxor, 1) := by decide +kernel
theorem dX7_join_76 : decode cX7_join 76 = .ok (.lastore, 1) := by decide +kernel
theorem dX7_join_77 : decode cX7_join 77 = .ok (.goto 18, 3) := by decide +kernel
theorem dX7_join_80 : decode cX7_join 80 = .ok (.aload_n 0, 1) := by decide +kernel
theorem dX7_join_81 : decode cX7_join 81 = .ok (.getfield 9, 3) := by decide +kernel
theorem dX7_join_84 : decode cX7_join 84 = .ok (.iload_n 3, 1) := by decide +kernel
theorem dX7_join_85 : decode cX7_join 85 = .ok (.lload 4, 2) := by decide +kernel
theorem dX7_join_87 : decode cX7_join 87 = .ok (.lload 6, 2) := by decide +kernel
theorem dX7_join_89 : decode cX7_join 89 = .ok (.ldc2_w 28, 3) := by decide +kernel
theorem dX7_join_92 : decode cX7_join 92 = .ok (.lxor, 1) := by decide +kernel
theorem dX7_join_93 : decode cX7_join 93 = .ok (.land, 1) := by decide +kernel
theorem dX7_join_94 : decode cX7_join 94 = .ok (.lastore, 1) := by decide +kernel
theorem dX7_join_95 : decode cX7_join 95 = .ok (.iinc 3 1, 3) := by decide +kernel
theorem dX7_join_98 : decode cX7_join 98 = .ok (.goto (-96), 3) := by decide +kernel
theorem dX7_join_101 : decode cX7_join 101 = .ok (.return_, 1) := by decide +kernel
def zb_X7_join_2 (w0 : Nat) (w1 : Int32) (w2 : Nat) (g1 : AH) (w3 : Int32) : Option ((AH × Int32) ⊕ (AH)) :=
  (if (12 : Int32) < w3 then some (Sum.inr g1) else (gR g1 w0 7 0).bind fun x3 => (aJ g1 x3 1 w3).bind fun x4 => (gR g1 w2 7 0).bind fun x5 => (aJ g1 x5 1 w3).bind fun x6 => (if w1 = 0 then (gR g1 w0 7 0).bind fun x16 => (sJ g1 x16 1 w3 (x4 &&& x6)).bind fun g17 => some (Sum.inl ((g17, w3 + (1 : Int32)))) else (if w1 = (1 : Int32) then (gR g1 w0 7 0).bind fun x14 => (sJ g1 x14 1 w3 (x4 ||| x6)).bind fun g15 => some (Sum.inl ((g15, w3 + (1 : Int32)))) else (if w1 = (2 : Int32) then (gR g1 w0 7 0).bind fun x12 => (sJ g1 x12 1 w3 (x4 ^^^ x6)).bind fun g13 => some (Sum.inl ((g13, w3 + (1 : Int32)))) else (gR g1 w0 7 0).bind fun x10 => (sJ g1 x10 1 w3 (x4 &&& (x6 ^^^ ((-1 : Int64))))).bind fun g11 => some (Sum.inl ((g11, w3 + (1 : Int32))))))))
def zs_X7_join (h : AH) (u0 : Nat) (u1 : Int32) (u2 : Nat) : Option AH :=
  (iter (fun q : AH × Int32 => zb_X7_join_2 u0 u1 u2 q.1 q.2) FU ((h, (0 : Int32)))).bind fun r18 => some r18
set_option maxRecDepth 100000 in
set_option maxHeartbeats 4000000 in
theorem zm_X7_join (l : Launch) (D : hG) (z : Nat) {h : AH} {u0 : Nat} {u1 : Int32} {u2 : Nat} {h' : AH} (hs : zs_X7_join h u0 u1 u2 = some h') : hC l D z yX7_join cX7_join 8 (Option.none : Option Jvm.ClassFile.FieldType) 0 0 0 0 [.ref u0, .int u1, .ref u2] h h' none := by
  refine hC_of (by decide) (Nat.le_of_ble_eq_true rfl) ?_
  intro p e s m below meth c hx hb hml hrt hlk hown hnm hts hk hr hz ls hl
  replace hown : s.vm.findClass RX7 = some m.cls := hown
  replace hl : lv_has ls 8 [(0, .ref u0), (1, .int u1), (2, .ref u2)] := hl
  have hS : va_S (hA z) s.heap s.heap [] := va_S.rf
  suffices hgo : ∀ (H : Heap) (locs : List Loc), hR D z h H → va_S (hA z) s.heap H locs → W p l e ({ frames := 0, cells := 0, slots := 0, locals := 0 } : Room) s m ([.ref u0, .int u1, .ref u2] : List Value).toArray below meth c H locs 0 0 (MQ below (hQ D z h' none) ([.ref u0, .int u1, .ref u2] : List Value).toArray s 0 0 (hA z)) (F0 m 0 ls []) from hgo _ _ hr hS
  clear hr hS
  intro H locs hr hS
  unfold zs_X7_join at hs
  refine lv_iconst (v := 0) hx hb dX7_join_0 (by decide) ?_
  refine lv_istore_n (lv' := [(3, .int ((0 : Int32))), (0, .ref u0), (1, .int u1), (2, .ref u2)]) hx hb dX7_join_1 rfl hl (by decide) rfl (fun ls hl => ?_)
  obtain ⟨r18, er18, hs⟩ := bi_inv hs
  refine iter_W (fun (q : AH × Int32) => ∀ (H : Heap) (locs : List Loc) (ls : Array Slot), hR D z q.1 H → va_S (hA z) s.heap H locs → lv_has ls 8 [(0, .ref u0), (1, .int u1), (2, .ref u2), (3, .int q.2)] → W p l e ({ frames := 0, cells := 0, slots := 0, locals := 0 } : Room) s m ([.ref u0, .int u1, .ref u2] : List Value).toArray below meth c H locs 0 0 (MQ below (hQ D z h' none) ([.ref u0, .int u1, .ref u2] : List Value).toArray s 0 0 (hA z)) (F0 m 2 ls [])) (fun (x : AH) => ∀ (H : Heap) (locs : List Loc) (ls : Array Slot), hR D z x H → va_S (hA z) s.heap H locs → lv_has ls 8 [] → W p l e ({ frames := 0, cells := 0, slots := 0, locals := 0 } : Room) s m ([.ref u0, .int u1, .ref u2] : List Value).toArray below meth c H locs 0 0 (MQ below (hQ D z h' none) ([.ref u0, .int u1, .ref u2] : List Value).toArray s 0 0 (hA z)) (F0 m 101 ls [])) ?_ FU _ r18 er18 ?_ H locs ls hr hS (lv_sub hl [1, 2, 3, 0] rfl)
  · intro q o hs hcont hexit
    obtain ⟨g1, w3⟩ := q
    replace hs : zb_X7_join_2 u0 u1 u2 g1 w3 = some o := hs
    intro H locs ls hr hS hl
    unfold zb_X7_join_2 at hs
    refine lv_iload_n hx hb dX7_join_2 rfl (lv_at hl 3 rfl) ?_
    refine lv_bipush (v := 12) hx hb dX7_join_3 (by decide) ?_
    refine lv_icmp_gt (tgt := 101) hx hb dX7_join_5 (by decide) (fun c2 => ?_) (fun c2 => ?_)
    · rw [if_pos c2] at hs
      obtain rfl := Option.some.inj hs
      exact hexit _ rfl H locs ls hr hS (lv_sub hl [] rfl)
    · rw [if_neg c2] at hs
      refine lv_aload_n hx hb dX7_join_8 rfl (lv_at hl 0 rfl) ?_
      obtain ⟨x3, ex3, hs⟩ := bi_inv hs
      refine hv_gR (C := RX7) (T := TX7) (N := 1) (ci := 7) hx hb hts inX7 hown hk hr rfl 0 (by decide) (hts _ tw_270) ex3 dX7_join_9 ?_
      refine lv_iload_n hx hb dX7_join_12 rfl (lv_at hl 3 rfl) ?_
      obtain ⟨x4, ex4, hs⟩ := bi_inv hs
      refine hv_aJ hx hb hk hr ex4 dX7_join_13 ?_
      refine lv_lstore (lv' := [(4, .long x4), (0, .ref u0), (1, .int u1), (2, .ref u2), (3, .int w3)]) hx hb dX7_join_14 hl (by decide) rfl (fun ls hl => ?_)
      refine lv_aload_n hx hb dX7_join_16 rfl (lv_at hl 3 rfl) ?_
      obtain ⟨x5, ex5, hs⟩ := bi_inv hs
      refine hv_gR (C := RX7) (T := TX7) (N := 1) (ci := 7) hx hb hts inX7 hown hk hr rfl 0 (by decide) (hts _ tw_270) ex5 dX7_join_17 ?_
      refine lv_iload_n hx hb dX7_join_20 rfl (lv_at hl 4 rfl) ?_
      obtain ⟨x6, ex6, hs⟩ := bi_inv hs
      refine hv_aJ hx hb hk hr ex6 dX7_join_21 ?_
      refine lv_lstore (lv' := [(6, .long x6), (4, .long x4), (0, .ref u0), (1, .int u1), (2, .ref u2), (3, .int w3)]) hx hb dX7_join_22 hl (by decide) rfl (fun ls hl => ?_)
      refine lv_iload_n hx hb dX7_join_24 rfl (lv_at hl 3 rfl) ?_
      refine lv_if_ne (tgt := 42) hx hb dX7_join_25 (by decide) (fun c7 => ?_) (fun c7 => ?_)
      · rw [if_neg c7] at hs
        refine lv_iload_n hx hb dX7_join_42 rfl (lv_at hl 3 rfl) ?_
        refine lv_iconst (v := 1) hx hb dX7_join_43 (by decide) ?_
        refine lv_icmp_ne (tgt := 61) hx hb dX7_join_44 (by decide) (fun c8 => ?_) (fun c8 => ?_)
        · rw [if_neg c8] at hs
          refine lv_iload_n hx hb dX7_join_61 rfl (lv_at hl 3 rfl) ?_
          refine lv_iconst (v := 2) hx hb dX7_join_62 (by decide) ?_
          refine lv_icmp_ne (tgt := 80) hx hb dX7_join_63 (by decide) (fun c9 => ?_) (fun c9 => ?_)
          · rw [if_neg c9] at hs
            refine lv_aload_n hx hb dX7_join_80 rfl (lv_at hl 2 rfl) ?_
            obtain ⟨x10, ex10, hs⟩ := bi_inv hs
            refine hv_gR (C := RX7) (T := TX7) (N := 1) (ci := 7) hx hb hts inX7 hown hk hr rfl 0 (by decide) (hts _ tw_270) ex10 dX7_join_81 ?_
            refine lv_iload_n hx hb dX7_join_84 rfl (lv_at hl 5 rfl) ?_
            refine lv_lload hx hb dX7_join_85 (lv_at hl 1 rfl) ?_
            refine lv_lload hx hb dX7_join_87 (lv_at hl 0 rfl) ?_
            refine lv_ldc2 hx hb hown (hts _ tw_624) dX7_join_89 ?_
            refine lv_lxor hx hb dX7_join_92 ?_
            refine lv_land hx hb dX7_join_93 ?_
            obtain ⟨g11, eg11, hs⟩ := bi_inv hs
            refine hv_sJ hx hb hk hr hS eg11 dX7_join_94 (fun H locs hr hS => ?_)
            refine lv_iinc (v := w3 + (1 : Int32)) (lv' := [(3, .int (w3 + (1 : Int32))), (6, .long x6), (4, .long x4), (0, .ref u0), (1, .int u1), (2, .ref u2)]) hx hb dX7_join_95 hl (k := 5) rfl (ii_v _ (by decide)) (by decide) rfl (fun ls hl => ?_)
            refine lv_goto (tgt := 2) hx hb dX7_join_98 (by decide) ?_
            obtain rfl := Option.some.inj hs
            exact hcont _ rfl H locs ls hr hS (lv_sub hl [3, 4, 5, 0] rfl)
          · rw [if_pos c9] at hs
            refine lv_aload_n hx hb dX7_join_66 rfl (lv_at hl 2 rfl) ?_
            obtain ⟨x12, ex12, hs⟩ := bi_inv hs
            refine hv_gR (C := RX7) (T := TX7) (N := 1) (ci := 7) hx hb hts inX7 hown hk hr rfl 0 (by decide) (hts _ tw_270) ex12 dX7_join_67 ?_
            refine lv_iload_n hx hb dX7_join_70 rfl (lv_at hl 5 rfl) ?_
            refine lv_lload hx hb dX7_join_71 (lv_at hl 1 rfl) ?_
            refine lv_lload hx hb dX7_join_73 (lv_at hl 0 rfl) ?_
            refine lv_lxor hx hb dX7_join_75 ?_
            obtain ⟨g13, eg13, hs⟩ := bi_inv hs
            refine hv_sJ hx hb hk hr hS eg13 dX7_join_76 (fun H locs hr hS => ?_)
            refine lv_goto (tgt := 95) hx hb dX7_join_77 (by decide) ?_
            refine lv_iinc (v := w3 + (1 : Int32)) (lv' := [(3, .int (w3 + (1 : Int32))), (6, .long x6), (4, .long x4), (0, .ref u0), (1, .int u1), (2, .ref u2)]) hx hb dX7_join_95 hl (k := 5) rfl (ii_v _ (by decide)) (by decide) rfl (fun ls hl => ?_)
            refine lv_goto (tgt := 2) hx hb dX7_join_98 (by decide) ?_
            obtain rfl := Option.some.inj hs
            exact hcont _ rfl H locs ls hr hS (lv_sub hl [3, 4, 5, 0] rfl)
        · rw [if_pos c8] at hs
          refine lv_aload_n hx hb dX7_join_47 rfl (lv_at hl 2 rfl) ?_
          obtain ⟨x14, ex14, hs⟩ := bi_inv hs
          refine hv_gR (C := RX7) (T := TX7) (N := 1) (ci := 7) hx hb hts inX7 hown hk hr rfl 0 (by decide) (hts _ tw_270) ex14 dX7_join_48 ?_
          refine lv_iload_n hx hb dX7_join_51 rfl (lv_at hl 5 rfl) ?_
          refine lv_lload hx hb dX7_join_52 (lv_at hl 1 rfl) ?_
          refine lv_lload hx hb dX7_join_54 (lv_at hl 0 rfl) ?_
          refine lv_lor hx hb dX7_join_56 ?_
          obtain ⟨g15, eg15, hs⟩ := bi_inv hs
          refine hv_sJ hx hb hk hr hS eg15 dX7_join_57 (fun H locs hr hS => ?_)
          refine lv_goto (tgt := 95) hx hb dX7_join_58 (by decide) ?_
          refine lv_iinc (v := w3 + (1 : Int32)) (lv' := [(3, .int (w3 + (1 : Int32))), (6, .long x6), (4, .long x4), (0, .ref u0), (1, .int u1), (2, .ref u2)]) hx hb dX7_join_95 hl (k := 5) rfl (ii_v _ (by decide)) (by decide) rfl (fun ls hl => ?_)
          refine lv_goto (tgt := 2) hx hb dX7_join_98 (by decide) ?_
          obtain rfl := Option.some.inj hs
          exact hcont _ rfl H locs ls hr hS (lv_sub hl [3, 4, 5, 0] rfl)
      · rw [if_pos c7] at hs
        refine lv_aload_n hx hb dX7_join_28 rfl (lv_at hl 2 rfl) ?_
        obtain ⟨x16, ex16, hs⟩ := bi_inv hs
        refine hv_gR (C := RX7) (T := TX7) (N := 1) (ci := 7) hx hb hts inX7 hown hk hr rfl 0 (by decide) (hts _ tw_270) ex16 dX7_join_29 ?_
        refine lv_iload_n hx hb dX7_join_32 rfl (lv_at hl 5 rfl) ?_
        refine lv_lload hx hb dX7_join_33 (lv_at hl 1 rfl) ?_
        refine lv_lload hx hb dX7_join_35 (lv_at hl 0 rfl) ?_
        refine lv_land hx hb dX7_join_37 ?_
        obtain ⟨g17, eg17, hs⟩ := bi_inv hs
        refine hv_sJ hx hb hk hr hS eg17 dX7_join_38 (fun H locs hr hS => ?_)
        refine lv_goto (tgt := 95) hx hb dX7_join_39 (by decide) ?_
        refine lv_iinc (v := w3 + (1 : Int32)) (lv' := [(3, .int (w3 + (1 : Int32))), (6, .long x6), (4, .long x4), (0, .ref u0), (1, .int u1), (2, .ref u2)]) hx hb dX7_join_95 hl (k := 5) rfl (ii_v _ (by decide)) (by decide) rfl (fun ls hl => ?_)
        refine lv_goto (tgt := 2) hx hb dX7_join_98 (by decide) ?_
        obtain rfl := Option.some.inj hs
        exact hcont _ rfl H locs ls hr hS (lv_sub hl [3, 4, 5, 0] rfl)
  · intro H locs ls hr hS hl
    obtain rfl := Option.some.inj hs
    exact hv_vret hx hb hrt hlk hr hS dX7_join_101
theorem dX7_negate_0 : decode cX7_negate 0 = .ok (.lconst 1, 1) := by decide +kernel
theorem dX7_negate_1 : decode cX7_negate 1 = .ok (.lstore_n 1, 1) := by decide +kernel
theorem dX7_negate_2 : decode cX7_negate 2 = .ok (.iconst 0, 1) := by decide +kernel
theorem dX7_negate_3 : decode cX7_negate 3 = .ok (.istore_n 3, 1) := by decide +kernel
theorem dX7_negate_4 : decode cX7_negate 4 = .ok (.iload_n 3, 1) := by decide +kernel
theorem dX7_negate_5 : decode cX7_negate 5 = .ok (.bipush 12, 2) := by decide +kernel
theorem dX7_negate_7 : decode cX7_negate 7 = .ok (.if_icmp .gt 41, 3) := by decide +kernel
theorem dX7_negate_10 : decode cX7_negate 10 = .ok (.aload_n 0, 1) := by decide +kernel
theorem dX7_negate_11 : decode cX7_negate 11 = .ok (.getfield 9, 3) := by decide +kernel
theorem dX7_negate_14 : decode cX7_negate 14 = .ok (.iload_n 3, 1) := by decide +kernel
theorem dX7_negate_15 : decode cX7_negate 15 = .ok (.laload, 1) := by decide +kernel
theorem dX7_negate_16 : decode cX7_negate 16 = .ok (.ldc2_w 54, 3) := by decide +kernel
theorem dX7_negate_19 : decode cX7_negate 19 = .ok (.lxor, 1) := by decide +kernel
theorem dX7_negate_20 : decode cX7_negate 20 = .ok (.lload_n 1, 1) := by decide +kernel
theorem dX7_negate_21 : decode cX7_negate 21 = .ok (.ladd, 1) := by decide +kernel
theorem dX7_negate_22 : decode cX7_negate 22 = .ok (.lstore 4, 2) := by decide +kernel
theorem dX7_negate_24 : decode cX7_negate 24 = .ok (.aload_n 0, 1) := by decide +kernel
theorem dX7_negate_25 : decode cX7_negate 25 = .ok (.getfield 9, 3) := by decide +kernel
theorem dX7_negate_28 : decode cX7_negate 28 = .ok (.iload_n 3, 1) := by decide +kernel
theorem dX7_negate_29 : decode cX7_negate 29 = .ok (.lload 4, 2) := by decide +kernel
theorem dX7_negate_31 : decode cX7_negate 31 = .ok (.ldc2_w 54, 3) := by decide +kernel
theorem dX7_negate_34 : decode cX7_negate 34 = .ok (.land, 1) := by decide +kernel
theorem dX7_negate_35 : decode cX7_negate 35 = .ok (.lastore, 1) := by decide +kernel
theorem dX7_negate_36 : decode cX7_negate 36 = .ok (.lload 4, 2) := by decide +kernel
theorem dX7_negate_38 : decode cX7_negate 38 = .ok (.bipush 32, 2) := by decide +kernel
theorem dX7_negate_40 : decode cX7_negate 40 = .ok (.lushr, 1) := by decide +kernel
theorem dX7_negate_41 : decode cX7_negate 41 = .ok (.lstore_n 1, 1) := by decide +kernel
theorem dX7_negate_42 : decode cX7_negate 42 = .ok (.iinc 3 1, 3) := by decide +kernel
theorem dX7_negate_45 : decode cX7_negate 45 = .ok (.goto (-41), 3) := by decide +kernel
theorem dX7_negate_48 : decode cX7_negate 48 = .ok (.return_, 1) := by decide +kernel
def zb_X7_negate_4 (w0 : Nat) (g1 : AH) (w1 : Int64) (w3 : Int32) : Option ((AH × Int64 × Int32) ⊕ (AH)) :=
  (if (12 : Int32) < w3 then some (Sum.inr g1) else (gR g1 w0 7 0).bind fun x3 => (aJ g1 x3 1 w3).bind fun x4 => lt_ ((x4 ^^^ ((4294967295 : Int64))) + w1) fun x5 => (gR g1 w0 7 0).bind fun x6 => (sJ g1 x6 1 w3 (x5 &&& ((4294967295 : Int64)))).bind fun g7 => lt_ ((x5.toUInt64 >>> (((32 : Int32)).toInt64.toUInt64 &&& Int64.toUInt64 63)).toInt64) fun x8 => some (Sum.inl ((g7, x8, w3 + (1 : Int32)))))
def zs_X7_negate (h : AH) (u0 : Nat) : Option AH :=
  (iter (fun q : AH × Int64 × Int32 => zb_X7_negate_4 u0 q.1 q.2.1 q.2.2) FU ((h, (1 : Int64), (0 : Int32)))).bind fun r9 => some r9
set_option maxRecDepth 100000 in
set_option maxHeartbeats 4000000 in
theorem zm_X7_negate (l : Launch) (D : hG) (z : Nat) {h : AH} {u0 : Nat} {h' : AH} (hs : zs_X7_negate h u0 = some h') : hC l D z yX7_negate cX7_negate 6 (Option.none : Option Jvm.ClassFile.FieldType) 0 0 0 0 [.ref u0] h h' none := by
  refine hC_of (by decide) (Nat.le_of_ble_eq_true rfl) ?_
  intro p e s m below meth c hx hb hml hrt hlk hown hnm hts hk hr hz ls hl
  replace hown : s.vm.findClass RX7 = some m.cls := hown
  replace hl : lv_has ls 6 [(0, .ref u0)] := hl
  have hS : va_S (hA z) s.heap s.heap [] := va_S.rf
  suffices hgo : ∀ (H : Heap) (locs : List Loc), hR D z h H → va_S (hA z) s.heap H locs → W p l e ({ frames := 0, cells := 0, slots := 0, locals := 0 } : Room) s m ([.ref u0] : List Value).toArray below meth c H locs 0 0 (MQ below (hQ D z h' none) ([.ref u0] : List Value).toArray s 0 0 (hA z)) (F0 m 0 ls []) from hgo _ _ hr hS
  clear hr hS
  intro H locs hr hS
  unfold zs_X7_negate at hs
  refine lv_lconst (v := 1) hx hb dX7_negate_0 (by decide) ?_
  refine lv_lstore_n (lv' := [(1, .long ((1 : Int64))), (0, .ref u0)]) hx hb dX7_negate_1 rfl hl (by decide) rfl (fun ls hl => ?_)
  refine lv_iconst (v := 0) hx hb dX7_negate_2 (by decide) ?_
  refine lv_istore_n (lv' := [(3, .int ((0 : Int32))), (1, .long ((1 : Int64))), (0, .ref u0)]) hx hb dX7_negate_3 rfl hl (by decide) rfl (fun ls hl => ?_)
  obtain ⟨r9, er9, hs⟩ := bi_inv hs
  refine iter_W (fun (q : AH × Int64 × Int32) => ∀ (H : Heap) (locs : List Loc) (ls : Array Slot), hR D z q.1 H → va_S (hA z) s.heap H locs → lv_has ls 6 [(0, .ref u0), (1, .long q.2.1), (3, .int q.2.2)] → W p l e ({ frames := 0, cells := 0, slots := 0, locals := 0 } : Room) s m ([.ref u0] : List Value).toArray below meth c H locs 0 0 (MQ below (hQ D z h' none) ([.ref u0] : List Value).toArray s 0 0 (hA z)) (F0 m 4 ls [])) (fun (x : AH) => ∀ (H : Heap) (locs : List Loc) (ls : Array Slot), hR D z x H → va_S (hA z) s.heap H locs → lv_has ls 6 [] → W p l e ({ frames := 0, cells := 0, slots := 0, locals := 0 } : Room) s m ([.ref u0] : List Value).toArray below meth c H locs 0 0 (MQ below (hQ D z h' none) ([.ref u0] : List Value).toArray s 0 0 (hA z)) (F0 m 48 ls [])) ?_ FU _ r9 er9 ?_ H locs ls hr hS (lv_sub hl [2, 1, 0] rfl)
  · intro q o hs hcont hexit
    obtain ⟨g1, w1, w3⟩ := q
    replace hs : zb_X7_negate_4 u0 g1 w1 w3 = some o := hs
    intro H locs ls hr hS hl
    unfold zb_X7_negate_4 at hs
    refine lv_iload_n hx hb dX7_negate_4 rfl (lv_at hl 2 rfl) ?_
    refine lv_bipush (v := 12) hx hb dX7_negate_5 (by decide) ?_
    refine lv_icmp_gt (tgt := 48) hx hb dX7_negate_7 (by decide) (fun c2 => ?_) (fun c2 => ?_)
    · rw [if_pos c2] at hs
      obtain rfl := Option.some.inj hs
      exact hexit _ rfl H locs ls hr hS (lv_sub hl [] rfl)
    · rw [if_neg c2] at hs
      refine lv_aload_n hx hb dX7_negate_10 rfl (lv_at hl 0 rfl) ?_
      obtain ⟨x3, ex3, hs⟩ := bi_inv hs
      refine hv_gR (C := RX7) (T := TX7) (N := 1) (ci := 7) hx hb hts inX7 hown hk hr rfl 0 (by decide) (hts _ tw_270) ex3 dX7_negate_11 ?_
      refine lv_iload_n hx hb dX7_negate_14 rfl (lv_at hl 2 rfl) ?_
      obtain ⟨x4, ex4, hs⟩ := bi_inv hs
      refine hv_aJ hx hb hk hr ex4 dX7_negate_15 ?_
      refine lv_ldc2 hx hb hown (hts _ tw_619) dX7_negate_16 ?_
      refine lv_lxor hx hb dX7_negate_19 ?_
      refine lv_lload_n hx hb dX7_negate_20 rfl (lv_at hl 1 rfl) ?_
      refine lv_ladd hx hb dX7_negate_21 ?_
      refine lv_topl (fun x5 ex5 => ?_)
      replace hs := lt_inv hs x5 ex5
      refine lv_lstore (lv' := [(4, .long x5), (0, .ref u0), (1, .long w1), (3, .int w3)]) hx hb dX7_negate_22 hl (by decide) rfl (fun ls hl => ?_)
      refine lv_aload_n hx hb dX7_negate_24 rfl (lv_at hl 1 rfl) ?_
      obtain ⟨x6, ex6, hs⟩ := bi_inv hs
      refine hv_gR (C := RX7) (T := TX7) (N := 1) (ci := 7) hx hb hts inX7 hown hk hr rfl 0 (by decide) (hts _ tw_270) ex6 dX7_negate_25 ?_
      refine lv_iload_n hx hb dX7_negate_28 rfl (lv_at hl 3 rfl) ?_
      refine lv_lload hx hb dX7_negate_29 (lv_at hl 0 rfl) ?_
      refine lv_ldc2 hx hb hown (hts _ tw_619) dX7_negate_31 ?_
      refine lv_land hx hb dX7_negate_34 ?_
      obtain ⟨g7, eg7, hs⟩ := bi_inv hs
      refine hv_sJ hx hb hk hr hS eg7 dX7_negate_35 (fun H locs hr hS => ?_)
      refine lv_lload hx hb dX7_negate_36 (lv_at hl 0 rfl) ?_
      refine lv_bipush (v := 32) hx hb dX7_negate_38 (by decide) ?_
      refine lv_lushr hx hb dX7_negate_40 rfl ?_
      refine lv_topl (fun x8 ex8 => ?_)
      replace hs := lt_inv hs x8 ex8
      refine lv_lstore_n (lv' := [(1, .long x8), (4, .long x5), (0, .ref u0), (3, .int w3)]) hx hb dX7_negate_41 rfl hl (by decide) rfl (fun ls hl => ?_)
      refine lv_iinc (v := w3 + (1 : Int32)) (lv' := [(3, .int (w3 + (1 : Int32))), (1, .long x8), (4, .long x5), (0, .ref u0)]) hx hb dX7_negate_42 hl (k := 3) rfl (ii_v _ (by decide)) (by decide) rfl (fun ls hl => ?_)
      refine lv_goto (tgt := 4) hx hb dX7_negate_45 (by decide) ?_
      obtain rfl := Option.some.inj hs
      exact hcont _ rfl H locs ls hr hS (lv_sub hl [3, 1, 0] rfl)
  · intro H locs ls hr hS hl
    obtain rfl := Option.some.inj hs
    exact hv_vret hx hb hrt hlk hr hS dX7_negate_48
theorem dX7_load_0 : decode cX7_load 0 = .ok (.iconst 0, 1) := by decide +kernel
theorem dX7_load_1 : decode cX7_load 1 = .ok (.istore_n 2, 1) := by decide +kernel
theorem dX7_load_2 : decode cX7_load 2 = .ok (.iload_n 2, 1) := by decide +kernel
theorem dX7_load_3 : decode cX7_load 3 = .ok (.bipush 12, 2) := by decide +kernel
theorem dX7_load_5 : decode cX7_load 5 = .ok (.if_icmp .gt 20, 3) := by decide +kernel
theorem dX7_load_8 : decode cX7_load 8 = .ok (.aload_n 0, 1) := by decide +kernel
theorem dX7_load_9 : decode cX7_load 9 = .ok (.getfield 9, 3) := by decide +kernel
theorem dX7_load_12 : decode cX7_load 12 = .ok (.iload_n 2, 1) := by decide +kernel
theorem dX7_load_13 : decode cX7_load 13 = .ok (.aload_n 1, 1) := by decide +kernel
theorem dX7_load_14 : decode cX7_load 14 = .ok (.iload_n 2, 1) := by decide +kernel
theorem dX7_load_15 : decode cX7_load 15 = .ok (.invokevirtual 15, 3) := by decide +kernel
theorem dX7_load_18 : decode cX7_load 18 = .ok (.lastore, 1) := by decide +kernel
theorem dX7_load_19 : decode cX7_load 19 = .ok (.iinc 2 1, 3) := by decide +kernel
theorem dX7_load_22 : decode cX7_load 22 = .ok (.goto (-20), 3) := by decide +kernel
theorem dX7_load_25 : decode cX7_load 25 = .ok (.aload_n 1, 1) := by decide +kernel
theorem dX7_load_26 : decode cX7_load 26 = .ok (.getfield 21, 3) := by decide +kernel
theorem dX7_load_29 : decode cX7_load 29 = .ok (.ifCond .eq 7, 3) := by decide +kernel
theorem dX7_load_32 : decode cX7_load 32 = .ok (.aload_n 0, 1) := by decide +kernel
theorem dX7_load_33 : decode cX7_load 33 = .ok (.invokevirtual 25, 3) := by decide +kernel
theorem dX7_load_36 : decode cX7_load 36 = .ok (.return_, 1) := by decide +kernel
def zb_X7_load_2 (w0 : Nat) (w1 : Nat) (g1 : AH) (w2 : Int32) : Option ((AH × Int32) ⊕ (AH)) :=
  (if (12 : Int32) < w2 then some (Sum.inr g1) else (gR g1 w0 7 0).bind fun x3 => (chk g1 w1 8).bind fun _ => (zs_X8_partAt g1 w1 w2).bind fun x5 => (sJ g1 x3 1 w2 x5).bind fun g6 => some (Sum.inl ((g6, w2 + (1 : Int32)))))
def zs_X7_load (h : AH) (u0 : Nat) (u1 : Nat) : Option AH :=
  (iter (fun q : AH × Int32 => zb_X7_load_2 u0 u1 q.1 q.2) FU ((h, (0 : Int32)))).bind fun r7 => (gI r7 u1 8 2).bind fun x8 => (if x8 = 0 then some r7 else (chk r7 u0 7).bind fun _ => (zs_X7_negate r7 u0).bind fun g11 => some g11)
set_option maxRecDepth 100000 in
set_option maxHeartbeats 4000000 in
theorem zm_X7_load (l : Launch) (D : hG) (z : Nat) {h : AH} {u0 : Nat} {u1 : Nat} {h' : AH} (hs : zs_X7_load h u0 u1 = some h') : hC l D z yX7_load cX7_load 3 (Option.none : Option Jvm.ClassFile.FieldType) 1 25 0 0 [.ref u0, .ref u1] h h' none := by
  refine hC_of (by decide) (Nat.le_of_ble_eq_true rfl) ?_
  intro p e s m below meth c hx hb hml hrt hlk hown hnm hts hk hr hz ls hl
  replace hown : s.vm.findClass RX7 = some m.cls := hown
  replace hl : lv_has ls 3 [(0, .ref u0), (1, .ref u1)] := hl
  have hS : va_S (hA z) s.heap s.heap [] := va_S.rf
  suffices hgo : ∀ (H : Heap) (locs : List Loc), hR D z h H → va_S (hA z) s.heap H locs → W p l e ({ frames := 1, cells := 0, slots := 0, locals := 25 } : Room) s m ([.ref u0, .ref u1] : List Value).toArray below meth c H locs 0 0 (MQ below (hQ D z h' none) ([.ref u0, .ref u1] : List Value).toArray s 0 0 (hA z)) (F0 m 0 ls []) from hgo _ _ hr hS
  clear hr hS
  intro H locs hr hS
  unfold zs_X7_load at hs
  refine lv_iconst (v := 0) hx hb dX7_load_0 (by decide) ?_
  refine lv_istore_n (lv' := [(2, .int ((0 : Int32))), (0, .ref u0), (1, .ref u1)]) hx hb dX7_load_1 rfl hl (by decide) rfl (fun ls hl => ?_)
  obtain ⟨r7, er7, hs⟩ := bi_inv hs
  refine iter_W (fun (q : AH × Int32) => ∀ (H : Heap) (locs : List Loc) (ls : Array Slot), hR D z q.1 H → va_S (hA z) s.heap H locs → lv_has ls 3 [(0, .ref u0), (1, .ref u1), (2, .int q.2)] → W p l e ({ frames := 1, cells := 0, slots := 0, locals := 25 } : Room) s m ([.ref u0, .ref u1] : List Value).toArray below meth c H locs 0 0 (MQ below (hQ D z h' none) ([.ref u0, .ref u1] : List Value).toArray s 0 0 (hA z)) (F0 m 2 ls [])) (fun (x : AH) => ∀ (H : Heap) (locs : List Loc) (ls : Array Slot), hR D z x H → va_S (hA z) s.heap H locs → lv_has ls 3 [(0, .ref u0), (1, .ref u1)] → W p l e ({ frames := 1, cells := 0, slots := 0, locals := 25 } : Room) s m ([.ref u0, .ref u1] : List Value).toArray below meth c H locs 0 0 (MQ below (hQ D z h' none) ([.ref u0, .ref u1] : List Value).toArray s 0 0 (hA z)) (F0 m 25 ls [])) ?_ FU _ r7 er7 ?_ H locs ls hr hS (lv_sub hl [1, 2, 0] rfl)
  · intro q o hs hcont hexit
    obtain ⟨g1, w2⟩ := q
    replace hs : zb_X7_load_2 u0 u1 g1 w2 = some o := hs
    intro H locs ls hr hS hl
    unfold zb_X7_load_2 at hs
    refine lv_iload_n hx hb dX7_load_2 rfl (lv_at hl 2 rfl) ?_
    refine lv_bipush (v := 12) hx hb dX7_load_3 (by decide) ?_
    refine lv_icmp_gt (tgt := 25) hx hb dX7_load_5 (by decide) (fun c2 => ?_) (fun c2 => ?_)
    · rw [if_pos c2] at hs
      obtain rfl := Option.some.inj hs
      exact hexit _ rfl H locs ls hr hS (lv_sub hl [0, 1] rfl)
    · rw [if_neg c2] at hs
      refine lv_aload_n hx hb dX7_load_8 rfl (lv_at hl 0 rfl) ?_
      obtain ⟨x3, ex3, hs⟩ := bi_inv hs
      refine hv_gR (C := RX7) (T := TX7) (N := 1) (ci := 7) hx hb hts inX7 hown hk hr rfl 0 (by decide) (hts _ tw_270) ex3 dX7_load_9 ?_
      refine lv_iload_n hx hb dX7_load_12 rfl (lv_at hl 2 rfl) ?_
      refine lv_aload_n hx hb dX7_load_13 rfl (lv_at hl 1 rfl) ?_
      refine lv_iload_n hx hb dX7_load_14 rfl (lv_at hl 2 rfl) ?_
      obtain ⟨_, ex4, hs⟩ := bi_inv hs
      obtain ⟨x5, ex5, hs⟩ := bi_inv hs
      refine hv_V1 (n := 1) [.int w2] [.int w2, .ref x3] hx hb hml hown hts hk hr hz hS (zm_X8_partAt l D z ex5) ex4 rfl tw_614 tw_416 tw_417 tw_2 tw_418 (by decide +kernel) (by decide) ⟨(Nat.zero_le _), (Nat.zero_le _)⟩ rfl hl.1 (Nat.le_of_ble_eq_true rfl) dX7_load_15 rfl (fun H locs hr hS => ?_)
      obtain ⟨g6, eg6, hs⟩ := bi_inv hs
      refine hv_sJ hx hb hk hr hS eg6 dX7_load_18 (fun H locs hr hS => ?_)
      refine lv_iinc (v := w2 + (1 : Int32)) (lv' := [(2, .int (w2 + (1 : Int32))), (0, .ref u0), (1, .ref u1)]) hx hb dX7_load_19 hl (k := 2) rfl (ii_v _ (by decide)) (by decide) rfl (fun ls hl => ?_)
      refine lv_goto (tgt := 2) hx hb dX7_load_22 (by decide) ?_
      obtain rfl := Option.some.inj hs
      exact hcont _ rfl H locs ls hr hS (lv_sub hl [1, 2, 0] rfl)
  · intro H locs ls hr hS hl
    refine lv_aload_n hx hb dX7_load_25 rfl (lv_at hl 1 rfl) ?_
    obtain ⟨x8, ex8, hs⟩ := bi_inv hs
    refine hv_gI (C := RX8) (T := TX8) (N := 3) (ci := 8) hx hb hts inX8 hown hk hr rfl 2 (by decide) (hts _ tw_44) ex8 dX7_load_26 ?_
    refine lv_if_eq (tgt := 36) hx hb dX7_load_29 (by decide) (fun c9 => ?_) (fun c9 => ?_)
    · rw [if_pos c9] at hs
      obtain rfl := Option.some.inj hs
      exact hv_vret hx hb hrt hlk hr hS dX7_load_36
    · rw [if_neg c9] at hs
      refine lv_aload_n hx hb dX7_load_32 rfl (lv_at hl 0 rfl) ?_
      obtain ⟨_, ex10, hs⟩ := bi_inv hs
      obtain ⟨g11, eg11, hs⟩ := bi_inv hs
      refine hv_V0 (n := 0) [] [] hx hb hml hown hts hk hr hz hS (zm_X7_negate l D z eg11) ex10 rfl tw_615 tw_617 ts_11 tw_10 tw_618 (by decide +kernel) (by decide) ⟨(Nat.zero_le _), (Nat.zero_le _)⟩ rfl hl.1 (Nat.le_of_ble_eq_true rfl) dX7_load_33 rfl (fun H locs hr hS => ?_)
      obtain rfl := Option.some.inj hs
      exact hv_vret hx hb hrt hlk hr hS dX7_load_36
theorem dX7_store_0 : decode cX7_store 0 = .ok (.aload_n 0, 1) := by decide +kernel
theorem dX7_store_1 : decode cX7_store 1 = .ok (.invokevirtual 30, 3) := by decide +kernel
theorem dX7_store_4 : decode cX7_store 4 = .ok (.istore_n 2, 1) := by decide +kernel
theorem dX7_store_5 : decode cX7_store 5 = .ok (.iload_n 2, 1) := by decide +kernel
theorem dX7_store_6 : decode cX7_store 6 = .ok (.ifCond .eq 7, 3) := by decide +kernel
theorem dX7_store_9 : decode cX7_store 9 = .ok (.aload_n 0, 1) := by decide +kernel
theorem dX7_store_10 : decode cX7_store 10 = .ok (.invokevirtual 25, 3) := by decide +kernel
theorem dX7_store_13 : decode cX7_store 13 = .ok (.iconst 0, 1) := by decide +kernel
theorem dX7_store_14 : decode cX7_store 14 = .ok (.istore_n 3, 1) := by decide +kernel
theorem dX7_store_15 : decode cX7_store 15 = .ok (.iload_n 3, 1) := by decide +kernel
theorem dX7_store_16 : decode cX7_store 16 = .ok (.bipush 12, 2) := by decide +kernel
theorem dX7_store_18 : decode cX7_store 18 = .ok (.if_icmp .gt 21, 3) := by decide +kernel
theorem dX7_store_21 : decode cX7_store 21 = .ok (.aload_n 1, 1) := by decide +kernel
theorem dX7_store_22 : decode cX7_store 22 = .ok (.getfield 34, 3) := by decide +kernel
theorem dX7_store_25 : decode cX7_store 25 = .ok (.iload_n 3, 1) := by decide +kernel
theorem dX7_store_26 : decode cX7_store 26 = .ok (.aload_n 0, 1) := by decide +kernel
theorem dX7_store_27 : decode cX7_store 27 = .ok (.getfield 9, 3) := by decide +kernel
theorem dX7_store_30 : decode cX7_store 30 = .ok (.iload_n 3, 1) := by decide +kernel
theorem dX7_store_31 : decode cX7_store 31 = .ok (.laload, 1) := by decide +kernel
theorem dX7_store_32 : decode cX7_store 32 = .ok (.lastore, 1) := by decide +kernel
theorem dX7_store_33 : decode cX7_store 33 = .ok (.iinc 3 1, 3) := by decide +kernel
theorem dX7_store_36 : decode cX7_store 36 = .ok (.goto (-21), 3) := by decide +kernel
theorem dX7_store_39 : decode cX7_store 39 = .ok (.aload_n 1, 1) := by decide +kernel
theorem dX7_store_40 : decode cX7_store 40 = .ok (.bipush 13, 2) := by decide +kernel
theorem dX7_store_42 : decode cX7_store 42 = .ok (.invokevirtual 37, 3) := by decide +kernel
theorem dX7_store_45 : decode cX7_store 45 = .ok (.aload_n 1, 1) := by decide +kernel
theorem dX7_store_46 : decode cX7_store 46 = .ok (.iload_n 2, 1) := by decide +kernel
theorem dX7_store_47 : decode cX7_store 47 = .ok (.invokevirtual 41, 3) := by decide +kernel
theorem dX7_store_50 : decode cX7_store 50 = .ok (.return_, 1) := by decide +kernel
def zb_X7_store_15 (w0 : Nat) (w1 : Nat) (w2 : Int32) (g5 : AH) (w3 : Int32) : Option ((AH × Int32) ⊕ (AH)) :=
  (if (12 : Int32) < w3 then some (Sum.inr g5) else (gR g5 w1 8 0).bind fun x7 => (gR g5 w0 7 0).bind fun x8 => (aJ g5 x8 1 w3).bind fun x9 => (sJ g5 x7 1 w3 x9).bind fun g10 => some (Sum.inl ((g10, w3 + (1 : Int32)))))
def zj_X7_store_13 (g4 : AH) (y0_13 : Nat) (y1_13 : Nat) (y2_13 : Int32) : Option AH :=
  (iter (fun q : AH × Int32 => zb_X7_store_15 y0_13 y1_13 y2_13 q.1 q.2) FU ((g4, (0 : Int32)))).bind fun r11 => (chk r11 y1_13 8).bind fun _ => (zs_X8_trim r11 y1_13 ((13 : Int32))).bind fun g13 => (chk g13 y1_13 8).bind fun _ => (zs_X8_takeSign g13 y1_13 y2_13).bind fun g15 => some g15
def zs_X7_store (h : AH) (u0 : Nat) (u1 : Nat) : Option AH :=
  (chk h u0 7).bind fun _ => (zs_X7_isBelow h u0).bind fun x2 => (if x2 = 0 then zj_X7_store_13 h u0 u1 x2 else (chk h u0 7).bind fun _ => (zs_X7_negate h u0).bind fun g17 => zj_X7_store_13 g17 u0 u1 x2)
set_option maxRecDepth 100000 in
set_option maxHeartbeats 4000000 in
theorem zm_X7_store (l : Launch) (D : hG) (z : Nat) {h : AH} {u0 : Nat} {u1 : Nat} {h' : AH} (hs : zs_X7_store h u0 u1 = some h') : hC l D z yX7_store cX7_store 4 (Option.none : Option Jvm.ClassFile.FieldType) 1 25 0 0 [.ref u0, .ref u1] h h' none := by
  refine hC_of (by decide) (Nat.le_of_ble_eq_true rfl) ?_
  intro p e s m below meth c hx hb hml hrt hlk hown hnm hts hk hr hz ls hl
  replace hown : s.vm.findClass RX7 = some m.cls := hown
  replace hl : lv_has ls 4 [(0, .ref u0), (1, .ref u1)] := hl
  have hS : va_S (hA z) s.heap s.heap [] := va_S.rf
  suffices hgo : ∀ (H : Heap) (locs : List Loc), hR D z h H → va_S (hA z) s.heap H locs → W p l e ({ frames := 1, cells := 0, slots := 0, locals := 25 } : Room) s m ([.ref u0, .ref u1] : List Value).toArray below meth c H locs 0 0 (MQ below (hQ D z h' none) ([.ref u0, .ref u1] : List Value).toArray s 0 0 (hA z)) (F0 m 0 ls []) from hgo _ _ hr hS
  clear hr hS
  intro H locs hr hS
  have hJ13 : ∀ (g4 : AH) (y0_13 : Nat) (y1_13 : Nat) (y2_13 : Int32) (H : Heap) (locs : List Loc) (ls : Array Slot), zj_X7_store_13 g4 y0_13 y1_13 y2_13 = some h' → hR D z g4 H → va_S (hA z) s.heap H locs → lv_has ls 4 [(0, .ref y0_13), (1, .ref y1_13), (2, .int y2_13)] → W p l e ({ frames := 1, cells := 0, slots := 0, locals := 25 } : Room) s m ([.ref u0, .ref u1] : List Value).toArray below meth c H locs 0 0 (MQ below (hQ D z h' none) ([.ref u0, .ref u1] : List Value).toArray s 0 0 (hA z)) (F0 m 13 ls []) := by
    intro g4 y0_13 y1_13 y2_13 H locs ls hs hr hS hl
    unfold zj_X7_store_13 at hs
    refine lv_iconst (v := 0) hx hb dX7_store_13 (by decide) ?_
    refine lv_istore_n (lv' := [(3, .int ((0 : Int32))), (0, .ref y0_13), (1, .ref y1_13), (2, .int y2_13)]) hx hb dX7_store_14 rfl hl (by decide) rfl (fun ls hl => ?_)
    obtain ⟨r11, er11, hs⟩ := bi_inv hs
    refine iter_W (fun (q : AH × Int32) => ∀ (H : Heap) (locs : List Loc) (ls : Array Slot), hR D z q.1 H → va_S (hA z) s.heap H locs → lv_has ls 4 [(0, .ref y0_13), (1, .ref y1_13), (2, .int y2_13), (3, .int q.2)] → W p l e ({ frames := 1, cells := 0, slots := 0, locals := 25 } : Room) s m ([.ref u0, .ref u1] : List Value).toArray below meth c H locs 0 0 (MQ below (hQ D z h' none) ([.ref u0, .ref u1] : List Value).toArray s 0 0 (hA z)) (F0 m 15 ls [])) (fun (x : AH) => ∀ (H : Heap) (locs : List Loc) (ls : Array Slot), hR D z x H → va_S (hA z) s.heap H locs → lv_has ls 4 [(1, .ref y1_13), (2, .int y2_13)] → W p l e ({ frames := 1, cells := 0, slots := 0, locals := 25 } : Room) s m ([.ref u0, .ref u1] : List Value).toArray below meth c H locs 0 0 (MQ below (hQ D z h' none) ([.ref u0, .ref u1] : List Value).toArray s 0 0 (hA z)) (F0 m 39 ls [])) ?_ FU _ r11 er11 ?_ H locs ls hr hS (lv_sub hl [1, 2, 3, 0] rfl)
    · intro q o hs hcont hexit
      obtain ⟨g5, w3⟩ := q
      replace hs : zb_X7_store_15 y0_13 y1_13 y2_13 g5 w3 = some o := hs
      intro H locs ls hr hS hl
      unfold zb_X7_store_15 at hs
      refine lv_iload_n hx hb dX7_store_15 rfl (lv_at hl 3 rfl) ?_
      refine lv_bipush (v := 12) hx hb dX7_store_16 (by decide) ?_
      refine lv_icmp_gt (tgt := 39) hx hb dX7_store_18 (by decide) (fun c6 => ?_) (fun c6 => ?_)
      · rw [if_pos c6] at hs
        obtain rfl := Option.some.inj hs
        exact hexit _ rfl H locs ls hr hS (lv_sub hl [1, 2] rfl)
      · rw [if_neg c6] at hs
        refine lv_aload_n hx hb dX7_store_21 rfl (lv_at hl 1 rfl) ?_
        obtain ⟨x7, ex7, hs⟩ := bi_inv hs
        refine hv_gR (C := RX8) (T := TX8) (N := 3) (ci := 8) hx hb hts inX8 hown hk hr rfl 0 (by decide) (hts _ tw_37) ex7 dX7_store_22 ?_
        refine lv_iload_n hx hb dX7_store_25 rfl (lv_at hl 3 rfl) ?_
        refine lv_aload_n hx hb dX7_store_26 rfl (lv_at hl 0 rfl) ?_
        obtain ⟨x8, ex8, hs⟩ := bi_inv hs
        refine hv_gR (C := RX7) (T := TX7) (N := 1) (ci := 7) hx hb hts inX7 hown hk hr rfl 0 (by decide) (hts _ tw_270) ex8 dX7_store_27 ?_
        refine lv_iload_n hx hb dX7_store_30 rfl (lv_at hl 3 rfl) ?_
        obtain ⟨x9, ex9, hs⟩ := bi_inv hs
        refine hv_aJ hx hb hk hr ex9 dX7_store_31 ?_
        obtain ⟨g10, eg10, hs⟩ := bi_inv hs
        refine hv_sJ hx hb hk hr hS eg10 dX7_store_32 (fun H locs hr hS => ?_)
        refine lv_iinc (v := w3 + (1 : Int32)) (lv' := [(3, .int (w3 + (1 : Int32))), (0, .ref y0_13), (1, .ref y1_13), (2, .int y2_13)]) hx hb dX7_store_33 hl (k := 3) rfl (ii_v _ (by decide)) (by decide) rfl (fun ls hl => ?_)
        refine lv_goto (tgt := 15) hx hb dX7_store_36 (by decide) ?_
        obtain rfl := Option.some.inj hs
        exact hcont _ rfl H locs ls hr hS (lv_sub hl [1, 2, 3, 0] rfl)
    · intro H locs ls hr hS hl
      refine lv_aload_n hx hb dX7_store_39 rfl (lv_at hl 0 rfl) ?_
      refine lv_bipush (v := 13) hx hb dX7_store_40 (by decide) ?_
      obtain ⟨_, ex12, hs⟩ := bi_inv hs
      obtain ⟨g13, eg13, hs⟩ := bi_inv hs
      refine hv_V0 (n := 1) [.int ((13 : Int32))] [] hx hb hml hown hts hk hr hz hS (zm_X8_trim l D z eg13) ex12 rfl tw_633 tw_71 tw_72 tw_2 tw_73 (by decide +kernel) (by decide) ⟨(Nat.zero_le _), (Nat.zero_le _)⟩ rfl hl.1 (Nat.le_of_ble_eq_true rfl) dX7_store_42 rfl (fun H locs hr hS => ?_)
      refine lv_aload_n hx hb dX7_store_45 rfl (lv_at hl 0 rfl) ?_
      refine lv_iload_n hx hb dX7_store_46 rfl (lv_at hl 1 rfl) ?_
      obtain ⟨_, ex14, hs⟩ := bi_inv hs
      obtain ⟨g15, eg15, hs⟩ := bi_inv hs
      refine hv_V0 (n := 1) [.int y2_13] [] hx hb hml hown hts hk hr hz hS (zm_X8_takeSign l D z eg15) ex14 rfl tw_634 tw_75 tw_76 tw_2 tw_77 (by decide +kernel) (by decide) ⟨(Nat.zero_le _), (Nat.zero_le _)⟩ rfl hl.1 (Nat.le_of_ble_eq_true rfl) dX7_store_47 rfl (fun H locs hr hS => ?_)
      obtain rfl := Option.some.inj hs
      exact hv_vret hx hb hrt hlk hr hS dX7_store_50
  unfold zs_X7_store at hs
  refine lv_aload_n hx hb dX7_store_0 rfl (lv_at hl 0 rfl) ?_
  obtain ⟨_, ex1, hs⟩ := bi_inv hs
  obtain ⟨x2, ex2, hs⟩ := bi_inv hs
  refine hv_V1 (n := 0) [] [] hx hb hml hown hts hk hr hz hS (zm_X7_isBelow l D z ex2) ex1 rfl tw_629 tw_631 ts_12 tw_10 tw_632 (by decide +kernel) (by decide) ⟨(Nat.zero_le _), (Nat.zero_le _)⟩ rfl hl.1 (Nat.le_of_ble_eq_true rfl) dX7_store_1 rfl (fun H locs hr hS => ?_)
  refine lv_istore_n (lv' := [(2, .int x2), (0, .ref u0), (1, .ref u1)]) hx hb dX7_store_4 rfl hl (by decide) rfl (fun ls hl => ?_)
  refine lv_iload_n hx hb dX7_store_5 rfl (lv_at hl 0 rfl) ?_
  refine lv_if_eq (tgt := 13) hx hb dX7_store_6 (by decide) (fun c3 => ?_) (fun c3 => ?_)
  · rw [if_pos c3] at hs
    exact hJ13 h u0 u1 x2 H locs ls hs hr hS (lv_sub hl [1, 2, 0] rfl)
  · rw [if_neg c3] at hs
    refine lv_aload_n hx hb dX7_store_9 rfl (lv_at hl 1 rfl) ?_
    obtain ⟨_, ex16, hs⟩ := bi_inv hs
    obtain ⟨g17, eg17, hs⟩ := bi_inv hs
    refine hv_V0 (n := 0) [] [] hx hb hml hown hts hk hr hz hS (zm_X7_negate l D z eg17) ex16 rfl tw_615 tw_617 ts_11 tw_10 tw_618 (by decide +kernel) (by decide) ⟨(Nat.zero_le _), (Nat.zero_le _)⟩ rfl hl.1 (Nat.le_of_ble_eq_true rfl) dX7_store_10 rfl (fun H locs hr hS => ?_)
    exact hJ13 g17 u0 u1 x2 H locs ls hs hr hS (lv_sub hl [1, 2, 0] rfl)
theorem dX7_unlikeSign_0 : decode cX7_unlikeSign 0 = .ok (.aload_n 0, 1) := by decide +kernel
theorem dX7_unlikeSign_1 : decode cX7_unlikeSign 1 = .ok (.invokevirtual 30, 3) := by decide +kernel
theorem dX7_unlikeSign_4 : decode cX7_unlikeSign 4 = .ok (.ifCond .eq 9, 3) := by decide +kernel
theorem dX7_unlikeSign_7 : decode cX7_unlikeSign 7 = .ok (.ldc2_w 54, 3) := by decide +kernel
theorem dX7_unlikeSign_10 : decode cX7_unlikeSign 10 = .ok (.goto 4, 3) := by decide +kernel
theorem dX7_unlikeSign_13 : decode cX7_unlikeSign 13 = .ok (.lconst 0, 1) := by decide +kernel
theorem dX7_unlikeSign_14 : decode cX7_unlikeSign 14 = .ok (.lstore_n 1, 1) := by decide +kernel
theorem dX7_unlikeSign_15 : decode cX7_unlikeSign 15 = .ok (.iconst 0, 1) := by decide +kernel
theorem dX7_unlikeSign_16 : decode cX7_unlikeSign 16 = .ok (.istore_n 3, 1) := by decide +kernel
theorem dX7_unlikeSign_17 : decode cX7_unlikeSign 17 = .ok (.iconst 0, 1) := by decide +kernel
theorem dX7_unlikeSign_18 : decode cX7_unlikeSign 18 = .ok (.istore 4, 2) := by decide +kernel
theorem dX7_unlikeSign_20 : decode cX7_unlikeSign 20 = .ok (.iload 4, 2) := by decide +kernel
theorem dX7_unlikeSign_22 : decode cX7_unlikeSign 22 = .ok (.bipush 12, 2) := by decide +kernel
theorem dX7_unlikeSign_24 : decode cX7_unlikeSign 24 = .ok (.if_icmp .gt 24, 3) := by decide +kernel
theorem dX7_unlikeSign_27 : decode cX7_unlikeSign 27 = .ok (.iload_n 3, 1) := by decide +kernel
theorem dX7_unlikeSign_28 : decode cX7_unlikeSign 28 = .ok (.aload_n 0, 1) := by decide +kernel
theorem dX7_unlikeSign_29 : decode cX7_unlikeSign 29 = .ok (.getfield 9, 3) := by decide +kernel
theorem dX7_unlikeSign_32 : decode cX7_unlikeSign 32 = .ok (.iload 4, 2) := by decide +kernel
theorem dX7_unlikeSign_34 : decode cX7_unlikeSign 34 = .ok (.laload, 1) := by decide +kernel
theorem dX7_unlikeSign_35 : decode cX7_unlikeSign 35 = .ok (.lload_n 1, 1) := by decide +kernel
theorem dX7_unlikeSign_36 : decode cX7_unlikeSign 36 = .ok (.lxor, 1) := by decide +kernel
theorem dX7_unlikeSign_37 : decode cX7_unlikeSign 37 = .ok (.invokestatic 56, 3) := by decide +kernel
theorem dX7_unlikeSign_40 : decode cX7_unlikeSign 40 = .ok (.iadd, 1) := by decide +kernel
theorem dX7_unlikeSign_41 : decode cX7_unlikeSign 41 = .ok (.istore_n 3, 1) := by decide +kernel
theorem dX7_unlikeSign_42 : decode cX7_unlikeSign 42 = .ok (.iinc 4 1, 3) := by decide +kernel
theorem dX7_unlikeSign_45 : decode cX7_unlikeSign 45 = .ok (.goto (-25), 3) := by decide +kernel
theorem dX7_unlikeSign_48 : decode cX7_unlikeSign 48 = .ok (.iload_n 3, 1) := by decide +kernel
theorem dX7_unlikeSign_49 : decode cX7_unlikeSign 49 = .ok (.ireturn, 1) := by decide +kernel
def zb_X7_unlikeSign_20 (h : AH) (w0 : Nat) (w1 : Int64) (w3 : Int32) (w4 : Int32) : Option ((Int32 × Int32) ⊕ (Int32)) :=
  (if (12 : Int32) < w4 then some (Sum.inr w3) else (gR h w0 7 0).bind fun x5 => (aJ h x5 1 w4).bind fun x6 => (zs_J13_bitCount_95d88 h (x6 ^^^ w1)).bind fun x7 => lt_ (w3 + x7) fun x8 => some (Sum.inl ((x8, w4 + (1 : Int32)))))
def zj_X7_unlikeSign_14 (h : AH) (y0_14 : Nat) (t0_14 : Int64) : Option Int32 :=
  (iter (fun q : Int32 × Int32 => zb_X7_unlikeSign_20 h y0_14 t0_14 q.1 q.2) FU (((0 : Int32), (0 : Int32)))).bind fun r9 => some r9
def zs_X7_unlikeSign (h : AH) (u0 : Nat) : Option Int32 :=
  (chk h u0 7).bind fun _ => (zs_X7_isBelow h u0).bind fun x2 => (if x2 = 0 then zj_X7_unlikeSign_14 h u0 ((0 : Int64)) else zj_X7_unlikeSign_14 h u0 ((4294967295 : Int64)))
set_option maxRecDepth 100000 in
set_option maxHeartbeats 4000000 in
theorem zm_X7_unlikeSign (l : Launch) (D : hG) (z : Nat) {h : AH} {u0 : Nat} {r : Int32} (hs : zs_X7_unlikeSign h u0 = some r) : hC l D z yX7_unlikeSign cX7_unlikeSign 5 (Option.some Jvm.ClassFile.FieldType.int) 1 21 0 0 [.ref u0] h h (some (.int r)) := by
  refine hC_of (by decide) (Nat.le_of_ble_eq_true rfl) ?_
  intro p e s m below meth c hx hb hml hrt hlk hown hnm hts hk hr hz ls hl
  replace hown : s.vm.findClass RX7 = some m.cls := hown
  replace hl : lv_has ls 5 [(0, .ref u0)] := hl
  have hS : va_S (hA z) s.heap s.heap [] := va_S.rf
  suffices hgo : ∀ (H : Heap) (locs : List Loc), hR D z h H → va_S (hA z) s.heap H locs → W p l e ({ frames := 1, cells := 0, slots := 0, locals := 21 } : Room) s m ([.ref u0] : List Value).toArray below meth c H locs 0 0 (MQ below (hQ D z h (some (.int r))) ([.ref u0] : List Value).toArray s 0 0 (hA z)) (F0 m 0 ls []) from hgo _ _ hr hS
  clear hr hS
  intro H locs hr hS
  have hJ14 : ∀ (y0_14 : Nat) (t0_14 : Int64) (H : Heap) (locs : List Loc) (ls : Array Slot), zj_X7_unlikeSign_14 h y0_14 t0_14 = some r → hR D z h H → va_S (hA z) s.heap H locs → lv_has ls 5 [(0, .ref y0_14)] → W p l e ({ frames := 1, cells := 0, slots := 0, locals := 21 } : Room) s m ([.ref u0] : List Value).toArray below meth c H locs 0 0 (MQ below (hQ D z h (some (.int r))) ([.ref u0] : List Value).toArray s 0 0 (hA z)) (F0 m 14 ls [.long t0_14]) := by
    intro y0_14 t0_14 H locs ls hs hr hS hl
    unfold zj_X7_unlikeSign_14 at hs
    refine lv_lstore_n (lv' := [(1, .long t0_14), (0, .ref y0_14)]) hx hb dX7_unlikeSign_14 rfl hl (by decide) rfl (fun ls hl => ?_)
    refine lv_iconst (v := 0) hx hb dX7_unlikeSign_15 (by decide) ?_
    refine lv_istore_n (lv' := [(3, .int ((0 : Int32))), (1, .long t0_14), (0, .ref y0_14)]) hx hb dX7_unlikeSign_16 rfl hl (by decide) rfl (fun ls hl => ?_)
    refine lv_iconst (v := 0) hx hb dX7_unlikeSign_17 (by decide) ?_
    refine lv_istore (lv' := [(4, .int ((0 : Int32))), (3, .int ((0 : Int32))), (1, .long t0_14), (0, .ref y0_14)]) hx hb dX7_unlikeSign_18 hl (by decide) rfl (fun ls hl => ?_)
    obtain ⟨r9, er9, hs⟩ := bi_inv hs
    refine iter_W (fun (q : Int32 × Int32) => ∀ (H : Heap) (locs : List Loc) (ls : Array Slot), hR D z h H → va_S (hA z) s.heap H locs → lv_has ls 5 [(0, .ref y0_14), (1, .long t0_14), (3, .int q.1), (4, .int q.2)] → W p l e ({ frames := 1, cells := 0, slots := 0, locals := 21 } : Room) s m ([.ref u0] : List Value).toArray below meth c H locs 0 0 (MQ below (hQ D z h (some (.int r))) ([.ref u0] : List Value).toArray s 0 0 (hA z)) (F0 m 20 ls [])) (fun (x : Int32) => ∀ (H : Heap) (locs : List Loc) (ls : Array Slot), hR D z h H → va_S (hA z) s.heap H locs → lv_has ls 5 [(3, .int x)] → W p l e ({ frames := 1, cells := 0, slots := 0, locals := 21 } : Room) s m ([.ref u0] : List Value).toArray below meth c H locs 0 0 (MQ below (hQ D z h (some (.int r))) ([.ref u0] : List Value).toArray s 0 0 (hA z)) (F0 m 48 ls [])) ?_ FU _ r9 er9 ?_ H locs ls hr hS (lv_sub hl [3, 2, 1, 0] rfl)
    · intro q o hs hcont hexit
      obtain ⟨w3, w4⟩ := q
      replace hs : zb_X7_unlikeSign_20 h y0_14 t0_14 w3 w4 = some o := hs
      intro H locs ls hr hS hl
      unfold zb_X7_unlikeSign_20 at hs
      refine lv_iload hx hb dX7_unlikeSign_20 (lv_at hl 3 rfl) ?_
      refine lv_bipush (v := 12) hx hb dX7_unlikeSign_22 (by decide) ?_
      refine lv_icmp_gt (tgt := 48) hx hb dX7_unlikeSign_24 (by decide) (fun c4 => ?_) (fun c4 => ?_)
      · rw [if_pos c4] at hs
        obtain rfl := Option.some.inj hs
        exact hexit _ rfl H locs ls hr hS (lv_sub hl [2] rfl)
      · rw [if_neg c4] at hs
        refine lv_iload_n hx hb dX7_unlikeSign_27 rfl (lv_at hl 2 rfl) ?_
        refine lv_aload_n hx hb dX7_unlikeSign_28 rfl (lv_at hl 0 rfl) ?_
        obtain ⟨x5, ex5, hs⟩ := bi_inv hs
        refine hv_gR (C := RX7) (T := TX7) (N := 1) (ci := 7) hx hb hts inX7 hown hk hr rfl 0 (by decide) (hts _ tw_270) ex5 dX7_unlikeSign_29 ?_
        refine lv_iload hx hb dX7_unlikeSign_32 (lv_at hl 3 rfl) ?_
        obtain ⟨x6, ex6, hs⟩ := bi_inv hs
        refine hv_aJ hx hb hk hr ex6 dX7_unlikeSign_34 ?_
        refine lv_lload_n hx hb dX7_unlikeSign_35 rfl (lv_at hl 1 rfl) ?_
        refine lv_lxor hx hb dX7_unlikeSign_36 ?_
        obtain ⟨x7, ex7, hs⟩ := bi_inv hs
        refine hv_S1 (n := 1) [.long (x6 ^^^ t0_14)] [.int w3] hx hb hml hown hts hk hr hz hS (zm_J13_bitCount_95d88 l D z ex7) tw_669 tw_500 tw_20 tw_501 (by decide +kernel) (by decide) ⟨(Nat.zero_le _), (Nat.zero_le _)⟩ rfl hl.1 (Nat.le_of_ble_eq_true rfl) dX7_unlikeSign_37 rfl (fun H locs hr hS => ?_)
        refine lv_iadd hx hb dX7_unlikeSign_40 ?_
        refine lv_topi (fun x8 ex8 => ?_)
        replace hs := lt_inv hs x8 ex8
        refine lv_istore_n (lv' := [(3, .int x8), (0, .ref y0_14), (1, .long t0_14), (4, .int w4)]) hx hb dX7_unlikeSign_41 rfl hl (by decide) rfl (fun ls hl => ?_)
        refine lv_iinc (v := w4 + (1 : Int32)) (lv' := [(4, .int (w4 + (1 : Int32))), (3, .int x8), (0, .ref y0_14), (1, .long t0_14)]) hx hb dX7_unlikeSign_42 hl (k := 3) rfl (ii_v _ (by decide)) (by decide) rfl (fun ls hl => ?_)
        refine lv_goto (tgt := 20) hx hb dX7_unlikeSign_45 (by decide) ?_
        obtain rfl := Option.some.inj hs
        exact hcont _ rfl H locs ls hr hS (lv_sub hl [2, 3, 1, 0] rfl)
    · intro H locs ls hr hS hl
      refine lv_iload_n hx hb dX7_unlikeSign_48 rfl (lv_at hl 0 rfl) ?_
      obtain rfl := Option.some.inj hs
      exact hv_iret hx hb hrt hlk hr hS dX7_unlikeSign_49
  unfold zs_X7_unlikeSign at hs
  refine lv_aload_n hx hb dX7_unlikeSign_0 rfl (lv_at hl 0 rfl) ?_
  obtain ⟨_, ex1, hs⟩ := bi_inv hs
  obtain ⟨x2, ex2, hs⟩ := bi_inv hs
  refine hv_V1 (n := 0) [] [] hx hb hml hown hts hk hr hz hS (zm_X7_isBelow l D z ex2) ex1 rfl tw_629 tw_631 ts_12 tw_10 tw_632 (by decide +kernel) (by decide) ⟨(Nat.zero_le _), (Nat.zero_le _)⟩ rfl hl.1 (Nat.le_of_ble_eq_true rfl) dX7_unlikeSign_1 rfl (fun H locs hr hS => ?_)
  refine lv_if_eq (tgt := 13) hx hb dX7_unlikeSign_4 (by decide) (fun c3 => ?_) (fun c3 => ?_)
  · rw [if_pos c3] at hs
    refine lv_lconst (v := 0) hx hb dX7_unlikeSign_13 (by decide) ?_
    exact hJ14 u0 ((0 : Int64)) H locs ls hs hr hS (lv_sub hl [0] rfl)
  · rw [if_neg c3] at hs
    refine lv_ldc2 hx hb hown (hts _ tw_619) dX7_unlikeSign_7 ?_
    refine lv_goto (tgt := 14) hx hb dX7_unlikeSign_10 (by decide) ?_
    exact hJ14 u0 ((4294967295 : Int64)) H locs ls hs hr hS (lv_sub hl [0] rfl)
