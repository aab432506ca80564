theorem dX4_init_0 : decode cX4_init 0 = .ok (.aload_n 0, 1) := by decide +kernel
theorem dX4_init_1 : decode cX4_init 1 = .ok (.invokespecial 1, 3) := by decide +kernel
theorem dX4_init_4 : decode cX4_init 4 = .ok (.aload_n 0, 1) := by decide +kernel
theorem dX4_init_5 : decode cX4_init 5 = .ok (.new 7, 3) := by decide +kernel
theorem dX4_init_8 : decode cX4_init 8 = .ok (.dup, 1) := by decide +kernel
theorem dX4_init_9 : decode cX4_init 9 = .ok (.invokespecial 9, 3) := by decide +kernel
theorem dX4_init_12 : decode cX4_init 12 = .ok (.putfield 10, 3) := by decide +kernel
theorem dX4_init_15 : decode cX4_init 15 = .ok (.aload_n 0, 1) := by decide +kernel
theorem dX4_init_16 : decode cX4_init 16 = .ok (.new 7, 3) := by decide +kernel
theorem dX4_init_19 : decode cX4_init 19 = .ok (.dup, 1) := by decide +kernel
theorem dX4_init_20 : decode cX4_init 20 = .ok (.invokespecial 9, 3) := by decide +kernel
theorem dX4_init_23 : decode cX4_init 23 = .ok (.putfield 16, 3) := by decide +kernel
theorem dX4_init_26 : decode cX4_init 26 = .ok (.aload_n 0, 1) := by decide +kernel
theorem dX4_init_27 : decode cX4_init 27 = .ok (.getfield 16, 3) := by decide +kernel
theorem dX4_init_30 : decode cX4_init 30 = .ok (.lconst 1, 1) := by decide +kernel
theorem dX4_init_31 : decode cX4_init 31 = .ok (.invokevirtual 19, 3) := by decide +kernel
theorem dX4_init_34 : decode cX4_init 34 = .ok (.return_, 1) := by decide +kernel
def zs_X4_init (h : AH) (u0 : Nat) : Option AH :=
  lt_ (nO h (.inr (8, [.null, .int 0, .int 0]))) fun g1 => (zs_X8_init g1 h.2).bind fun g2 => (pV g2 u0 4 0 (.ref h.2)).bind fun g3 => lt_ (nO g3 (.inr (8, [.null, .int 0, .int 0]))) fun g4 => (zs_X8_init g4 g3.2).bind fun g5 => (pV g5 u0 4 1 (.ref g3.2)).bind fun g6 => (gR g6 u0 4 1).bind fun x7 => (chk g6 x7 8).bind fun _ => (zs_X8_become g6 x7 ((1 : Int64))).bind fun g9 => some g9
set_option maxRecDepth 100000 in
set_option maxHeartbeats 4000000 in
theorem zm_X4_init (l : Launch) (D : hG) (z : Nat) {h : AH} {u0 : Nat} {h' : AH} (hs : zs_X4_init h u0 = some h') : hC l D z yX4_init cX4_init 1 (Option.none : Option Jvm.ClassFile.FieldType) 2 45 4 58 [.ref u0] h h' none := by
  refine hC_of (by decide) (Nat.le_of_ble_eq_true rfl) ?_
  intro p e s m below meth c hx hb hml hrt hlk hown hnm hts hk hr hz ls hl
  replace hown : s.vm.findClass RX4 = some m.cls := hown
  replace hl : lv_has ls 1 [(0, .ref u0)] := hl
  have hS : va_S (hA z) s.heap s.heap [] := va_S.rf
  suffices hgo : ∀ (H : Heap) (locs : List Loc), hR D z h H → va_S (hA z) s.heap H locs → W p l e ({ frames := 2, cells := 4, slots := 58, locals := 45 } : Room) s m ([.ref u0] : List Value).toArray below meth c H locs 0 0 (MQ below (hQ D z h' none) ([.ref u0] : List Value).toArray s 4 58 (hA z)) (F0 m 0 ls []) from hgo _ _ hr hS
  clear hr hS
  intro H locs hr hS
  unfold zs_X4_init at hs
  refine lv_aload_n hx hb dX4_init_0 rfl (lv_at hl 0 rfl) ?_
  refine W.objInit hx hb hown (hts _ tw_62) (hts _ tw_27) (hts _ tw_28) rfl (by rw [hml]; exact hl.1) rfl dX4_init_1 (by decide) (Nat.le_of_ble_eq_true rfl) ?_
  refine W.eq (g2 := F0 m 4 ls []) rfl ?_
  refine lv_aload_n hx hb dX4_init_4 rfl (lv_at hl 0 rfl) ?_
  refine hv_new (C := RX8) (T := TX8) (N := 3) (ci := 8) hx hb hts inX8 tyX8 tyX8_ok hown tw_63 tw_31 tw_2 hk hr hz hS rfl [.null, .int 0, .int 0] (by decide +kernel) (by show _ ≤ (4 : Nat); omega) (by show _ ≤ (58 : Nat); omega) dX4_init_5 (fun H hr hS => ?_)
  obtain ⟨g1, eg1⟩ : ∃ q, q = nO h (.inr (8, [.null, .int 0, .int 0])) := ⟨_, rfl⟩
  rw [← eg1] at hr
  replace hs := lt_inv hs g1 eg1
  refine lv_dup hx hb dX4_init_8 rfl ?_
  obtain ⟨g2, eg2, hs⟩ := bi_inv hs
  refine hv_I0 (n := 0) [] [.ref h.2, .ref u0] hx hb hml hown hts hk hr hz hS (zm_X8_init l D z eg2) tw_64 tw_33 tw_2 tw_34 rfl (by decide +kernel) (by decide) ⟨(by show _ ≤ (4 : Nat); omega), (by show _ ≤ (58 : Nat); omega)⟩ rfl hl.1 (Nat.le_of_ble_eq_true rfl) dX4_init_9 rfl (fun H locs hr hS => ?_)
  obtain ⟨g3, eg3, hs⟩ := bi_inv hs
  refine hv_pF (C := RX4) (T := TX4) (N := 2) (ci := 4) hx hb hts inX4 tyX4 tyX4_ok nmX4 hown hk hr hS rfl 0 (by decide) (hts _ tw_78) rfl hnm rfl rfl rfl eg3 dX4_init_12 (fun H locs hr hS => ?_)
  refine lv_aload_n hx hb dX4_init_15 rfl (lv_at hl 0 rfl) ?_
  refine hv_new (C := RX8) (T := TX8) (N := 3) (ci := 8) hx hb hts inX8 tyX8 tyX8_ok hown tw_63 tw_31 tw_2 hk hr hz hS rfl [.null, .int 0, .int 0] (by decide +kernel) (by show _ ≤ (4 : Nat); omega) (by show _ ≤ (58 : Nat); omega) dX4_init_16 (fun H hr hS => ?_)
  obtain ⟨g4, eg4⟩ : ∃ q, q = nO g3 (.inr (8, [.null, .int 0, .int 0])) := ⟨_, rfl⟩
  rw [← eg4] at hr
  replace hs := lt_inv hs g4 eg4
  refine lv_dup hx hb dX4_init_19 rfl ?_
  obtain ⟨g5, eg5, hs⟩ := bi_inv hs
  refine hv_I0 (n := 0) [] [.ref g3.2, .ref u0] hx hb hml hown hts hk hr hz hS (zm_X8_init l D z eg5) tw_64 tw_33 tw_2 tw_34 rfl (by decide +kernel) (by decide) ⟨(by show _ ≤ (4 : Nat); omega), (by show _ ≤ (58 : Nat); omega)⟩ rfl hl.1 (Nat.le_of_ble_eq_true rfl) dX4_init_20 rfl (fun H locs hr hS => ?_)
  obtain ⟨g6, eg6, hs⟩ := bi_inv hs
  refine hv_pF (C := RX4) (T := TX4) (N := 2) (ci := 4) hx hb hts inX4 tyX4 tyX4_ok nmX4 hown hk hr hS rfl 1 (by decide) (hts _ tw_82) rfl hnm rfl rfl rfl eg6 dX4_init_23 (fun H locs hr hS => ?_)
  refine lv_aload_n hx hb dX4_init_26 rfl (lv_at hl 0 rfl) ?_
  obtain ⟨x7, ex7, hs⟩ := bi_inv hs
  refine hv_gR (C := RX4) (T := TX4) (N := 2) (ci := 4) hx hb hts inX4 hown hk hr rfl 1 (by decide) (hts _ tw_82) ex7 dX4_init_27 ?_
  refine lv_lconst (v := 1) hx hb dX4_init_30 (by decide) ?_
  obtain ⟨_, ex8, hs⟩ := bi_inv hs
  obtain ⟨g9, eg9, hs⟩ := bi_inv hs
  refine hv_V0 (n := 1) [.long ((1 : Int64))] [] hx hb hml hown hts hk hr hz hS (zm_X8_become l D z eg9) ex8 rfl tw_65 tw_66 tw_67 tw_2 tw_68 (by decide +kernel) (by decide) ⟨(by show _ ≤ (4 : Nat); omega), (by show _ ≤ (58 : Nat); omega)⟩ rfl hl.1 (Nat.le_of_ble_eq_true rfl) dX4_init_31 rfl (fun H locs hr hS => ?_)
  obtain rfl := Option.some.inj hs
  exact hv_vret hx hb hrt hlk hr hS dX4_init_34
theorem dX9_isSlot_0 : decode cX9_isSlot 0 = .ok (.iload_n 0, 1) := by decide +kernel
theorem dX9_isSlot_1 : decode cX9_isSlot 1 = .ok (.ifCond .lt 13, 3) := by decide +kernel
theorem dX9_isSlot_4 : decode cX9_isSlot 4 = .ok (.iload_n 0, 1) := by decide +kernel
theorem dX9_isSlot_5 : decode cX9_isSlot 5 = .ok (.bipush 24, 2) := by decide +kernel
theorem dX9_isSlot_7 : decode cX9_isSlot 7 = .ok (.if_icmp .ge 7, 3) := by decide +kernel
theorem dX9_isSlot_10 : decode cX9_isSlot 10 = .ok (.iconst 1, 1) := by decide +kernel
theorem dX9_isSlot_11 : decode cX9_isSlot 11 = .ok (.goto 4, 3) := by decide +kernel
theorem dX9_isSlot_14 : decode cX9_isSlot 14 = .ok (.iconst 0, 1) := by decide +kernel
theorem dX9_isSlot_15 : decode cX9_isSlot 15 = .ok (.ireturn, 1) := by decide +kernel
def zs_X9_isSlot (h : AH) (u0 : Int32) : Option Int32 :=
  (if u0 < 0 then some ((0 : Int32)) else (if (24 : Int32) ≤ u0 then some ((0 : Int32)) else some ((1 : Int32))))
set_option maxRecDepth 100000 in
set_option maxHeartbeats 4000000 in
theorem zm_X9_isSlot (l : Launch) (D : hG) (z : Nat) {h : AH} {u0 : Int32} {r : Int32} (hs : zs_X9_isSlot h u0 = some r) : hC l D z yX9_isSlot cX9_isSlot 1 (Option.some Jvm.ClassFile.FieldType.boolean) 0 0 0 0 [.int u0] h h (some (.int r)) := by
  refine hC_of (by decide) (Nat.le_of_ble_eq_true rfl) ?_
  intro p e s m below meth c hx hb hml hrt hlk hown hnm hts hk hr hz ls hl
  replace hown : s.vm.findClass RX9 = some m.cls := hown
  replace hl : lv_has ls 1 [(0, .int u0)] := hl
  have hS : va_S (hA z) s.heap s.heap [] := va_S.rf
  suffices hgo : ∀ (H : Heap) (locs : List Loc), hR D z h H → va_S (hA z) s.heap H locs → W p l e ({ frames := 0, cells := 0, slots := 0, locals := 0 } : Room) s m ([.int u0] : List Value).toArray below meth c H locs 0 0 (MQ below (hQ D z h (some (.int r))) ([.int u0] : List Value).toArray s 0 0 (hA z)) (F0 m 0 ls []) from hgo _ _ hr hS
  clear hr hS
  intro H locs hr hS
  unfold zs_X9_isSlot at hs
  refine lv_iload_n hx hb dX9_isSlot_0 rfl (lv_at hl 0 rfl) ?_
  refine lv_if_lt (tgt := 14) hx hb dX9_isSlot_1 (by decide) (fun c1 => ?_) (fun c1 => ?_)
  · rw [if_pos c1] at hs
    refine lv_iconst (v := 0) hx hb dX9_isSlot_14 (by decide) ?_
    obtain rfl := Option.some.inj hs
    exact hv_zret hx hb hrt hlk hr hS (by decide) dX9_isSlot_15
  · rw [if_neg c1] at hs
    refine lv_iload_n hx hb dX9_isSlot_4 rfl (lv_at hl 0 rfl) ?_
    refine lv_bipush (v := 24) hx hb dX9_isSlot_5 (by decide) ?_
    refine lv_icmp_ge (tgt := 14) hx hb dX9_isSlot_7 (by decide) (fun c2 => ?_) (fun c2 => ?_)
    · rw [if_pos c2] at hs
      refine lv_iconst (v := 0) hx hb dX9_isSlot_14 (by decide) ?_
      obtain rfl := Option.some.inj hs
      exact hv_zret hx hb hrt hlk hr hS (by decide) dX9_isSlot_15
    · rw [if_neg c2] at hs
      refine lv_iconst (v := 1) hx hb dX9_isSlot_10 (by decide) ?_
      refine lv_goto (tgt := 15) hx hb dX9_isSlot_11 (by decide) ?_
      obtain rfl := Option.some.inj hs
      exact hv_zret hx hb hrt hlk hr hS (by decide) dX9_isSlot_15
theorem dX9_areSlots_0 : decode cX9_areSlots 0 = .ok (.iload_n 0, 1) := by decide +kernel
theorem dX9_areSlots_1 : decode cX9_areSlots 1 = .ok (.invokestatic 90, 3) := by decide +kernel
theorem dX9_areSlots_4 : decode cX9_areSlots 4 = .ok (.ifCond .eq 21, 3) := by decide +kernel
theorem dX9_areSlots_7 : decode cX9_areSlots 7 = .ok (.iload_n 1, 1) := by decide +kernel
theorem dX9_areSlots_8 : decode cX9_areSlots 8 = .ok (.invokestatic 90, 3) := by decide +kernel
theorem dX9_areSlots_11 : decode cX9_areSlots 11 = .ok (.ifCond .eq 14, 3) := by decide +kernel
theorem dX9_areSlots_14 : decode cX9_areSlots 14 = .ok (.iload_n 2, 1) := by decide +kernel
theorem dX9_areSlots_15 : decode cX9_areSlots 15 = .ok (.invokestatic 90, 3) := by decide +kernel
theorem dX9_areSlots_18 : decode cX9_areSlots 18 = .ok (.ifCond .eq 7, 3) := by decide +kernel
theorem dX9_areSlots_21 : decode cX9_areSlots 21 = .ok (.iconst 1, 1) := by decide +kernel
theorem dX9_areSlots_22 : decode cX9_areSlots 22 = .ok (.goto 4, 3) := by decide +kernel
theorem dX9_areSlots_25 : decode cX9_areSlots 25 = .ok (.iconst 0, 1) := by decide +kernel
theorem dX9_areSlots_26 : decode cX9_areSlots 26 = .ok (.ireturn, 1) := by decide +kernel
def zs_X9_areSlots (h : AH) (u0 : Int32) (u1 : Int32) (u2 : Int32) : Option Int32 :=
  (zs_X9_isSlot h u0).bind fun x1 => (if x1 = 0 then some ((0 : Int32)) else (zs_X9_isSlot h u1).bind fun x3 => (if x3 = 0 then some ((0 : Int32)) else (zs_X9_isSlot h u2).bind fun x5 => (if x5 = 0 then some ((0 : Int32)) else some ((1 : Int32)))))
set_option maxRecDepth 100000 in
set_option maxHeartbeats 4000000 in
theorem zm_X9_areSlots (l : Launch) (D : hG) (z : Nat) {h : AH} {u0 : Int32} {u1 : Int32} {u2 : Int32} {r : Int32} (hs : zs_X9_areSlots h u0 u1 u2 = some r) : hC l D z yX9_areSlots cX9_areSlots 3 (Option.some Jvm.ClassFile.FieldType.boolean) 1 20 0 0 [.int u0, .int u1, .int u2] h h (some (.int r)) := by
  refine hC_of (by decide) (Nat.le_of_ble_eq_true rfl) ?_
  intro p e s m below meth c hx hb hml hrt hlk hown hnm hts hk hr hz ls hl
  replace hown : s.vm.findClass RX9 = some m.cls := hown
  replace hl : lv_has ls 3 [(0, .int u0), (1, .int u1), (2, .int u2)] := hl
  have hS : va_S (hA z) s.heap s.heap [] := va_S.rf
  suffices hgo : ∀ (H : Heap) (locs : List Loc), hR D z h H → va_S (hA z) s.heap H locs → W p l e ({ frames := 1, cells := 0, slots := 0, locals := 20 } : Room) s m ([.int u0, .int u1, .int u2] : List Value).toArray below meth c H locs 0 0 (MQ below (hQ D z h (some (.int r))) ([.int u0, .int u1, .int u2] : List Value).toArray s 0 0 (hA z)) (F0 m 0 ls []) from hgo _ _ hr hS
  clear hr hS
  intro H locs hr hS
  unfold zs_X9_areSlots at hs
  refine lv_iload_n hx hb dX9_areSlots_0 rfl (lv_at hl 0 rfl) ?_
  obtain ⟨x1, ex1, hs⟩ := bi_inv hs
  refine hv_S1 (n := 1) [.int u0] [] hx hb hml hown hts hk hr hz hS (zm_X9_isSlot l D z ex1) tw_316 tw_317 tw_1 tw_318 (by decide +kernel) (by decide) ⟨(Nat.zero_le _), (Nat.zero_le _)⟩ rfl hl.1 (Nat.le_of_ble_eq_true rfl) dX9_areSlots_1 rfl (fun H locs hr hS => ?_)
  refine lv_if_eq (tgt := 25) hx hb dX9_areSlots_4 (by decide) (fun c2 => ?_) (fun c2 => ?_)
  · rw [if_pos c2] at hs
    refine lv_iconst (v := 0) hx hb dX9_areSlots_25 (by decide) ?_
    obtain rfl := Option.some.inj hs
    exact hv_zret hx hb hrt hlk hr hS (by decide) dX9_areSlots_26
  · rw [if_neg c2] at hs
    refine lv_iload_n hx hb dX9_areSlots_7 rfl (lv_at hl 1 rfl) ?_
    obtain ⟨x3, ex3, hs⟩ := bi_inv hs
    refine hv_S1 (n := 1) [.int u1] [] hx hb hml hown hts hk hr hz hS (zm_X9_isSlot l D z ex3) tw_316 tw_317 tw_1 tw_318 (by decide +kernel) (by decide) ⟨(Nat.zero_le _), (Nat.zero_le _)⟩ rfl hl.1 (Nat.le_of_ble_eq_true rfl) dX9_areSlots_8 rfl (fun H locs hr hS => ?_)
    refine lv_if_eq (tgt := 25) hx hb dX9_areSlots_11 (by decide) (fun c4 => ?_) (fun c4 => ?_)
    · rw [if_pos c4] at hs
      refine lv_iconst (v := 0) hx hb dX9_areSlots_25 (by decide) ?_
      obtain rfl := Option.some.inj hs
      exact hv_zret hx hb hrt hlk hr hS (by decide) dX9_areSlots_26
    · rw [if_neg c4] at hs
      refine lv_iload_n hx hb dX9_areSlots_14 rfl (lv_at hl 2 rfl) ?_
      obtain ⟨x5, ex5, hs⟩ := bi_inv hs
      refine hv_S1 (n := 1) [.int u2] [] hx hb hml hown hts hk hr hz hS (zm_X9_isSlot l D z ex5) tw_316 tw_317 tw_1 tw_318 (by decide +kernel) (by decide) ⟨(Nat.zero_le _), (Nat.zero_le _)⟩ rfl hl.1 (Nat.le_of_ble_eq_true rfl) dX9_areSlots_15 rfl (fun H locs hr hS => ?_)
      refine lv_if_eq (tgt := 25) hx hb dX9_areSlots_18 (by decide) (fun c6 => ?_) (fun c6 => ?_)
      · rw [if_pos c6] at hs
        refine lv_iconst (v := 0) hx hb dX9_areSlots_25 (by decide) ?_
        obtain rfl := Option.some.inj hs
        exact hv_zret hx hb hrt hlk hr hS (by decide) dX9_areSlots_26
      · rw [if_neg c6] at hs
        refine lv_iconst (v := 1) hx hb dX9_areSlots_21 (by decide) ?_
        refine lv_goto (tgt := 26) hx hb dX9_areSlots_22 (by decide) ?_
        obtain rfl := Option.some.inj hs
        exact hv_zret hx hb hrt hlk hr hS (by decide) dX9_areSlots_26
theorem dX9_keep_0 : decode cX9_keep 0 = .ok (.aload_n 1, 1) := by decide +kernel
theorem dX9_keep_1 : decode cX9_keep 1 = .ok (.invokevirtual 178, 3) := by decide +kernel
theorem dX9_keep_4 : decode cX9_keep 4 = .ok (.ifCond .ne 6, 3) := by decide +kernel
theorem dX9_keep_7 : decode cX9_keep 7 = .ok (.bipush (-5), 2) := by decide +kernel
theorem dX9_keep_9 : decode cX9_keep 9 = .ok (.ireturn, 1) := by decide +kernel
theorem dX9_keep_10 : decode cX9_keep 10 = .ok (.aload_n 0, 1) := by decide +kernel
theorem dX9_keep_11 : decode cX9_keep 11 = .ok (.getfield 11, 3) := by decide +kernel
theorem dX9_keep_14 : decode cX9_keep 14 = .ok (.iload_n 2, 1) := by decide +kernel
theorem dX9_keep_15 : decode cX9_keep 15 = .ok (.aaload, 1) := by decide +kernel
theorem dX9_keep_16 : decode cX9_keep 16 = .ok (.aload_n 1, 1) := by decide +kernel
theorem dX9_keep_17 : decode cX9_keep 17 = .ok (.invokevirtual 184, 3) := by decide +kernel
theorem dX9_keep_20 : decode cX9_keep 20 = .ok (.iconst 1, 1) := by decide +kernel
theorem dX9_keep_21 : decode cX9_keep 21 = .ok (.ireturn, 1) := by decide +kernel
def zs_X9_keep (h : AH) (u0 : Nat) (u1 : Nat) (u2 : Int32) : Option (Int32 × AH) :=
  (chk h u1 8).bind fun _ => (zs_X8_isWithin h u1).bind fun x2 => (if x2 = 0 then some ((-5 : Int32), h) else (gR h u0 9 0).bind fun x4 => (aR h x4 3 u2).bind fun x5 => (chk h x5 8).bind fun _ => (zs_X8_copy h x5 u1).bind fun g7 => some ((1 : Int32), g7))
set_option maxRecDepth 100000 in
set_option maxHeartbeats 4000000 in
theorem zm_X9_keep (l : Launch) (D : hG) (z : Nat) {h : AH} {u0 : Nat} {u1 : Nat} {u2 : Int32} {r : Int32} {h' : AH} (hs : zs_X9_keep h u0 u1 u2 = some (r, h')) : hC l D z yX9_keep cX9_keep 3 (Option.some Jvm.ClassFile.FieldType.int) 1 22 0 0 [.ref u0, .ref u1, .int u2] h h' (some (.int r)) := by
  refine hC_of (by decide) (Nat.le_of_ble_eq_true rfl) ?_
  intro p e s m below meth c hx hb hml hrt hlk hown hnm hts hk hr hz ls hl
  replace hown : s.vm.findClass RX9 = some m.cls := hown
  replace hl : lv_has ls 3 [(0, .ref u0), (1, .ref u1), (2, .int u2)] := hl
  have hS : va_S (hA z) s.heap s.heap [] := va_S.rf
  suffices hgo : ∀ (H : Heap) (locs : List Loc), hR D z h H → va_S (hA z) s.heap H locs → W p l e ({ frames := 1, cells := 0, slots := 0, locals := 22 } : Room) s m ([.ref u0, .ref u1, .int u2] : List Value).toArray below meth c H locs 0 0 (MQ below (hQ D z h' (some (.int r))) ([.ref u0, .ref u1, .int u2] : List Value).toArray s 0 0 (hA z)) (F0 m 0 ls []) from hgo _ _ hr hS
  clear hr hS
  intro H locs hr hS
  unfold zs_X9_keep at hs
  refine lv_aload_n hx hb dX9_keep_0 rfl (lv_at hl 1 rfl) ?_
  obtain ⟨_, ex1, hs⟩ := bi_inv hs
  obtain ⟨x2, ex2, hs⟩ := bi_inv hs
  refine hv_V1 (n := 0) [] [] hx hb hml hown hts hk hr hz hS (zm_X8_isWithin l D z ex2) ex1 rfl tw_368 tw_369 tw_370 tw_2 tw_371 (by decide +kernel) (by decide) ⟨(Nat.zero_le _), (Nat.zero_le _)⟩ rfl hl.1 (Nat.le_of_ble_eq_true rfl) dX9_keep_1 rfl (fun H locs hr hS => ?_)
  refine lv_if_ne (tgt := 10) hx hb dX9_keep_4 (by decide) (fun c3 => ?_) (fun c3 => ?_)
  · rw [if_neg c3] at hs
    refine lv_aload_n hx hb dX9_keep_10 rfl (lv_at hl 0 rfl) ?_
    obtain ⟨x4, ex4, hs⟩ := bi_inv hs
    refine hv_gR (C := RX9) (T := TX9) (N := 12) (ci := 9) hx hb hts inX9 hown hk hr rfl 0 (by decide) (hts _ tw_275) ex4 dX9_keep_11 ?_
    refine lv_iload_n hx hb dX9_keep_14 rfl (lv_at hl 2 rfl) ?_
    obtain ⟨x5, ex5, hs⟩ := bi_inv hs
    refine hv_aR (kd := 3) hx hb hk hr rfl ex5 dX9_keep_15 ?_
    refine lv_aload_n hx hb dX9_keep_16 rfl (lv_at hl 1 rfl) ?_
    obtain ⟨_, ex6, hs⟩ := bi_inv hs
    obtain ⟨g7, eg7, hs⟩ := bi_inv hs
    refine hv_V0 (n := 1) [.ref u1] [] hx hb hml hown hts hk hr hz hS (zm_X8_copy l D z eg7) ex6 rfl tw_372 tw_373 tw_374 tw_2 tw_375 (by decide +kernel) (by decide) ⟨(Nat.zero_le _), (Nat.zero_le _)⟩ rfl hl.1 (Nat.le_of_ble_eq_true rfl) dX9_keep_17 rfl (fun H locs hr hS => ?_)
    refine lv_iconst (v := 1) hx hb dX9_keep_20 (by decide) ?_
    obtain ⟨rfl, rfl⟩ := Prod.mk.inj (Option.some.inj hs)
    exact hv_iret hx hb hrt hlk hr hS dX9_keep_21
  · rw [if_pos c3] at hs
    refine lv_bipush (v := (-5)) hx hb dX9_keep_7 (by decide) ?_
    obtain ⟨rfl, rfl⟩ := Prod.mk.inj (Option.some.inj hs)
    exact hv_iret hx hb hrt hlk hr hS dX9_keep_9
theorem dX9_act_0 : decode cX9_act 0 = .ok (.iload_n 1, 1) := by decide +kernel
theorem dX9_act_1 : decode cX9_act 1 = .ok (.ifCond .lt 18, 3) := by decide +kernel
theorem dX9_act_4 : decode cX9_act 4 = .ok (.iload_n 1, 1) := by decide +kernel
theorem dX9_act_5 : decode cX9_act 5 = .ok (.iconst 2, 1) := by decide +kernel
theorem dX9_act_6 : decode cX9_act 6 = .ok (.if_icmp .gt 13, 3) := by decide +kernel
theorem dX9_act_9 : decode cX9_act 9 = .ok (.iload_n 2, 1) := by decide +kernel
theorem dX9_act_10 : decode cX9_act 10 = .ok (.iload_n 3, 1) := by decide +kernel
theorem dX9_act_11 : decode cX9_act 11 = .ok (.iload 4, 2) := by decide +kernel
theorem dX9_act_13 : decode cX9_act 13 = .ok (.invokestatic 154, 3) := by decide +kernel
theorem dX9_act_16 : decode cX9_act 16 = .ok (.ifCond .ne 5, 3) := by decide +kernel
theorem dX9_act_19 : decode cX9_act 19 = .ok (.iconst (-1), 1) := by decide +kernel
theorem dX9_act_20 : decode cX9_act 20 = .ok (.ireturn, 1) := by decide +kernel
theorem dX9_act_21 : decode cX9_act 21 = .ok (.iload_n 1, 1) := by decide +kernel
theorem dX9_act_22 : decode cX9_act 22 = .ok (.ifCond .ne 25, 3) := by decide +kernel
theorem dX9_act_25 : decode cX9_act 25 = .ok (.aload_n 0, 1) := by decide +kernel
theorem dX9_act_26 : decode cX9_act 26 = .ok (.getfield 11, 3) := by decide +kernel
theorem dX9_act_29 : decode cX9_act 29 = .ok (.iload_n 2, 1) := by decide +kernel
theorem dX9_act_30 : decode cX9_act 30 = .ok (.aaload, 1) := by decide +kernel
theorem dX9_act_31 : decode cX9_act 31 = .ok (.aload_n 0, 1) := by decide +kernel
theorem dX9_act_32 : decode cX9_act 32 = .ok (.getfield 11, 3) := by decide +kernel
theorem dX9_act_35 : decode cX9_act 35 = .ok (.iload_n 3, 1) := by decide +kernel
theorem dX9_act_36 : decode cX9_act 36 = .ok (.aaload, 1) := by decide +kernel
theorem dX9_act_37 : decode cX9_act 37 = .ok (.aload_n 0, 1) := by decide +kernel
theorem dX9_act_38 : decode cX9_act 38 = .ok (.getfield 79, 3) := by decide +kernel
theorem dX9_act_41 : decode cX9_act 41 = .ok (.invokestatic 158, 3) := by decide +kernel
theorem dX9_act_44 : decode cX9_act 44 = .ok (.goto 49, 3) := by decide +kernel
theorem dX9_act_47 : decode cX9_act 47 = .ok (.iload_n 1, 1) := by decide +kernel
theorem dX9_act_48 : decode cX9_act 48 = .ok (.iconst 1, 1) := by decide +kernel
theorem dX9_act_49 : decode cX9_act 49 = .ok (.if_icmp .ne 25, 3) := by decide +kernel
theorem dX9_act_52 : decode cX9_act 52 = .ok (.aload_n 0, 1) := by decide +kernel
theorem dX9_act_53 : decode cX9_act 53 = .ok (.getfield 11, 3) := by decide +kernel
theorem dX9_act_56 : decode cX9_act 56 = .ok (.iload_n 2, 1) := by decide +kernel
theorem dX9_act_57 : decode cX9_act 57 = .ok (.aaload, 1) := by decide +kernel
theorem dX9_act_58 : decode cX9_act 58 = .ok (.aload_n 0, 1) := by decide +kernel
theorem dX9_act_59 : decode cX9_act 59 = .ok (.getfield 11, 3) := by decide +kernel
theorem dX9_act_62 : decode cX9_act 62 = .ok (.iload_n 3, 1) := by decide +kernel
theorem dX9_act_63 : decode cX9_act 63 = .ok (.aaload, 1) := by decide +kernel
theorem dX9_act_64 : decode cX9_act 64 = .ok (.aload_n 0, 1) := by decide +kernel
theorem dX9_act_65 : decode cX9_act 65 = .ok (.getfield 79, 3) := by decide +kernel
theorem dX9_act_68 : decode cX9_act 68 = .ok (.invokestatic 162, 3) := by decide +kernel
theorem dX9_act_71 : decode cX9_act 71 = .ok (.goto 22, 3) := by decide +kernel
theorem dX9_act_74 : decode cX9_act 74 = .ok (.aload_n 0, 1) := by decide +kernel
theorem dX9_act_75 : decode cX9_act 75 = .ok (.getfield 11, 3) := by decide +kernel
theorem dX9_act_78 : decode cX9_act 78 = .ok (.iload_n 2, 1) := by decide +kernel
theorem dX9_act_79 : decode cX9_act 79 = .ok (.aaload, 1) := by decide +kernel
theorem dX9_act_80 : decode cX9_act 80 = .ok (.aload_n 0, 1) := by decide +kernel
theorem dX9_act_81 : decode cX9_act 81 = .ok (.getfield 11, 3) := by decide +kernel
theorem dX9_act_84 : decode cX9_act 84 = .ok (.iload_n 3, 1) := by decide +kernel
theorem dX9_act_85 : decode cX9_act 85 = .ok (.aaload, 1) := by decide +kernel
theorem dX9_act_86 : decode cX9_act 86 = .ok (.aload_n 0, 1) := by decide +kernel
theorem dX9_act_87 : decode cX9_act 87 = .ok (.getfield 79, 3) := by decide +kernel
theorem dX9_act_90 : decode cX9_act 90 = .ok (.invokestatic 165, 3) := by decide +kernel
theorem dX9_act_93 : decode cX9_act 93 = .ok (.aload_n 0, 1) := by decide +kernel
theorem dX9_act_94 : decode cX9_act 94 = .ok (.aload_n 0, 1) := by decide +kernel
theorem dX9_act_95 : decode cX9_act 95 = .ok (.getfield 79, 3) := by decide +kernel
theorem dX9_act_98 : decode cX9_act 98 = .ok (.iload 4, 2) := by decide +kernel
theorem dX9_act_100 : decode cX9_act 100 = .ok (.invokevirtual 116, 3) := by decide +kernel
theorem dX9_act_103 : decode cX9_act 103 = .ok (.ireturn, 1) := by decide +kernel
def zj_X9_act_93 (g13 : AH) (y0_93 : Nat) (y4_93 : Int32) : Option (Int32 × AH) :=
  (gR g13 y0_93 9 10).bind fun x14 => (chk g13 y0_93 9).bind fun _ => (zs_X9_keep g13 y0_93 x14 y4_93).bind fun x16 => some (x16.1, x16.2)
def zs_X9_act (h : AH) (u0 : Nat) (u1 : Int32) (u2 : Int32) (u3 : Int32) (u4 : Int32) : Option (Int32 × AH) :=
  (if u1 < 0 then some ((-1 : Int32), h) else (if (2 : Int32) < u1 then some ((-1 : Int32), h) else (zs_X9_areSlots h u2 u3 u4).bind fun x3 => (if x3 = 0 then some ((-1 : Int32), h) else (if u1 = 0 then (gR h u0 9 0).bind fun x23 => (aR h x23 3 u2).bind fun x24 => (gR h u0 9 0).bind fun x25 => (aR h x25 3 u3).bind fun x26 => (gR h u0 9 10).bind fun x27 => (zs_X8_sum h x24 x26 x27).bind fun g28 => zj_X9_act_93 g28 u0 u4 else (if u1 = (1 : Int32) then (gR h u0 9 0).bind fun x17 => (aR h x17 3 u2).bind fun x18 => (gR h u0 9 0).bind fun x19 => (aR h x19 3 u3).bind fun x20 => (gR h u0 9 10).bind fun x21 => (zs_X8_difference h x18 x20 x21).bind fun g22 => zj_X9_act_93 g22 u0 u4 else (gR h u0 9 0).bind fun x7 => (aR h x7 3 u2).bind fun x8 => (gR h u0 9 0).bind fun x9 => (aR h x9 3 u3).bind fun x10 => (gR h u0 9 10).bind fun x11 => (zs_X8_product h x8 x10 x11).bind fun g12 => zj_X9_act_93 g12 u0 u4)))))
set_option maxRecDepth 100000 in
set_option maxHeartbeats 4000000 in
theorem zm_X9_act (l : Launch) (D : hG) (z : Nat) {h : AH} {u0 : Nat} {u1 : Int32} {u2 : Int32} {u3 : Int32} {u4 : Int32} {r : Int32} {h' : AH} (hs : zs_X9_act h u0 u1 u2 u3 u4 = some (r, h')) : hC l D z yX9_act cX9_act 5 (Option.some Jvm.ClassFile.FieldType.int) 4 95 0 0 [.ref u0, .int u1, .int u2, .int u3, .int u4] h h' (some (.int r)) := by
  refine hC_of (by decide) (Nat.le_of_ble_eq_true rfl) ?_
  intro p e s m below meth c hx hb hml hrt hlk hown hnm hts hk hr hz ls hl
  replace hown : s.vm.findClass RX9 = some m.cls := hown
  replace hl : lv_has ls 5 [(0, .ref u0), (1, .int u1), (2, .int u2), (3, .int u3), (4, .int u4)] := hl
  have hS : va_S (hA z) s.heap s.heap [] := va_S.rf
  suffices hgo : ∀ (H : Heap) (locs : List Loc), hR D z h H → va_S (hA z) s.heap H locs → W p l e ({ frames := 4, cells := 0, slots := 0, locals := 95 } : Room) s m ([.ref u0, .int u1, .int u2, .int u3, .int u4] : List Value).toArray below meth c H locs 0 0 (MQ below (hQ D z h' (some (.int r))) ([.ref u0, .int u1, .int u2, .int u3, .int u4] : List Value).toArray s 0 0 (hA z)) (F0 m 0 ls []) from hgo _ _ hr hS
  clear hr hS
  intro H locs hr hS
  have hJ93 : ∀ (g13 : AH) (y0_93 : Nat) (y4_93 : Int32) (H : Heap) (locs : List Loc) (ls : Array Slot), zj_X9_act_93 g13 y0_93 y4_93 = some (r, h') → hR D z g13 H → va_S (hA z) s.heap H locs → lv_has ls 5 [(0, .ref y0_93), (4, .int y4_93)] → W p l e ({ frames := 4, cells := 0, slots := 0, locals := 95 } : Room) s m ([.ref u0, .int u1, .int u2, .int u3, .int u4] : List Value).toArray below meth c H locs 0 0 (MQ below (hQ D z h' (some (.int r))) ([.ref u0, .int u1, .int u2, .int u3, .int u4] : List Value).toArray s 0 0 (hA z)) (F0 m 93 ls []) := by
    intro g13 y0_93 y4_93 H locs ls hs hr hS hl
    unfold zj_X9_act_93 at hs
    refine lv_aload_n hx hb dX9_act_93 rfl (lv_at hl 0 rfl) ?_
    refine lv_aload_n hx hb dX9_act_94 rfl (lv_at hl 0 rfl) ?_
    obtain ⟨x14, ex14, hs⟩ := bi_inv hs
    refine hv_gR (C := RX9) (T := TX9) (N := 12) (ci := 9) hx hb hts inX9 hown hk hr rfl 10 (by decide) (hts _ tw_285) ex14 dX9_act_95 ?_
    refine lv_iload hx hb dX9_act_98 (lv_at hl 1 rfl) ?_
    obtain ⟨_, ex15, hs⟩ := bi_inv hs
    obtain ⟨x16, ex16, hs⟩ := bi_inv hs
    refine hv_V1 (n := 2) [.ref x14, .int y4_93] [] hx hb hml hown hts hk hr hz hS (zm_X9_keep l D z ex16) ex15 rfl tw_364 tw_366 ts_2 tw_1 tw_367 (by decide +kernel) (by decide) ⟨(Nat.zero_le _), (Nat.zero_le _)⟩ rfl hl.1 (Nat.le_of_ble_eq_true rfl) dX9_act_100 rfl (fun H locs hr hS => ?_)
    obtain ⟨rfl, rfl⟩ := Prod.mk.inj (Option.some.inj hs)
    exact hv_iret hx hb hrt hlk hr hS dX9_act_103
  unfold zs_X9_act at hs
  refine lv_iload_n hx hb dX9_act_0 rfl (lv_at hl 1 rfl) ?_
  refine lv_if_lt (tgt := 19) hx hb dX9_act_1 (by decide) (fun c1 => ?_) (fun c1 => ?_)
  · rw [if_pos c1] at hs
    refine lv_iconst (v := (-1)) hx hb dX9_act_19 (by decide) ?_
    obtain ⟨rfl, rfl⟩ := Prod.mk.inj (Option.some.inj hs)
    exact hv_iret hx hb hrt hlk hr hS dX9_act_20
  · rw [if_neg c1] at hs
    refine lv_iload_n hx hb dX9_act_4 rfl (lv_at hl 1 rfl) ?_
    refine lv_iconst (v := 2) hx hb dX9_act_5 (by decide) ?_
    refine lv_icmp_gt (tgt := 19) hx hb dX9_act_6 (by decide) (fun c2 => ?_) (fun c2 => ?_)
    · rw [if_pos c2] at hs
      refine lv_iconst (v := (-1)) hx hb dX9_act_19 (by decide) ?_
      obtain ⟨rfl, rfl⟩ := Prod.mk.inj (Option.some.inj hs)
      exact hv_iret hx hb hrt hlk hr hS dX9_act_20
    · rw [if_neg c2] at hs
      refine lv_iload_n hx hb dX9_act_9 rfl (lv_at hl 2 rfl) ?_
      refine lv_iload_n hx hb dX9_act_10 rfl (lv_at hl 3 rfl) ?_
      refine lv_iload hx hb dX9_act_11 (lv_at hl 4 rfl) ?_
      obtain ⟨x3, ex3, hs⟩ := bi_inv hs
      refine hv_S1 (n := 3) [.int u2, .int u3, .int u4] [] hx hb hml hown hts hk hr hz hS (zm_X9_areSlots l D z ex3) tw_447 tw_448 tw_1 tw_449 (by decide +kernel) (by decide) ⟨(Nat.zero_le _), (Nat.zero_le _)⟩ rfl hl.1 (Nat.le_of_ble_eq_true rfl) dX9_act_13 rfl (fun H locs hr hS => ?_)
      refine lv_if_ne (tgt := 21) hx hb dX9_act_16 (by decide) (fun c4 => ?_) (fun c4 => ?_)
      · rw [if_neg c4] at hs
        refine lv_iload_n hx hb dX9_act_21 rfl (lv_at hl 1 rfl) ?_
        refine lv_if_ne (tgt := 47) hx hb dX9_act_22 (by decide) (fun c5 => ?_) (fun c5 => ?_)
        · rw [if_neg c5] at hs
          refine lv_iload_n hx hb dX9_act_47 rfl (lv_at hl 1 rfl) ?_
          refine lv_iconst (v := 1) hx hb dX9_act_48 (by decide) ?_
          refine lv_icmp_ne (tgt := 74) hx hb dX9_act_49 (by decide) (fun c6 => ?_) (fun c6 => ?_)
          · rw [if_neg c6] at hs
            refine lv_aload_n hx hb dX9_act_74 rfl (lv_at hl 0 rfl) ?_
            obtain ⟨x7, ex7, hs⟩ := bi_inv hs
            refine hv_gR (C := RX9) (T := TX9) (N := 12) (ci := 9) hx hb hts inX9 hown hk hr rfl 0 (by decide) (hts _ tw_275) ex7 dX9_act_75 ?_
            refine lv_iload_n hx hb dX9_act_78 rfl (lv_at hl 2 rfl) ?_
            obtain ⟨x8, ex8, hs⟩ := bi_inv hs
            refine hv_aR (kd := 3) hx hb hk hr rfl ex8 dX9_act_79 ?_
            refine lv_aload_n hx hb dX9_act_80 rfl (lv_at hl 0 rfl) ?_
            obtain ⟨x9, ex9, hs⟩ := bi_inv hs
            refine hv_gR (C := RX9) (T := TX9) (N := 12) (ci := 9) hx hb hts inX9 hown hk hr rfl 0 (by decide) (hts _ tw_275) ex9 dX9_act_81 ?_
            refine lv_iload_n hx hb dX9_act_84 rfl (lv_at hl 3 rfl) ?_
            obtain ⟨x10, ex10, hs⟩ := bi_inv hs
            refine hv_aR (kd := 3) hx hb hk hr rfl ex10 dX9_act_85 ?_
            refine lv_aload_n hx hb dX9_act_86 rfl (lv_at hl 0 rfl) ?_
            obtain ⟨x11, ex11, hs⟩ := bi_inv hs
            refine hv_gR (C := RX9) (T := TX9) (N := 12) (ci := 9) hx hb hts inX9 hown hk hr rfl 10 (by decide) (hts _ tw_285) ex11 dX9_act_87 ?_
            obtain ⟨g12, eg12, hs⟩ := bi_inv hs
            refine hv_S0 (n := 3) [.ref x8, .ref x10, .ref x11] [] hx hb hml hown hts hk hr hz hS (zm_X8_product l D z eg12) tw_471 tw_472 tw_2 tw_473 (by decide +kernel) (by decide) ⟨(Nat.zero_le _), (Nat.zero_le _)⟩ rfl hl.1 (Nat.le_of_ble_eq_true rfl) dX9_act_90 rfl (fun H locs hr hS => ?_)
            exact hJ93 g12 u0 u4 H locs ls hs hr hS (lv_sub hl [0, 4] rfl)
          · rw [if_pos c6] at hs
            refine lv_aload_n hx hb dX9_act_52 rfl (lv_at hl 0 rfl) ?_
            obtain ⟨x17, ex17, hs⟩ := bi_inv hs
            refine hv_gR (C := RX9) (T := TX9) (N := 12) (ci := 9) hx hb hts inX9 hown hk hr rfl 0 (by decide) (hts _ tw_275) ex17 dX9_act_53 ?_
            refine lv_iload_n hx hb dX9_act_56 rfl (lv_at hl 2 rfl) ?_
            obtain ⟨x18, ex18, hs⟩ := bi_inv hs
            refine hv_aR (kd := 3) hx hb hk hr rfl ex18 dX9_act_57 ?_
            refine lv_aload_n hx hb dX9_act_58 rfl (lv_at hl 0 rfl) ?_
            obtain ⟨x19, ex19, hs⟩ := bi_inv hs
            refine hv_gR (C := RX9) (T := TX9) (N := 12) (ci := 9) hx hb hts inX9 hown hk hr rfl 0 (by decide) (hts _ tw_275) ex19 dX9_act_59 ?_
            refine lv_iload_n hx hb dX9_act_62 rfl (lv_at hl 3 rfl) ?_
            obtain ⟨x20, ex20, hs⟩ := bi_inv hs
            refine hv_aR (kd := 3) hx hb hk hr rfl ex20 dX9_act_63 ?_
            refine lv_aload_n hx hb dX9_act_64 rfl (lv_at hl 0 rfl) ?_
            obtain ⟨x21, ex21, hs⟩ := bi_inv hs
            refine hv_gR (C := RX9) (T := TX9) (N := 12) (ci := 9) hx hb hts inX9 hown hk hr rfl 10 (by decide) (hts _ tw_285) ex21 dX9_act_65 ?_
            obtain ⟨g22, eg22, hs⟩ := bi_inv hs
            refine hv_S0 (n := 3) [.ref x18, .ref x20, .ref x21] [] hx hb hml hown hts hk hr hz hS (zm_X8_difference l D z eg22) tw_468 tw_469 tw_2 tw_470 (by decide +kernel) (by decide) ⟨(Nat.zero_le _), (Nat.zero_le _)⟩ rfl hl.1 (Nat.le_of_ble_eq_true rfl) dX9_act_68 rfl (fun H locs hr hS => ?_)
            refine lv_goto (tgt := 93) hx hb dX9_act_71 (by decide) ?_
            exact hJ93 g22 u0 u4 H locs ls hs hr hS (lv_sub hl [0, 4] rfl)
        · rw [if_pos c5] at hs
          refine lv_aload_n hx hb dX9_act_25 rfl (lv_at hl 0 rfl) ?_
          obtain ⟨x23, ex23, hs⟩ := bi_inv hs
          refine hv_gR (C := RX9) (T := TX9) (N := 12) (ci := 9) hx hb hts inX9 hown hk hr rfl 0 (by decide) (hts _ tw_275) ex23 dX9_act_26 ?_
          refine lv_iload_n hx hb dX9_act_29 rfl (lv_at hl 2 rfl) ?_
          obtain ⟨x24, ex24, hs⟩ := bi_inv hs
          refine hv_aR (kd := 3) hx hb hk hr rfl ex24 dX9_act_30 ?_
          refine lv_aload_n hx hb dX9_act_31 rfl (lv_at hl 0 rfl) ?_
          obtain ⟨x25, ex25, hs⟩ := bi_inv hs
          refine hv_gR (C := RX9) (T := TX9) (N := 12) (ci := 9) hx hb hts inX9 hown hk hr rfl 0 (by decide) (hts _ tw_275) ex25 dX9_act_32 ?_
          refine lv_iload_n hx hb dX9_act_35 rfl (lv_at hl 3 rfl) ?_
          obtain ⟨x26, ex26, hs⟩ := bi_inv hs
          refine hv_aR (kd := 3) hx hb hk hr rfl ex26 dX9_act_36 ?_
          refine lv_aload_n hx hb dX9_act_37 rfl (lv_at hl 0 rfl) ?_
          obtain ⟨x27, ex27, hs⟩ := bi_inv hs
          refine hv_gR (C := RX9) (T := TX9) (N := 12) (ci := 9) hx hb hts inX9 hown hk hr rfl 10 (by decide) (hts _ tw_285) ex27 dX9_act_38 ?_
          obtain ⟨g28, eg28, hs⟩ := bi_inv hs
          refine hv_S0 (n := 3) [.ref x24, .ref x26, .ref x27] [] hx hb hml hown hts hk hr hz hS (zm_X8_sum l D z eg28) tw_450 tw_451 tw_2 tw_452 (by decide +kernel) (by decide) ⟨(Nat.zero_le _), (Nat.zero_le _)⟩ rfl hl.1 (Nat.le_of_ble_eq_true rfl) dX9_act_41 rfl (fun H locs hr hS => ?_)
          refine lv_goto (tgt := 93) hx hb dX9_act_44 (by decide) ?_
          exact hJ93 g28 u0 u4 H locs ls hs hr hS (lv_sub hl [0, 4] rfl)
      · rw [if_pos c4] at hs
        refine lv_iconst (v := (-1)) hx hb dX9_act_19 (by decide) ?_
        obtain ⟨rfl, rfl⟩ := Prod.mk.inj (Option.some.inj hs)
        exact hv_iret hx hb hrt hlk hr hS dX9_act_20
theorem dX9_isRatio_0 : decode cX9_isRatio 0 = .ok (.iload_n 0, 1) := by decide +kernel
theorem dX9_isRatio_1 : decode cX9_isRatio 1 = .ok (.ifCond .lt 13, 3) := by decide +kernel
theorem dX9_isRatio_4 : decode cX9_isRatio 4 = .ok (.iload_n 0, 1) := by decide +kernel
theorem dX9_isRatio_5 : decode cX9_isRatio 5 = .ok (.bipush 12, 2) := by decide +kernel
theorem dX9_isRatio_7 : decode cX9_isRatio 7 = .ok (.if_icmp .ge 7, 3) := by decide +kernel
theorem dX9_isRatio_10 : decode cX9_isRatio 10 = .ok (.iconst 1, 1) := by decide +kernel
theorem dX9_isRatio_11 : decode cX9_isRatio 11 = .ok (.goto 4, 3) := by decide +kernel
theorem dX9_isRatio_14 : decode cX9_isRatio 14 = .ok (.iconst 0, 1) := by decide +kernel
theorem dX9_isRatio_15 : decode cX9_isRatio 15 = .ok (.ireturn, 1) := by decide +kernel
def zs_X9_isRatio (h : AH) (u0 : Int32) : Option Int32 :=
  (if u0 < 0 then some ((0 : Int32)) else (if (12 : Int32) ≤ u0 then some ((0 : Int32)) else some ((1 : Int32))))
set_option maxRecDepth 100000 in
set_option maxHeartbeats 4000000 in
theorem zm_X9_isRatio (l : Launch) (D : hG) (z : Nat) {h : AH} {u0 : Int32} {r : Int32} (hs : zs_X9_isRatio h u0 = some r) : hC l D z yX9_isRatio cX9_isRatio 1 (Option.some Jvm.ClassFile.FieldType.boolean) 0 0 0 0 [.int u0] h h (some (.int r)) := by
  refine hC_of (by decide) (Nat.le_of_ble_eq_true rfl) ?_
  intro p e s m below meth c hx hb hml hrt hlk hown hnm hts hk hr hz ls hl
  replace hown : s.vm.findClass RX9 = some m.cls := hown
  replace hl : lv_has ls 1 [(0, .int u0)] := hl
  have hS : va_S (hA z) s.heap s.heap [] := va_S.rf
  suffices hgo : ∀ (H : Heap) (locs : List Loc), hR D z h H → va_S (hA z) s.heap H locs → W p l e ({ frames := 0, cells := 0, slots := 0, locals := 0 } : Room) s m ([.int u0] : List Value).toArray below meth c H locs 0 0 (MQ below (hQ D z h (some (.int r))) ([.int u0] : List Value).toArray s 0 0 (hA z)) (F0 m 0 ls []) from hgo _ _ hr hS
  clear hr hS
  intro H locs hr hS
  unfold zs_X9_isRatio at hs
  refine lv_iload_n hx hb dX9_isRatio_0 rfl (lv_at hl 0 rfl) ?_
  refine lv_if_lt (tgt := 14) hx hb dX9_isRatio_1 (by decide) (fun c1 => ?_) (fun c1 => ?_)
  · rw [if_pos c1] at hs
    refine lv_iconst (v := 0) hx hb dX9_isRatio_14 (by decide) ?_
    obtain rfl := Option.some.inj hs
    exact hv_zret hx hb hrt hlk hr hS (by decide) dX9_isRatio_15
  · rw [if_neg c1] at hs
    refine lv_iload_n hx hb dX9_isRatio_4 rfl (lv_at hl 0 rfl) ?_
    refine lv_bipush (v := 12) hx hb dX9_isRatio_5 (by decide) ?_
    refine lv_icmp_ge (tgt := 14) hx hb dX9_isRatio_7 (by decide) (fun c2 => ?_) (fun c2 => ?_)
    · rw [if_pos c2] at hs
      refine lv_iconst (v := 0) hx hb dX9_isRatio_14 (by decide) ?_
      obtain rfl := Option.some.inj hs
      exact hv_zret hx hb hrt hlk hr hS (by decide) dX9_isRatio_15
    · rw [if_neg c2] at hs
      refine lv_iconst (v := 1) hx hb dX9_isRatio_10 (by decide) ?_
      refine lv_goto (tgt := 15) hx hb dX9_isRatio_11 (by decide) ?_
      obtain rfl := Option.some.inj hs
      exact hv_zret hx hb hrt hlk hr hS (by decide) dX9_isRatio_15
theorem dX9_keepRatio_0 : decode cX9_keepRatio 0 = .ok (.aload_n 0, 1) := by decide +kernel
theorem dX9_keepRatio_1 : decode cX9_keepRatio 1 = .ok (.getfield 58, 3) := by decide +kernel
theorem dX9_keepRatio_4 : decode cX9_keepRatio 4 = .ok (.getfield 286, 3) := by decide +kernel
theorem dX9_keepRatio_7 : decode cX9_keepRatio 7 = .ok (.invokevirtual 178, 3) := by decide +kernel
theorem dX9_keepRatio_10 : decode cX9_keepRatio 10 = .ok (.ifCond .eq 16, 3) := by decide +kernel
theorem dX9_keepRatio_13 : decode cX9_keepRatio 13 = .ok (.aload_n 0, 1) := by decide +kernel
theorem dX9_keepRatio_14 : decode cX9_keepRatio 14 = .ok (.getfield 58, 3) := by decide +kernel
theorem dX9_keepRatio_17 : decode cX9_keepRatio 17 = .ok (.getfield 287, 3) := by decide +kernel
theorem dX9_keepRatio_20 : decode cX9_keepRatio 20 = .ok (.invokevirtual 178, 3) := by decide +kernel
theorem dX9_keepRatio_23 : decode cX9_keepRatio 23 = .ok (.ifCond .ne 6, 3) := by decide +kernel
theorem dX9_keepRatio_26 : decode cX9_keepRatio 26 = .ok (.bipush (-5), 2) := by decide +kernel
theorem dX9_keepRatio_28 : decode cX9_keepRatio 28 = .ok (.ireturn, 1) := by decide +kernel
theorem dX9_keepRatio_29 : decode cX9_keepRatio 29 = .ok (.aload_n 0, 1) := by decide +kernel
theorem dX9_keepRatio_30 : decode cX9_keepRatio 30 = .ok (.getfield 18, 3) := by decide +kernel
theorem dX9_keepRatio_33 : decode cX9_keepRatio 33 = .ok (.iload_n 1, 1) := by decide +kernel
theorem dX9_keepRatio_34 : decode cX9_keepRatio 34 = .ok (.aaload, 1) := by decide +kernel
theorem dX9_keepRatio_35 : decode cX9_keepRatio 35 = .ok (.getfield 253, 3) := by decide +kernel
theorem dX9_keepRatio_38 : decode cX9_keepRatio 38 = .ok (.aload_n 0, 1) := by decide +kernel
theorem dX9_keepRatio_39 : decode cX9_keepRatio 39 = .ok (.getfield 58, 3) := by decide +kernel
theorem dX9_keepRatio_42 : decode cX9_keepRatio 42 = .ok (.getfield 286, 3) := by decide +kernel
theorem dX9_keepRatio_45 : decode cX9_keepRatio 45 = .ok (.invokevirtual 184, 3) := by decide +kernel
theorem dX9_keepRatio_48 : decode cX9_keepRatio 48 = .ok (.aload_n 0, 1) := by decide +kernel
theorem dX9_keepRatio_49 : decode cX9_keepRatio 49 = .ok (.getfield 18, 3) := by decide +kernel
theorem dX9_keepRatio_52 : decode cX9_keepRatio 52 = .ok (.iload_n 1, 1) := by decide +kernel
theorem dX9_keepRatio_53 : decode cX9_keepRatio 53 = .ok (.aaload, 1) := by decide +kernel
theorem dX9_keepRatio_54 : decode cX9_keepRatio 54 = .ok (.getfield 260, 3) := by decide +kernel
theorem dX9_keepRatio_57 : decode cX9_keepRatio 57 = .ok (.aload_n 0, 1) := by decide +kernel
theorem dX9_keepRatio_58 : decode cX9_keepRatio 58 = .ok (.getfield 58, 3) := by decide +kernel
theorem dX9_keepRatio_61 : decode cX9_keepRatio 61 = .ok (.getfield 287, 3) := by decide +kernel
theorem dX9_keepRatio_64 : decode cX9_keepRatio 64 = .ok (.invokevirtual 184, 3) := by decide +kernel
theorem dX9_keepRatio_67 : decode cX9_keepRatio 67 = .ok (.iconst 1, 1) := by decide +kernel
theorem dX9_keepRatio_68 : decode cX9_keepRatio 68 = .ok (.ireturn, 1) := by decide +kernel
def zs_X9_keepRatio (h : AH) (u0 : Nat) (u1 : Int32) : Option (Int32 × AH) :=
  (gR h u0 9 6).bind fun x1 => (gR h x1 2 0).bind fun x2 => (chk h x2 8).bind fun _ => (zs_X8_isWithin h x2).bind fun x4 => (if x4 = 0 then some ((-5 : Int32), h) else (gR h u0 9 6).bind fun x6 => (gR h x6 2 1).bind fun x7 => (chk h x7 8).bind fun _ => (zs_X8_isWithin h x7).bind fun x9 => (if x9 = 0 then some ((-5 : Int32), h) else (gR h u0 9 1).bind fun x11 => (aR h x11 4 u1).bind fun x12 => (gR h x12 4 0).bind fun x13 => (gR h u0 9 6).bind fun x14 => (gR h x14 2 0).bind fun x15 => (chk h x13 8).bind fun _ => (zs_X8_copy h x13 x15).bind fun g17 => (gR g17 u0 9 1).bind fun x18 => (aR g17 x18 4 u1).bind fun x19 => (gR g17 x19 4 1).bind fun x20 => (gR g17 u0 9 6).bind fun x21 => (gR g17 x21 2 1).bind fun x22 => (chk g17 x20 8).bind fun _ => (zs_X8_copy g17 x20 x22).bind fun g24 => some ((1 : Int32), g24)))
set_option maxRecDepth 100000 in
set_option maxHeartbeats 4000000 in
theorem zm_X9_keepRatio (l : Launch) (D : hG) (z : Nat) {h : AH} {u0 : Nat} {u1 : Int32} {r : Int32} {h' : AH} (hs : zs_X9_keepRatio h u0 u1 = some (r, h')) : hC l D z yX9_keepRatio cX9_keepRatio 2 (Option.some Jvm.ClassFile.FieldType.int) 1 22 0 0 [.ref u0, .int u1] h h' (some (.int r)) := by
  refine hC_of (by decide) (Nat.le_of_ble_eq_true rfl) ?_
  intro p e s m below meth c hx hb hml hrt hlk hown hnm hts hk hr hz ls hl
  replace hown : s.vm.findClass RX9 = some m.cls := hown
  replace hl : lv_has ls 2 [(0, .ref u0), (1, .int u1)] := hl
  have hS : va_S (hA z) s.heap s.heap [] := va_S.rf
  suffices hgo : ∀ (H : Heap) (locs : List Loc), hR D z h H → va_S (hA z) s.heap H locs → W p l e ({ frames := 1, cells := 0, slots := 0, locals := 22 } : Room) s m ([.ref u0, .int u1] : List Value).toArray below meth c H locs 0 0 (MQ below (hQ D z h' (some (.int r))) ([.ref u0, .int u1] : List Value).toArray s 0 0 (hA z)) (F0 m 0 ls []) from hgo _ _ hr hS
  clear hr hS
  intro H locs hr hS
  unfold zs_X9_keepRatio at hs
  refine lv_aload_n hx hb dX9_keepRatio_0 rfl (lv_at hl 0 rfl) ?_
  obtain ⟨x1, ex1, hs⟩ := bi_inv hs
  refine hv_gR (C := RX9) (T := TX9) (N := 12) (ci := 9) hx hb hts inX9 hown hk hr rfl 6 (by decide) (hts _ tw_281) ex1 dX9_keepRatio_1 ?_
  obtain ⟨x2, ex2, hs⟩ := bi_inv hs
  refine hv_gR (C := RX2) (T := TX2) (N := 8) (ci := 2) hx hb hts inX2 hown hk hr rfl 0 (by decide) (hts _ tw_202) ex2 dX9_keepRatio_4 ?_
  obtain ⟨_, ex3, hs⟩ := bi_inv hs
  obtain ⟨x4, ex4, hs⟩ := bi_inv hs
  refine hv_V1 (n := 0) [] [] hx hb hml hown hts hk hr hz hS (zm_X8_isWithin l D z ex4) ex3 rfl tw_368 tw_369 tw_370 tw_2 tw_371 (by decide +kernel) (by decide) ⟨(Nat.zero_le _), (Nat.zero_le _)⟩ rfl hl.1 (Nat.le_of_ble_eq_true rfl) dX9_keepRatio_7 rfl (fun H locs hr hS => ?_)
  refine lv_if_eq (tgt := 26) hx hb dX9_keepRatio_10 (by decide) (fun c5 => ?_) (fun c5 => ?_)
  · rw [if_pos c5] at hs
    refine lv_bipush (v := (-5)) hx hb dX9_keepRatio_26 (by decide) ?_
    obtain ⟨rfl, rfl⟩ := Prod.mk.inj (Option.some.inj hs)
    exact hv_iret hx hb hrt hlk hr hS dX9_keepRatio_28
  · rw [if_neg c5] at hs
    refine lv_aload_n hx hb dX9_keepRatio_13 rfl (lv_at hl 0 rfl) ?_
    obtain ⟨x6, ex6, hs⟩ := bi_inv hs
    refine hv_gR (C := RX9) (T := TX9) (N := 12) (ci := 9) hx hb hts inX9 hown hk hr rfl 6 (by decide) (hts _ tw_281) ex6 dX9_keepRatio_14 ?_
    obtain ⟨x7, ex7, hs⟩ := bi_inv hs
    refine hv_gR (C := RX2) (T := TX2) (N := 8) (ci := 2) hx hb hts inX2 hown hk hr rfl 1 (by decide) (hts _ tw_204) ex7 dX9_keepRatio_17 ?_
    obtain ⟨_, ex8, hs⟩ := bi_inv hs
    obtain ⟨x9, ex9, hs⟩ := bi_inv hs
    refine hv_V1 (n := 0) [] [] hx hb hml hown hts hk hr hz hS (zm_X8_isWithin l D z ex9) ex8 rfl tw_368 tw_369 tw_370 tw_2 tw_371 (by decide +kernel) (by decide) ⟨(Nat.zero_le _), (Nat.zero_le _)⟩ rfl hl.1 (Nat.le_of_ble_eq_true rfl) dX9_keepRatio_20 rfl (fun H locs hr hS => ?_)
    refine lv_if_ne (tgt := 29) hx hb dX9_keepRatio_23 (by decide) (fun c10 => ?_) (fun c10 => ?_)
    · rw [if_neg c10] at hs
      refine lv_aload_n hx hb dX9_keepRatio_29 rfl (lv_at hl 0 rfl) ?_
      obtain ⟨x11, ex11, hs⟩ := bi_inv hs
      refine hv_gR (C := RX9) (T := TX9) (N := 12) (ci := 9) hx hb hts inX9 hown hk hr rfl 1 (by decide) (hts _ tw_276) ex11 dX9_keepRatio_30 ?_
      refine lv_iload_n hx hb dX9_keepRatio_33 rfl (lv_at hl 1 rfl) ?_
      obtain ⟨x12, ex12, hs⟩ := bi_inv hs
      refine hv_aR (kd := 4) hx hb hk hr rfl ex12 dX9_keepRatio_34 ?_
      obtain ⟨x13, ex13, hs⟩ := bi_inv hs
      refine hv_gR (C := RX4) (T := TX4) (N := 2) (ci := 4) hx hb hts inX4 hown hk hr rfl 0 (by decide) (hts _ tw_81) ex13 dX9_keepRatio_35 ?_
      refine lv_aload_n hx hb dX9_keepRatio_38 rfl (lv_at hl 0 rfl) ?_
      obtain ⟨x14, ex14, hs⟩ := bi_inv hs
      refine hv_gR (C := RX9) (T := TX9) (N := 12) (ci := 9) hx hb hts inX9 hown hk hr rfl 6 (by decide) (hts _ tw_281) ex14 dX9_keepRatio_39 ?_
      obtain ⟨x15, ex15, hs⟩ := bi_inv hs
      refine hv_gR (C := RX2) (T := TX2) (N := 8) (ci := 2) hx hb hts inX2 hown hk hr rfl 0 (by decide) (hts _ tw_202) ex15 dX9_keepRatio_42 ?_
      obtain ⟨_, ex16, hs⟩ := bi_inv hs
      obtain ⟨g17, eg17, hs⟩ := bi_inv hs
      refine hv_V0 (n := 1) [.ref x15] [] hx hb hml hown hts hk hr hz hS (zm_X8_copy l D z eg17) ex16 rfl tw_372 tw_373 tw_374 tw_2 tw_375 (by decide +kernel) (by decide) ⟨(Nat.zero_le _), (Nat.zero_le _)⟩ rfl hl.1 (Nat.le_of_ble_eq_true rfl) dX9_keepRatio_45 rfl (fun H locs hr hS => ?_)
      refine lv_aload_n hx hb dX9_keepRatio_48 rfl (lv_at hl 0 rfl) ?_
      obtain ⟨x18, ex18, hs⟩ := bi_inv hs
      refine hv_gR (C := RX9) (T := TX9) (N := 12) (ci := 9) hx hb hts inX9 hown hk hr rfl 1 (by decide) (hts _ tw_276) ex18 dX9_keepRatio_49 ?_
      refine lv_iload_n hx hb dX9_keepRatio_52 rfl (lv_at hl 1 rfl) ?_
      obtain ⟨x19, ex19, hs⟩ := bi_inv hs
      refine hv_aR (kd := 4) hx hb hk hr rfl ex19 dX9_keepRatio_53 ?_
      obtain ⟨x20, ex20, hs⟩ := bi_inv hs
      refine hv_gR (C := RX4) (T := TX4) (N := 2) (ci := 4) hx hb hts inX4 hown hk hr rfl 1 (by decide) (hts _ tw_85) ex20 dX9_keepRatio_54 ?_
      refine lv_aload_n hx hb dX9_keepRatio_57 rfl (lv_at hl 0 rfl) ?_
      obtain ⟨x21, ex21, hs⟩ := bi_inv hs
      refine hv_gR (C := RX9) (T := TX9) (N := 12) (ci := 9) hx hb hts inX9 hown hk hr rfl 6 (by decide) (hts _ tw_281) ex21 dX9_keepRatio_58 ?_
      obtain ⟨x22, ex22, hs⟩ := bi_inv hs
      refine hv_gR (C := RX2) (T := TX2) (N := 8) (ci := 2) hx hb hts inX2 hown hk hr rfl 1 (by decide) (hts _ tw_204) ex22 dX9_keepRatio_61 ?_
      obtain ⟨_, ex23, hs⟩ := bi_inv hs
      obtain ⟨g24, eg24, hs⟩ := bi_inv hs
      refine hv_V0 (n := 1) [.ref x22] [] hx hb hml hown hts hk hr hz hS (zm_X8_copy l D z eg24) ex23 rfl tw_372 tw_373 tw_374 tw_2 tw_375 (by decide +kernel) (by decide) ⟨(Nat.zero_le _), (Nat.zero_le _)⟩ rfl hl.1 (Nat.le_of_ble_eq_true rfl) dX9_keepRatio_64 rfl (fun H locs hr hS => ?_)
      refine lv_iconst (v := 1) hx hb dX9_keepRatio_67 (by decide) ?_
      obtain ⟨rfl, rfl⟩ := Prod.mk.inj (Option.some.inj hs)
      exact hv_iret hx hb hrt hlk hr hS dX9_keepRatio_68
    · rw [if_pos c10] at hs
      refine lv_bipush (v := (-5)) hx hb dX9_keepRatio_26 (by decide) ?_
      obtain ⟨rfl, rfl⟩ := Prod.mk.inj (Option.some.inj hs)
      exact hv_iret hx hb hrt hlk hr hS dX9_keepRatio_28
theorem dX9_actRatio_0 : decode cX9_actRatio 0 = .ok (.iload_n 1, 1) := by decide +kernel
theorem dX9_actRatio_1 : decode cX9_actRatio 1 = .ok (.ifCond .lt 30, 3) := by decide +kernel
theorem dX9_actRatio_4 : decode cX9_actRatio 4 = .ok (.iload_n 1, 1) := by decide +kernel
theorem dX9_actRatio_5 : decode cX9_actRatio 5 = .ok (.iconst 3, 1) := by decide +kernel
theorem dX9_actRatio_6 : decode cX9_actRatio 6 = .ok (.if_icmp .gt 25, 3) := by decide +kernel
theorem dX9_actRatio_9 : decode cX9_actRatio 9 = .ok (.iload_n 2, 1) := by decide +kernel
theorem dX9_actRatio_10 : decode cX9_actRatio 10 = .ok (.invokestatic 243, 3) := by decide +kernel
theorem dX9_actRatio_13 : decode cX9_actRatio 13 = .ok (.ifCond .eq 18, 3) := by decide +kernel
theorem dX9_actRatio_16 : decode cX9_actRatio 16 = .ok (.iload_n 3, 1) := by decide +kernel
theorem dX9_actRatio_17 : decode cX9_actRatio 17 = .ok (.invokestatic 243, 3) := by decide +kernel
theorem dX9_actRatio_20 : decode cX9_actRatio 20 = .ok (.ifCond .eq 11, 3) := by decide +kernel
theorem dX9_actRatio_23 : decode cX9_actRatio 23 = .ok (.iload 4, 2) := by decide +kernel
theorem dX9_actRatio_25 : decode cX9_actRatio 25 = .ok (.invokestatic 243, 3) := by decide +kernel
theorem dX9_actRatio_28 : decode cX9_actRatio 28 = .ok (.ifCond .ne 5, 3) := by decide +kernel
theorem dX9_actRatio_31 : decode cX9_actRatio 31 = .ok (.iconst (-1), 1) := by decide +kernel
theorem dX9_actRatio_32 : decode cX9_actRatio 32 = .ok (.ireturn, 1) := by decide +kernel
theorem dX9_actRatio_33 : decode cX9_actRatio 33 = .ok (.aload_n 0, 1) := by decide +kernel
theorem dX9_actRatio_34 : decode cX9_actRatio 34 = .ok (.getfield 18, 3) := by decide +kernel
theorem dX9_actRatio_37 : decode cX9_actRatio 37 = .ok (.iload_n 2, 1) := by decide +kernel
theorem dX9_actRatio_38 : decode cX9_actRatio 38 = .ok (.aaload, 1) := by decide +kernel
theorem dX9_actRatio_39 : decode cX9_actRatio 39 = .ok (.astore 5, 2) := by decide +kernel
theorem dX9_actRatio_41 : decode cX9_actRatio 41 = .ok (.aload_n 0, 1) := by decide +kernel
theorem dX9_actRatio_42 : decode cX9_actRatio 42 = .ok (.getfield 18, 3) := by decide +kernel
theorem dX9_actRatio_45 : decode cX9_actRatio 45 = .ok (.iload_n 3, 1) := by decide +kernel
theorem dX9_actRatio_46 : decode cX9_actRatio 46 = .ok (.aaload, 1) := by decide +kernel
theorem dX9_actRatio_47 : decode cX9_actRatio 47 = .ok (.astore 6, 2) := by decide +kernel
theorem dX9_actRatio_49 : decode cX9_actRatio 49 = .ok (.iload_n 1, 1) := by decide +kernel
theorem dX9_actRatio_50 : decode cX9_actRatio 50 = .ok (.iconst 3, 1) := by decide +kernel
theorem dX9_actRatio_51 : decode cX9_actRatio 51 = .ok (.if_icmp .ne 17, 3) := by decide +kernel
theorem dX9_actRatio_54 : decode cX9_actRatio 54 = .ok (.aload 6, 2) := by decide +kernel
theorem dX9_actRatio_56 : decode cX9_actRatio 56 = .ok (.getfield 253, 3) := by decide +kernel
theorem dX9_actRatio_59 : decode cX9_actRatio 59 = .ok (.invokevirtual 168, 3) := by decide +kernel
theorem dX9_actRatio_62 : decode cX9_actRatio 62 = .ok (.ifCond .eq 6, 3) := by decide +kernel
theorem dX9_actRatio_65 : decode cX9_actRatio 65 = .ok (.bipush (-2), 2) := by decide +kernel
theorem dX9_actRatio_67 : decode cX9_actRatio 67 = .ok (.ireturn, 1) := by decide +kernel
theorem dX9_actRatio_68 : decode cX9_actRatio 68 = .ok (.iload_n 1, 1) := by decide +kernel
theorem dX9_actRatio_69 : decode cX9_actRatio 69 = .ok (.iconst 1, 1) := by decide +kernel
theorem dX9_actRatio_70 : decode cX9_actRatio 70 = .ok (.if_icmp .gt 27, 3) := by decide +kernel
theorem dX9_actRatio_73 : decode cX9_actRatio 73 = .ok (.aload_n 0, 1) := by decide +kernel
theorem dX9_actRatio_74 : decode cX9_actRatio 74 = .ok (.getfield 58, 3) := by decide +kernel
theorem dX9_actRatio_77 : decode cX9_actRatio 77 = .ok (.aload 5, 2) := by decide +kernel
theorem dX9_actRatio_79 : decode cX9_actRatio 79 = .ok (.aload 6, 2) := by decide +kernel
theorem dX9_actRatio_81 : decode cX9_actRatio 81 = .ok (.iload_n 1, 1) := by decide +kernel
theorem dX9_actRatio_82 : decode cX9_actRatio 82 = .ok (.iconst 1, 1) := by decide +kernel
theorem dX9_actRatio_83 : decode cX9_actRatio 83 = .ok (.if_icmp .ne 7, 3) := by decide +kernel
theorem dX9_actRatio_86 : decode cX9_actRatio 86 = .ok (.iconst 1, 1) := by decide +kernel
theorem dX9_actRatio_87 : decode cX9_actRatio 87 = .ok (.goto 4, 3) := by decide +kernel
theorem dX9_actRatio_90 : decode cX9_actRatio 90 = .ok (.iconst 0, 1) := by decide +kernel
theorem dX9_actRatio_91 : decode cX9_actRatio 91 = .ok (.invokevirtual 256, 3) := by decide +kernel
theorem dX9_actRatio_94 : decode cX9_actRatio 94 = .ok (.goto 49, 3) := by decide +kernel
theorem dX9_actRatio_97 : decode cX9_actRatio 97 = .ok (.iload_n 1, 1) := by decide +kernel
theorem dX9_actRatio_98 : decode cX9_actRatio 98 = .ok (.iconst 2, 1) := by decide +kernel
theorem dX9_actRatio_99 : decode cX9_actRatio 99 = .ok (.if_icmp .ne 25, 3) := by decide +kernel
theorem dX9_actRatio_102 : decode cX9_actRatio 102 = .ok (.aload_n 0, 1) := by decide +kernel
theorem dX9_actRatio_103 : decode cX9_actRatio 103 = .ok (.getfield 58, 3) := by decide +kernel
theorem dX9_actRatio_106 : decode cX9_actRatio 106 = .ok (.aload 5, 2) := by decide +kernel
theorem dX9_actRatio_108 : decode cX9_actRatio 108 = .ok (.aload 6, 2) := by decide +kernel
theorem dX9_actRatio_110 : decode cX9_actRatio 110 = .ok (.getfield 253, 3) := by decide +kernel
theorem dX9_actRatio_113 : decode cX9_actRatio 113 = .ok (.aload 6, 2) := by decide +kernel
theorem dX9_actRatio_115 : decode cX9_actRatio 115 = .ok (.getfield 260, 3) := by decide +kernel
theorem dX9_actRatio_118 : decode cX9_actRatio 118 = .ok (.invokevirtual 263, 3) := by decide +kernel
theorem dX9_actRatio_121 : decode cX9_actRatio 121 = .ok (.goto 22, 3) := by decide +kernel
theorem dX9_actRatio_124 : decode cX9_actRatio 124 = .ok (.aload_n 0, 1) := by decide +kernel
theorem dX9_actRatio_125 : decode cX9_actRatio 125 = .ok (.getfield 58, 3) := by decide +kernel
theorem dX9_actRatio_128 : decode cX9_actRatio 128 = .ok (.aload 5, 2) := by decide +kernel
theorem dX9_actRatio_130 : decode cX9_actRatio 130 = .ok (.aload 6, 2) := by decide +kernel
theorem dX9_actRatio_132 : decode cX9_actRatio 132 = .ok (.getfield 260, 3) := by decide +kernel
theorem dX9_actRatio_135 : decode cX9_actRatio 135 = .ok (.aload 6, 2) := by decide +kernel
theorem dX9_actRatio_137 : decode cX9_actRatio 137 = .ok (.getfield 253, 3) := by decide +kernel
theorem dX9_actRatio_140 : decode cX9_actRatio 140 = .ok (.invokevirtual 263, 3) := by decide +kernel
theorem dX9_actRatio_143 : decode cX9_actRatio 143 = .ok (.aload_n 0, 1) := by decide +kernel
theorem dX9_actRatio_144 : decode cX9_actRatio 144 = .ok (.iload 4, 2) := by decide +kernel
theorem dX9_actRatio_146 : decode cX9_actRatio 146 = .ok (.invokevirtual 250, 3) := by decide +kernel
theorem dX9_actRatio_149 : decode cX9_actRatio 149 = .ok (.ireturn, 1) := by decide +kernel
def zj_X9_actRatio_143 (g22 : AH) (y0_143 : Nat) (y4_143 : Int32) : Option (Int32 × AH) :=
  (chk g22 y0_143 9).bind fun _ => (zs_X9_keepRatio g22 y0_143 y4_143).bind fun x24 => some (x24.1, x24.2)
def zj_X9_actRatio_91 (g32 : AH) (y0_91 : Nat) (y4_91 : Int32) (t0_91 : Int32) (t1_91 : Nat) (t2_91 : Nat) (t3_91 : Nat) : Option (Int32 × AH) :=
  (chk g32 t3_91 2).bind fun _ => (zs_X2_addUp g32 t3_91 t2_91 t1_91 t0_91).bind fun g34 => zj_X9_actRatio_143 g34 y0_91 y4_91
def zj_X9_actRatio_68 (g14 : AH) (y0_68 : Nat) (y1_68 : Int32) (y4_68 : Int32) (y5_68 : Nat) (y6_68 : Nat) : Option (Int32 × AH) :=
  (if (1 : Int32) < y1_68 then (if y1_68 = (2 : Int32) then (gR g14 y0_68 9 6).bind fun x25 => (gR g14 y6_68 4 0).bind fun x26 => (gR g14 y6_68 4 1).bind fun x27 => (chk g14 x25 2).bind fun _ => (zs_X2_multiply g14 x25 y5_68 x26 x27).bind fun g29 => zj_X9_actRatio_143 g29 y0_68 y4_68 else (gR g14 y0_68 9 6).bind fun x17 => (gR g14 y6_68 4 1).bind fun x18 => (gR g14 y6_68 4 0).bind fun x19 => (chk g14 x17 2).bind fun _ => (zs_X2_multiply g14 x17 y5_68 x18 x19).bind fun g21 => zj_X9_actRatio_143 g21 y0_68 y4_68) else (gR g14 y0_68 9 6).bind fun x30 => (if y1_68 = (1 : Int32) then zj_X9_actRatio_91 g14 y0_68 y4_68 ((1 : Int32)) y6_68 y5_68 x30 else zj_X9_actRatio_91 g14 y0_68 y4_68 ((0 : Int32)) y6_68 y5_68 x30))
def zs_X9_actRatio (h : AH) (u0 : Nat) (u1 : Int32) (u2 : Int32) (u3 : Int32) (u4 : Int32) : Option (Int32 × AH) :=
  (if u1 < 0 then some ((-1 : Int32), h) else (if (3 : Int32) < u1 then some ((-1 : Int32), h) else (zs_X9_isRatio h u2).bind fun x3 => (if x3 = 0 then some ((-1 : Int32), h) else (zs_X9_isRatio h u3).bind fun x5 => (if x5 = 0 then some ((-1 : Int32), h) else (zs_X9_isRatio h u4).bind fun x7 => (if x7 = 0 then some ((-1 : Int32), h) else (gR h u0 9 1).bind fun x9 => (aR h x9 4 u2).bind fun x10 => (gR h u0 9 1).bind fun x11 => (aR h x11 4 u3).bind fun x12 => (if u1 = (3 : Int32) then (gR h x12 4 0).bind fun x35 => (chk h x35 8).bind fun _ => (zs_X8_isZero h x35).bind fun x37 => (if x37 = 0 then zj_X9_actRatio_68 h u0 u1 u4 x10 x12 else some ((-2 : Int32), h)) else zj_X9_actRatio_68 h u0 u1 u4 x10 x12))))))
set_option maxRecDepth 100000 in
set_option maxHeartbeats 4000000 in
theorem zm_X9_actRatio (l : Launch) (D : hG) (z : Nat) {h : AH} {u0 : Nat} {u1 : Int32} {u2 : Int32} {u3 : Int32} {u4 : Int32} {r : Int32} {h' : AH} (hs : zs_X9_actRatio h u0 u1 u2 u3 u4 = some (r, h')) : hC l D z yX9_actRatio cX9_actRatio 7 (Option.some Jvm.ClassFile.FieldType.int) 6 157 0 0 [.ref u0, .int u1, .int u2, .int u3, .int u4] h h' (some (.int r)) := by
  refine hC_of (by decide) (Nat.le_of_ble_eq_true rfl) ?_
  intro p e s m below meth c hx hb hml hrt hlk hown hnm hts hk hr hz ls hl
  replace hown : s.vm.findClass RX9 = some m.cls := hown
  replace hl : lv_has ls 7 [(0, .ref u0), (1, .int u1), (2, .int u2), (3, .int u3), (4, .int u4)] := hl
  have hS : va_S (hA z) s.heap s.heap [] := va_S.rf
  suffices hgo : ∀ (H : Heap) (locs : List Loc), hR D z h H → va_S (hA z) s.heap H locs → W p l e ({ frames := 6, cells := 0, slots := 0, locals := 157 } : Room) s m ([.ref u0, .int u1, .int u2, .int u3, .int u4] : List Value).toArray below meth c H locs 0 0 (MQ below (hQ D z h' (some (.int r))) ([.ref u0, .int u1, .int u2, .int u3, .int u4] : List Value).toArray s 0 0 (hA z)) (F0 m 0 ls []) from hgo _ _ hr hS
  clear hr hS
  intro H locs hr hS
  have hJ143 : ∀ (g22 : AH) (y0_143 : Nat) (y4_143 : Int32) (H : Heap) (locs : List Loc) (ls : Array Slot), zj_X9_actRatio_143 g22 y0_143 y4_143 = some (r, h') → hR D z g22 H → va_S (hA z) s.heap H locs → lv_has ls 7 [(0, .ref y0_143), (4, .int y4_143)] → W p l e ({ frames := 6, cells := 0, slots := 0, locals := 157 } : Room) s m ([.ref u0, .int u1, .int u2, .int u3, .int u4] : List Value).toArray below meth c H locs 0 0 (MQ below (hQ D z h' (some (.int r))) ([.ref u0, .int u1, .int u2, .int u3, .int u4] : List Value).toArray s 0 0 (hA z)) (F0 m 143 ls []) := by
    intro g22 y0_143 y4_143 H locs ls hs hr hS hl
    unfold zj_X9_actRatio_143 at hs
    refine lv_aload_n hx hb dX9_actRatio_143 rfl (lv_at hl 0 rfl) ?_
    refine lv_iload hx hb dX9_actRatio_144 (lv_at hl 1 rfl) ?_
    obtain ⟨_, ex23, hs⟩ := bi_inv hs
    obtain ⟨x24, ex24, hs⟩ := bi_inv hs
    refine hv_V1 (n := 1) [.int y4_143] [] hx hb hml hown hts hk hr hz hS (zm_X9_keepRatio l D z ex24) ex23 rfl tw_693 tw_695 ts_16 tw_1 tw_696 (by decide +kernel) (by decide) ⟨(Nat.zero_le _), (Nat.zero_le _)⟩ rfl hl.1 (Nat.le_of_ble_eq_true rfl) dX9_actRatio_146 rfl (fun H locs hr hS => ?_)
    obtain ⟨rfl, rfl⟩ := Prod.mk.inj (Option.some.inj hs)
    exact hv_iret hx hb hrt hlk hr hS dX9_actRatio_149
  have hJ91 : ∀ (g32 : AH) (y0_91 : Nat) (y4_91 : Int32) (t0_91 : Int32) (t1_91 : Nat) (t2_91 : Nat) (t3_91 : Nat) (H : Heap) (locs : List Loc) (ls : Array Slot), zj_X9_actRatio_91 g32 y0_91 y4_91 t0_91 t1_91 t2_91 t3_91 = some (r, h') → hR D z g32 H → va_S (hA z) s.heap H locs → lv_has ls 7 [(0, .ref y0_91), (4, .int y4_91)] → W p l e ({ frames := 6, cells := 0, slots := 0, locals := 157 } : Room) s m ([.ref u0, .int u1, .int u2, .int u3, .int u4] : List Value).toArray below meth c H locs 0 0 (MQ below (hQ D z h' (some (.int r))) ([.ref u0, .int u1, .int u2, .int u3, .int u4] : List Value).toArray s 0 0 (hA z)) (F0 m 91 ls [.int t0_91, .ref t1_91, .ref t2_91, .ref t3_91]) := by
    intro g32 y0_91 y4_91 t0_91 t1_91 t2_91 t3_91 H locs ls hs hr hS hl
    unfold zj_X9_actRatio_91 at hs
    obtain ⟨_, ex33, hs⟩ := bi_inv hs
    obtain ⟨g34, eg34, hs⟩ := bi_inv hs
    refine hv_V0 (n := 3) [.ref t2_91, .ref t1_91, .int t0_91] [] hx hb hml hown hts hk hr hz hS (zm_X2_addUp l D z eg34) ex33 rfl tw_701 tw_702 tw_703 tw_8 tw_704 (by decide +kernel) (by decide) ⟨(Nat.zero_le _), (Nat.zero_le _)⟩ rfl hl.1 (Nat.le_of_ble_eq_true rfl) dX9_actRatio_91 rfl (fun H locs hr hS => ?_)
    refine lv_goto (tgt := 143) hx hb dX9_actRatio_94 (by decide) ?_
    exact hJ143 g34 y0_91 y4_91 H locs ls hs hr hS (lv_sub hl [0, 1] rfl)
  have hJ68 : ∀ (g14 : AH) (y0_68 : Nat) (y1_68 : Int32) (y4_68 : Int32) (y5_68 : Nat) (y6_68 : Nat) (H : Heap) (locs : List Loc) (ls : Array Slot), zj_X9_actRatio_68 g14 y0_68 y1_68 y4_68 y5_68 y6_68 = some (r, h') → hR D z g14 H → va_S (hA z) s.heap H locs → lv_has ls 7 [(0, .ref y0_68), (1, .int y1_68), (4, .int y4_68), (5, .ref y5_68), (6, .ref y6_68)] → W p l e ({ frames := 6, cells := 0, slots := 0, locals := 157 } : Room) s m ([.ref u0, .int u1, .int u2, .int u3, .int u4] : List Value).toArray below meth c H locs 0 0 (MQ below (hQ D z h' (some (.int r))) ([.ref u0, .int u1, .int u2, .int u3, .int u4] : List Value).toArray s 0 0 (hA z)) (F0 m 68 ls []) := by
    intro g14 y0_68 y1_68 y4_68 y5_68 y6_68 H locs ls hs hr hS hl
    unfold zj_X9_actRatio_68 at hs
    refine lv_iload_n hx hb dX9_actRatio_68 rfl (lv_at hl 1 rfl) ?_
    refine lv_iconst (v := 1) hx hb dX9_actRatio_69 (by decide) ?_
    refine lv_icmp_gt (tgt := 97) hx hb dX9_actRatio_70 (by decide) (fun c15 => ?_) (fun c15 => ?_)
    · rw [if_pos c15] at hs
      refine lv_iload_n hx hb dX9_actRatio_97 rfl (lv_at hl 1 rfl) ?_
      refine lv_iconst (v := 2) hx hb dX9_actRatio_98 (by decide) ?_
      refine lv_icmp_ne (tgt := 124) hx hb dX9_actRatio_99 (by decide) (fun c16 => ?_) (fun c16 => ?_)
      · rw [if_neg c16] at hs
        refine lv_aload_n hx hb dX9_actRatio_124 rfl (lv_at hl 0 rfl) ?_
        obtain ⟨x17, ex17, hs⟩ := bi_inv hs
        refine hv_gR (C := RX9) (T := TX9) (N := 12) (ci := 9) hx hb hts inX9 hown hk hr rfl 6 (by decide) (hts _ tw_281) ex17 dX9_actRatio_125 ?_
        refine lv_aload hx hb dX9_actRatio_128 (lv_at hl 3 rfl) ?_
        refine lv_aload hx hb dX9_actRatio_130 (lv_at hl 4 rfl) ?_
        obtain ⟨x18, ex18, hs⟩ := bi_inv hs
        refine hv_gR (C := RX4) (T := TX4) (N := 2) (ci := 4) hx hb hts inX4 hown hk hr rfl 1 (by decide) (hts _ tw_85) ex18 dX9_actRatio_132 ?_
        refine lv_aload hx hb dX9_actRatio_135 (lv_at hl 4 rfl) ?_
        obtain ⟨x19, ex19, hs⟩ := bi_inv hs
        refine hv_gR (C := RX4) (T := TX4) (N := 2) (ci := 4) hx hb hts inX4 hown hk hr rfl 0 (by decide) (hts _ tw_81) ex19 dX9_actRatio_137 ?_
        obtain ⟨_, ex20, hs⟩ := bi_inv hs
        obtain ⟨g21, eg21, hs⟩ := bi_inv hs
        refine hv_V0 (n := 3) [.ref y5_68, .ref x18, .ref x19] [] hx hb hml hown hts hk hr hz hS (zm_X2_multiply l D z eg21) ex20 rfl tw_708 tw_709 tw_710 tw_8 tw_711 (by decide +kernel) (by decide) ⟨(Nat.zero_le _), (Nat.zero_le _)⟩ rfl hl.1 (Nat.le_of_ble_eq_true rfl) dX9_actRatio_140 rfl (fun H locs hr hS => ?_)
        exact hJ143 g21 y0_68 y4_68 H locs ls hs hr hS (lv_sub hl [0, 2] rfl)
      · rw [if_pos c16] at hs
        refine lv_aload_n hx hb dX9_actRatio_102 rfl (lv_at hl 0 rfl) ?_
        obtain ⟨x25, ex25, hs⟩ := bi_inv hs
        refine hv_gR (C := RX9) (T := TX9) (N := 12) (ci := 9) hx hb hts inX9 hown hk hr rfl 6 (by decide) (hts _ tw_281) ex25 dX9_actRatio_103 ?_
        refine lv_aload hx hb dX9_actRatio_106 (lv_at hl 3 rfl) ?_
        refine lv_aload hx hb dX9_actRatio_108 (lv_at hl 4 rfl) ?_
        obtain ⟨x26, ex26, hs⟩ := bi_inv hs
        refine hv_gR (C := RX4) (T := TX4) (N := 2) (ci := 4) hx hb hts inX4 hown hk hr rfl 0 (by decide) (hts _ tw_81) ex26 dX9_actRatio_110 ?_
        refine lv_aload hx hb dX9_actRatio_113 (lv_at hl 4 rfl) ?_
        obtain ⟨x27, ex27, hs⟩ := bi_inv hs
        refine hv_gR (C := RX4) (T := TX4) (N := 2) (ci := 4) hx hb hts inX4 hown hk hr rfl 1 (by decide) (hts _ tw_85) ex27 dX9_actRatio_115 ?_
        obtain ⟨_, ex28, hs⟩ := bi_inv hs
        obtain ⟨g29, eg29, hs⟩ := bi_inv hs
        refine hv_V0 (n := 3) [.ref y5_68, .ref x26, .ref x27] [] hx hb hml hown hts hk hr hz hS (zm_X2_multiply l D z eg29) ex28 rfl tw_708 tw_709 tw_710 tw_8 tw_711 (by decide +kernel) (by decide) ⟨(Nat.zero_le _), (Nat.zero_le _)⟩ rfl hl.1 (Nat.le_of_ble_eq_true rfl) dX9_actRatio_118 rfl (fun H locs hr hS => ?_)
        refine lv_goto (tgt := 143) hx hb dX9_actRatio_121 (by decide) ?_
        exact hJ143 g29 y0_68 y4_68 H locs ls hs hr hS (lv_sub hl [0, 2] rfl)
    · rw [if_neg c15] at hs
      refine lv_aload_n hx hb dX9_actRatio_73 rfl (lv_at hl 0 rfl) ?_
      obtain ⟨x30, ex30, hs⟩ := bi_inv hs
      refine hv_gR (C := RX9) (T := TX9) (N := 12) (ci := 9) hx hb hts inX9 hown hk hr rfl 6 (by decide) (hts _ tw_281) ex30 dX9_actRatio_74 ?_
      refine lv_aload hx hb dX9_actRatio_77 (lv_at hl 3 rfl) ?_
      refine lv_aload hx hb dX9_actRatio_79 (lv_at hl 4 rfl) ?_
      refine lv_iload_n hx hb dX9_actRatio_81 rfl (lv_at hl 1 rfl) ?_
      refine lv_iconst (v := 1) hx hb dX9_actRatio_82 (by decide) ?_
      refine lv_icmp_ne (tgt := 90) hx hb dX9_actRatio_83 (by decide) (fun c31 => ?_) (fun c31 => ?_)
      · rw [if_neg c31] at hs
        refine lv_iconst (v := 0) hx hb dX9_actRatio_90 (by decide) ?_
        exact hJ91 g14 y0_68 y4_68 ((0 : Int32)) y6_68 y5_68 x30 H locs ls hs hr hS (lv_sub hl [0, 2] rfl)
      · rw [if_pos c31] at hs
        refine lv_iconst (v := 1) hx hb dX9_actRatio_86 (by decide) ?_
        refine lv_goto (tgt := 91) hx hb dX9_actRatio_87 (by decide) ?_
        exact hJ91 g14 y0_68 y4_68 ((1 : Int32)) y6_68 y5_68 x30 H locs ls hs hr hS (lv_sub hl [0, 2] rfl)
  unfold zs_X9_actRatio at hs
  refine lv_iload_n hx hb dX9_actRatio_0 rfl (lv_at hl 1 rfl) ?_
  refine lv_if_lt (tgt := 31) hx hb dX9_actRatio_1 (by decide) (fun c1 => ?_) (fun c1 => ?_)
  · rw [if_pos c1] at hs
    refine lv_iconst (v := (-1)) hx hb dX9_actRatio_31 (by decide) ?_
    obtain ⟨rfl, rfl⟩ := Prod.mk.inj (Option.some.inj hs)
    exact hv_iret hx hb hrt hlk hr hS dX9_actRatio_32
  · rw [if_neg c1] at hs
    refine lv_iload_n hx hb dX9_actRatio_4 rfl (lv_at hl 1 rfl) ?_
    refine lv_iconst (v := 3) hx hb dX9_actRatio_5 (by decide) ?_
    refine lv_icmp_gt (tgt := 31) hx hb dX9_actRatio_6 (by decide) (fun c2 => ?_) (fun c2 => ?_)
    · rw [if_pos c2] at hs
      refine lv_iconst (v := (-1)) hx hb dX9_actRatio_31 (by decide) ?_
      obtain ⟨rfl, rfl⟩ := Prod.mk.inj (Option.some.inj hs)
      exact hv_iret hx hb hrt hlk hr hS dX9_actRatio_32
    · rw [if_neg c2] at hs
      refine lv_iload_n hx hb dX9_actRatio_9 rfl (lv_at hl 2 rfl) ?_
      obtain ⟨x3, ex3, hs⟩ := bi_inv hs
      refine hv_S1 (n := 1) [.int u2] [] hx hb hml hown hts hk hr hz hS (zm_X9_isRatio l D z ex3) tw_674 tw_675 tw_1 tw_676 (by decide +kernel) (by decide) ⟨(Nat.zero_le _), (Nat.zero_le _)⟩ rfl hl.1 (Nat.le_of_ble_eq_true rfl) dX9_actRatio_10 rfl (fun H locs hr hS => ?_)
      refine lv_if_eq (tgt := 31) hx hb dX9_actRatio_13 (by decide) (fun c4 => ?_) (fun c4 => ?_)
      · rw [if_pos c4] at hs
        refine lv_iconst (v := (-1)) hx hb dX9_actRatio_31 (by decide) ?_
        obtain ⟨rfl, rfl⟩ := Prod.mk.inj (Option.some.inj hs)
        exact hv_iret hx hb hrt hlk hr hS dX9_actRatio_32
      · rw [if_neg c4] at hs
        refine lv_iload_n hx hb dX9_actRatio_16 rfl (lv_at hl 3 rfl) ?_
        obtain ⟨x5, ex5, hs⟩ := bi_inv hs
        refine hv_S1 (n := 1) [.int u3] [] hx hb hml hown hts hk hr hz hS (zm_X9_isRatio l D z ex5) tw_674 tw_675 tw_1 tw_676 (by decide +kernel) (by decide) ⟨(Nat.zero_le _), (Nat.zero_le _)⟩ rfl hl.1 (Nat.le_of_ble_eq_true rfl) dX9_actRatio_17 rfl (fun H locs hr hS => ?_)
        refine lv_if_eq (tgt := 31) hx hb dX9_actRatio_20 (by decide) (fun c6 => ?_) (fun c6 => ?_)
        · rw [if_pos c6] at hs
          refine lv_iconst (v := (-1)) hx hb dX9_actRatio_31 (by decide) ?_
          obtain ⟨rfl, rfl⟩ := Prod.mk.inj (Option.some.inj hs)
          exact hv_iret hx hb hrt hlk hr hS dX9_actRatio_32
        · rw [if_neg c6] at hs
          refine lv_iload hx hb dX9_actRatio_23 (lv_at hl 4 rfl) ?_
          obtain ⟨x7, ex7, hs⟩ := bi_inv hs
          refine hv_S1 (n := 1) [.int u4] [] hx hb hml hown hts hk hr hz hS (zm_X9_isRatio l D z ex7) tw_674 tw_675 tw_1 tw_676 (by decide +kernel) (by decide) ⟨(Nat.zero_le _), (Nat.zero_le _)⟩ rfl hl.1 (Nat.le_of_ble_eq_true rfl) dX9_actRatio_25 rfl (fun H locs hr hS => ?_)
          refine lv_if_ne (tgt := 33) hx hb dX9_actRatio_28 (by decide) (fun c8 => ?_) (fun c8 => ?_)
          · rw [if_neg c8] at hs
            refine lv_aload_n hx hb dX9_actRatio_33 rfl (lv_at hl 0 rfl) ?_
            obtain ⟨x9, ex9, hs⟩ := bi_inv hs
            refine hv_gR (C := RX9) (T := TX9) (N := 12) (ci := 9) hx hb hts inX9 hown hk hr rfl 1 (by decide) (hts _ tw_276) ex9 dX9_actRatio_34 ?_
            refine lv_iload_n hx hb dX9_actRatio_37 rfl (lv_at hl 2 rfl) ?_
            obtain ⟨x10, ex10, hs⟩ := bi_inv hs
            refine hv_aR (kd := 4) hx hb hk hr rfl ex10 dX9_actRatio_38 ?_
            refine lv_astore (lv' := [(5, .ref x10), (0, .ref u0), (1, .int u1), (2, .int u2), (3, .int u3), (4, .int u4)]) hx hb dX9_actRatio_39 hl (by decide) rfl (fun ls hl => ?_)
            refine lv_aload_n hx hb dX9_actRatio_41 rfl (lv_at hl 1 rfl) ?_
            obtain ⟨x11, ex11, hs⟩ := bi_inv hs
            refine hv_gR (C := RX9) (T := TX9) (N := 12) (ci := 9) hx hb hts inX9 hown hk hr rfl 1 (by decide) (hts _ tw_276) ex11 dX9_actRatio_42 ?_
            refine lv_iload_n hx hb dX9_actRatio_45 rfl (lv_at hl 4 rfl) ?_
            obtain ⟨x12, ex12, hs⟩ := bi_inv hs
            refine hv_aR (kd := 4) hx hb hk hr rfl ex12 dX9_actRatio_46 ?_
            refine lv_astore (lv' := [(6, .ref x12), (5, .ref x10), (0, .ref u0), (1, .int u1), (2, .int u2), (3, .int u3), (4, .int u4)]) hx hb dX9_actRatio_47 hl (by decide) rfl (fun ls hl => ?_)
            refine lv_iload_n hx hb dX9_actRatio_49 rfl (lv_at hl 3 rfl) ?_
            refine lv_iconst (v := 3) hx hb dX9_actRatio_50 (by decide) ?_
            refine lv_icmp_ne (tgt := 68) hx hb dX9_actRatio_51 (by decide) (fun c13 => ?_) (fun c13 => ?_)
            · rw [if_neg c13] at hs
              exact hJ68 h u0 u1 u4 x10 x12 H locs ls hs hr hS (lv_sub hl [2, 3, 6, 1, 0] rfl)
            · rw [if_pos c13] at hs
              refine lv_aload hx hb dX9_actRatio_54 (lv_at hl 0 rfl) ?_
              obtain ⟨x35, ex35, hs⟩ := bi_inv hs
              refine hv_gR (C := RX4) (T := TX4) (N := 2) (ci := 4) hx hb hts inX4 hown hk hr rfl 0 (by decide) (hts _ tw_81) ex35 dX9_actRatio_56 ?_
              obtain ⟨_, ex36, hs⟩ := bi_inv hs
              obtain ⟨x37, ex37, hs⟩ := bi_inv hs
              refine hv_V1 (n := 0) [] [] hx hb hml hown hts hk hr hz hS (zm_X8_isZero l D z ex37) ex36 rfl tw_478 tw_400 tw_401 tw_2 tw_402 (by decide +kernel) (by decide) ⟨(Nat.zero_le _), (Nat.zero_le _)⟩ rfl hl.1 (Nat.le_of_ble_eq_true rfl) dX9_actRatio_59 rfl (fun H locs hr hS => ?_)
              refine lv_if_eq (tgt := 68) hx hb dX9_actRatio_62 (by decide) (fun c38 => ?_) (fun c38 => ?_)
              · rw [if_pos c38] at hs
                exact hJ68 h u0 u1 u4 x10 x12 H locs ls hs hr hS (lv_sub hl [2, 3, 6, 1, 0] rfl)
              · rw [if_neg c38] at hs
                refine lv_bipush (v := (-2)) hx hb dX9_actRatio_65 (by decide) ?_
                obtain ⟨rfl, rfl⟩ := Prod.mk.inj (Option.some.inj hs)
                exact hv_iret hx hb hrt hlk hr hS dX9_actRatio_67
          · rw [if_pos c8] at hs
            refine lv_iconst (v := (-1)) hx hb dX9_actRatio_31 (by decide) ?_
            obtain ⟨rfl, rfl⟩ := Prod.mk.inj (Option.some.inj hs)
            exact hv_iret hx hb hrt hlk hr hS dX9_actRatio_32
theorem dX9_bit_0 : decode cX9_bit 0 = .ok (.iload_n 1, 1) := by decide +kernel
theorem dX9_bit_1 : decode cX9_bit 1 = .ok (.invokestatic 90, 3) := by decide +kernel
theorem dX9_bit_4 : decode cX9_bit 4 = .ok (.ifCond .eq 7, 3) := by decide +kernel
theorem dX9_bit_7 : decode cX9_bit 7 = .ok (.iload_n 2, 1) := by decide +kernel
theorem dX9_bit_8 : decode cX9_bit 8 = .ok (.ifCond .ge 5, 3) := by decide +kernel
theorem dX9_bit_11 : decode cX9_bit 11 = .ok (.iconst (-1), 1) := by decide +kernel
theorem dX9_bit_12 : decode cX9_bit 12 = .ok (.ireturn, 1) := by decide +kernel
theorem dX9_bit_13 : decode cX9_bit 13 = .ok (.aload_n 0, 1) := by decide +kernel
theorem dX9_bit_14 : decode cX9_bit 14 = .ok (.getfield 72, 3) := by decide +kernel
theorem dX9_bit_17 : decode cX9_bit 17 = .ok (.aload_n 0, 1) := by decide +kernel
theorem dX9_bit_18 : decode cX9_bit 18 = .ok (.getfield 11, 3) := by decide +kernel
theorem dX9_bit_21 : decode cX9_bit 21 = .ok (.iload_n 1, 1) := by decide +kernel
theorem dX9_bit_22 : decode cX9_bit 22 = .ok (.aaload, 1) := by decide +kernel
theorem dX9_bit_23 : decode cX9_bit 23 = .ok (.invokevirtual 217, 3) := by decide +kernel
theorem dX9_bit_26 : decode cX9_bit 26 = .ok (.aload_n 0, 1) := by decide +kernel
theorem dX9_bit_27 : decode cX9_bit 27 = .ok (.getfield 72, 3) := by decide +kernel
theorem dX9_bit_30 : decode cX9_bit 30 = .ok (.iload_n 2, 1) := by decide +kernel
theorem dX9_bit_31 : decode cX9_bit 31 = .ok (.invokevirtual 237, 3) := by decide +kernel
theorem dX9_bit_34 : decode cX9_bit 34 = .ok (.ireturn, 1) := by decide +kernel
def zs_X9_bit (h : AH) (u0 : Nat) (u1 : Int32) (u2 : Int32) : Option (Int32 × AH) :=
  (zs_X9_isSlot h u1).bind fun x1 => (if x1 = 0 then some ((-1 : Int32), h) else (if 0 ≤ u2 then (gR h u0 9 8).bind fun x4 => (gR h u0 9 0).bind fun x5 => (aR h x5 3 u1).bind fun x6 => (chk h x4 7).bind fun _ => (zs_X7_load h x4 x6).bind fun g8 => (gR g8 u0 9 8).bind fun x9 => (chk g8 x9 7).bind fun _ => (zs_X7_bitAt g8 x9 u2).bind fun x11 => some (x11, g8) else some ((-1 : Int32), h)))
set_option maxRecDepth 100000 in
set_option maxHeartbeats 4000000 in
theorem zm_X9_bit (l : Launch) (D : hG) (z : Nat) {h : AH} {u0 : Nat} {u1 : Int32} {u2 : Int32} {r : Int32} {h' : AH} (hs : zs_X9_bit h u0 u1 u2 = some (r, h')) : hC l D z yX9_bit cX9_bit 3 (Option.some Jvm.ClassFile.FieldType.int) 2 47 0 0 [.ref u0, .int u1, .int u2] h h' (some (.int r)) := by
  refine hC_of (by decide) (Nat.le_of_ble_eq_true rfl) ?_
  intro p e s m below meth c hx hb hml hrt hlk hown hnm hts hk hr hz ls hl
  replace hown : s.vm.findClass RX9 = some m.cls := hown
  replace hl : lv_has ls 3 [(0, .ref u0), (1, .int u1), (2, .int u2)] := hl
  have hS : va_S (hA z) s.heap s.heap [] := va_S.rf
  suffices hgo : ∀ (H : Heap) (locs : List Loc), hR D z h H → va_S (hA z) s.heap H locs → W p l e ({ frames := 2, cells := 0, slots := 0, locals := 47 } : Room) s m ([.ref u0, .int u1, .int u2] : List Value).toArray below meth c H locs 0 0 (MQ below (hQ D z h' (some (.int r))) ([.ref u0, .int u1, .int u2] : List Value).toArray s 0 0 (hA z)) (F0 m 0 ls []) from hgo _ _ hr hS
  clear hr hS
  intro H locs hr hS
  unfold zs_X9_bit at hs
  refine lv_iload_n hx hb dX9_bit_0 rfl (lv_at hl 1 rfl) ?_
  obtain ⟨x1, ex1, hs⟩ := bi_inv hs
  refine hv_S1 (n := 1) [.int u1] [] hx hb hml hown hts hk hr hz hS (zm_X9_isSlot l D z ex1) tw_316 tw_317 tw_1 tw_318 (by decide +kernel) (by decide) ⟨(Nat.zero_le _), (Nat.zero_le _)⟩ rfl hl.1 (Nat.le_of_ble_eq_true rfl) dX9_bit_1 rfl (fun H locs hr hS => ?_)
  refine lv_if_eq (tgt := 11) hx hb dX9_bit_4 (by decide) (fun c2 => ?_) (fun c2 => ?_)
  · rw [if_pos c2] at hs
    refine lv_iconst (v := (-1)) hx hb dX9_bit_11 (by decide) ?_
    obtain ⟨rfl, rfl⟩ := Prod.mk.inj (Option.some.inj hs)
    exact hv_iret hx hb hrt hlk hr hS dX9_bit_12
  · rw [if_neg c2] at hs
    refine lv_iload_n hx hb dX9_bit_7 rfl (lv_at hl 2 rfl) ?_
    refine lv_if_ge (tgt := 13) hx hb dX9_bit_8 (by decide) (fun c3 => ?_) (fun c3 => ?_)
    · rw [if_pos c3] at hs
      refine lv_aload_n hx hb dX9_bit_13 rfl (lv_at hl 0 rfl) ?_
      obtain ⟨x4, ex4, hs⟩ := bi_inv hs
      refine hv_gR (C := RX9) (T := TX9) (N := 12) (ci := 9) hx hb hts inX9 hown hk hr rfl 8 (by decide) (hts _ tw_283) ex4 dX9_bit_14 ?_
      refine lv_aload_n hx hb dX9_bit_17 rfl (lv_at hl 0 rfl) ?_
      obtain ⟨x5, ex5, hs⟩ := bi_inv hs
      refine hv_gR (C := RX9) (T := TX9) (N := 12) (ci := 9) hx hb hts inX9 hown hk hr rfl 0 (by decide) (hts _ tw_275) ex5 dX9_bit_18 ?_
      refine lv_iload_n hx hb dX9_bit_21 rfl (lv_at hl 1 rfl) ?_
      obtain ⟨x6, ex6, hs⟩ := bi_inv hs
      refine hv_aR (kd := 3) hx hb hk hr rfl ex6 dX9_bit_22 ?_
      obtain ⟨_, ex7, hs⟩ := bi_inv hs
      obtain ⟨g8, eg8, hs⟩ := bi_inv hs
      refine hv_V0 (n := 1) [.ref x6] [] hx hb hml hown hts hk hr hz hS (zm_X7_load l D z eg8) ex7 rfl tw_610 tw_611 tw_612 tw_10 tw_613 (by decide +kernel) (by decide) ⟨(Nat.zero_le _), (Nat.zero_le _)⟩ rfl hl.1 (Nat.le_of_ble_eq_true rfl) dX9_bit_23 rfl (fun H locs hr hS => ?_)
      refine lv_aload_n hx hb dX9_bit_26 rfl (lv_at hl 0 rfl) ?_
      obtain ⟨x9, ex9, hs⟩ := bi_inv hs
      refine hv_gR (C := RX9) (T := TX9) (N := 12) (ci := 9) hx hb hts inX9 hown hk hr rfl 8 (by decide) (hts _ tw_283) ex9 dX9_bit_27 ?_
      refine lv_iload_n hx hb dX9_bit_30 rfl (lv_at hl 2 rfl) ?_
      obtain ⟨_, ex10, hs⟩ := bi_inv hs
      obtain ⟨x11, ex11, hs⟩ := bi_inv hs
      refine hv_V1 (n := 1) [.int u2] [] hx hb hml hown hts hk hr hz hS (zm_X7_bitAt l D z ex11) ex10 rfl tw_651 tw_652 tw_653 tw_10 tw_654 (by decide +kernel) (by decide) ⟨(Nat.zero_le _), (Nat.zero_le _)⟩ rfl hl.1 (Nat.le_of_ble_eq_true rfl) dX9_bit_31 rfl (fun H locs hr hS => ?_)
      obtain ⟨rfl, rfl⟩ := Prod.mk.inj (Option.some.inj hs)
      exact hv_iret hx hb hrt hlk hr hS dX9_bit_34
    · rw [if_neg c3] at hs
      refine lv_iconst (v := (-1)) hx hb dX9_bit_11 (by decide) ?_
      obtain ⟨rfl, rfl⟩ := Prod.mk.inj (Option.some.inj hs)
      exact hv_iret hx hb hrt hlk hr hS dX9_bit_12
theorem dX9_bits_0 : decode cX9_bits 0 = .ok (.iload_n 1, 1) := by decide +kernel
theorem dX9_bits_1 : decode cX9_bits 1 = .ok (.ifCond .lt 18, 3) := by decide +kernel
theorem dX9_bits_4 : decode cX9_bits 4 = .ok (.iload_n 1, 1) := by decide +kernel
theorem dX9_bits_5 : decode cX9_bits 5 = .ok (.iconst 3, 1) := by decide +kernel
theorem dX9_bits_6 : decode cX9_bits 6 = .ok (.if_icmp .gt 13, 3) := by decide +kernel
theorem dX9_bits_9 : decode cX9_bits 9 = .ok (.iload_n 2, 1) := by decide +kernel
theorem dX9_bits_10 : decode cX9_bits 10 = .ok (.iload_n 3, 1) := by decide +kernel
theorem dX9_bits_11 : decode cX9_bits 11 = .ok (.iload 4, 2) := by decide +kernel
theorem dX9_bits_13 : decode cX9_bits 13 = .ok (.invokestatic 154, 3) := by decide +kernel
theorem dX9_bits_16 : decode cX9_bits 16 = .ok (.ifCond .ne 5, 3) := by decide +kernel
theorem dX9_bits_19 : decode cX9_bits 19 = .ok (.iconst (-1), 1) := by decide +kernel
theorem dX9_bits_20 : decode cX9_bits 20 = .ok (.ireturn, 1) := by decide +kernel
theorem dX9_bits_21 : decode cX9_bits 21 = .ok (.aload_n 0, 1) := by decide +kernel
theorem dX9_bits_22 : decode cX9_bits 22 = .ok (.getfield 72, 3) := by decide +kernel
theorem dX9_bits_25 : decode cX9_bits 25 = .ok (.aload_n 0, 1) := by decide +kernel
theorem dX9_bits_26 : decode cX9_bits 26 = .ok (.getfield 11, 3) := by decide +kernel
theorem dX9_bits_29 : decode cX9_bits 29 = .ok (.iload_n 2, 1) := by decide +kernel
theorem dX9_bits_30 : decode cX9_bits 30 = .ok (.aaload, 1) := by decide +kernel
theorem dX9_bits_31 : decode cX9_bits 31 = .ok (.invokevirtual 217, 3) := by decide +kernel
theorem dX9_bits_34 : decode cX9_bits 34 = .ok (.aload_n 0, 1) := by decide +kernel
theorem dX9_bits_35 : decode cX9_bits 35 = .ok (.getfield 76, 3) := by decide +kernel
theorem dX9_bits_38 : decode cX9_bits 38 = .ok (.aload_n 0, 1) := by decide +kernel
theorem dX9_bits_39 : decode cX9_bits 39 = .ok (.getfield 11, 3) := by decide +kernel
theorem dX9_bits_42 : decode cX9_bits 42 = .ok (.iload_n 3, 1) := by decide +kernel
theorem dX9_bits_43 : decode cX9_bits 43 = .ok (.aaload, 1) := by decide +kernel
theorem dX9_bits_44 : decode cX9_bits 44 = .ok (.invokevirtual 217, 3) := by decide +kernel
theorem dX9_bits_47 : decode cX9_bits 47 = .ok (.aload_n 0, 1) := by decide +kernel
theorem dX9_bits_48 : decode cX9_bits 48 = .ok (.getfield 72, 3) := by decide +kernel
theorem dX9_bits_51 : decode cX9_bits 51 = .ok (.iload_n 1, 1) := by decide +kernel
theorem dX9_bits_52 : decode cX9_bits 52 = .ok (.aload_n 0, 1) := by decide +kernel
theorem dX9_bits_53 : decode cX9_bits 53 = .ok (.getfield 76, 3) := by decide +kernel
theorem dX9_bits_56 : decode cX9_bits 56 = .ok (.invokevirtual 220, 3) := by decide +kernel
theorem dX9_bits_59 : decode cX9_bits 59 = .ok (.aload_n 0, 1) := by decide +kernel
theorem dX9_bits_60 : decode cX9_bits 60 = .ok (.getfield 72, 3) := by decide +kernel
theorem dX9_bits_63 : decode cX9_bits 63 = .ok (.aload_n 0, 1) := by decide +kernel
theorem dX9_bits_64 : decode cX9_bits 64 = .ok (.getfield 79, 3) := by decide +kernel
theorem dX9_bits_67 : decode cX9_bits 67 = .ok (.invokevirtual 224, 3) := by decide +kernel
theorem dX9_bits_70 : decode cX9_bits 70 = .ok (.aload_n 0, 1) := by decide +kernel
theorem dX9_bits_71 : decode cX9_bits 71 = .ok (.aload_n 0, 1) := by decide +kernel
theorem dX9_bits_72 : decode cX9_bits 72 = .ok (.getfield 79, 3) := by decide +kernel
theorem dX9_bits_75 : decode cX9_bits 75 = .ok (.iload 4, 2) := by decide +kernel
theorem dX9_bits_77 : decode cX9_bits 77 = .ok (.invokevirtual 116, 3) := by decide +kernel
theorem dX9_bits_80 : decode cX9_bits 80 = .ok (.ireturn, 1) := by decide +kernel
def zs_X9_bits (h : AH) (u0 : Nat) (u1 : Int32) (u2 : Int32) (u3 : Int32) (u4 : Int32) : Option (Int32 × AH) :=
  (if u1 < 0 then some ((-1 : Int32), h) else (if (3 : Int32) < u1 then some ((-1 : Int32), h) else (zs_X9_areSlots h u2 u3 u4).bind fun x3 => (if x3 = 0 then some ((-1 : Int32), h) else (gR h u0 9 8).bind fun x5 => (gR h u0 9 0).bind fun x6 => (aR h x6 3 u2).bind fun x7 => (chk h x5 7).bind fun _ => (zs_X7_load h x5 x7).bind fun g9 => (gR g9 u0 9 9).bind fun x10 => (gR g9 u0 9 0).bind fun x11 => (aR g9 x11 3 u3).bind fun x12 => (chk g9 x10 7).bind fun _ => (zs_X7_load g9 x10 x12).bind fun g14 => (gR g14 u0 9 8).bind fun x15 => (gR g14 u0 9 9).bind fun x16 => (chk g14 x15 7).bind fun _ => (zs_X7_join g14 x15 u1 x16).bind fun g18 => (gR g18 u0 9 8).bind fun x19 => (gR g18 u0 9 10).bind fun x20 => (chk g18 x19 7).bind fun _ => (zs_X7_store g18 x19 x20).bind fun g22 => (gR g22 u0 9 10).bind fun x23 => (chk g22 u0 9).bind fun _ => (zs_X9_keep g22 u0 x23 u4).bind fun x25 => some (x25.1, x25.2))))
set_option maxRecDepth 100000 in
set_option maxHeartbeats 4000000 in
theorem zm_X9_bits (l : Launch) (D : hG) (z : Nat) {h : AH} {u0 : Nat} {u1 : Int32} {u2 : Int32} {u3 : Int32} {u4 : Int32} {r : Int32} {h' : AH} (hs : zs_X9_bits h u0 u1 u2 u3 u4 = some (r, h')) : hC l D z yX9_bits cX9_bits 5 (Option.some Jvm.ClassFile.FieldType.int) 2 48 0 0 [.ref u0, .int u1, .int u2, .int u3, .int u4] h h' (some (.int r)) := by
  refine hC_of (by decide) (Nat.le_of_ble_eq_true rfl) ?_
  intro p e s m below meth c hx hb hml hrt hlk hown hnm hts hk hr hz ls hl
  replace hown : s.vm.findClass RX9 = some m.cls := hown
  replace hl : lv_has ls 5 [(0, .ref u0), (1, .int u1), (2, .int u2), (3, .int u3), (4, .int u4)] := hl
  have hS : va_S (hA z) s.heap s.heap [] := va_S.rf
  suffices hgo : ∀ (H : Heap) (locs : List Loc), hR D z h H → va_S (hA z) s.heap H locs → W p l e ({ frames := 2, cells := 0, slots := 0, locals := 48 } : Room) s m ([.ref u0, .int u1, .int u2, .int u3, .int u4] : List Value).toArray below meth c H locs 0 0 (MQ below (hQ D z h' (some (.int r))) ([.ref u0, .int u1, .int u2, .int u3, .int u4] : List Value).toArray s 0 0 (hA z)) (F0 m 0 ls []) from hgo _ _ hr hS
  clear hr hS
  intro H locs hr hS
  unfold zs_X9_bits at hs
  refine lv_iload_n hx hb dX9_bits_0 rfl (lv_at hl 1 rfl) ?_
  refine lv_if_lt (tgt := 19) hx hb dX9_bits_1 (by decide) (fun c1 => ?_) (fun c1 => ?_)
  · rw [if_pos c1] at hs
    refine lv_iconst (v := (-1)) hx hb dX9_bits_19 (by decide) ?_
    obtain ⟨rfl, rfl⟩ := Prod.mk.inj (Option.some.inj hs)
    exact hv_iret hx hb hrt hlk hr hS dX9_bits_20
  · rw [if_neg c1] at hs
    refine lv_iload_n hx hb dX9_bits_4 rfl (lv_at hl 1 rfl) ?_
    refine lv_iconst (v := 3) hx hb dX9_bits_5 (by decide) ?_
    refine lv_icmp_gt (tgt := 19) hx hb dX9_bits_6 (by decide) (fun c2 => ?_) (fun c2 => ?_)
    · rw [if_pos c2] at hs
      refine lv_iconst (v := (-1)) hx hb dX9_bits_19 (by decide) ?_
      obtain ⟨rfl, rfl⟩ := Prod.mk.inj (Option.some.inj hs)
      exact hv_iret hx hb hrt hlk hr hS dX9_bits_20
    · rw [if_neg c2] at hs
      refine lv_iload_n hx hb dX9_bits_9 rfl (lv_at hl 2 rfl) ?_
      refine lv_iload_n hx hb dX9_bits_10 rfl (lv_at hl 3 rfl) ?_
      refine lv_iload hx hb dX9_bits_11 (lv_at hl 4 rfl) ?_
      obtain ⟨x3, ex3, hs⟩ := bi_inv hs
      refine hv_S1 (n := 3) [.int u2, .int u3, .int u4] [] hx hb hml hown hts hk hr hz hS (zm_X9_areSlots l D z ex3) tw_447 tw_448 tw_1 tw_449 (by decide +kernel) (by decide) ⟨(Nat.zero_le _), (Nat.zero_le _)⟩ rfl hl.1 (Nat.le_of_ble_eq_true rfl) dX9_bits_13 rfl (fun H locs hr hS => ?_)
      refine lv_if_ne (tgt := 21) hx hb dX9_bits_16 (by decide) (fun c4 => ?_) (fun c4 => ?_)
      · rw [if_neg c4] at hs
        refine lv_aload_n hx hb dX9_bits_21 rfl (lv_at hl 0 rfl) ?_
        obtain ⟨x5, ex5, hs⟩ := bi_inv hs
        refine hv_gR (C := RX9) (T := TX9) (N := 12) (ci := 9) hx hb hts inX9 hown hk hr rfl 8 (by decide) (hts _ tw_283) ex5 dX9_bits_22 ?_
        refine lv_aload_n hx hb dX9_bits_25 rfl (lv_at hl 0 rfl) ?_
        obtain ⟨x6, ex6, hs⟩ := bi_inv hs
        refine hv_gR (C := RX9) (T := TX9) (N := 12) (ci := 9) hx hb hts inX9 hown hk hr rfl 0 (by decide) (hts _ tw_275) ex6 dX9_bits_26 ?_
        refine lv_iload_n hx hb dX9_bits_29 rfl (lv_at hl 2 rfl) ?_
        obtain ⟨x7, ex7, hs⟩ := bi_inv hs
        refine hv_aR (kd := 3) hx hb hk hr rfl ex7 dX9_bits_30 ?_
        obtain ⟨_, ex8, hs⟩ := bi_inv hs
        obtain ⟨g9, eg9, hs⟩ := bi_inv hs
        refine hv_V0 (n := 1) [.ref x7] [] hx hb hml hown hts hk hr hz hS (zm_X7_load l D z eg9) ex8 rfl tw_610 tw_611 tw_612 tw_10 tw_613 (by decide +kernel) (by decide) ⟨(Nat.zero_le _), (Nat.zero_le _)⟩ rfl hl.1 (Nat.le_of_ble_eq_true rfl) dX9_bits_31 rfl (fun H locs hr hS => ?_)
        refine lv_aload_n hx hb dX9_bits_34 rfl (lv_at hl 0 rfl) ?_
        obtain ⟨x10, ex10, hs⟩ := bi_inv hs
        refine hv_gR (C := RX9) (T := TX9) (N := 12) (ci := 9) hx hb hts inX9 hown hk hr rfl 9 (by decide) (hts _ tw_284) ex10 dX9_bits_35 ?_
        refine lv_aload_n hx hb dX9_bits_38 rfl (lv_at hl 0 rfl) ?_
        obtain ⟨x11, ex11, hs⟩ := bi_inv hs
        refine hv_gR (C := RX9) (T := TX9) (N := 12) (ci := 9) hx hb hts inX9 hown hk hr rfl 0 (by decide) (hts _ tw_275) ex11 dX9_bits_39 ?_
        refine lv_iload_n hx hb dX9_bits_42 rfl (lv_at hl 3 rfl) ?_
        obtain ⟨x12, ex12, hs⟩ := bi_inv hs
        refine hv_aR (kd := 3) hx hb hk hr rfl ex12 dX9_bits_43 ?_
        obtain ⟨_, ex13, hs⟩ := bi_inv hs
        obtain ⟨g14, eg14, hs⟩ := bi_inv hs
        refine hv_V0 (n := 1) [.ref x12] [] hx hb hml hown hts hk hr hz hS (zm_X7_load l D z eg14) ex13 rfl tw_610 tw_611 tw_612 tw_10 tw_613 (by decide +kernel) (by decide) ⟨(Nat.zero_le _), (Nat.zero_le _)⟩ rfl hl.1 (Nat.le_of_ble_eq_true rfl) dX9_bits_44 rfl (fun H locs hr hS => ?_)
        refine lv_aload_n hx hb dX9_bits_47 rfl (lv_at hl 0 rfl) ?_
        obtain ⟨x15, ex15, hs⟩ := bi_inv hs
        refine hv_gR (C := RX9) (T := TX9) (N := 12) (ci := 9) hx hb hts inX9 hown hk hr rfl 8 (by decide) (hts _ tw_283) ex15 dX9_bits_48 ?_
        refine lv_iload_n hx hb dX9_bits_51 rfl (lv_at hl 1 rfl) ?_
        refine lv_aload_n hx hb dX9_bits_52 rfl (lv_at hl 0 rfl) ?_
        obtain ⟨x16, ex16, hs⟩ := bi_inv hs
        refine hv_gR (C := RX9) (T := TX9) (N := 12) (ci := 9) hx hb hts inX9 hown hk hr rfl 9 (by decide) (hts _ tw_284) ex16 dX9_bits_53 ?_
        obtain ⟨_, ex17, hs⟩ := bi_inv hs
        obtain ⟨g18, eg18, hs⟩ := bi_inv hs
        refine hv_V0 (n := 2) [.int u1, .ref x16] [] hx hb hml hown hts hk hr hz hS (zm_X7_join l D z eg18) ex17 rfl tw_620 tw_621 tw_622 tw_10 tw_623 (by decide +kernel) (by decide) ⟨(Nat.zero_le _), (Nat.zero_le _)⟩ rfl hl.1 (Nat.le_of_ble_eq_true rfl) dX9_bits_56 rfl (fun H locs hr hS => ?_)
        refine lv_aload_n hx hb dX9_bits_59 rfl (lv_at hl 0 rfl) ?_
        obtain ⟨x19, ex19, hs⟩ := bi_inv hs
        refine hv_gR (C := RX9) (T := TX9) (N := 12) (ci := 9) hx hb hts inX9 hown hk hr rfl 8 (by decide) (hts _ tw_283) ex19 dX9_bits_60 ?_
        refine lv_aload_n hx hb dX9_bits_63 rfl (lv_at hl 0 rfl) ?_
        obtain ⟨x20, ex20, hs⟩ := bi_inv hs
        refine hv_gR (C := RX9) (T := TX9) (N := 12) (ci := 9) hx hb hts inX9 hown hk hr rfl 10 (by decide) (hts _ tw_285) ex20 dX9_bits_64 ?_
        obtain ⟨_, ex21, hs⟩ := bi_inv hs
        obtain ⟨g22, eg22, hs⟩ := bi_inv hs
        refine hv_V0 (n := 1) [.ref x20] [] hx hb hml hown hts hk hr hz hS (zm_X7_store l D z eg22) ex21 rfl tw_625 tw_626 tw_627 tw_10 tw_628 (by decide +kernel) (by decide) ⟨(Nat.zero_le _), (Nat.zero_le _)⟩ rfl hl.1 (Nat.le_of_ble_eq_true rfl) dX9_bits_67 rfl (fun H locs hr hS => ?_)
        refine lv_aload_n hx hb dX9_bits_70 rfl (lv_at hl 0 rfl) ?_
        refine lv_aload_n hx hb dX9_bits_71 rfl (lv_at hl 0 rfl) ?_
        obtain ⟨x23, ex23, hs⟩ := bi_inv hs
        refine hv_gR (C := RX9) (T := TX9) (N := 12) (ci := 9) hx hb hts inX9 hown hk hr rfl 10 (by decide) (hts _ tw_285) ex23 dX9_bits_72 ?_
        refine lv_iload hx hb dX9_bits_75 (lv_at hl 4 rfl) ?_
        obtain ⟨_, ex24, hs⟩ := bi_inv hs
        obtain ⟨x25, ex25, hs⟩ := bi_inv hs
        refine hv_V1 (n := 2) [.ref x23, .int u4] [] hx hb hml hown hts hk hr hz hS (zm_X9_keep l D z ex25) ex24 rfl tw_364 tw_366 ts_2 tw_1 tw_367 (by decide +kernel) (by decide) ⟨(Nat.zero_le _), (Nat.zero_le _)⟩ rfl hl.1 (Nat.le_of_ble_eq_true rfl) dX9_bits_77 rfl (fun H locs hr hS => ?_)
        obtain ⟨rfl, rfl⟩ := Prod.mk.inj (Option.some.inj hs)
        exact hv_iret hx hb hrt hlk hr hS dX9_bits_80
      · rw [if_pos c4] at hs
        refine lv_iconst (v := (-1)) hx hb dX9_bits_19 (by decide) ?_
        obtain ⟨rfl, rfl⟩ := Prod.mk.inj (Option.some.inj hs)
        exact hv_iret hx hb hrt hlk hr hS dX9_bits_20
theorem dX9_compare_0 : decode cX9_compare 0 = .ok (.iload_n 1, 1) := by decide +kernel
theorem dX9_compare_1 : decode cX9_compare 1 = .ok (.invokestatic 90, 3) := by decide +kernel
theorem dX9_compare_4 : decode cX9_compare 4 = .ok (.ifCond .eq 10, 3) := by decide +kernel
theorem dX9_compare_7 : decode cX9_compare 7 = .ok (.iload_n 2, 1) := by decide +kernel
theorem dX9_compare_8 : decode cX9_compare 8 = .ok (.invokestatic 90, 3) := by decide +kernel
theorem dX9_compare_11 : decode cX9_compare 11 = .ok (.ifCond .ne 5, 3) := by decide +kernel
theorem dX9_compare_14 : decode cX9_compare 14 = .ok (.iconst (-1), 1) := by decide +kernel
theorem dX9_compare_15 : decode cX9_compare 15 = .ok (.ireturn, 1) := by decide +kernel
theorem dX9_compare_16 : decode cX9_compare 16 = .ok (.aload_n 0, 1) := by decide +kernel
theorem dX9_compare_17 : decode cX9_compare 17 = .ok (.getfield 11, 3) := by decide +kernel
theorem dX9_compare_20 : decode cX9_compare 20 = .ok (.iload_n 1, 1) := by decide +kernel
theorem dX9_compare_21 : decode cX9_compare 21 = .ok (.aaload, 1) := by decide +kernel
theorem dX9_compare_22 : decode cX9_compare 22 = .ok (.aload_n 0, 1) := by decide +kernel
theorem dX9_compare_23 : decode cX9_compare 23 = .ok (.getfield 11, 3) := by decide +kernel
theorem dX9_compare_26 : decode cX9_compare 26 = .ok (.iload_n 2, 1) := by decide +kernel
theorem dX9_compare_27 : decode cX9_compare 27 = .ok (.aaload, 1) := by decide +kernel
theorem dX9_compare_28 : decode cX9_compare 28 = .ok (.invokestatic 150, 3) := by decide +kernel
theorem dX9_compare_31 : decode cX9_compare 31 = .ok (.iconst 1, 1) := by decide +kernel
theorem dX9_compare_32 : decode cX9_compare 32 = .ok (.iadd, 1) := by decide +kernel
theorem dX9_compare_33 : decode cX9_compare 33 = .ok (.ireturn, 1) := by decide +kernel
def zs_X9_compare (h : AH) (u0 : Nat) (u1 : Int32) (u2 : Int32) : Option Int32 :=
  (zs_X9_isSlot h u1).bind fun x1 => (if x1 = 0 then some ((-1 : Int32)) else (zs_X9_isSlot h u2).bind fun x3 => (if x3 = 0 then some ((-1 : Int32)) else (gR h u0 9 0).bind fun x5 => (aR h x5 3 u1).bind fun x6 => (gR h u0 9 0).bind fun x7 => (aR h x7 3 u2).bind fun x8 => (zs_X8_order h x6 x8).bind fun x9 => some (x9 + ((1 : Int32)))))
set_option maxRecDepth 100000 in
set_option maxHeartbeats 4000000 in
theorem zm_X9_compare (l : Launch) (D : hG) (z : Nat) {h : AH} {u0 : Nat} {u1 : Int32} {u2 : Int32} {r : Int32} (hs : zs_X9_compare h u0 u1 u2 = some r) : hC l D z yX9_compare cX9_compare 3 (Option.some Jvm.ClassFile.FieldType.int) 2 43 0 0 [.ref u0, .int u1, .int u2] h h (some (.int r)) := by
  refine hC_of (by decide) (Nat.le_of_ble_eq_true rfl) ?_
  intro p e s m below meth c hx hb hml hrt hlk hown hnm hts hk hr hz ls hl
  replace hown : s.vm.findClass RX9 = some m.cls := hown
  replace hl : lv_has ls 3 [(0, .ref u0), (1, .int u1), (2, .int u2)] := hl
  have hS : va_S (hA z) s.heap s.heap [] := va_S.rf
  suffices hgo : ∀ (H : Heap) (locs : List Loc), hR D z h H → va_S (hA z) s.heap H locs → W p l e ({ frames := 2, cells := 0, slots := 0, locals := 43 } : Room) s m ([.ref u0, .int u1, .int u2] : List Value).toArray below meth c H locs 0 0 (MQ below (hQ D z h (some (.int r))) ([.ref u0, .int u1, .int u2] : List Value).toArray s 0 0 (hA z)) (F0 m 0 ls []) from hgo _ _ hr hS
  clear hr hS
  intro H locs hr hS
  unfold zs_X9_compare at hs
  refine lv_iload_n hx hb dX9_compare_0 rfl (lv_at hl 1 rfl) ?_
  obtain ⟨x1, ex1, hs⟩ := bi_inv hs
  refine hv_S1 (n := 1) [.int u1] [] hx hb hml hown hts hk hr hz hS (zm_X9_isSlot l D z ex1) tw_316 tw_317 tw_1 tw_318 (by decide +kernel) (by decide) ⟨(Nat.zero_le _), (Nat.zero_le _)⟩ rfl hl.1 (Nat.le_of_ble_eq_true rfl) dX9_compare_1 rfl (fun H locs hr hS => ?_)
  refine lv_if_eq (tgt := 14) hx hb dX9_compare_4 (by decide) (fun c2 => ?_) (fun c2 => ?_)
  · rw [if_pos c2] at hs
    refine lv_iconst (v := (-1)) hx hb dX9_compare_14 (by decide) ?_
    obtain rfl := Option.some.inj hs
    exact hv_iret hx hb hrt hlk hr hS dX9_compare_15
  · rw [if_neg c2] at hs
    refine lv_iload_n hx hb dX9_compare_7 rfl (lv_at hl 2 rfl) ?_
    obtain ⟨x3, ex3, hs⟩ := bi_inv hs
    refine hv_S1 (n := 1) [.int u2] [] hx hb hml hown hts hk hr hz hS (zm_X9_isSlot l D z ex3) tw_316 tw_317 tw_1 tw_318 (by decide +kernel) (by decide) ⟨(Nat.zero_le _), (Nat.zero_le _)⟩ rfl hl.1 (Nat.le_of_ble_eq_true rfl) dX9_compare_8 rfl (fun H locs hr hS => ?_)
    refine lv_if_ne (tgt := 16) hx hb dX9_compare_11 (by decide) (fun c4 => ?_) (fun c4 => ?_)
    · rw [if_neg c4] at hs
      refine lv_aload_n hx hb dX9_compare_16 rfl (lv_at hl 0 rfl) ?_
      obtain ⟨x5, ex5, hs⟩ := bi_inv hs
      refine hv_gR (C := RX9) (T := TX9) (N := 12) (ci := 9) hx hb hts inX9 hown hk hr rfl 0 (by decide) (hts _ tw_275) ex5 dX9_compare_17 ?_
      refine lv_iload_n hx hb dX9_compare_20 rfl (lv_at hl 1 rfl) ?_
      obtain ⟨x6, ex6, hs⟩ := bi_inv hs
      refine hv_aR (kd := 3) hx hb hk hr rfl ex6 dX9_compare_21 ?_
      refine lv_aload_n hx hb dX9_compare_22 rfl (lv_at hl 0 rfl) ?_
      obtain ⟨x7, ex7, hs⟩ := bi_inv hs
      refine hv_gR (C := RX9) (T := TX9) (N := 12) (ci := 9) hx hb hts inX9 hown hk hr rfl 0 (by decide) (hts _ tw_275) ex7 dX9_compare_23 ?_
      refine lv_iload_n hx hb dX9_compare_26 rfl (lv_at hl 2 rfl) ?_
      obtain ⟨x8, ex8, hs⟩ := bi_inv hs
      refine hv_aR (kd := 3) hx hb hk hr rfl ex8 dX9_compare_27 ?_
      obtain ⟨x9, ex9, hs⟩ := bi_inv hs
      refine hv_S1 (n := 2) [.ref x6, .ref x8] [] hx hb hml hown hts hk hr hz hS (zm_X8_order l D z ex9) tw_437 tw_438 tw_2 tw_439 (by decide +kernel) (by decide) ⟨(Nat.zero_le _), (Nat.zero_le _)⟩ rfl hl.1 (Nat.le_of_ble_eq_true rfl) dX9_compare_28 rfl (fun H locs hr hS => ?_)
      refine lv_iconst (v := 1) hx hb dX9_compare_31 (by decide) ?_
      refine lv_iadd hx hb dX9_compare_32 ?_
      obtain rfl := Option.some.inj hs
      exact hv_iret hx hb hrt hlk hr hS dX9_compare_33
    · rw [if_pos c4] at hs
      refine lv_iconst (v := (-1)) hx hb dX9_compare_14 (by decide) ?_
      obtain rfl := Option.some.inj hs
      exact hv_iret hx hb hrt hlk hr hS dX9_compare_15
theorem dX9_compareRatio_0 : decode cX9_compareRatio 0 = .ok (.iload_n 1, 1) := by decide +kernel
theorem dX9_compareRatio_1 : decode cX9_compareRatio 1 = .ok (.invokestatic 243, 3) := by decide +kernel
theorem dX9_compareRatio_4 : decode cX9_compareRatio 4 = .ok (.ifCond .eq 10, 3) := by decide +kernel
theorem dX9_compareRatio_7 : decode cX9_compareRatio 7 = .ok (.iload_n 2, 1) := by decide +kernel
theorem dX9_compareRatio_8 : decode cX9_compareRatio 8 = .ok (.invokestatic 243, 3) := by decide +kernel
theorem dX9_compareRatio_11 : decode cX9_compareRatio 11 = .ok (.ifCond .ne 5, 3) := by decide +kernel
theorem dX9_compareRatio_14 : decode cX9_compareRatio 14 = .ok (.iconst (-1), 1) := by decide +kernel
theorem dX9_compareRatio_15 : decode cX9_compareRatio 15 = .ok (.ireturn, 1) := by decide +kernel
theorem dX9_compareRatio_16 : decode cX9_compareRatio 16 = .ok (.aload_n 0, 1) := by decide +kernel
theorem dX9_compareRatio_17 : decode cX9_compareRatio 17 = .ok (.getfield 58, 3) := by decide +kernel
theorem dX9_compareRatio_20 : decode cX9_compareRatio 20 = .ok (.aload_n 0, 1) := by decide +kernel
theorem dX9_compareRatio_21 : decode cX9_compareRatio 21 = .ok (.getfield 18, 3) := by decide +kernel
theorem dX9_compareRatio_24 : decode cX9_compareRatio 24 = .ok (.iload_n 1, 1) := by decide +kernel
theorem dX9_compareRatio_25 : decode cX9_compareRatio 25 = .ok (.aaload, 1) := by decide +kernel
theorem dX9_compareRatio_26 : decode cX9_compareRatio 26 = .ok (.aload_n 0, 1) := by decide +kernel
theorem dX9_compareRatio_27 : decode cX9_compareRatio 27 = .ok (.getfield 18, 3) := by decide +kernel
theorem dX9_compareRatio_30 : decode cX9_compareRatio 30 = .ok (.iload_n 2, 1) := by decide +kernel
theorem dX9_compareRatio_31 : decode cX9_compareRatio 31 = .ok (.aaload, 1) := by decide +kernel
theorem dX9_compareRatio_32 : decode cX9_compareRatio 32 = .ok (.invokevirtual 267, 3) := by decide +kernel
theorem dX9_compareRatio_35 : decode cX9_compareRatio 35 = .ok (.iconst 1, 1) := by decide +kernel
theorem dX9_compareRatio_36 : decode cX9_compareRatio 36 = .ok (.iadd, 1) := by decide +kernel
theorem dX9_compareRatio_37 : decode cX9_compareRatio 37 = .ok (.ireturn, 1) := by decide +kernel
def zs_X9_compareRatio (h : AH) (u0 : Nat) (u1 : Int32) (u2 : Int32) : Option (Int32 × AH) :=
  (zs_X9_isRatio h u1).bind fun x1 => (if x1 = 0 then some ((-1 : Int32), h) else (zs_X9_isRatio h u2).bind fun x3 => (if x3 = 0 then some ((-1 : Int32), h) else (gR h u0 9 6).bind fun x5 => (gR h u0 9 1).bind fun x6 => (aR h x6 4 u1).bind fun x7 => (gR h u0 9 1).bind fun x8 => (aR h x8 4 u2).bind fun x9 => (chk h x5 2).bind fun _ => (zs_X2_order h x5 x7 x9).bind fun x11 => some (x11.1 + ((1 : Int32)), x11.2)))
set_option maxRecDepth 100000 in
set_option maxHeartbeats 4000000 in
theorem zm_X9_compareRatio (l : Launch) (D : hG) (z : Nat) {h : AH} {u0 : Nat} {u1 : Int32} {u2 : Int32} {r : Int32} {h' : AH} (hs : zs_X9_compareRatio h u0 u1 u2 = some (r, h')) : hC l D z yX9_compareRatio cX9_compareRatio 3 (Option.some Jvm.ClassFile.FieldType.int) 3 74 0 0 [.ref u0, .int u1, .int u2] h h' (some (.int r)) := by
  refine hC_of (by decide) (Nat.le_of_ble_eq_true rfl) ?_
  intro p e s m below meth c hx hb hml hrt hlk hown hnm hts hk hr hz ls hl
  replace hown : s.vm.findClass RX9 = some m.cls := hown
  replace hl : lv_has ls 3 [(0, .ref u0), (1, .int u1), (2, .int u2)] := hl
  have hS : va_S (hA z) s.heap s.heap [] := va_S.rf
  suffices hgo : ∀ (H : Heap) (locs : List Loc), hR D z h H → va_S (hA z) s.heap H locs → W p l e ({ frames := 3, cells := 0, slots := 0, locals := 74 } : Room) s m ([.ref u0, .int u1, .int u2] : List Value).toArray below meth c H locs 0 0 (MQ below (hQ D z h' (some (.int r))) ([.ref u0, .int u1, .int u2] : List Value).toArray s 0 0 (hA z)) (F0 m 0 ls []) from hgo _ _ hr hS
  clear hr hS
  intro H locs hr hS
  unfold zs_X9_compareRatio at hs
  refine lv_iload_n hx hb dX9_compareRatio_0 rfl (lv_at hl 1 rfl) ?_
  obtain ⟨x1, ex1, hs⟩ := bi_inv hs
  refine hv_S1 (n := 1) [.int u1] [] hx hb hml hown hts hk hr hz hS (zm_X9_isRatio l D z ex1) tw_674 tw_675 tw_1 tw_676 (by decide +kernel) (by decide) ⟨(Nat.zero_le _), (Nat.zero_le _)⟩ rfl hl.1 (Nat.le_of_ble_eq_true rfl) dX9_compareRatio_1 rfl (fun H locs hr hS => ?_)
  refine lv_if_eq (tgt := 14) hx hb dX9_compareRatio_4 (by decide) (fun c2 => ?_) (fun c2 => ?_)
  · rw [if_pos c2] at hs
    refine lv_iconst (v := (-1)) hx hb dX9_compareRatio_14 (by decide) ?_
    obtain ⟨rfl, rfl⟩ := Prod.mk.inj (Option.some.inj hs)
    exact hv_iret hx hb hrt hlk hr hS dX9_compareRatio_15
  · rw [if_neg c2] at hs
    refine lv_iload_n hx hb dX9_compareRatio_7 rfl (lv_at hl 2 rfl) ?_
    obtain ⟨x3, ex3, hs⟩ := bi_inv hs
    refine hv_S1 (n := 1) [.int u2] [] hx hb hml hown hts hk hr hz hS (zm_X9_isRatio l D z ex3) tw_674 tw_675 tw_1 tw_676 (by decide +kernel) (by decide) ⟨(Nat.zero_le _), (Nat.zero_le _)⟩ rfl hl.1 (Nat.le_of_ble_eq_true rfl) dX9_compareRatio_8 rfl (fun H locs hr hS => ?_)
    refine lv_if_ne (tgt := 16) hx hb dX9_compareRatio_11 (by decide) (fun c4 => ?_) (fun c4 => ?_)
    · rw [if_neg c4] at hs
      refine lv_aload_n hx hb dX9_compareRatio_16 rfl (lv_at hl 0 rfl) ?_
      obtain ⟨x5, ex5, hs⟩ := bi_inv hs
      refine hv_gR (C := RX9) (T := TX9) (N := 12) (ci := 9) hx hb hts inX9 hown hk hr rfl 6 (by decide) (hts _ tw_281) ex5 dX9_compareRatio_17 ?_
      refine lv_aload_n hx hb dX9_compareRatio_20 rfl (lv_at hl 0 rfl) ?_
      obtain ⟨x6, ex6, hs⟩ := bi_inv hs
      refine hv_gR (C := RX9) (T := TX9) (N := 12) (ci := 9) hx hb hts inX9 hown hk hr rfl 1 (by decide) (hts _ tw_276) ex6 dX9_compareRatio_21 ?_
      refine lv_iload_n hx hb dX9_compareRatio_24 rfl (lv_at hl 1 rfl) ?_
      obtain ⟨x7, ex7, hs⟩ := bi_inv hs
      refine hv_aR (kd := 4) hx hb hk hr rfl ex7 dX9_compareRatio_25 ?_
      refine lv_aload_n hx hb dX9_compareRatio_26 rfl (lv_at hl 0 rfl) ?_
      obtain ⟨x8, ex8, hs⟩ := bi_inv hs
      refine hv_gR (C := RX9) (T := TX9) (N := 12) (ci := 9) hx hb hts inX9 hown hk hr rfl 1 (by decide) (hts _ tw_276) ex8 dX9_compareRatio_27 ?_
      refine lv_iload_n hx hb dX9_compareRatio_30 rfl (lv_at hl 2 rfl) ?_
      obtain ⟨x9, ex9, hs⟩ := bi_inv hs
      refine hv_aR (kd := 4) hx hb hk hr rfl ex9 dX9_compareRatio_31 ?_
      obtain ⟨_, ex10, hs⟩ := bi_inv hs
      obtain ⟨x11, ex11, hs⟩ := bi_inv hs
      refine hv_V1 (n := 2) [.ref x7, .ref x9] [] hx hb hml hown hts hk hr hz hS (zm_X2_order l D z ex11) ex10 rfl tw_716 tw_717 tw_718 tw_8 tw_719 (by decide +kernel) (by decide) ⟨(Nat.zero_le _), (Nat.zero_le _)⟩ rfl hl.1 (Nat.le_of_ble_eq_true rfl) dX9_compareRatio_32 rfl (fun H locs hr hS => ?_)
      refine lv_iconst (v := 1) hx hb dX9_compareRatio_35 (by decide) ?_
      refine lv_iadd hx hb dX9_compareRatio_36 ?_
      obtain ⟨rfl, rfl⟩ := Prod.mk.inj (Option.some.inj hs)
      exact hv_iret hx hb hrt hlk hr hS dX9_compareRatio_37
    · rw [if_pos c4] at hs
      refine lv_iconst (v := (-1)) hx hb dX9_compareRatio_14 (by decide) ?_
      obtain ⟨rfl, rfl⟩ := Prod.mk.inj (Option.some.inj hs)
      exact hv_iret hx hb hrt hlk hr hS dX9_compareRatio_15
theorem dX9_digit_0 : decode cX9_digit 0 = .ok (.iload_n 1, 1) := by decide +kernel
theorem dX9_digit_1 : decode cX9_digit 1 = .ok (.iconst (-1), 1) := by decide +kernel
theorem dX9_digit_2 : decode cX9_digit 2 = .ok (.if_icmp .ne 11, 3) := by decide +kernel
theorem dX9_digit_5 : decode cX9_digit 5 = .ok (.aload_n 0, 1) := by decide +kernel
theorem dX9_digit_6 : decode cX9_digit 6 = .ok (.getfield 65, 3) := by decide +kernel
theorem dX9_digit_9 : decode cX9_digit 9 = .ok (.getfield 277, 3) := by decide +kernel
theorem dX9_digit_12 : decode cX9_digit 12 = .ok (.ireturn, 1) := by decide +kernel
theorem dX9_digit_13 : decode cX9_digit 13 = .ok (.iload_n 1, 1) := by decide +kernel
theorem dX9_digit_14 : decode cX9_digit 14 = .ok (.bipush (-2), 2) := by decide +kernel
theorem dX9_digit_16 : decode cX9_digit 16 = .ok (.if_icmp .ne 11, 3) := by decide +kernel
theorem dX9_digit_19 : decode cX9_digit 19 = .ok (.aload_n 0, 1) := by decide +kernel
theorem dX9_digit_20 : decode cX9_digit 20 = .ok (.getfield 65, 3) := by decide +kernel
theorem dX9_digit_23 : decode cX9_digit 23 = .ok (.getfield 280, 3) := by decide +kernel
theorem dX9_digit_26 : decode cX9_digit 26 = .ok (.ireturn, 1) := by decide +kernel
theorem dX9_digit_27 : decode cX9_digit 27 = .ok (.iload_n 1, 1) := by decide +kernel
theorem dX9_digit_28 : decode cX9_digit 28 = .ok (.ifCond .lt 22, 3) := by decide +kernel
theorem dX9_digit_31 : decode cX9_digit 31 = .ok (.iload_n 1, 1) := by decide +kernel
theorem dX9_digit_32 : decode cX9_digit 32 = .ok (.aload_n 0, 1) := by decide +kernel
theorem dX9_digit_33 : decode cX9_digit 33 = .ok (.getfield 65, 3) := by decide +kernel
theorem dX9_digit_36 : decode cX9_digit 36 = .ok (.getfield 277, 3) := by decide +kernel
theorem dX9_digit_39 : decode cX9_digit 39 = .ok (.aload_n 0, 1) := by decide +kernel
theorem dX9_digit_40 : decode cX9_digit 40 = .ok (.getfield 65, 3) := by decide +kernel
theorem dX9_digit_43 : decode cX9_digit 43 = .ok (.getfield 280, 3) := by decide +kernel
theorem dX9_digit_46 : decode cX9_digit 46 = .ok (.iadd, 1) := by decide +kernel
theorem dX9_digit_47 : decode cX9_digit 47 = .ok (.if_icmp .lt 5, 3) := by decide +kernel
theorem dX9_digit_50 : decode cX9_digit 50 = .ok (.iconst (-1), 1) := by decide +kernel
theorem dX9_digit_51 : decode cX9_digit 51 = .ok (.ireturn, 1) := by decide +kernel
theorem dX9_digit_52 : decode cX9_digit 52 = .ok (.aload_n 0, 1) := by decide +kernel
theorem dX9_digit_53 : decode cX9_digit 53 = .ok (.getfield 65, 3) := by decide +kernel
theorem dX9_digit_56 : decode cX9_digit 56 = .ok (.getfield 283, 3) := by decide +kernel
theorem dX9_digit_59 : decode cX9_digit 59 = .ok (.iload_n 1, 1) := by decide +kernel
theorem dX9_digit_60 : decode cX9_digit 60 = .ok (.iaload, 1) := by decide +kernel
theorem dX9_digit_61 : decode cX9_digit 61 = .ok (.ireturn, 1) := by decide +kernel
def zs_X9_digit (h : AH) (u0 : Nat) (u1 : Int32) : Option Int32 :=
  (if u1 = (-1 : Int32) then (gR h u0 9 7).bind fun x14 => (gI h x14 1 0).bind fun x15 => some x15 else (if u1 = (-2 : Int32) then (gR h u0 9 7).bind fun x12 => (gI h x12 1 1).bind fun x13 => some x13 else (if u1 < 0 then some ((-1 : Int32)) else (gR h u0 9 7).bind fun x4 => (gI h x4 1 0).bind fun x5 => (gR h u0 9 7).bind fun x6 => (gI h x6 1 1).bind fun x7 => (if u1 < x5 + x7 then (gR h u0 9 7).bind fun x9 => (gR h x9 1 2).bind fun x10 => (aI h x10 0 u1).bind fun x11 => some x11 else some ((-1 : Int32))))))
set_option maxRecDepth 100000 in
set_option maxHeartbeats 4000000 in
theorem zm_X9_digit (l : Launch) (D : hG) (z : Nat) {h : AH} {u0 : Nat} {u1 : Int32} {r : Int32} (hs : zs_X9_digit h u0 u1 = some r) : hC l D z yX9_digit cX9_digit 2 (Option.some Jvm.ClassFile.FieldType.int) 0 0 0 0 [.ref u0, .int u1] h h (some (.int r)) := by
  refine hC_of (by decide) (Nat.le_of_ble_eq_true rfl) ?_
  intro p e s m below meth c hx hb hml hrt hlk hown hnm hts hk hr hz ls hl
  replace hown : s.vm.findClass RX9 = some m.cls := hown
  replace hl : lv_has ls 2 [(0, .ref u0), (1, .int u1)] := hl
  have hS : va_S (hA z) s.heap s.heap [] := va_S.rf
  suffices hgo : ∀ (H : Heap) (locs : List Loc), hR D z h H → va_S (hA z) s.heap H locs → W p l e ({ frames := 0, cells := 0, slots := 0, locals := 0 } : Room) s m ([.ref u0, .int u1] : List Value).toArray below meth c H locs 0 0 (MQ below (hQ D z h (some (.int r))) ([.ref u0, .int u1] : List Value).toArray s 0 0 (hA z)) (F0 m 0 ls []) from hgo _ _ hr hS
  clear hr hS
  intro H locs hr hS
  unfold zs_X9_digit at hs
  refine lv_iload_n hx hb dX9_digit_0 rfl (lv_at hl 1 rfl) ?_
  refine lv_iconst (v := (-1)) hx hb dX9_digit_1 (by decide) ?_
  refine lv_icmp_ne (tgt := 13) hx hb dX9_digit_2 (by decide) (fun c1 => ?_) (fun c1 => ?_)
  · rw [if_neg c1] at hs
    refine lv_iload_n hx hb dX9_digit_13 rfl (lv_at hl 1 rfl) ?_
    refine lv_bipush (v := (-2)) hx hb dX9_digit_14 (by decide) ?_
    refine lv_icmp_ne (tgt := 27) hx hb dX9_digit_16 (by decide) (fun c2 => ?_) (fun c2 => ?_)
    · rw [if_neg c2] at hs
      refine lv_iload_n hx hb dX9_digit_27 rfl (lv_at hl 1 rfl) ?_
      refine lv_if_lt (tgt := 50) hx hb dX9_digit_28 (by decide) (fun c3 => ?_) (fun c3 => ?_)
      · rw [if_pos c3] at hs
        refine lv_iconst (v := (-1)) hx hb dX9_digit_50 (by decide) ?_
        obtain rfl := Option.some.inj hs
        exact hv_iret hx hb hrt hlk hr hS dX9_digit_51
      · rw [if_neg c3] at hs
        refine lv_iload_n hx hb dX9_digit_31 rfl (lv_at hl 1 rfl) ?_
        refine lv_aload_n hx hb dX9_digit_32 rfl (lv_at hl 0 rfl) ?_
        obtain ⟨x4, ex4, hs⟩ := bi_inv hs
        refine hv_gR (C := RX9) (T := TX9) (N := 12) (ci := 9) hx hb hts inX9 hown hk hr rfl 7 (by decide) (hts _ tw_282) ex4 dX9_digit_33 ?_
        obtain ⟨x5, ex5, hs⟩ := bi_inv hs
        refine hv_gI (C := RX1) (T := TX1) (N := 8) (ci := 1) hx hb hts inX1 hown hk hr rfl 0 (by decide) (hts _ tw_237) ex5 dX9_digit_36 ?_
        refine lv_aload_n hx hb dX9_digit_39 rfl (lv_at hl 0 rfl) ?_
        obtain ⟨x6, ex6, hs⟩ := bi_inv hs
        refine hv_gR (C := RX9) (T := TX9) (N := 12) (ci := 9) hx hb hts inX9 hown hk hr rfl 7 (by decide) (hts _ tw_282) ex6 dX9_digit_40 ?_
        obtain ⟨x7, ex7, hs⟩ := bi_inv hs
        refine hv_gI (C := RX1) (T := TX1) (N := 8) (ci := 1) hx hb hts inX1 hown hk hr rfl 1 (by decide) (hts _ tw_239) ex7 dX9_digit_43 ?_
        refine lv_iadd hx hb dX9_digit_46 ?_
        refine lv_icmp_lt (tgt := 52) hx hb dX9_digit_47 (by decide) (fun c8 => ?_) (fun c8 => ?_)
        · rw [if_pos c8] at hs
          refine lv_aload_n hx hb dX9_digit_52 rfl (lv_at hl 0 rfl) ?_
          obtain ⟨x9, ex9, hs⟩ := bi_inv hs
          refine hv_gR (C := RX9) (T := TX9) (N := 12) (ci := 9) hx hb hts inX9 hown hk hr rfl 7 (by decide) (hts _ tw_282) ex9 dX9_digit_53 ?_
          obtain ⟨x10, ex10, hs⟩ := bi_inv hs
          refine hv_gR (C := RX1) (T := TX1) (N := 8) (ci := 1) hx hb hts inX1 hown hk hr rfl 2 (by decide) (hts _ tw_241) ex10 dX9_digit_56 ?_
          refine lv_iload_n hx hb dX9_digit_59 rfl (lv_at hl 1 rfl) ?_
          obtain ⟨x11, ex11, hs⟩ := bi_inv hs
          refine hv_aI hx hb hk hr ex11 dX9_digit_60 ?_
          obtain rfl := Option.some.inj hs
          exact hv_iret hx hb hrt hlk hr hS dX9_digit_61
        · rw [if_neg c8] at hs
          refine lv_iconst (v := (-1)) hx hb dX9_digit_50 (by decide) ?_
          obtain rfl := Option.some.inj hs
          exact hv_iret hx hb hrt hlk hr hS dX9_digit_51
    · rw [if_pos c2] at hs
      refine lv_aload_n hx hb dX9_digit_19 rfl (lv_at hl 0 rfl) ?_
      obtain ⟨x12, ex12, hs⟩ := bi_inv hs
      refine hv_gR (C := RX9) (T := TX9) (N := 12) (ci := 9) hx hb hts inX9 hown hk hr rfl 7 (by decide) (hts _ tw_282) ex12 dX9_digit_20 ?_
      obtain ⟨x13, ex13, hs⟩ := bi_inv hs
      refine hv_gI (C := RX1) (T := TX1) (N := 8) (ci := 1) hx hb hts inX1 hown hk hr rfl 1 (by decide) (hts _ tw_239) ex13 dX9_digit_23 ?_
      obtain rfl := Option.some.inj hs
      exact hv_iret hx hb hrt hlk hr hS dX9_digit_26
  · rw [if_pos c1] at hs
    refine lv_aload_n hx hb dX9_digit_5 rfl (lv_at hl 0 rfl) ?_
    obtain ⟨x14, ex14, hs⟩ := bi_inv hs
    refine hv_gR (C := RX9) (T := TX9) (N := 12) (ci := 9) hx hb hts inX9 hown hk hr rfl 7 (by decide) (hts _ tw_282) ex14 dX9_digit_6 ?_
    obtain ⟨x15, ex15, hs⟩ := bi_inv hs
    refine hv_gI (C := RX1) (T := TX1) (N := 8) (ci := 1) hx hb hts inX1 hown hk hr rfl 0 (by decide) (hts _ tw_237) ex15 dX9_digit_9 ?_
    obtain rfl := Option.some.inj hs
    exact hv_iret hx hb hrt hlk hr hS dX9_digit_12
theorem dX9_isBase_0 : decode cX9_isBase 0 = .ok (.iload_n 0, 1) := by decide +kernel
theorem dX9_isBase_1 : decode cX9_isBase 1 = .ok (.iconst 2, 1) := by decide +kernel
theorem dX9_isBase_2 : decode cX9_isBase 2 = .ok (.if_icmp .lt 13, 3) := by decide +kernel
theorem dX9_isBase_5 : decode cX9_isBase 5 = .ok (.iload_n 0, 1) := by decide +kernel
theorem dX9_isBase_6 : decode cX9_isBase 6 = .ok (.bipush 36, 2) := by decide +kernel
theorem dX9_isBase_8 : decode cX9_isBase 8 = .ok (.if_icmp .gt 7, 3) := by decide +kernel
theorem dX9_isBase_11 : decode cX9_isBase 11 = .ok (.iconst 1, 1) := by decide +kernel
theorem dX9_isBase_12 : decode cX9_isBase 12 = .ok (.goto 4, 3) := by decide +kernel
theorem dX9_isBase_15 : decode cX9_isBase 15 = .ok (.iconst 0, 1) := by decide +kernel
theorem dX9_isBase_16 : decode cX9_isBase 16 = .ok (.ireturn, 1) := by decide +kernel
def zs_X9_isBase (h : AH) (u0 : Int32) : Option Int32 :=
  (if u0 < (2 : Int32) then some ((0 : Int32)) else (if (36 : Int32) < u0 then some ((0 : Int32)) else some ((1 : Int32))))
set_option maxRecDepth 100000 in
set_option maxHeartbeats 4000000 in
theorem zm_X9_isBase (l : Launch) (D : hG) (z : Nat) {h : AH} {u0 : Int32} {r : Int32} (hs : zs_X9_isBase h u0 = some r) : hC l D z yX9_isBase cX9_isBase 1 (Option.some Jvm.ClassFile.FieldType.boolean) 0 0 0 0 [.int u0] h h (some (.int r)) := by
  refine hC_of (by decide) (Nat.le_of_ble_eq_true rfl) ?_
  intro p e s m below meth c hx hb hml hrt hlk hown hnm hts hk hr hz ls hl
  replace hown : s.vm.findClass RX9 = some m.cls := hown
  replace hl : lv_has ls 1 [(0, .int u0)] := hl
  have hS : va_S (hA z) s.heap s.heap [] := va_S.rf
  suffices hgo : ∀ (H : Heap) (locs : List Loc), hR D z h H → va_S (hA z) s.heap H locs → W p l e ({ frames := 0, cells := 0, slots := 0, locals := 0 } : Room) s m ([.int u0] : List Value).toArray below meth c H locs 0 0 (MQ below (hQ D z h (some (.int r))) ([.int u0] : List Value).toArray s 0 0 (hA z)) (F0 m 0 ls []) from hgo _ _ hr hS
  clear hr hS
  intro H locs hr hS
  unfold zs_X9_isBase at hs
  refine lv_iload_n hx hb dX9_isBase_0 rfl (lv_at hl 0 rfl) ?_
  refine lv_iconst (v := 2) hx hb dX9_isBase_1 (by decide) ?_
  refine lv_icmp_lt (tgt := 15) hx hb dX9_isBase_2 (by decide) (fun c1 => ?_) (fun c1 => ?_)
  · rw [if_pos c1] at hs
    refine lv_iconst (v := 0) hx hb dX9_isBase_15 (by decide) ?_
    obtain rfl := Option.some.inj hs
    exact hv_zret hx hb hrt hlk hr hS (by decide) dX9_isBase_16
  · rw [if_neg c1] at hs
    refine lv_iload_n hx hb dX9_isBase_5 rfl (lv_at hl 0 rfl) ?_
    refine lv_bipush (v := 36) hx hb dX9_isBase_6 (by decide) ?_
    refine lv_icmp_gt (tgt := 15) hx hb dX9_isBase_8 (by decide) (fun c2 => ?_) (fun c2 => ?_)
    · rw [if_pos c2] at hs
      refine lv_iconst (v := 0) hx hb dX9_isBase_15 (by decide) ?_
      obtain rfl := Option.some.inj hs
      exact hv_zret hx hb hrt hlk hr hS (by decide) dX9_isBase_16
    · rw [if_neg c2] at hs
      refine lv_iconst (v := 1) hx hb dX9_isBase_11 (by decide) ?_
      refine lv_goto (tgt := 16) hx hb dX9_isBase_12 (by decide) ?_
      obtain rfl := Option.some.inj hs
      exact hv_zret hx hb hrt hlk hr hS (by decide) dX9_isBase_16
theorem dX9_digits_0 : decode cX9_digits 0 = .ok (.iload_n 1, 1) := by decide +kernel
theorem dX9_digits_1 : decode cX9_digits 1 = .ok (.invokestatic 243, 3) := by decide +kernel
theorem dX9_digits_4 : decode cX9_digits 4 = .ok (.ifCond .eq 10, 3) := by decide +kernel
theorem dX9_digits_7 : decode cX9_digits 7 = .ok (.iload_n 2, 1) := by decide +kernel
theorem dX9_digits_8 : decode cX9_digits 8 = .ok (.invokestatic 102, 3) := by decide +kernel
theorem dX9_digits_11 : decode cX9_digits 11 = .ok (.ifCond .ne 5, 3) := by decide +kernel
theorem dX9_digits_14 : decode cX9_digits 14 = .ok (.iconst (-1), 1) := by decide +kernel
theorem dX9_digits_15 : decode cX9_digits 15 = .ok (.ireturn, 1) := by decide +kernel
theorem dX9_digits_16 : decode cX9_digits 16 = .ok (.aload_n 0, 1) := by decide +kernel
theorem dX9_digits_17 : decode cX9_digits 17 = .ok (.getfield 65, 3) := by decide +kernel
theorem dX9_digits_20 : decode cX9_digits 20 = .ok (.aload_n 0, 1) := by decide +kernel
theorem dX9_digits_21 : decode cX9_digits 21 = .ok (.getfield 18, 3) := by decide +kernel
theorem dX9_digits_24 : decode cX9_digits 24 = .ok (.iload_n 1, 1) := by decide +kernel
theorem dX9_digits_25 : decode cX9_digits 25 = .ok (.aaload, 1) := by decide +kernel
theorem dX9_digits_26 : decode cX9_digits 26 = .ok (.iload_n 2, 1) := by decide +kernel
theorem dX9_digits_27 : decode cX9_digits 27 = .ok (.invokevirtual 273, 3) := by decide +kernel
theorem dX9_digits_30 : decode cX9_digits 30 = .ok (.ifCond .eq 21, 3) := by decide +kernel
theorem dX9_digits_33 : decode cX9_digits 33 = .ok (.aload_n 0, 1) := by decide +kernel
theorem dX9_digits_34 : decode cX9_digits 34 = .ok (.getfield 65, 3) := by decide +kernel
theorem dX9_digits_37 : decode cX9_digits 37 = .ok (.getfield 277, 3) := by decide +kernel
theorem dX9_digits_40 : decode cX9_digits 40 = .ok (.aload_n 0, 1) := by decide +kernel
theorem dX9_digits_41 : decode cX9_digits 41 = .ok (.getfield 65, 3) := by decide +kernel
theorem dX9_digits_44 : decode cX9_digits 44 = .ok (.getfield 280, 3) := by decide +kernel
theorem dX9_digits_47 : decode cX9_digits 47 = .ok (.iadd, 1) := by decide +kernel
theorem dX9_digits_48 : decode cX9_digits 48 = .ok (.goto 5, 3) := by decide +kernel
theorem dX9_digits_51 : decode cX9_digits 51 = .ok (.bipush (-4), 2) := by decide +kernel
theorem dX9_digits_53 : decode cX9_digits 53 = .ok (.ireturn, 1) := by decide +kernel
def zs_X9_digits (h : AH) (u0 : Nat) (u1 : Int32) (u2 : Int32) : Option (Int32 × AH) :=
  (zs_X9_isRatio h u1).bind fun x1 => (if x1 = 0 then some ((-1 : Int32), h) else (zs_X9_isBase h u2).bind fun x3 => (if x3 = 0 then some ((-1 : Int32), h) else (gR h u0 9 7).bind fun x5 => (gR h u0 9 1).bind fun x6 => (aR h x6 4 u1).bind fun x7 => (chk h x5 1).bind fun _ => (zs_X1_reckon h x5 x7 u2).bind fun x9 => (if x9.1 = 0 then some ((-4 : Int32), x9.2) else (gR x9.2 u0 9 7).bind fun x11 => (gI x9.2 x11 1 0).bind fun x12 => (gR x9.2 u0 9 7).bind fun x13 => (gI x9.2 x13 1 1).bind fun x14 => some (x12 + x14, x9.2))))
set_option maxRecDepth 100000 in
set_option maxHeartbeats 4000000 in
theorem zm_X9_digits (l : Launch) (D : hG) (z : Nat) {h : AH} {u0 : Nat} {u1 : Int32} {u2 : Int32} {r : Int32} {h' : AH} (hs : zs_X9_digits h u0 u1 u2 = some (r, h')) : hC l D z yX9_digits cX9_digits 3 (Option.some Jvm.ClassFile.FieldType.int) 6 157 0 0 [.ref u0, .int u1, .int u2] h h' (some (.int r)) := by
  refine hC_of (by decide) (Nat.le_of_ble_eq_true rfl) ?_
  intro p e s m below meth c hx hb hml hrt hlk hown hnm hts hk hr hz ls hl
  replace hown : s.vm.findClass RX9 = some m.cls := hown
  replace hl : lv_has ls 3 [(0, .ref u0), (1, .int u1), (2, .int u2)] := hl
  have hS : va_S (hA z) s.heap s.heap [] := va_S.rf
  suffices hgo : ∀ (H : Heap) (locs : List Loc), hR D z h H → va_S (hA z) s.heap H locs → W p l e ({ frames := 6, cells := 0, slots := 0, locals := 157 } : Room) s m ([.ref u0, .int u1, .int u2] : List Value).toArray below meth c H locs 0 0 (MQ below (hQ D z h' (some (.int r))) ([.ref u0, .int u1, .int u2] : List Value).toArray s 0 0 (hA z)) (F0 m 0 ls []) from hgo _ _ hr hS
  clear hr hS
  intro H locs hr hS
  unfold zs_X9_digits at hs
  refine lv_iload_n hx hb dX9_digits_0 rfl (lv_at hl 1 rfl) ?_
  obtain ⟨x1, ex1, hs⟩ := bi_inv hs
  refine hv_S1 (n := 1) [.int u1] [] hx hb hml hown hts hk hr hz hS (zm_X9_isRatio l D z ex1) tw_674 tw_675 tw_1 tw_676 (by decide +kernel) (by decide) ⟨(Nat.zero_le _), (Nat.zero_le _)⟩ rfl hl.1 (Nat.le_of_ble_eq_true rfl) dX9_digits_1 rfl (fun H locs hr hS => ?_)
  refine lv_if_eq (tgt := 14) hx hb dX9_digits_4 (by decide) (fun c2 => ?_) (fun c2 => ?_)
  · rw [if_pos c2] at hs
    refine lv_iconst (v := (-1)) hx hb dX9_digits_14 (by decide) ?_
    obtain ⟨rfl, rfl⟩ := Prod.mk.inj (Option.some.inj hs)
    exact hv_iret hx hb hrt hlk hr hS dX9_digits_15
  · rw [if_neg c2] at hs
    refine lv_iload_n hx hb dX9_digits_7 rfl (lv_at hl 2 rfl) ?_
    obtain ⟨x3, ex3, hs⟩ := bi_inv hs
    refine hv_S1 (n := 1) [.int u2] [] hx hb hml hown hts hk hr hz hS (zm_X9_isBase l D z ex3) tw_332 tw_333 tw_1 tw_334 (by decide +kernel) (by decide) ⟨(Nat.zero_le _), (Nat.zero_le _)⟩ rfl hl.1 (Nat.le_of_ble_eq_true rfl) dX9_digits_8 rfl (fun H locs hr hS => ?_)
    refine lv_if_ne (tgt := 16) hx hb dX9_digits_11 (by decide) (fun c4 => ?_) (fun c4 => ?_)
    · rw [if_neg c4] at hs
      refine lv_aload_n hx hb dX9_digits_16 rfl (lv_at hl 0 rfl) ?_
      obtain ⟨x5, ex5, hs⟩ := bi_inv hs
      refine hv_gR (C := RX9) (T := TX9) (N := 12) (ci := 9) hx hb hts inX9 hown hk hr rfl 7 (by decide) (hts _ tw_282) ex5 dX9_digits_17 ?_
      refine lv_aload_n hx hb dX9_digits_20 rfl (lv_at hl 0 rfl) ?_
      obtain ⟨x6, ex6, hs⟩ := bi_inv hs
      refine hv_gR (C := RX9) (T := TX9) (N := 12) (ci := 9) hx hb hts inX9 hown hk hr rfl 1 (by decide) (hts _ tw_276) ex6 dX9_digits_21 ?_
      refine lv_iload_n hx hb dX9_digits_24 rfl (lv_at hl 1 rfl) ?_
      obtain ⟨x7, ex7, hs⟩ := bi_inv hs
      refine hv_aR (kd := 4) hx hb hk hr rfl ex7 dX9_digits_25 ?_
      refine lv_iload_n hx hb dX9_digits_26 rfl (lv_at hl 2 rfl) ?_
      obtain ⟨_, ex8, hs⟩ := bi_inv hs
      obtain ⟨x9, ex9, hs⟩ := bi_inv hs
      refine hv_V1 (n := 2) [.ref x7, .int u2] [] hx hb hml hown hts hk hr hz hS (zm_X1_reckon l D z ex9) ex8 rfl tw_737 tw_738 tw_739 tw_9 tw_740 (by decide +kernel) (by decide) ⟨(Nat.zero_le _), (Nat.zero_le _)⟩ rfl hl.1 (Nat.le_of_ble_eq_true rfl) dX9_digits_27 rfl (fun H locs hr hS => ?_)
      refine lv_if_eq (tgt := 51) hx hb dX9_digits_30 (by decide) (fun c10 => ?_) (fun c10 => ?_)
      · rw [if_pos c10] at hs
        refine lv_bipush (v := (-4)) hx hb dX9_digits_51 (by decide) ?_
        obtain ⟨rfl, rfl⟩ := Prod.mk.inj (Option.some.inj hs)
        exact hv_iret hx hb hrt hlk hr hS dX9_digits_53
      · rw [if_neg c10] at hs
        refine lv_aload_n hx hb dX9_digits_33 rfl (lv_at hl 0 rfl) ?_
        obtain ⟨x11, ex11, hs⟩ := bi_inv hs
        refine hv_gR (C := RX9) (T := TX9) (N := 12) (ci := 9) hx hb hts inX9 hown hk hr rfl 7 (by decide) (hts _ tw_282) ex11 dX9_digits_34 ?_
        obtain ⟨x12, ex12, hs⟩ := bi_inv hs
        refine hv_gI (C := RX1) (T := TX1) (N := 8) (ci := 1) hx hb hts inX1 hown hk hr rfl 0 (by decide) (hts _ tw_237) ex12 dX9_digits_37 ?_
        refine lv_aload_n hx hb dX9_digits_40 rfl (lv_at hl 0 rfl) ?_
        obtain ⟨x13, ex13, hs⟩ := bi_inv hs
        refine hv_gR (C := RX9) (T := TX9) (N := 12) (ci := 9) hx hb hts inX9 hown hk hr rfl 7 (by decide) (hts _ tw_282) ex13 dX9_digits_41 ?_
        obtain ⟨x14, ex14, hs⟩ := bi_inv hs
        refine hv_gI (C := RX1) (T := TX1) (N := 8) (ci := 1) hx hb hts inX1 hown hk hr rfl 1 (by decide) (hts _ tw_239) ex14 dX9_digits_44 ?_
        refine lv_iadd hx hb dX9_digits_47 ?_
        refine lv_goto (tgt := 53) hx hb dX9_digits_48 (by decide) ?_
        obtain ⟨rfl, rfl⟩ := Prod.mk.inj (Option.some.inj hs)
        exact hv_iret hx hb hrt hlk hr hS dX9_digits_53
    · rw [if_pos c4] at hs
      refine lv_iconst (v := (-1)) hx hb dX9_digits_14 (by decide) ?_
      obtain ⟨rfl, rfl⟩ := Prod.mk.inj (Option.some.inj hs)
      exact hv_iret hx hb hrt hlk hr hS dX9_digits_15
theorem dX9_divisor_0 : decode cX9_divisor 0 = .ok (.iload_n 1, 1) := by decide +kernel
theorem dX9_divisor_1 : decode cX9_divisor 1 = .ok (.iload_n 2, 1) := by decide +kernel
theorem dX9_divisor_2 : decode cX9_divisor 2 = .ok (.iload_n 3, 1) := by decide +kernel
theorem dX9_divisor_3 : decode cX9_divisor 3 = .ok (.invokestatic 154, 3) := by decide +kernel
theorem dX9_divisor_6 : decode cX9_divisor 6 = .ok (.ifCond .ne 5, 3) := by decide +kernel
theorem dX9_divisor_9 : decode cX9_divisor 9 = .ok (.iconst (-1), 1) := by decide +kernel
theorem dX9_divisor_10 : decode cX9_divisor 10 = .ok (.ireturn, 1) := by decide +kernel
theorem dX9_divisor_11 : decode cX9_divisor 11 = .ok (.aload_n 0, 1) := by decide +kernel
theorem dX9_divisor_12 : decode cX9_divisor 12 = .ok (.getfield 49, 3) := by decide +kernel
theorem dX9_divisor_15 : decode cX9_divisor 15 = .ok (.aload_n 0, 1) := by decide +kernel
theorem dX9_divisor_16 : decode cX9_divisor 16 = .ok (.getfield 11, 3) := by decide +kernel
theorem dX9_divisor_19 : decode cX9_divisor 19 = .ok (.iload_n 1, 1) := by decide +kernel
theorem dX9_divisor_20 : decode cX9_divisor 20 = .ok (.aaload, 1) := by decide +kernel
theorem dX9_divisor_21 : decode cX9_divisor 21 = .ok (.aload_n 0, 1) := by decide +kernel
theorem dX9_divisor_22 : decode cX9_divisor 22 = .ok (.getfield 11, 3) := by decide +kernel
theorem dX9_divisor_25 : decode cX9_divisor 25 = .ok (.iload_n 2, 1) := by decide +kernel
theorem dX9_divisor_26 : decode cX9_divisor 26 = .ok (.aaload, 1) := by decide +kernel
theorem dX9_divisor_27 : decode cX9_divisor 27 = .ok (.aload_n 0, 1) := by decide +kernel
theorem dX9_divisor_28 : decode cX9_divisor 28 = .ok (.getfield 79, 3) := by decide +kernel
theorem dX9_divisor_31 : decode cX9_divisor 31 = .ok (.invokevirtual 188, 3) := by decide +kernel
theorem dX9_divisor_34 : decode cX9_divisor 34 = .ok (.aload_n 0, 1) := by decide +kernel
theorem dX9_divisor_35 : decode cX9_divisor 35 = .ok (.aload_n 0, 1) := by decide +kernel
theorem dX9_divisor_36 : decode cX9_divisor 36 = .ok (.getfield 79, 3) := by decide +kernel
theorem dX9_divisor_39 : decode cX9_divisor 39 = .ok (.iload_n 3, 1) := by decide +kernel
theorem dX9_divisor_40 : decode cX9_divisor 40 = .ok (.invokevirtual 116, 3) := by decide +kernel
theorem dX9_divisor_43 : decode cX9_divisor 43 = .ok (.ireturn, 1) := by decide +kernel
def zs_X9_divisor (h : AH) (u0 : Nat) (u1 : Int32) (u2 : Int32) (u3 : Int32) : Option (Int32 × AH) :=
  (zs_X9_areSlots h u1 u2 u3).bind fun x1 => (if x1 = 0 then some ((-1 : Int32), h) else (gR h u0 9 5).bind fun x3 => (gR h u0 9 0).bind fun x4 => (aR h x4 3 u1).bind fun x5 => (gR h u0 9 0).bind fun x6 => (aR h x6 3 u2).bind fun x7 => (gR h u0 9 10).bind fun x8 => (chk h x3 3).bind fun _ => (zs_X3_commonDivisor h x3 x5 x7 x8).bind fun g10 => (gR g10 u0 9 10).bind fun x11 => (chk g10 u0 9).bind fun _ => (zs_X9_keep g10 u0 x11 u3).bind fun x13 => some (x13.1, x13.2))
set_option maxRecDepth 100000 in
set_option maxHeartbeats 4000000 in
theorem zm_X9_divisor (l : Launch) (D : hG) (z : Nat) {h : AH} {u0 : Nat} {u1 : Int32} {u2 : Int32} {u3 : Int32} {r : Int32} {h' : AH} (hs : zs_X9_divisor h u0 u1 u2 u3 = some (r, h')) : hC l D z yX9_divisor cX9_divisor 4 (Option.some Jvm.ClassFile.FieldType.int) 5 134 0 0 [.ref u0, .int u1, .int u2, .int u3] h h' (some (.int r)) := by
  refine hC_of (by decide) (Nat.le_of_ble_eq_true rfl) ?_
  intro p e s m below meth c hx hb hml hrt hlk hown hnm hts hk hr hz ls hl
  replace hown : s.vm.findClass RX9 = some m.cls := hown
  replace hl : lv_has ls 4 [(0, .ref u0), (1, .int u1), (2, .int u2), (3, .int u3)] := hl
  have hS : va_S (hA z) s.heap s.heap [] := va_S.rf
  suffices hgo : ∀ (H : Heap) (locs : List Loc), hR D z h H → va_S (hA z) s.heap H locs → W p l e ({ frames := 5, cells := 0, slots := 0, locals := 134 } : Room) s m ([.ref u0, .int u1, .int u2, .int u3] : List Value).toArray below meth c H locs 0 0 (MQ below (hQ D z h' (some (.int r))) ([.ref u0, .int u1, .int u2, .int u3] : List Value).toArray s 0 0 (hA z)) (F0 m 0 ls []) from hgo _ _ hr hS
  clear hr hS
  intro H locs hr hS
  unfold zs_X9_divisor at hs
  refine lv_iload_n hx hb dX9_divisor_0 rfl (lv_at hl 1 rfl) ?_
  refine lv_iload_n hx hb dX9_divisor_1 rfl (lv_at hl 2 rfl) ?_
  refine lv_iload_n hx hb dX9_divisor_2 rfl (lv_at hl 3 rfl) ?_
  obtain ⟨x1, ex1, hs⟩ := bi_inv hs
  refine hv_S1 (n := 3) [.int u1, .int u2, .int u3] [] hx hb hml hown hts hk hr hz hS (zm_X9_areSlots l D z ex1) tw_447 tw_448 tw_1 tw_449 (by decide +kernel) (by decide) ⟨(Nat.zero_le _), (Nat.zero_le _)⟩ rfl hl.1 (Nat.le_of_ble_eq_true rfl) dX9_divisor_3 rfl (fun H locs hr hS => ?_)
  refine lv_if_ne (tgt := 11) hx hb dX9_divisor_6 (by decide) (fun c2 => ?_) (fun c2 => ?_)
  · rw [if_neg c2] at hs
    refine lv_aload_n hx hb dX9_divisor_11 rfl (lv_at hl 0 rfl) ?_
    obtain ⟨x3, ex3, hs⟩ := bi_inv hs
    refine hv_gR (C := RX9) (T := TX9) (N := 12) (ci := 9) hx hb hts inX9 hown hk hr rfl 5 (by decide) (hts _ tw_280) ex3 dX9_divisor_12 ?_
    refine lv_aload_n hx hb dX9_divisor_15 rfl (lv_at hl 0 rfl) ?_
    obtain ⟨x4, ex4, hs⟩ := bi_inv hs
    refine hv_gR (C := RX9) (T := TX9) (N := 12) (ci := 9) hx hb hts inX9 hown hk hr rfl 0 (by decide) (hts _ tw_275) ex4 dX9_divisor_16 ?_
    refine lv_iload_n hx hb dX9_divisor_19 rfl (lv_at hl 1 rfl) ?_
    obtain ⟨x5, ex5, hs⟩ := bi_inv hs
    refine hv_aR (kd := 3) hx hb hk hr rfl ex5 dX9_divisor_20 ?_
    refine lv_aload_n hx hb dX9_divisor_21 rfl (lv_at hl 0 rfl) ?_
    obtain ⟨x6, ex6, hs⟩ := bi_inv hs
    refine hv_gR (C := RX9) (T := TX9) (N := 12) (ci := 9) hx hb hts inX9 hown hk hr rfl 0 (by decide) (hts _ tw_275) ex6 dX9_divisor_22 ?_
    refine lv_iload_n hx hb dX9_divisor_25 rfl (lv_at hl 2 rfl) ?_
    obtain ⟨x7, ex7, hs⟩ := bi_inv hs
    refine hv_aR (kd := 3) hx hb hk hr rfl ex7 dX9_divisor_26 ?_
    refine lv_aload_n hx hb dX9_divisor_27 rfl (lv_at hl 0 rfl) ?_
    obtain ⟨x8, ex8, hs⟩ := bi_inv hs
    refine hv_gR (C := RX9) (T := TX9) (N := 12) (ci := 9) hx hb hts inX9 hown hk hr rfl 10 (by decide) (hts _ tw_285) ex8 dX9_divisor_28 ?_
    obtain ⟨_, ex9, hs⟩ := bi_inv hs
    obtain ⟨g10, eg10, hs⟩ := bi_inv hs
    refine hv_V0 (n := 3) [.ref x5, .ref x7, .ref x8] [] hx hb hml hown hts hk hr hz hS (zm_X3_commonDivisor l D z eg10) ex9 rfl tw_532 tw_533 tw_534 tw_7 tw_535 (by decide +kernel) (by decide) ⟨(Nat.zero_le _), (Nat.zero_le _)⟩ rfl hl.1 (Nat.le_of_ble_eq_true rfl) dX9_divisor_31 rfl (fun H locs hr hS => ?_)
    refine lv_aload_n hx hb dX9_divisor_34 rfl (lv_at hl 0 rfl) ?_
    refine lv_aload_n hx hb dX9_divisor_35 rfl (lv_at hl 0 rfl) ?_
    obtain ⟨x11, ex11, hs⟩ := bi_inv hs
    refine hv_gR (C := RX9) (T := TX9) (N := 12) (ci := 9) hx hb hts inX9 hown hk hr rfl 10 (by decide) (hts _ tw_285) ex11 dX9_divisor_36 ?_
    refine lv_iload_n hx hb dX9_divisor_39 rfl (lv_at hl 3 rfl) ?_
    obtain ⟨_, ex12, hs⟩ := bi_inv hs
    obtain ⟨x13, ex13, hs⟩ := bi_inv hs
    refine hv_V1 (n := 2) [.ref x11, .int u3] [] hx hb hml hown hts hk hr hz hS (zm_X9_keep l D z ex13) ex12 rfl tw_364 tw_366 ts_2 tw_1 tw_367 (by decide +kernel) (by decide) ⟨(Nat.zero_le _), (Nat.zero_le _)⟩ rfl hl.1 (Nat.le_of_ble_eq_true rfl) dX9_divisor_40 rfl (fun H locs hr hS => ?_)
    obtain ⟨rfl, rfl⟩ := Prod.mk.inj (Option.some.inj hs)
    exact hv_iret hx hb hrt hlk hr hS dX9_divisor_43
  · rw [if_pos c2] at hs
    refine lv_iconst (v := (-1)) hx hb dX9_divisor_9 (by decide) ?_
    obtain ⟨rfl, rfl⟩ := Prod.mk.inj (Option.some.inj hs)
    exact hv_iret hx hb hrt hlk hr hS dX9_divisor_10
theorem dX9_feed_0 : decode cX9_feed 0 = .ok (.iload_n 3, 1) := by decide +kernel
theorem dX9_feed_1 : decode cX9_feed 1 = .ok (.iconst 1, 1) := by decide +kernel
theorem dX9_feed_2 : decode cX9_feed 2 = .ok (.if_icmp .lt 9, 3) := by decide +kernel
theorem dX9_feed_5 : decode cX9_feed 5 = .ok (.iload_n 3, 1) := by decide +kernel
theorem dX9_feed_6 : decode cX9_feed 6 = .ok (.bipush 8, 2) := by decide +kernel
theorem dX9_feed_8 : decode cX9_feed 8 = .ok (.if_icmp .le 5, 3) := by decide +kernel
theorem dX9_feed_11 : decode cX9_feed 11 = .ok (.iconst (-1), 1) := by decide +kernel
theorem dX9_feed_12 : decode cX9_feed 12 = .ok (.ireturn, 1) := by decide +kernel
theorem dX9_feed_13 : decode cX9_feed 13 = .ok (.aload_n 0, 1) := by decide +kernel
theorem dX9_feed_14 : decode cX9_feed 14 = .ok (.getfield 26, 3) := by decide +kernel
theorem dX9_feed_17 : decode cX9_feed 17 = .ok (.lload_n 1, 1) := by decide +kernel
theorem dX9_feed_18 : decode cX9_feed 18 = .ok (.iload_n 3, 1) := by decide +kernel
theorem dX9_feed_19 : decode cX9_feed 19 = .ok (.invokevirtual 94, 3) := by decide +kernel
theorem dX9_feed_22 : decode cX9_feed 22 = .ok (.ifCond .eq 13, 3) := by decide +kernel
theorem dX9_feed_25 : decode cX9_feed 25 = .ok (.aload_n 0, 1) := by decide +kernel
theorem dX9_feed_26 : decode cX9_feed 26 = .ok (.getfield 26, 3) := by decide +kernel
theorem dX9_feed_29 : decode cX9_feed 29 = .ok (.getfield 98, 3) := by decide +kernel
theorem dX9_feed_32 : decode cX9_feed 32 = .ok (.goto 5, 3) := by decide +kernel
theorem dX9_feed_35 : decode cX9_feed 35 = .ok (.bipush (-5), 2) := by decide +kernel
theorem dX9_feed_37 : decode cX9_feed 37 = .ok (.ireturn, 1) := by decide +kernel
def zs_X9_feed (h : AH) (u0 : Nat) (u1 : Int64) (u3 : Int32) : Option (Int32 × AH) :=
  (if u3 < (1 : Int32) then some ((-1 : Int32), h) else (if u3 ≤ (8 : Int32) then (gR h u0 9 2).bind fun x3 => (chk h x3 5).bind fun _ => (zs_X5_takeBytes h x3 u1 u3).bind fun x5 => (if x5.1 = 0 then some ((-5 : Int32), x5.2) else (gR x5.2 u0 9 2).bind fun x7 => (gI x5.2 x7 5 0).bind fun x8 => some (x8, x5.2)) else some ((-1 : Int32), h)))
set_option maxRecDepth 100000 in
set_option maxHeartbeats 4000000 in
theorem zm_X9_feed (l : Launch) (D : hG) (z : Nat) {h : AH} {u0 : Nat} {u1 : Int64} {u3 : Int32} {r : Int32} {h' : AH} (hs : zs_X9_feed h u0 u1 u3 = some (r, h')) : hC l D z yX9_feed cX9_feed 4 (Option.some Jvm.ClassFile.FieldType.int) 1 24 0 0 [.ref u0, .long u1, .int u3] h h' (some (.int r)) := by
  refine hC_of (by decide) (Nat.le_of_ble_eq_true rfl) ?_
  intro p e s m below meth c hx hb hml hrt hlk hown hnm hts hk hr hz ls hl
  replace hown : s.vm.findClass RX9 = some m.cls := hown
  replace hl : lv_has ls 4 [(0, .ref u0), (1, .long u1), (3, .int u3)] := hl
  have hS : va_S (hA z) s.heap s.heap [] := va_S.rf
  suffices hgo : ∀ (H : Heap) (locs : List Loc), hR D z h H → va_S (hA z) s.heap H locs → W p l e ({ frames := 1, cells := 0, slots := 0, locals := 24 } : Room) s m ([.ref u0, .long u1, .int u3] : List Value).toArray below meth c H locs 0 0 (MQ below (hQ D z h' (some (.int r))) ([.ref u0, .long u1, .int u3] : List Value).toArray s 0 0 (hA z)) (F0 m 0 ls []) from hgo _ _ hr hS
  clear hr hS
  intro H locs hr hS
  unfold zs_X9_feed at hs
  refine lv_iload_n hx hb dX9_feed_0 rfl (lv_at hl 2 rfl) ?_
  refine lv_iconst (v := 1) hx hb dX9_feed_1 (by decide) ?_
  refine lv_icmp_lt (tgt := 11) hx hb dX9_feed_2 (by decide) (fun c1 => ?_) (fun c1 => ?_)
  · rw [if_pos c1] at hs
    refine lv_iconst (v := (-1)) hx hb dX9_feed_11 (by decide) ?_
    obtain ⟨rfl, rfl⟩ := Prod.mk.inj (Option.some.inj hs)
    exact hv_iret hx hb hrt hlk hr hS dX9_feed_12
  · rw [if_neg c1] at hs
    refine lv_iload_n hx hb dX9_feed_5 rfl (lv_at hl 2 rfl) ?_
    refine lv_bipush (v := 8) hx hb dX9_feed_6 (by decide) ?_
    refine lv_icmp_le (tgt := 13) hx hb dX9_feed_8 (by decide) (fun c2 => ?_) (fun c2 => ?_)
    · rw [if_pos c2] at hs
      refine lv_aload_n hx hb dX9_feed_13 rfl (lv_at hl 0 rfl) ?_
      obtain ⟨x3, ex3, hs⟩ := bi_inv hs
      refine hv_gR (C := RX9) (T := TX9) (N := 12) (ci := 9) hx hb hts inX9 hown hk hr rfl 2 (by decide) (hts _ tw_277) ex3 dX9_feed_14 ?_
      refine lv_lload_n hx hb dX9_feed_17 rfl (lv_at hl 1 rfl) ?_
      refine lv_iload_n hx hb dX9_feed_18 rfl (lv_at hl 2 rfl) ?_
      obtain ⟨_, ex4, hs⟩ := bi_inv hs
      obtain ⟨x5, ex5, hs⟩ := bi_inv hs
      refine hv_V1 (n := 2) [.long u1, .int u3] [] hx hb hml hown hts hk hr hz hS (zm_X5_takeBytes l D z ex5) ex4 rfl tw_323 tw_324 tw_325 tw_4 tw_326 (by decide +kernel) (by decide) ⟨(Nat.zero_le _), (Nat.zero_le _)⟩ rfl hl.1 (Nat.le_of_ble_eq_true rfl) dX9_feed_19 rfl (fun H locs hr hS => ?_)
      refine lv_if_eq (tgt := 35) hx hb dX9_feed_22 (by decide) (fun c6 => ?_) (fun c6 => ?_)
      · rw [if_pos c6] at hs
        refine lv_bipush (v := (-5)) hx hb dX9_feed_35 (by decide) ?_
        obtain ⟨rfl, rfl⟩ := Prod.mk.inj (Option.some.inj hs)
        exact hv_iret hx hb hrt hlk hr hS dX9_feed_37
      · rw [if_neg c6] at hs
        refine lv_aload_n hx hb dX9_feed_25 rfl (lv_at hl 0 rfl) ?_
        obtain ⟨x7, ex7, hs⟩ := bi_inv hs
        refine hv_gR (C := RX9) (T := TX9) (N := 12) (ci := 9) hx hb hts inX9 hown hk hr rfl 2 (by decide) (hts _ tw_277) ex7 dX9_feed_26 ?_
        obtain ⟨x8, ex8, hs⟩ := bi_inv hs
        refine hv_gI (C := RX5) (T := TX5) (N := 2) (ci := 5) hx hb hts inX5 hown hk hr rfl 0 (by decide) (hts _ tw_98) ex8 dX9_feed_29 ?_
        refine lv_goto (tgt := 37) hx hb dX9_feed_32 (by decide) ?_
        obtain ⟨rfl, rfl⟩ := Prod.mk.inj (Option.some.inj hs)
        exact hv_iret hx hb hrt hlk hr hS dX9_feed_37
    · rw [if_neg c2] at hs
      refine lv_iconst (v := (-1)) hx hb dX9_feed_11 (by decide) ?_
      obtain ⟨rfl, rfl⟩ := Prod.mk.inj (Option.some.inj hs)
      exact hv_iret hx hb hrt hlk hr hS dX9_feed_12
theorem dX9_init_0 : decode cX9_init 0 = .ok (.aload_n 0, 1) := by decide +kernel
theorem dX9_init_1 : decode cX9_init 1 = .ok (.invokespecial 3, 3) := by decide +kernel
theorem dX9_init_4 : decode cX9_init 4 = .ok (.aload_n 0, 1) := by decide +kernel
theorem dX9_init_5 : decode cX9_init 5 = .ok (.bipush 24, 2) := by decide +kernel
theorem dX9_init_7 : decode cX9_init 7 = .ok (.anewarray 9, 3) := by decide +kernel
theorem dX9_init_10 : decode cX9_init 10 = .ok (.putfield 11, 3) := by decide +kernel
theorem dX9_init_13 : decode cX9_init 13 = .ok (.iconst 0, 1) := by decide +kernel
theorem dX9_init_14 : decode cX9_init 14 = .ok (.istore_n 1, 1) := by decide +kernel
theorem dX9_init_15 : decode cX9_init 15 = .ok (.iload_n 1, 1) := by decide +kernel
theorem dX9_init_16 : decode cX9_init 16 = .ok (.bipush 24, 2) := by decide +kernel
theorem dX9_init_18 : decode cX9_init 18 = .ok (.if_icmp .ge 22, 3) := by decide +kernel
theorem dX9_init_21 : decode cX9_init 21 = .ok (.aload_n 0, 1) := by decide +kernel
theorem dX9_init_22 : decode cX9_init 22 = .ok (.getfield 11, 3) := by decide +kernel
theorem dX9_init_25 : decode cX9_init 25 = .ok (.iload_n 1, 1) := by decide +kernel
theorem dX9_init_26 : decode cX9_init 26 = .ok (.new 9, 3) := by decide +kernel
theorem dX9_init_29 : decode cX9_init 29 = .ok (.dup, 1) := by decide +kernel
theorem dX9_init_30 : decode cX9_init 30 = .ok (.invokespecial 15, 3) := by decide +kernel
theorem dX9_init_33 : decode cX9_init 33 = .ok (.aastore, 1) := by decide +kernel
theorem dX9_init_34 : decode cX9_init 34 = .ok (.iinc 1 1, 3) := by decide +kernel
theorem dX9_init_37 : decode cX9_init 37 = .ok (.goto (-22), 3) := by decide +kernel
theorem dX9_init_40 : decode cX9_init 40 = .ok (.aload_n 0, 1) := by decide +kernel
theorem dX9_init_41 : decode cX9_init 41 = .ok (.bipush 12, 2) := by decide +kernel
theorem dX9_init_43 : decode cX9_init 43 = .ok (.anewarray 16, 3) := by decide +kernel
theorem dX9_init_46 : decode cX9_init 46 = .ok (.putfield 18, 3) := by decide +kernel
theorem dX9_init_49 : decode cX9_init 49 = .ok (.iconst 0, 1) := by decide +kernel
theorem dX9_init_50 : decode cX9_init 50 = .ok (.istore_n 1, 1) := by decide +kernel
theorem dX9_init_51 : decode cX9_init 51 = .ok (.iload_n 1, 1) := by decide +kernel
theorem dX9_init_52 : decode cX9_init 52 = .ok (.bipush 12, 2) := by decide +kernel
theorem dX9_init_54 : decode cX9_init 54 = .ok (.if_icmp .ge 22, 3) := by decide +kernel
theorem dX9_init_57 : decode cX9_init 57 = .ok (.aload_n 0, 1) := by decide +kernel
theorem dX9_init_58 : decode cX9_init 58 = .ok (.getfield 18, 3) := by decide +kernel
theorem dX9_init_61 : decode cX9_init 61 = .ok (.iload_n 1, 1) := by decide +kernel
theorem dX9_init_62 : decode cX9_init 62 = .ok (.new 16, 3) := by decide +kernel
theorem dX9_init_65 : decode cX9_init 65 = .ok (.dup, 1) := by decide +kernel
theorem dX9_init_66 : decode cX9_init 66 = .ok (.invokespecial 22, 3) := by decide +kernel
theorem dX9_init_69 : decode cX9_init 69 = .ok (.aastore, 1) := by decide +kernel
theorem dX9_init_70 : decode cX9_init 70 = .ok (.iinc 1 1, 3) := by decide +kernel
theorem dX9_init_73 : decode cX9_init 73 = .ok (.goto (-22), 3) := by decide +kernel
theorem dX9_init_76 : decode cX9_init 76 = .ok (.aload_n 0, 1) := by decide +kernel
theorem dX9_init_77 : decode cX9_init 77 = .ok (.new 23, 3) := by decide +kernel
theorem dX9_init_80 : decode cX9_init 80 = .ok (.dup, 1) := by decide +kernel
theorem dX9_init_81 : decode cX9_init 81 = .ok (.invokespecial 25, 3) := by decide +kernel
theorem dX9_init_84 : decode cX9_init 84 = .ok (.putfield 26, 3) := by decide +kernel
theorem dX9_init_87 : decode cX9_init 87 = .ok (.aload_n 0, 1) := by decide +kernel
theorem dX9_init_88 : decode cX9_init 88 = .ok (.new 30, 3) := by decide +kernel
theorem dX9_init_91 : decode cX9_init 91 = .ok (.dup, 1) := by decide +kernel
theorem dX9_init_92 : decode cX9_init 92 = .ok (.invokespecial 32, 3) := by decide +kernel
theorem dX9_init_95 : decode cX9_init 95 = .ok (.putfield 33, 3) := by decide +kernel
theorem dX9_init_98 : decode cX9_init 98 = .ok (.new 37, 3) := by decide +kernel
theorem dX9_init_101 : decode cX9_init 101 = .ok (.dup, 1) := by decide +kernel
theorem dX9_init_102 : decode cX9_init 102 = .ok (.invokespecial 39, 3) := by decide +kernel
theorem dX9_init_105 : decode cX9_init 105 = .ok (.astore_n 1, 1) := by decide +kernel
theorem dX9_init_106 : decode cX9_init 106 = .ok (.new 40, 3) := by decide +kernel
theorem dX9_init_109 : decode cX9_init 109 = .ok (.dup, 1) := by decide +kernel
theorem dX9_init_110 : decode cX9_init 110 = .ok (.aload_n 1, 1) := by decide +kernel
theorem dX9_init_111 : decode cX9_init 111 = .ok (.invokespecial 42, 3) := by decide +kernel
theorem dX9_init_114 : decode cX9_init 114 = .ok (.astore_n 2, 1) := by decide +kernel
theorem dX9_init_115 : decode cX9_init 115 = .ok (.aload_n 0, 1) := by decide +kernel
theorem dX9_init_116 : decode cX9_init 116 = .ok (.aload_n 1, 1) := by decide +kernel
theorem dX9_init_117 : decode cX9_init 117 = .ok (.putfield 45, 3) := by decide +kernel
theorem dX9_init_120 : decode cX9_init 120 = .ok (.aload_n 0, 1) := by decide +kernel
theorem dX9_init_121 : decode cX9_init 121 = .ok (.aload_n 2, 1) := by decide +kernel
theorem dX9_init_122 : decode cX9_init 122 = .ok (.putfield 49, 3) := by decide +kernel
theorem dX9_init_125 : decode cX9_init 125 = .ok (.aload_n 0, 1) := by decide +kernel
theorem dX9_init_126 : decode cX9_init 126 = .ok (.new 53, 3) := by decide +kernel
theorem dX9_init_129 : decode cX9_init 129 = .ok (.dup, 1) := by decide +kernel
theorem dX9_init_130 : decode cX9_init 130 = .ok (.aload_n 1, 1) := by decide +kernel
theorem dX9_init_131 : decode cX9_init 131 = .ok (.aload_n 2, 1) := by decide +kernel
theorem dX9_init_132 : decode cX9_init 132 = .ok (.invokespecial 55, 3) := by decide +kernel
theorem dX9_init_135 : decode cX9_init 135 = .ok (.putfield 58, 3) := by decide +kernel
theorem dX9_init_138 : decode cX9_init 138 = .ok (.aload_n 0, 1) := by decide +kernel
theorem dX9_init_139 : decode cX9_init 139 = .ok (.new 62, 3) := by decide +kernel
theorem dX9_init_142 : decode cX9_init 142 = .ok (.dup, 1) := by decide +kernel
theorem dX9_init_143 : decode cX9_init 143 = .ok (.aload_n 1, 1) := by decide +kernel
theorem dX9_init_144 : decode cX9_init 144 = .ok (.invokespecial 64, 3) := by decide +kernel
theorem dX9_init_147 : decode cX9_init 147 = .ok (.putfield 65, 3) := by decide +kernel
theorem dX9_init_150 : decode cX9_init 150 = .ok (.aload_n 0, 1) := by decide +kernel
theorem dX9_init_151 : decode cX9_init 151 = .ok (.new 69, 3) := by decide +kernel
theorem dX9_init_154 : decode cX9_init 154 = .ok (.dup, 1) := by decide +kernel
theorem dX9_init_155 : decode cX9_init 155 = .ok (.invokespecial 71, 3) := by decide +kernel
theorem dX9_init_158 : decode cX9_init 158 = .ok (.putfield 72, 3) := by decide +kernel
theorem dX9_init_161 : decode cX9_init 161 = .ok (.aload_n 0, 1) := by decide +kernel
theorem dX9_init_162 : decode cX9_init 162 = .ok (.new 69, 3) := by decide +kernel
theorem dX9_init_165 : decode cX9_init 165 = .ok (.dup, 1) := by decide +kernel
theorem dX9_init_166 : decode cX9_init 166 = .ok (.invokespecial 71, 3) := by decide +kernel
theorem dX9_init_169 : decode cX9_init 169 = .ok (.putfield 76, 3) := by decide +kernel
theorem dX9_init_172 : decode cX9_init 172 = .ok (.aload_n 0, 1) := by decide +kernel
theorem dX9_init_173 : decode cX9_init 173 = .ok (.new 9, 3) := by decide +kernel
theorem dX9_init_176 : decode cX9_init 176 = .ok (.dup, 1) := by decide +kernel
theorem dX9_init_177 : decode cX9_init 177 = .ok (.invokespecial 15, 3) := by decide +kernel
theorem dX9_init_180 : decode cX9_init 180 = .ok (.putfield 79, 3) := by decide +kernel
theorem dX9_init_183 : decode cX9_init 183 = .ok (.aload_n 0, 1) := by decide +kernel
theorem dX9_init_184 : decode cX9_init 184 = .ok (.new 9, 3) := by decide +kernel
theorem dX9_init_187 : decode cX9_init 187 = .ok (.dup, 1) := by decide +kernel
theorem dX9_init_188 : decode cX9_init 188 = .ok (.invokespecial 15, 3) := by decide +kernel
theorem dX9_init_191 : decode cX9_init 191 = .ok (.putfield 83, 3) := by decide +kernel
theorem dX9_init_194 : decode cX9_init 194 = .ok (.aload_n 0, 1) := by decide +kernel
theorem dX9_init_195 : decode cX9_init 195 = .ok (.getfield 83, 3) := by decide +kernel
theorem dX9_init_198 : decode cX9_init 198 = .ok (.lconst 1, 1) := by decide +kernel
theorem dX9_init_199 : decode cX9_init 199 = .ok (.invokevirtual 86, 3) := by decide +kernel
theorem dX9_init_202 : decode cX9_init 202 = .ok (.return_, 1) := by decide +kernel
def zb_X9_init_15 (w0 : Nat) (g3 : AH) (w1 : Int32) : Option ((AH × Int32) ⊕ (AH)) :=
  (if (24 : Int32) ≤ w1 then some (Sum.inr g3) else (gR g3 w0 9 0).bind fun x5 => lt_ (nO g3 (.inr (8, [.null, .int 0, .int 0]))) fun g6 => (zs_X8_init g6 g3.2).bind fun g7 => (sR g7 x5 3 w1 g3.2 8).bind fun g8 => some (Sum.inl ((g8, w1 + (1 : Int32)))))
def zb_X9_init_51 (w0 : Nat) (g12 : AH) (w1 : Int32) : Option ((AH × Int32) ⊕ (AH)) :=
  (if (12 : Int32) ≤ w1 then some (Sum.inr g12) else (gR g12 w0 9 1).bind fun x14 => lt_ (nO g12 (.inr (4, [.null, .null]))) fun g15 => (zs_X4_init g15 g12.2).bind fun g16 => (sR g16 x14 4 w1 g12.2 4).bind fun g17 => some (Sum.inl ((g17, w1 + (1 : Int32)))))
def zs_X9_init (h : AH) (u0 : Nat) : Option AH :=
  lt_ (nO h (.inl (3, 24, .inr (.inr (.inr (.inr (fun _ => none))))))) fun g1 => (pV g1 u0 9 0 (.ref h.2)).bind fun g2 => (iter (fun q : AH × Int32 => zb_X9_init_15 u0 q.1 q.2) FU ((g2, (0 : Int32)))).bind fun r9 => lt_ (nO r9 (.inl (4, 12, .inr (.inr (.inr (.inr (fun _ => none))))))) fun g10 => (pV g10 u0 9 1 (.ref r9.2)).bind fun g11 => (iter (fun q : AH × Int32 => zb_X9_init_51 u0 q.1 q.2) FU ((g11, (0 : Int32)))).bind fun r18 => lt_ (nO r18 (.inr (5, [.int 0, .null]))) fun g19 => (zs_X5_init g19 r18.2).bind fun g20 => (pV g20 u0 9 2 (.ref r18.2)).bind fun g21 => lt_ (nO g21 (.inr (6, [.int 0, .null, .null]))) fun g22 => (zs_X6_init g22 g21.2).bind fun g23 => (pV g23 u0 9 3 (.ref g21.2)).bind fun g24 => lt_ (nO g24 (.inr (0, [.null, .null, .null, .null, .null]))) fun g25 => (zs_X0_init g25 g24.2).bind fun g26 => lt_ (nO g26 (.inr (3, [.null, .null, .null, .null, .null, .null, .null, .null]))) fun g27 => (zs_X3_init g27 g26.2 g24.2).bind fun g28 => (pV g28 u0 9 4 (.ref g24.2)).bind fun g29 => (pV g29 u0 9 5 (.ref g26.2)).bind fun g30 => lt_ (nO g30 (.inr (2, [.null, .null, .null, .null, .null, .null, .null, .null]))) fun g31 => (zs_X2_init g31 g30.2 g24.2 g26.2).bind fun g32 => (pV g32 u0 9 6 (.ref g30.2)).bind fun g33 => lt_ (nO g33 (.inr (1, [.int 0, .int 0, .null, .null, .null, .null, .null, .null]))) fun g34 => (zs_X1_init g34 g33.2 g24.2).bind fun g35 => (pV g35 u0 9 7 (.ref g33.2)).bind fun g36 => lt_ (nO g36 (.inr (7, [.null]))) fun g37 => (zs_X7_init g37 g36.2).bind fun g38 => (pV g38 u0 9 8 (.ref g36.2)).bind fun g39 => lt_ (nO g39 (.inr (7, [.null]))) fun g40 => (zs_X7_init g40 g39.2).bind fun g41 => (pV g41 u0 9 9 (.ref g39.2)).bind fun g42 => lt_ (nO g42 (.inr (8, [.null, .int 0, .int 0]))) fun g43 => (zs_X8_init g43 g42.2).bind fun g44 => (pV g44 u0 9 10 (.ref g42.2)).bind fun g45 => lt_ (nO g45 (.inr (8, [.null, .int 0, .int 0]))) fun g46 => (zs_X8_init g46 g45.2).bind fun g47 => (pV g47 u0 9 11 (.ref g45.2)).bind fun g48 => (gR g48 u0 9 11).bind fun x49 => (chk g48 x49 8).bind fun _ => (zs_X8_become g48 x49 ((1 : Int64))).bind fun g51 => some g51
set_option maxRecDepth 100000 in
set_option maxHeartbeats 4000000 in
theorem zm_X9_init (l : Launch) (D : hG) (z : Nat) {h : AH} {u0 : Nat} {h' : AH} (hs : zs_X9_init h u0 = some h') : hC l D z yX9_init cX9_init 3 (Option.none : Option Jvm.ClassFile.FieldType) 3 65 170 3111 [.ref u0] h h' none := by
  refine hC_of (by decide) (Nat.le_of_ble_eq_true rfl) ?_
  intro p e s m below meth c hx hb hml hrt hlk hown hnm hts hk hr hz ls hl
  replace hown : s.vm.findClass RX9 = some m.cls := hown
  replace hl : lv_has ls 3 [(0, .ref u0)] := hl
  have hS : va_S (hA z) s.heap s.heap [] := va_S.rf
  suffices hgo : ∀ (H : Heap) (locs : List Loc), hR D z h H → va_S (hA z) s.heap H locs → W p l e ({ frames := 3, cells := 170, slots := 3111, locals := 65 } : Room) s m ([.ref u0] : List Value).toArray below meth c H locs 0 0 (MQ below (hQ D z h' none) ([.ref u0] : List Value).toArray s 170 3111 (hA z)) (F0 m 0 ls []) from hgo _ _ hr hS
  clear hr hS
  intro H locs hr hS
  unfold zs_X9_init at hs
  refine lv_aload_n hx hb dX9_init_0 rfl (lv_at hl 0 rfl) ?_
  refine W.objInit hx hb hown (hts _ tw_26) (hts _ tw_27) (hts _ tw_28) rfl (by rw [hml]; exact hl.1) rfl dX9_init_1 (by decide) (Nat.le_of_ble_eq_true rfl) ?_
  refine W.eq (g2 := F0 m 4 ls []) rfl ?_
  refine lv_aload_n hx hb dX9_init_4 rfl (lv_at hl 0 rfl) ?_
  refine lv_bipush (v := 24) hx hb dX9_init_5 (by decide) ?_
  refine hv_newq (C := "WideWholes$Whole") hx hb hown hts 3 rfl tw_29 hk.2.1 hk hr hz hS 24 (by decide) (by decide) (by decide) (by show _ ≤ (170 : Nat); omega) (by show _ ≤ (3111 : Nat); omega) dX9_init_7 (fun H hr hS => ?_)
  obtain ⟨g1, eg1⟩ : ∃ q, q = nO h (.inl (3, 24, .inr (.inr (.inr (.inr (fun _ => none)))))) := ⟨_, rfl⟩
  rw [← eg1] at hr
  replace hs := lt_inv hs g1 eg1
  obtain ⟨g2, eg2, hs⟩ := bi_inv hs
  refine hv_pF (C := RX9) (T := TX9) (N := 12) (ci := 9) hx hb hts inX9 tyX9 tyX9_ok nmX9 hown hk hr hS rfl 0 (by decide) (hts _ tw_275) rfl hnm rfl rfl rfl eg2 dX9_init_10 (fun H locs hr hS => ?_)
  refine lv_iconst (v := 0) hx hb dX9_init_13 (by decide) ?_
  refine lv_istore_n (lv' := [(1, .int ((0 : Int32))), (0, .ref u0)]) hx hb dX9_init_14 rfl hl (by decide) rfl (fun ls hl => ?_)
  obtain ⟨r9, er9, hs⟩ := bi_inv hs
  refine iter_W (fun (q : AH × Int32) => ∀ (kc ks : Nat) (H : Heap) (locs : List Loc) (ls : Array Slot), kc + 2 * (24 - (q.2).toNatClampNeg) ≤ 49 → ks + 29 * (24 - (q.2).toNatClampNeg) ≤ 720 → 0 ≤ (q.2).toInt → hR D z q.1 H → va_S (hA z) s.heap H locs → lv_has ls 3 [(0, .ref u0), (1, .int q.2)] → W p l e ({ frames := 3, cells := 170, slots := 3111, locals := 65 } : Room) s m ([.ref u0] : List Value).toArray below meth c H locs kc ks (MQ below (hQ D z h' none) ([.ref u0] : List Value).toArray s 170 3111 (hA z)) (F0 m 15 ls [])) (fun (x : AH) => ∀ (kc ks : Nat) (H : Heap) (locs : List Loc) (ls : Array Slot), kc ≤ 49 → ks ≤ 720 → hR D z x H → va_S (hA z) s.heap H locs → lv_has ls 3 [(0, .ref u0)] → W p l e ({ frames := 3, cells := 170, slots := 3111, locals := 65 } : Room) s m ([.ref u0] : List Value).toArray below meth c H locs kc ks (MQ below (hQ D z h' none) ([.ref u0] : List Value).toArray s 170 3111 (hA z)) (F0 m 40 ls [])) ?_ FU _ r9 er9 ?_ _ _ H locs ls (by dsimp only; decide) (by dsimp only; decide) (by dsimp only; decide) hr hS (lv_sub hl [1, 0] rfl)
  · intro q o hs hcont hexit
    obtain ⟨g3, w1⟩ := q
    replace hs : zb_X9_init_15 u0 g3 w1 = some o := hs
    intro kc ks H locs ls hkc hks hi0 hr hS hl
    dsimp only at hkc hks hi0
    unfold zb_X9_init_15 at hs
    refine lv_iload_n hx hb dX9_init_15 rfl (lv_at hl 1 rfl) ?_
    refine lv_bipush (v := 24) hx hb dX9_init_16 (by decide) ?_
    refine lv_icmp_ge (tgt := 40) hx hb dX9_init_18 (by decide) (fun c4 => ?_) (fun c4 => ?_)
    · rw [if_pos c4] at hs
      obtain rfl := Option.some.inj hs
      exact hexit _ rfl _ _ H locs ls (by omega) (by omega) hr hS (lv_sub hl [0] rfl)
    · rw [if_neg c4] at hs
      obtain ⟨hlt, hsu, hps⟩ := al_lt (i := w1) (N := 24) (b := 24) (by decide) c4 hi0 (by decide)
      refine lv_aload_n hx hb dX9_init_21 rfl (lv_at hl 0 rfl) ?_
      obtain ⟨x5, ex5, hs⟩ := bi_inv hs
      refine hv_gR (C := RX9) (T := TX9) (N := 12) (ci := 9) hx hb hts inX9 hown hk hr rfl 0 (by decide) (hts _ tw_275) ex5 dX9_init_22 ?_
      refine lv_iload_n hx hb dX9_init_25 rfl (lv_at hl 1 rfl) ?_
      refine hv_new (C := RX8) (T := TX8) (N := 3) (ci := 8) hx hb hts inX8 tyX8 tyX8_ok hown tw_29 tw_31 tw_2 hk hr hz hS rfl [.null, .int 0, .int 0] (by decide +kernel) (by show _ ≤ (170 : Nat); omega) (by show _ ≤ (3111 : Nat); omega) dX9_init_26 (fun H hr hS => ?_)
      obtain ⟨g6, eg6⟩ : ∃ q, q = nO g3 (.inr (8, [.null, .int 0, .int 0])) := ⟨_, rfl⟩
      rw [← eg6] at hr
      replace hs := lt_inv hs g6 eg6
      refine lv_dup hx hb dX9_init_29 rfl ?_
      obtain ⟨g7, eg7, hs⟩ := bi_inv hs
      refine hv_I0 (n := 0) [] [.ref g3.2, .int w1, .ref x5] hx hb hml hown hts hk hr hz hS (zm_X8_init l D z eg7) tw_32 tw_33 tw_2 tw_34 rfl (by decide +kernel) (by decide) ⟨(by show _ ≤ (170 : Nat); omega), (by show _ ≤ (3111 : Nat); omega)⟩ rfl hl.1 (Nat.le_of_ble_eq_true rfl) dX9_init_30 rfl (fun H locs hr hS => ?_)
      obtain ⟨g8, eg8, hs⟩ := bi_inv hs
      refine hv_sR (C := "WideWholes$Whole") (T := TX8) (N := 3) hx hb hk hr hS rfl rfl eg8 dX9_init_33 (fun H locs hr hS => ?_)
      refine lv_iinc (v := w1 + (1 : Int32)) (lv' := [(1, .int (w1 + (1 : Int32))), (0, .ref u0)]) hx hb dX9_init_34 hl (k := 1) rfl (ii_v _ (by decide)) (by decide) rfl (fun ls hl => ?_)
      refine lv_goto (tgt := 15) hx hb dX9_init_37 (by decide) ?_
      obtain rfl := Option.some.inj hs
      exact hcont _ rfl _ _ H locs ls (by dsimp only; rw [hsu]; omega) (by dsimp only; rw [hsu]; omega) hps hr hS (lv_sub hl [1, 0] rfl)
  · intro kc ks H locs ls hkc hks hr hS hl
    refine W.widen (k := 49) (n := 720) hkc hks ?_
    refine lv_aload_n hx hb dX9_init_40 rfl (lv_at hl 0 rfl) ?_
    refine lv_bipush (v := 12) hx hb dX9_init_41 (by decide) ?_
    refine hv_newq (C := "WideWholes$Ratio") hx hb hown hts 4 rfl tw_56 hk.2.2.1 hk hr hz hS 12 (by decide) (by decide) (by decide) (by show _ ≤ (170 : Nat); omega) (by show _ ≤ (3111 : Nat); omega) dX9_init_43 (fun H hr hS => ?_)
    obtain ⟨g10, eg10⟩ : ∃ q, q = nO r9 (.inl (4, 12, .inr (.inr (.inr (.inr (fun _ => none)))))) := ⟨_, rfl⟩
    rw [← eg10] at hr
    replace hs := lt_inv hs g10 eg10
    obtain ⟨g11, eg11, hs⟩ := bi_inv hs
    refine hv_pF (C := RX9) (T := TX9) (N := 12) (ci := 9) hx hb hts inX9 tyX9 tyX9_ok nmX9 hown hk hr hS rfl 1 (by decide) (hts _ tw_276) rfl hnm rfl rfl rfl eg11 dX9_init_46 (fun H locs hr hS => ?_)
    refine lv_iconst (v := 0) hx hb dX9_init_49 (by decide) ?_
    refine lv_istore_n (lv' := [(1, .int ((0 : Int32))), (0, .ref u0)]) hx hb dX9_init_50 rfl hl (by decide) rfl (fun ls hl => ?_)
    obtain ⟨r18, er18, hs⟩ := bi_inv hs
    refine iter_W (fun (q : AH × Int32) => ∀ (kc ks : Nat) (H : Heap) (locs : List Loc) (ls : Array Slot), kc + 5 * (12 - (q.2).toNatClampNeg) ≤ 110 → ks + 60 * (12 - (q.2).toNatClampNeg) ≤ 1452 → 0 ≤ (q.2).toInt → hR D z q.1 H → va_S (hA z) s.heap H locs → lv_has ls 3 [(0, .ref u0), (1, .int q.2)] → W p l e ({ frames := 3, cells := 170, slots := 3111, locals := 65 } : Room) s m ([.ref u0] : List Value).toArray below meth c H locs kc ks (MQ below (hQ D z h' none) ([.ref u0] : List Value).toArray s 170 3111 (hA z)) (F0 m 51 ls [])) (fun (x : AH) => ∀ (kc ks : Nat) (H : Heap) (locs : List Loc) (ls : Array Slot), kc ≤ 110 → ks ≤ 1452 → hR D z x H → va_S (hA z) s.heap H locs → lv_has ls 3 [(0, .ref u0)] → W p l e ({ frames := 3, cells := 170, slots := 3111, locals := 65 } : Room) s m ([.ref u0] : List Value).toArray below meth c H locs kc ks (MQ below (hQ D z h' none) ([.ref u0] : List Value).toArray s 170 3111 (hA z)) (F0 m 76 ls [])) ?_ FU _ r18 er18 ?_ _ _ H locs ls (by dsimp only; decide) (by dsimp only; decide) (by dsimp only; decide) hr hS (lv_sub hl [1, 0] rfl)
    · intro q o hs hcont hexit
      obtain ⟨g12, w1⟩ := q
      replace hs : zb_X9_init_51 u0 g12 w1 = some o := hs
      intro kc ks H locs ls hkc hks hi0 hr hS hl
      dsimp only at hkc hks hi0
      unfold zb_X9_init_51 at hs
      refine lv_iload_n hx hb dX9_init_51 rfl (lv_at hl 1 rfl) ?_
      refine lv_bipush (v := 12) hx hb dX9_init_52 (by decide) ?_
      refine lv_icmp_ge (tgt := 76) hx hb dX9_init_54 (by decide) (fun c13 => ?_) (fun c13 => ?_)
      · rw [if_pos c13] at hs
        obtain rfl := Option.some.inj hs
        exact hexit _ rfl _ _ H locs ls (by omega) (by omega) hr hS (lv_sub hl [0] rfl)
      · rw [if_neg c13] at hs
        obtain ⟨hlt, hsu, hps⟩ := al_lt (i := w1) (N := 12) (b := 12) (by decide) c13 hi0 (by decide)
        refine lv_aload_n hx hb dX9_init_57 rfl (lv_at hl 0 rfl) ?_
        obtain ⟨x14, ex14, hs⟩ := bi_inv hs
        refine hv_gR (C := RX9) (T := TX9) (N := 12) (ci := 9) hx hb hts inX9 hown hk hr rfl 1 (by decide) (hts _ tw_276) ex14 dX9_init_58 ?_
        refine lv_iload_n hx hb dX9_init_61 rfl (lv_at hl 1 rfl) ?_
        refine hv_new (C := RX4) (T := TX4) (N := 2) (ci := 4) hx hb hts inX4 tyX4 tyX4_ok hown tw_56 tw_58 tw_3 hk hr hz hS rfl [.null, .null] (by decide +kernel) (by show _ ≤ (170 : Nat); omega) (by show _ ≤ (3111 : Nat); omega) dX9_init_62 (fun H hr hS => ?_)
        obtain ⟨g15, eg15⟩ : ∃ q, q = nO g12 (.inr (4, [.null, .null])) := ⟨_, rfl⟩
        rw [← eg15] at hr
        replace hs := lt_inv hs g15 eg15
        refine lv_dup hx hb dX9_init_65 rfl ?_
        obtain ⟨g16, eg16, hs⟩ := bi_inv hs
        refine hv_I0 (n := 0) [] [.ref g12.2, .int w1, .ref x14] hx hb hml hown hts hk hr hz hS (zm_X4_init l D z eg16) tw_59 tw_60 tw_3 tw_61 rfl (by decide +kernel) (by decide) ⟨(by show _ ≤ (170 : Nat); omega), (by show _ ≤ (3111 : Nat); omega)⟩ rfl hl.1 (Nat.le_of_ble_eq_true rfl) dX9_init_66 rfl (fun H locs hr hS => ?_)
        obtain ⟨g17, eg17, hs⟩ := bi_inv hs
        refine hv_sR (C := "WideWholes$Ratio") (T := TX4) (N := 2) hx hb hk hr hS rfl rfl eg17 dX9_init_69 (fun H locs hr hS => ?_)
        refine lv_iinc (v := w1 + (1 : Int32)) (lv' := [(1, .int (w1 + (1 : Int32))), (0, .ref u0)]) hx hb dX9_init_70 hl (k := 1) rfl (ii_v _ (by decide)) (by decide) rfl (fun ls hl => ?_)
        refine lv_goto (tgt := 51) hx hb dX9_init_73 (by decide) ?_
        obtain rfl := Option.some.inj hs
        exact hcont _ rfl _ _ H locs ls (by dsimp only; rw [hsu]; omega) (by dsimp only; rw [hsu]; omega) hps hr hS (lv_sub hl [1, 0] rfl)
    · intro kc ks H locs ls hkc hks hr hS hl
      refine W.widen (k := 110) (n := 1452) hkc hks ?_
      refine lv_aload_n hx hb dX9_init_76 rfl (lv_at hl 0 rfl) ?_
      refine hv_new (C := RX5) (T := TX5) (N := 2) (ci := 5) hx hb hts inX5 tyX5 tyX5_ok hown tw_91 tw_92 tw_4 hk hr hz hS rfl [.int 0, .null] (by decide +kernel) (by show _ ≤ (170 : Nat); omega) (by show _ ≤ (3111 : Nat); omega) dX9_init_77 (fun H hr hS => ?_)
      obtain ⟨g19, eg19⟩ : ∃ q, q = nO r18 (.inr (5, [.int 0, .null])) := ⟨_, rfl⟩
      rw [← eg19] at hr
      replace hs := lt_inv hs g19 eg19
      refine lv_dup hx hb dX9_init_80 rfl ?_
      obtain ⟨g20, eg20, hs⟩ := bi_inv hs
      refine hv_I0 (n := 0) [] [.ref r18.2, .ref u0] hx hb hml hown hts hk hr hz hS (zm_X5_init l D z eg20) tw_93 tw_94 tw_4 tw_95 rfl (by decide +kernel) (by decide) ⟨(by show _ ≤ (170 : Nat); omega), (by show _ ≤ (3111 : Nat); omega)⟩ rfl hl.1 (Nat.le_of_ble_eq_true rfl) dX9_init_81 rfl (fun H locs hr hS => ?_)
      obtain ⟨g21, eg21, hs⟩ := bi_inv hs
      refine hv_pF (C := RX9) (T := TX9) (N := 12) (ci := 9) hx hb hts inX9 tyX9 tyX9_ok nmX9 hown hk hr hS rfl 2 (by decide) (hts _ tw_277) rfl hnm rfl rfl rfl eg21 dX9_init_84 (fun H locs hr hS => ?_)
      refine lv_aload_n hx hb dX9_init_87 rfl (lv_at hl 0 rfl) ?_
      refine hv_new (C := RX6) (T := TX6) (N := 3) (ci := 6) hx hb hts inX6 tyX6 tyX6_ok hown tw_106 tw_107 tw_5 hk hr hz hS rfl [.int 0, .null, .null] (by decide +kernel) (by show _ ≤ (170 : Nat); omega) (by show _ ≤ (3111 : Nat); omega) dX9_init_88 (fun H hr hS => ?_)
      obtain ⟨g22, eg22⟩ : ∃ q, q = nO g21 (.inr (6, [.int 0, .null, .null])) := ⟨_, rfl⟩
      rw [← eg22] at hr
      replace hs := lt_inv hs g22 eg22
      refine lv_dup hx hb dX9_init_91 rfl ?_
      obtain ⟨g23, eg23, hs⟩ := bi_inv hs
      refine hv_I0 (n := 0) [] [.ref g21.2, .ref u0] hx hb hml hown hts hk hr hz hS (zm_X6_init l D z eg23) tw_108 tw_109 tw_5 tw_110 rfl (by decide +kernel) (by decide) ⟨(by show _ ≤ (170 : Nat); omega), (by show _ ≤ (3111 : Nat); omega)⟩ rfl hl.1 (Nat.le_of_ble_eq_true rfl) dX9_init_92 rfl (fun H locs hr hS => ?_)
      obtain ⟨g24, eg24, hs⟩ := bi_inv hs
      refine hv_pF (C := RX9) (T := TX9) (N := 12) (ci := 9) hx hb hts inX9 tyX9 tyX9_ok nmX9 hown hk hr hS rfl 3 (by decide) (hts _ tw_278) rfl hnm rfl rfl rfl eg24 dX9_init_95 (fun H locs hr hS => ?_)
      refine hv_new (C := RX0) (T := TX0) (N := 5) (ci := 0) hx hb hts inX0 tyX0 tyX0_ok hown tw_126 tw_127 tw_6 hk hr hz hS rfl [.null, .null, .null, .null, .null] (by decide +kernel) (by show _ ≤ (170 : Nat); omega) (by show _ ≤ (3111 : Nat); omega) dX9_init_98 (fun H hr hS => ?_)
      obtain ⟨g25, eg25⟩ : ∃ q, q = nO g24 (.inr (0, [.null, .null, .null, .null, .null])) := ⟨_, rfl⟩
      rw [← eg25] at hr
      replace hs := lt_inv hs g25 eg25
      refine lv_dup hx hb dX9_init_101 rfl ?_
      obtain ⟨g26, eg26, hs⟩ := bi_inv hs
      refine hv_I0 (n := 0) [] [.ref g24.2] hx hb hml hown hts hk hr hz hS (zm_X0_init l D z eg26) tw_128 tw_129 tw_6 tw_130 rfl (by decide +kernel) (by decide) ⟨(by show _ ≤ (170 : Nat); omega), (by show _ ≤ (3111 : Nat); omega)⟩ rfl hl.1 (Nat.le_of_ble_eq_true rfl) dX9_init_102 rfl (fun H locs hr hS => ?_)
      refine lv_astore_n (lv' := [(1, .ref g24.2), (0, .ref u0)]) hx hb dX9_init_105 rfl hl (by decide) rfl (fun ls hl => ?_)
      refine hv_new (C := RX3) (T := TX3) (N := 8) (ci := 3) hx hb hts inX3 tyX3 tyX3_ok hown tw_159 tw_160 tw_7 hk hr hz hS rfl [.null, .null, .null, .null, .null, .null, .null, .null] (by decide +kernel) (by show _ ≤ (170 : Nat); omega) (by show _ ≤ (3111 : Nat); omega) dX9_init_106 (fun H hr hS => ?_)
      obtain ⟨g27, eg27⟩ : ∃ q, q = nO g26 (.inr (3, [.null, .null, .null, .null, .null, .null, .null, .null])) := ⟨_, rfl⟩
      rw [← eg27] at hr
      replace hs := lt_inv hs g27 eg27
      refine lv_dup hx hb dX9_init_109 rfl ?_
      refine lv_aload_n hx hb dX9_init_110 rfl (lv_at hl 0 rfl) ?_
      obtain ⟨g28, eg28, hs⟩ := bi_inv hs
      refine hv_I0 (n := 1) [.ref g24.2] [.ref g26.2] hx hb hml hown hts hk hr hz hS (zm_X3_init l D z eg28) tw_161 tw_162 tw_7 tw_163 rfl (by decide +kernel) (by decide) ⟨(by show _ ≤ (170 : Nat); omega), (by show _ ≤ (3111 : Nat); omega)⟩ rfl hl.1 (Nat.le_of_ble_eq_true rfl) dX9_init_111 rfl (fun H locs hr hS => ?_)
      refine lv_astore_n (lv' := [(2, .ref g26.2), (1, .ref g24.2), (0, .ref u0)]) hx hb dX9_init_114 rfl hl (by decide) rfl (fun ls hl => ?_)
      refine lv_aload_n hx hb dX9_init_115 rfl (lv_at hl 2 rfl) ?_
      refine lv_aload_n hx hb dX9_init_116 rfl (lv_at hl 1 rfl) ?_
      obtain ⟨g29, eg29, hs⟩ := bi_inv hs
      refine hv_pF (C := RX9) (T := TX9) (N := 12) (ci := 9) hx hb hts inX9 tyX9 tyX9_ok nmX9 hown hk hr hS rfl 4 (by decide) (hts _ tw_279) rfl hnm rfl rfl rfl eg29 dX9_init_117 (fun H locs hr hS => ?_)
      refine lv_aload_n hx hb dX9_init_120 rfl (lv_at hl 2 rfl) ?_
      refine lv_aload_n hx hb dX9_init_121 rfl (lv_at hl 0 rfl) ?_
      obtain ⟨g30, eg30, hs⟩ := bi_inv hs
      refine hv_pF (C := RX9) (T := TX9) (N := 12) (ci := 9) hx hb hts inX9 tyX9 tyX9_ok nmX9 hown hk hr hS rfl 5 (by decide) (hts _ tw_280) rfl hnm rfl rfl rfl eg30 dX9_init_122 (fun H locs hr hS => ?_)
      refine lv_aload_n hx hb dX9_init_125 rfl (lv_at hl 2 rfl) ?_
      refine hv_new (C := RX2) (T := TX2) (N := 8) (ci := 2) hx hb hts inX2 tyX2 tyX2_ok hown tw_193 tw_194 tw_8 hk hr hz hS rfl [.null, .null, .null, .null, .null, .null, .null, .null] (by decide +kernel) (by show _ ≤ (170 : Nat); omega) (by show _ ≤ (3111 : Nat); omega) dX9_init_126 (fun H hr hS => ?_)
      obtain ⟨g31, eg31⟩ : ∃ q, q = nO g30 (.inr (2, [.null, .null, .null, .null, .null, .null, .null, .null])) := ⟨_, rfl⟩
      rw [← eg31] at hr
      replace hs := lt_inv hs g31 eg31
      refine lv_dup hx hb dX9_init_129 rfl ?_
      refine lv_aload_n hx hb dX9_init_130 rfl (lv_at hl 1 rfl) ?_
      refine lv_aload_n hx hb dX9_init_131 rfl (lv_at hl 0 rfl) ?_
      obtain ⟨g32, eg32, hs⟩ := bi_inv hs
      refine hv_I0 (n := 2) [.ref g24.2, .ref g26.2] [.ref g30.2, .ref u0] hx hb hml hown hts hk hr hz hS (zm_X2_init l D z eg32) tw_195 tw_196 tw_8 tw_197 rfl (by decide +kernel) (by decide) ⟨(by show _ ≤ (170 : Nat); omega), (by show _ ≤ (3111 : Nat); omega)⟩ rfl hl.1 (Nat.le_of_ble_eq_true rfl) dX9_init_132 rfl (fun H locs hr hS => ?_)
      obtain ⟨g33, eg33, hs⟩ := bi_inv hs
      refine hv_pF (C := RX9) (T := TX9) (N := 12) (ci := 9) hx hb hts inX9 tyX9 tyX9_ok nmX9 hown hk hr hS rfl 6 (by decide) (hts _ tw_281) rfl hnm rfl rfl rfl eg33 dX9_init_135 (fun H locs hr hS => ?_)
      refine lv_aload_n hx hb dX9_init_138 rfl (lv_at hl 2 rfl) ?_
      refine hv_new (C := RX1) (T := TX1) (N := 8) (ci := 1) hx hb hts inX1 tyX1 tyX1_ok hown tw_228 tw_229 tw_9 hk hr hz hS rfl [.int 0, .int 0, .null, .null, .null, .null, .null, .null] (by decide +kernel) (by show _ ≤ (170 : Nat); omega) (by show _ ≤ (3111 : Nat); omega) dX9_init_139 (fun H hr hS => ?_)
      obtain ⟨g34, eg34⟩ : ∃ q, q = nO g33 (.inr (1, [.int 0, .int 0, .null, .null, .null, .null, .null, .null])) := ⟨_, rfl⟩
      rw [← eg34] at hr
      replace hs := lt_inv hs g34 eg34
      refine lv_dup hx hb dX9_init_142 rfl ?_
      refine lv_aload_n hx hb dX9_init_143 rfl (lv_at hl 1 rfl) ?_
      obtain ⟨g35, eg35, hs⟩ := bi_inv hs
      refine hv_I0 (n := 1) [.ref g24.2] [.ref g33.2, .ref u0] hx hb hml hown hts hk hr hz hS (zm_X1_init l D z eg35) tw_230 tw_231 tw_9 tw_232 rfl (by decide +kernel) (by decide) ⟨(by show _ ≤ (170 : Nat); omega), (by show _ ≤ (3111 : Nat); omega)⟩ rfl hl.1 (Nat.le_of_ble_eq_true rfl) dX9_init_144 rfl (fun H locs hr hS => ?_)
      obtain ⟨g36, eg36, hs⟩ := bi_inv hs
      refine hv_pF (C := RX9) (T := TX9) (N := 12) (ci := 9) hx hb hts inX9 tyX9 tyX9_ok nmX9 hown hk hr hS rfl 7 (by decide) (hts _ tw_282) rfl hnm rfl rfl rfl eg36 dX9_init_147 (fun H locs hr hS => ?_)
      refine lv_aload_n hx hb dX9_init_150 rfl (lv_at hl 2 rfl) ?_
      refine hv_new (C := RX7) (T := TX7) (N := 1) (ci := 7) hx hb hts inX7 tyX7 tyX7_ok hown tw_264 tw_265 tw_10 hk hr hz hS rfl [.null] (by decide +kernel) (by show _ ≤ (170 : Nat); omega) (by show _ ≤ (3111 : Nat); omega) dX9_init_151 (fun H hr hS => ?_)
      obtain ⟨g37, eg37⟩ : ∃ q, q = nO g36 (.inr (7, [.null])) := ⟨_, rfl⟩
      rw [← eg37] at hr
      replace hs := lt_inv hs g37 eg37
      refine lv_dup hx hb dX9_init_154 rfl ?_
      obtain ⟨g38, eg38, hs⟩ := bi_inv hs
      refine hv_I0 (n := 0) [] [.ref g36.2, .ref u0] hx hb hml hown hts hk hr hz hS (zm_X7_init l D z eg38) tw_266 tw_267 tw_10 tw_268 rfl (by decide +kernel) (by decide) ⟨(by show _ ≤ (170 : Nat); omega), (by show _ ≤ (3111 : Nat); omega)⟩ rfl hl.1 (Nat.le_of_ble_eq_true rfl) dX9_init_155 rfl (fun H locs hr hS => ?_)
      obtain ⟨g39, eg39, hs⟩ := bi_inv hs
      refine hv_pF (C := RX9) (T := TX9) (N := 12) (ci := 9) hx hb hts inX9 tyX9 tyX9_ok nmX9 hown hk hr hS rfl 8 (by decide) (hts _ tw_283) rfl hnm rfl rfl rfl eg39 dX9_init_158 (fun H locs hr hS => ?_)
      refine lv_aload_n hx hb dX9_init_161 rfl (lv_at hl 2 rfl) ?_
      refine hv_new (C := RX7) (T := TX7) (N := 1) (ci := 7) hx hb hts inX7 tyX7 tyX7_ok hown tw_264 tw_265 tw_10 hk hr hz hS rfl [.null] (by decide +kernel) (by show _ ≤ (170 : Nat); omega) (by show _ ≤ (3111 : Nat); omega) dX9_init_162 (fun H hr hS => ?_)
      obtain ⟨g40, eg40⟩ : ∃ q, q = nO g39 (.inr (7, [.null])) := ⟨_, rfl⟩
      rw [← eg40] at hr
      replace hs := lt_inv hs g40 eg40
      refine lv_dup hx hb dX9_init_165 rfl ?_
      obtain ⟨g41, eg41, hs⟩ := bi_inv hs
      refine hv_I0 (n := 0) [] [.ref g39.2, .ref u0] hx hb hml hown hts hk hr hz hS (zm_X7_init l D z eg41) tw_266 tw_267 tw_10 tw_268 rfl (by decide +kernel) (by decide) ⟨(by show _ ≤ (170 : Nat); omega), (by show _ ≤ (3111 : Nat); omega)⟩ rfl hl.1 (Nat.le_of_ble_eq_true rfl) dX9_init_166 rfl (fun H locs hr hS => ?_)
      obtain ⟨g42, eg42, hs⟩ := bi_inv hs
      refine hv_pF (C := RX9) (T := TX9) (N := 12) (ci := 9) hx hb hts inX9 tyX9 tyX9_ok nmX9 hown hk hr hS rfl 9 (by decide) (hts _ tw_284) rfl hnm rfl rfl rfl eg42 dX9_init_169 (fun H locs hr hS => ?_)
      refine lv_aload_n hx hb dX9_init_172 rfl (lv_at hl 2 rfl) ?_
      refine hv_new (C := RX8) (T := TX8) (N := 3) (ci := 8) hx hb hts inX8 tyX8 tyX8_ok hown tw_29 tw_31 tw_2 hk hr hz hS rfl [.null, .int 0, .int 0] (by decide +kernel) (by show _ ≤ (170 : Nat); omega) (by show _ ≤ (3111 : Nat); omega) dX9_init_173 (fun H hr hS => ?_)
      obtain ⟨g43, eg43⟩ : ∃ q, q = nO g42 (.inr (8, [.null, .int 0, .int 0])) := ⟨_, rfl⟩
      rw [← eg43] at hr
      replace hs := lt_inv hs g43 eg43
      refine lv_dup hx hb dX9_init_176 rfl ?_
      obtain ⟨g44, eg44, hs⟩ := bi_inv hs
      refine hv_I0 (n := 0) [] [.ref g42.2, .ref u0] hx hb hml hown hts hk hr hz hS (zm_X8_init l D z eg44) tw_32 tw_33 tw_2 tw_34 rfl (by decide +kernel) (by decide) ⟨(by show _ ≤ (170 : Nat); omega), (by show _ ≤ (3111 : Nat); omega)⟩ rfl hl.1 (Nat.le_of_ble_eq_true rfl) dX9_init_177 rfl (fun H locs hr hS => ?_)
      obtain ⟨g45, eg45, hs⟩ := bi_inv hs
      refine hv_pF (C := RX9) (T := TX9) (N := 12) (ci := 9) hx hb hts inX9 tyX9 tyX9_ok nmX9 hown hk hr hS rfl 10 (by decide) (hts _ tw_285) rfl hnm rfl rfl rfl eg45 dX9_init_180 (fun H locs hr hS => ?_)
      refine lv_aload_n hx hb dX9_init_183 rfl (lv_at hl 2 rfl) ?_
      refine hv_new (C := RX8) (T := TX8) (N := 3) (ci := 8) hx hb hts inX8 tyX8 tyX8_ok hown tw_29 tw_31 tw_2 hk hr hz hS rfl [.null, .int 0, .int 0] (by decide +kernel) (by show _ ≤ (170 : Nat); omega) (by show _ ≤ (3111 : Nat); omega) dX9_init_184 (fun H hr hS => ?_)
      obtain ⟨g46, eg46⟩ : ∃ q, q = nO g45 (.inr (8, [.null, .int 0, .int 0])) := ⟨_, rfl⟩
      rw [← eg46] at hr
      replace hs := lt_inv hs g46 eg46
      refine lv_dup hx hb dX9_init_187 rfl ?_
      obtain ⟨g47, eg47, hs⟩ := bi_inv hs
      refine hv_I0 (n := 0) [] [.ref g45.2, .ref u0] hx hb hml hown hts hk hr hz hS (zm_X8_init l D z eg47) tw_32 tw_33 tw_2 tw_34 rfl (by decide +kernel) (by decide) ⟨(by show _ ≤ (170 : Nat); omega), (by show _ ≤ (3111 : Nat); omega)⟩ rfl hl.1 (Nat.le_of_ble_eq_true rfl) dX9_init_188 rfl (fun H locs hr hS => ?_)
      obtain ⟨g48, eg48, hs⟩ := bi_inv hs
      refine hv_pF (C := RX9) (T := TX9) (N := 12) (ci := 9) hx hb hts inX9 tyX9 tyX9_ok nmX9 hown hk hr hS rfl 11 (by decide) (hts _ tw_286) rfl hnm rfl rfl rfl eg48 dX9_init_191 (fun H locs hr hS => ?_)
      refine lv_aload_n hx hb dX9_init_194 rfl (lv_at hl 2 rfl) ?_
      obtain ⟨x49, ex49, hs⟩ := bi_inv hs
      refine hv_gR (C := RX9) (T := TX9) (N := 12) (ci := 9) hx hb hts inX9 hown hk hr rfl 11 (by decide) (hts _ tw_286) ex49 dX9_init_195 ?_
      refine lv_lconst (v := 1) hx hb dX9_init_198 (by decide) ?_
      obtain ⟨_, ex50, hs⟩ := bi_inv hs
      obtain ⟨g51, eg51, hs⟩ := bi_inv hs
      refine hv_V0 (n := 1) [.long ((1 : Int64))] [] hx hb hml hown hts hk hr hz hS (zm_X8_become l D z eg51) ex50 rfl tw_274 tw_66 tw_67 tw_2 tw_68 (by decide +kernel) (by decide) ⟨(by show _ ≤ (170 : Nat); omega), (by show _ ≤ (3111 : Nat); omega)⟩ rfl hl.1 (Nat.le_of_ble_eq_true rfl) dX9_init_199 rfl (fun H locs hr hS => ?_)
      obtain rfl := Option.some.inj hs
      exact hv_vret hx hb hrt hlk hr hS dX9_init_202
theorem dX9_isModulus_0 : decode cX9_isModulus 0 = .ok (.aload_n 0, 1) := by decide +kernel
theorem dX9_isModulus_1 : decode cX9_isModulus 1 = .ok (.invokevirtual 168, 3) := by decide +kernel
theorem dX9_isModulus_4 : decode cX9_isModulus 4 = .ok (.ifCond .ne 24, 3) := by decide +kernel
theorem dX9_isModulus_7 : decode cX9_isModulus 7 = .ok (.aload_n 0, 1) := by decide +kernel
theorem dX9_isModulus_8 : decode cX9_isModulus 8 = .ok (.getfield 196, 3) := by decide +kernel
theorem dX9_isModulus_11 : decode cX9_isModulus 11 = .ok (.ifCond .ne 17, 3) := by decide +kernel
theorem dX9_isModulus_14 : decode cX9_isModulus 14 = .ok (.aload_n 0, 1) := by decide +kernel
theorem dX9_isModulus_15 : decode cX9_isModulus 15 = .ok (.invokevirtual 230, 3) := by decide +kernel
theorem dX9_isModulus_18 : decode cX9_isModulus 18 = .ok (.sipush 128, 3) := by decide +kernel
theorem dX9_isModulus_21 : decode cX9_isModulus 21 = .ok (.if_icmp .gt 7, 3) := by decide +kernel
theorem dX9_isModulus_24 : decode cX9_isModulus 24 = .ok (.iconst 1, 1) := by decide +kernel
theorem dX9_isModulus_25 : decode cX9_isModulus 25 = .ok (.goto 4, 3) := by decide +kernel
theorem dX9_isModulus_28 : decode cX9_isModulus 28 = .ok (.iconst 0, 1) := by decide +kernel
theorem dX9_isModulus_29 : decode cX9_isModulus 29 = .ok (.ireturn, 1) := by decide +kernel
def zs_X9_isModulus (h : AH) (u0 : Nat) : Option Int32 :=
  (chk h u0 8).bind fun _ => (zs_X8_isZero h u0).bind fun x2 => (if x2 = 0 then (gI h u0 8 2).bind fun x4 => (if x4 = 0 then (chk h u0 8).bind fun _ => (zs_X8_sizeBits h u0).bind fun x7 => (if (128 : Int32) < x7 then some ((0 : Int32)) else some ((1 : Int32))) else some ((0 : Int32))) else some ((0 : Int32)))
set_option maxRecDepth 100000 in
set_option maxHeartbeats 4000000 in
theorem zm_X9_isModulus (l : Launch) (D : hG) (z : Nat) {h : AH} {u0 : Nat} {r : Int32} (hs : zs_X9_isModulus h u0 = some r) : hC l D z yX9_isModulus cX9_isModulus 1 (Option.some Jvm.ClassFile.FieldType.boolean) 3 64 0 0 [.ref u0] h h (some (.int r)) := by
  refine hC_of (by decide) (Nat.le_of_ble_eq_true rfl) ?_
  intro p e s m below meth c hx hb hml hrt hlk hown hnm hts hk hr hz ls hl
  replace hown : s.vm.findClass RX9 = some m.cls := hown
  replace hl : lv_has ls 1 [(0, .ref u0)] := hl
  have hS : va_S (hA z) s.heap s.heap [] := va_S.rf
  suffices hgo : ∀ (H : Heap) (locs : List Loc), hR D z h H → va_S (hA z) s.heap H locs → W p l e ({ frames := 3, cells := 0, slots := 0, locals := 64 } : Room) s m ([.ref u0] : List Value).toArray below meth c H locs 0 0 (MQ below (hQ D z h (some (.int r))) ([.ref u0] : List Value).toArray s 0 0 (hA z)) (F0 m 0 ls []) from hgo _ _ hr hS
  clear hr hS
  intro H locs hr hS
  unfold zs_X9_isModulus at hs
  refine lv_aload_n hx hb dX9_isModulus_0 rfl (lv_at hl 0 rfl) ?_
  obtain ⟨_, ex1, hs⟩ := bi_inv hs
  obtain ⟨x2, ex2, hs⟩ := bi_inv hs
  refine hv_V1 (n := 0) [] [] hx hb hml hown hts hk hr hz hS (zm_X8_isZero l D z ex2) ex1 rfl tw_478 tw_400 tw_401 tw_2 tw_402 (by decide +kernel) (by decide) ⟨(Nat.zero_le _), (Nat.zero_le _)⟩ rfl hl.1 (Nat.le_of_ble_eq_true rfl) dX9_isModulus_1 rfl (fun H locs hr hS => ?_)
  refine lv_if_ne (tgt := 28) hx hb dX9_isModulus_4 (by decide) (fun c3 => ?_) (fun c3 => ?_)
  · rw [if_neg c3] at hs
    refine lv_iconst (v := 0) hx hb dX9_isModulus_28 (by decide) ?_
    obtain rfl := Option.some.inj hs
    exact hv_zret hx hb hrt hlk hr hS (by decide) dX9_isModulus_29
  · rw [if_pos c3] at hs
    refine lv_aload_n hx hb dX9_isModulus_7 rfl (lv_at hl 0 rfl) ?_
    obtain ⟨x4, ex4, hs⟩ := bi_inv hs
    refine hv_gI (C := RX8) (T := TX8) (N := 3) (ci := 8) hx hb hts inX8 hown hk hr rfl 2 (by decide) (hts _ tw_47) ex4 dX9_isModulus_8 ?_
    refine lv_if_ne (tgt := 28) hx hb dX9_isModulus_11 (by decide) (fun c5 => ?_) (fun c5 => ?_)
    · rw [if_neg c5] at hs
      refine lv_iconst (v := 0) hx hb dX9_isModulus_28 (by decide) ?_
      obtain rfl := Option.some.inj hs
      exact hv_zret hx hb hrt hlk hr hS (by decide) dX9_isModulus_29
    · rw [if_pos c5] at hs
      refine lv_aload_n hx hb dX9_isModulus_14 rfl (lv_at hl 0 rfl) ?_
      obtain ⟨_, ex6, hs⟩ := bi_inv hs
      obtain ⟨x7, ex7, hs⟩ := bi_inv hs
      refine hv_V1 (n := 0) [] [] hx hb hml hown hts hk hr hz hS (zm_X8_sizeBits l D z ex7) ex6 rfl tw_583 tw_565 tw_566 tw_2 tw_567 (by decide +kernel) (by decide) ⟨(Nat.zero_le _), (Nat.zero_le _)⟩ rfl hl.1 (Nat.le_of_ble_eq_true rfl) dX9_isModulus_15 rfl (fun H locs hr hS => ?_)
      refine lv_sipush (v := 128) hx hb dX9_isModulus_18 (by decide) ?_
      refine lv_icmp_gt (tgt := 28) hx hb dX9_isModulus_21 (by decide) (fun c8 => ?_) (fun c8 => ?_)
      · rw [if_pos c8] at hs
        refine lv_iconst (v := 0) hx hb dX9_isModulus_28 (by decide) ?_
        obtain rfl := Option.some.inj hs
        exact hv_zret hx hb hrt hlk hr hS (by decide) dX9_isModulus_29
      · rw [if_neg c8] at hs
        refine lv_iconst (v := 1) hx hb dX9_isModulus_24 (by decide) ?_
        refine lv_goto (tgt := 29) hx hb dX9_isModulus_25 (by decide) ?_
        obtain rfl := Option.some.inj hs
        exact hv_zret hx hb hrt hlk hr hS (by decide) dX9_isModulus_29
theorem dX9_inverse_0 : decode cX9_inverse 0 = .ok (.iload_n 1, 1) := by decide +kernel
theorem dX9_inverse_1 : decode cX9_inverse 1 = .ok (.iload_n 2, 1) := by decide +kernel
theorem dX9_inverse_2 : decode cX9_inverse 2 = .ok (.iload_n 3, 1) := by decide +kernel
theorem dX9_inverse_3 : decode cX9_inverse 3 = .ok (.invokestatic 154, 3) := by decide +kernel
theorem dX9_inverse_6 : decode cX9_inverse 6 = .ok (.ifCond .ne 5, 3) := by decide +kernel
theorem dX9_inverse_9 : decode cX9_inverse 9 = .ok (.iconst (-1), 1) := by decide +kernel
theorem dX9_inverse_10 : decode cX9_inverse 10 = .ok (.ireturn, 1) := by decide +kernel
theorem dX9_inverse_11 : decode cX9_inverse 11 = .ok (.aload_n 0, 1) := by decide +kernel
theorem dX9_inverse_12 : decode cX9_inverse 12 = .ok (.getfield 11, 3) := by decide +kernel
theorem dX9_inverse_15 : decode cX9_inverse 15 = .ok (.iload_n 2, 1) := by decide +kernel
theorem dX9_inverse_16 : decode cX9_inverse 16 = .ok (.aaload, 1) := by decide +kernel
theorem dX9_inverse_17 : decode cX9_inverse 17 = .ok (.invokestatic 205, 3) := by decide +kernel
theorem dX9_inverse_20 : decode cX9_inverse 20 = .ok (.ifCond .ne 23, 3) := by decide +kernel
theorem dX9_inverse_23 : decode cX9_inverse 23 = .ok (.aload_n 0, 1) := by decide +kernel
theorem dX9_inverse_24 : decode cX9_inverse 24 = .ok (.getfield 11, 3) := by decide +kernel
theorem dX9_inverse_27 : decode cX9_inverse 27 = .ok (.iload_n 2, 1) := by decide +kernel
theorem dX9_inverse_28 : decode cX9_inverse 28 = .ok (.aaload, 1) := by decide +kernel
theorem dX9_inverse_29 : decode cX9_inverse 29 = .ok (.invokevirtual 168, 3) := by decide +kernel
theorem dX9_inverse_32 : decode cX9_inverse 32 = .ok (.ifCond .eq 8, 3) := by decide +kernel
theorem dX9_inverse_35 : decode cX9_inverse 35 = .ok (.bipush (-2), 2) := by decide +kernel
theorem dX9_inverse_37 : decode cX9_inverse 37 = .ok (.goto 5, 3) := by decide +kernel
theorem dX9_inverse_40 : decode cX9_inverse 40 = .ok (.bipush (-3), 2) := by decide +kernel
theorem dX9_inverse_42 : decode cX9_inverse 42 = .ok (.ireturn, 1) := by decide +kernel
theorem dX9_inverse_43 : decode cX9_inverse 43 = .ok (.aload_n 0, 1) := by decide +kernel
theorem dX9_inverse_44 : decode cX9_inverse 44 = .ok (.getfield 49, 3) := by decide +kernel
theorem dX9_inverse_47 : decode cX9_inverse 47 = .ok (.aload_n 0, 1) := by decide +kernel
theorem dX9_inverse_48 : decode cX9_inverse 48 = .ok (.getfield 11, 3) := by decide +kernel
theorem dX9_inverse_51 : decode cX9_inverse 51 = .ok (.iload_n 1, 1) := by decide +kernel
theorem dX9_inverse_52 : decode cX9_inverse 52 = .ok (.aaload, 1) := by decide +kernel
theorem dX9_inverse_53 : decode cX9_inverse 53 = .ok (.aload_n 0, 1) := by decide +kernel
theorem dX9_inverse_54 : decode cX9_inverse 54 = .ok (.getfield 11, 3) := by decide +kernel
theorem dX9_inverse_57 : decode cX9_inverse 57 = .ok (.iload_n 2, 1) := by decide +kernel
theorem dX9_inverse_58 : decode cX9_inverse 58 = .ok (.aaload, 1) := by decide +kernel
theorem dX9_inverse_59 : decode cX9_inverse 59 = .ok (.invokevirtual 213, 3) := by decide +kernel
theorem dX9_inverse_62 : decode cX9_inverse 62 = .ok (.ifCond .eq 18, 3) := by decide +kernel
theorem dX9_inverse_65 : decode cX9_inverse 65 = .ok (.aload_n 0, 1) := by decide +kernel
theorem dX9_inverse_66 : decode cX9_inverse 66 = .ok (.aload_n 0, 1) := by decide +kernel
theorem dX9_inverse_67 : decode cX9_inverse 67 = .ok (.getfield 49, 3) := by decide +kernel
theorem dX9_inverse_70 : decode cX9_inverse 70 = .ok (.getfield 195, 3) := by decide +kernel
theorem dX9_inverse_73 : decode cX9_inverse 73 = .ok (.iload_n 3, 1) := by decide +kernel
theorem dX9_inverse_74 : decode cX9_inverse 74 = .ok (.invokevirtual 116, 3) := by decide +kernel
theorem dX9_inverse_77 : decode cX9_inverse 77 = .ok (.goto 5, 3) := by decide +kernel
theorem dX9_inverse_80 : decode cX9_inverse 80 = .ok (.bipush (-4), 2) := by decide +kernel
theorem dX9_inverse_82 : decode cX9_inverse 82 = .ok (.ireturn, 1) := by decide +kernel
def zs_X9_inverse (h : AH) (u0 : Nat) (u1 : Int32) (u2 : Int32) (u3 : Int32) : Option (Int32 × AH) :=
  (zs_X9_areSlots h u1 u2 u3).bind fun x1 => (if x1 = 0 then some ((-1 : Int32), h) else (gR h u0 9 0).bind fun x3 => (aR h x3 3 u2).bind fun x4 => (zs_X9_isModulus h x4).bind fun x5 => (if x5 = 0 then (gR h u0 9 0).bind fun x19 => (aR h x19 3 u2).bind fun x20 => (chk h x20 8).bind fun _ => (zs_X8_isZero h x20).bind fun x22 => (if x22 = 0 then some ((-3 : Int32), h) else some ((-2 : Int32), h)) else (gR h u0 9 5).bind fun x7 => (gR h u0 9 0).bind fun x8 => (aR h x8 3 u1).bind fun x9 => (gR h u0 9 0).bind fun x10 => (aR h x10 3 u2).bind fun x11 => (chk h x7 3).bind fun _ => (zs_X3_invert h x7 x9 x11).bind fun x13 => (if x13.1 = 0 then some ((-4 : Int32), x13.2) else (gR x13.2 u0 9 5).bind fun x15 => (gR x13.2 x15 3 0).bind fun x16 => (chk x13.2 u0 9).bind fun _ => (zs_X9_keep x13.2 u0 x16 u3).bind fun x18 => some (x18.1, x18.2))))
set_option maxRecDepth 100000 in
set_option maxHeartbeats 4000000 in
theorem zm_X9_inverse (l : Launch) (D : hG) (z : Nat) {h : AH} {u0 : Nat} {u1 : Int32} {u2 : Int32} {u3 : Int32} {r : Int32} {h' : AH} (hs : zs_X9_inverse h u0 u1 u2 u3 = some (r, h')) : hC l D z yX9_inverse cX9_inverse 4 (Option.some Jvm.ClassFile.FieldType.int) 6 159 0 0 [.ref u0, .int u1, .int u2, .int u3] h h' (some (.int r)) := by
  refine hC_of (by decide) (Nat.le_of_ble_eq_true rfl) ?_
  intro p e s m below meth c hx hb hml hrt hlk hown hnm hts hk hr hz ls hl
  replace hown : s.vm.findClass RX9 = some m.cls := hown
  replace hl : lv_has ls 4 [(0, .ref u0), (1, .int u1), (2, .int u2), (3, .int u3)] := hl
  have hS : va_S (hA z) s.heap s.heap [] := va_S.rf
  suffices hgo : ∀ (H : Heap) (locs : List Loc), hR D z h H → va_S (hA z) s.heap H locs → W p l e ({ frames := 6, cells := 0, slots := 0, locals := 159 } : Room) s m ([.ref u0, .int u1, .int u2, .int u3] : List Value).toArray below meth c H locs 0 0 (MQ below (hQ D z h' (some (.int r))) ([.ref u0, .int u1, .int u2, .int u3] : List Value).toArray s 0 0 (hA z)) (F0 m 0 ls []) from hgo _ _ hr hS
  clear hr hS
  intro H locs hr hS
  unfold zs_X9_inverse at hs
  refine lv_iload_n hx hb dX9_inverse_0 rfl (lv_at hl 1 rfl) ?_
  refine lv_iload_n hx hb dX9_inverse_1 rfl (lv_at hl 2 rfl) ?_
  refine lv_iload_n hx hb dX9_inverse_2 rfl (lv_at hl 3 rfl) ?_
  obtain ⟨x1, ex1, hs⟩ := bi_inv hs
  refine hv_S1 (n := 3) [.int u1, .int u2, .int u3] [] hx hb hml hown hts hk hr hz hS (zm_X9_areSlots l D z ex1) tw_447 tw_448 tw_1 tw_449 (by decide +kernel) (by decide) ⟨(Nat.zero_le _), (Nat.zero_le _)⟩ rfl hl.1 (Nat.le_of_ble_eq_true rfl) dX9_inverse_3 rfl (fun H locs hr hS => ?_)
  refine lv_if_ne (tgt := 11) hx hb dX9_inverse_6 (by decide) (fun c2 => ?_) (fun c2 => ?_)
  · rw [if_neg c2] at hs
    refine lv_aload_n hx hb dX9_inverse_11 rfl (lv_at hl 0 rfl) ?_
    obtain ⟨x3, ex3, hs⟩ := bi_inv hs
    refine hv_gR (C := RX9) (T := TX9) (N := 12) (ci := 9) hx hb hts inX9 hown hk hr rfl 0 (by decide) (hts _ tw_275) ex3 dX9_inverse_12 ?_
    refine lv_iload_n hx hb dX9_inverse_15 rfl (lv_at hl 2 rfl) ?_
    obtain ⟨x4, ex4, hs⟩ := bi_inv hs
    refine hv_aR (kd := 3) hx hb hk hr rfl ex4 dX9_inverse_16 ?_
    obtain ⟨x5, ex5, hs⟩ := bi_inv hs
    refine hv_S1 (n := 1) [.ref x4] [] hx hb hml hown hts hk hr hz hS (zm_X9_isModulus l D z ex5) tw_580 tw_581 tw_1 tw_582 (by decide +kernel) (by decide) ⟨(Nat.zero_le _), (Nat.zero_le _)⟩ rfl hl.1 (Nat.le_of_ble_eq_true rfl) dX9_inverse_17 rfl (fun H locs hr hS => ?_)
    refine lv_if_ne (tgt := 43) hx hb dX9_inverse_20 (by decide) (fun c6 => ?_) (fun c6 => ?_)
    · rw [if_neg c6] at hs
      refine lv_aload_n hx hb dX9_inverse_43 rfl (lv_at hl 0 rfl) ?_
      obtain ⟨x7, ex7, hs⟩ := bi_inv hs
      refine hv_gR (C := RX9) (T := TX9) (N := 12) (ci := 9) hx hb hts inX9 hown hk hr rfl 5 (by decide) (hts _ tw_280) ex7 dX9_inverse_44 ?_
      refine lv_aload_n hx hb dX9_inverse_47 rfl (lv_at hl 0 rfl) ?_
      obtain ⟨x8, ex8, hs⟩ := bi_inv hs
      refine hv_gR (C := RX9) (T := TX9) (N := 12) (ci := 9) hx hb hts inX9 hown hk hr rfl 0 (by decide) (hts _ tw_275) ex8 dX9_inverse_48 ?_
      refine lv_iload_n hx hb dX9_inverse_51 rfl (lv_at hl 1 rfl) ?_
      obtain ⟨x9, ex9, hs⟩ := bi_inv hs
      refine hv_aR (kd := 3) hx hb hk hr rfl ex9 dX9_inverse_52 ?_
      refine lv_aload_n hx hb dX9_inverse_53 rfl (lv_at hl 0 rfl) ?_
      obtain ⟨x10, ex10, hs⟩ := bi_inv hs
      refine hv_gR (C := RX9) (T := TX9) (N := 12) (ci := 9) hx hb hts inX9 hown hk hr rfl 0 (by decide) (hts _ tw_275) ex10 dX9_inverse_54 ?_
      refine lv_iload_n hx hb dX9_inverse_57 rfl (lv_at hl 2 rfl) ?_
      obtain ⟨x11, ex11, hs⟩ := bi_inv hs
      refine hv_aR (kd := 3) hx hb hk hr rfl ex11 dX9_inverse_58 ?_
      obtain ⟨_, ex12, hs⟩ := bi_inv hs
      obtain ⟨x13, ex13, hs⟩ := bi_inv hs
      refine hv_V1 (n := 2) [.ref x9, .ref x11] [] hx hb hml hown hts hk hr hz hS (zm_X3_invert l D z ex13) ex12 rfl tw_597 tw_598 tw_599 tw_7 tw_600 (by decide +kernel) (by decide) ⟨(Nat.zero_le _), (Nat.zero_le _)⟩ rfl hl.1 (Nat.le_of_ble_eq_true rfl) dX9_inverse_59 rfl (fun H locs hr hS => ?_)
      refine lv_if_eq (tgt := 80) hx hb dX9_inverse_62 (by decide) (fun c14 => ?_) (fun c14 => ?_)
      · rw [if_pos c14] at hs
        refine lv_bipush (v := (-4)) hx hb dX9_inverse_80 (by decide) ?_
        obtain ⟨rfl, rfl⟩ := Prod.mk.inj (Option.some.inj hs)
        exact hv_iret hx hb hrt hlk hr hS dX9_inverse_82
      · rw [if_neg c14] at hs
        refine lv_aload_n hx hb dX9_inverse_65 rfl (lv_at hl 0 rfl) ?_
        refine lv_aload_n hx hb dX9_inverse_66 rfl (lv_at hl 0 rfl) ?_
        obtain ⟨x15, ex15, hs⟩ := bi_inv hs
        refine hv_gR (C := RX9) (T := TX9) (N := 12) (ci := 9) hx hb hts inX9 hown hk hr rfl 5 (by decide) (hts _ tw_280) ex15 dX9_inverse_67 ?_
        obtain ⟨x16, ex16, hs⟩ := bi_inv hs
        refine hv_gR (C := RX3) (T := TX3) (N := 8) (ci := 3) hx hb hts inX3 hown hk hr rfl 0 (by decide) (hts _ tw_168) ex16 dX9_inverse_70 ?_
        refine lv_iload_n hx hb dX9_inverse_73 rfl (lv_at hl 3 rfl) ?_
        obtain ⟨_, ex17, hs⟩ := bi_inv hs
        obtain ⟨x18, ex18, hs⟩ := bi_inv hs
        refine hv_V1 (n := 2) [.ref x16, .int u3] [] hx hb hml hown hts hk hr hz hS (zm_X9_keep l D z ex18) ex17 rfl tw_364 tw_366 ts_2 tw_1 tw_367 (by decide +kernel) (by decide) ⟨(Nat.zero_le _), (Nat.zero_le _)⟩ rfl hl.1 (Nat.le_of_ble_eq_true rfl) dX9_inverse_74 rfl (fun H locs hr hS => ?_)
        refine lv_goto (tgt := 82) hx hb dX9_inverse_77 (by decide) ?_
        obtain ⟨rfl, rfl⟩ := Prod.mk.inj (Option.some.inj hs)
        exact hv_iret hx hb hrt hlk hr hS dX9_inverse_82
    · rw [if_pos c6] at hs
      refine lv_aload_n hx hb dX9_inverse_23 rfl (lv_at hl 0 rfl) ?_
      obtain ⟨x19, ex19, hs⟩ := bi_inv hs
      refine hv_gR (C := RX9) (T := TX9) (N := 12) (ci := 9) hx hb hts inX9 hown hk hr rfl 0 (by decide) (hts _ tw_275) ex19 dX9_inverse_24 ?_
      refine lv_iload_n hx hb dX9_inverse_27 rfl (lv_at hl 2 rfl) ?_
      obtain ⟨x20, ex20, hs⟩ := bi_inv hs
      refine hv_aR (kd := 3) hx hb hk hr rfl ex20 dX9_inverse_28 ?_
      obtain ⟨_, ex21, hs⟩ := bi_inv hs
      obtain ⟨x22, ex22, hs⟩ := bi_inv hs
      refine hv_V1 (n := 0) [] [] hx hb hml hown hts hk hr hz hS (zm_X8_isZero l D z ex22) ex21 rfl tw_478 tw_400 tw_401 tw_2 tw_402 (by decide +kernel) (by decide) ⟨(Nat.zero_le _), (Nat.zero_le _)⟩ rfl hl.1 (Nat.le_of_ble_eq_true rfl) dX9_inverse_29 rfl (fun H locs hr hS => ?_)
      refine lv_if_eq (tgt := 40) hx hb dX9_inverse_32 (by decide) (fun c23 => ?_) (fun c23 => ?_)
      · rw [if_pos c23] at hs
        refine lv_bipush (v := (-3)) hx hb dX9_inverse_40 (by decide) ?_
        obtain ⟨rfl, rfl⟩ := Prod.mk.inj (Option.some.inj hs)
        exact hv_iret hx hb hrt hlk hr hS dX9_inverse_42
      · rw [if_neg c23] at hs
        refine lv_bipush (v := (-2)) hx hb dX9_inverse_35 (by decide) ?_
        refine lv_goto (tgt := 42) hx hb dX9_inverse_37 (by decide) ?_
        obtain ⟨rfl, rfl⟩ := Prod.mk.inj (Option.some.inj hs)
        exact hv_iret hx hb hrt hlk hr hS dX9_inverse_42
  · rw [if_pos c2] at hs
    refine lv_iconst (v := (-1)) hx hb dX9_inverse_9 (by decide) ?_
    obtain ⟨rfl, rfl⟩ := Prod.mk.inj (Option.some.inj hs)
    exact hv_iret hx hb hrt hlk hr hS dX9_inverse_10
theorem dX9_length_0 : decode cX9_length 0 = .ok (.iload_n 1, 1) := by decide +kernel
theorem dX9_length_1 : decode cX9_length 1 = .ok (.invokestatic 90, 3) := by decide +kernel
theorem dX9_length_4 : decode cX9_length 4 = .ok (.ifCond .eq 15, 3) := by decide +kernel
theorem dX9_length_7 : decode cX9_length 7 = .ok (.aload_n 0, 1) := by decide +kernel
theorem dX9_length_8 : decode cX9_length 8 = .ok (.getfield 11, 3) := by decide +kernel
theorem dX9_length_11 : decode cX9_length 11 = .ok (.iload_n 1, 1) := by decide +kernel
theorem dX9_length_12 : decode cX9_length 12 = .ok (.aaload, 1) := by decide +kernel
theorem dX9_length_13 : decode cX9_length 13 = .ok (.invokevirtual 230, 3) := by decide +kernel
theorem dX9_length_16 : decode cX9_length 16 = .ok (.goto 4, 3) := by decide +kernel
theorem dX9_length_19 : decode cX9_length 19 = .ok (.iconst (-1), 1) := by decide +kernel
theorem dX9_length_20 : decode cX9_length 20 = .ok (.ireturn, 1) := by decide +kernel
def zs_X9_length (h : AH) (u0 : Nat) (u1 : Int32) : Option Int32 :=
  (zs_X9_isSlot h u1).bind fun x1 => (if x1 = 0 then some ((-1 : Int32)) else (gR h u0 9 0).bind fun x3 => (aR h x3 3 u1).bind fun x4 => (chk h x4 8).bind fun _ => (zs_X8_sizeBits h x4).bind fun x6 => some x6)
set_option maxRecDepth 100000 in
set_option maxHeartbeats 4000000 in
theorem zm_X9_length (l : Launch) (D : hG) (z : Nat) {h : AH} {u0 : Nat} {u1 : Int32} {r : Int32} (hs : zs_X9_length h u0 u1 = some r) : hC l D z yX9_length cX9_length 2 (Option.some Jvm.ClassFile.FieldType.int) 3 64 0 0 [.ref u0, .int u1] h h (some (.int r)) := by
  refine hC_of (by decide) (Nat.le_of_ble_eq_true rfl) ?_
  intro p e s m below meth c hx hb hml hrt hlk hown hnm hts hk hr hz ls hl
  replace hown : s.vm.findClass RX9 = some m.cls := hown
  replace hl : lv_has ls 2 [(0, .ref u0), (1, .int u1)] := hl
  have hS : va_S (hA z) s.heap s.heap [] := va_S.rf
  suffices hgo : ∀ (H : Heap) (locs : List Loc), hR D z h H → va_S (hA z) s.heap H locs → W p l e ({ frames := 3, cells := 0, slots := 0, locals := 64 } : Room) s m ([.ref u0, .int u1] : List Value).toArray below meth c H locs 0 0 (MQ below (hQ D z h (some (.int r))) ([.ref u0, .int u1] : List Value).toArray s 0 0 (hA z)) (F0 m 0 ls []) from hgo _ _ hr hS
  clear hr hS
  intro H locs hr hS
  unfold zs_X9_length at hs
  refine lv_iload_n hx hb dX9_length_0 rfl (lv_at hl 1 rfl) ?_
  obtain ⟨x1, ex1, hs⟩ := bi_inv hs
  refine hv_S1 (n := 1) [.int u1] [] hx hb hml hown hts hk hr hz hS (zm_X9_isSlot l D z ex1) tw_316 tw_317 tw_1 tw_318 (by decide +kernel) (by decide) ⟨(Nat.zero_le _), (Nat.zero_le _)⟩ rfl hl.1 (Nat.le_of_ble_eq_true rfl) dX9_length_1 rfl (fun H locs hr hS => ?_)
  refine lv_if_eq (tgt := 19) hx hb dX9_length_4 (by decide) (fun c2 => ?_) (fun c2 => ?_)
  · rw [if_pos c2] at hs
    refine lv_iconst (v := (-1)) hx hb dX9_length_19 (by decide) ?_
    obtain rfl := Option.some.inj hs
    exact hv_iret hx hb hrt hlk hr hS dX9_length_20
  · rw [if_neg c2] at hs
    refine lv_aload_n hx hb dX9_length_7 rfl (lv_at hl 0 rfl) ?_
    obtain ⟨x3, ex3, hs⟩ := bi_inv hs
    refine hv_gR (C := RX9) (T := TX9) (N := 12) (ci := 9) hx hb hts inX9 hown hk hr rfl 0 (by decide) (hts _ tw_275) ex3 dX9_length_8 ?_
    refine lv_iload_n hx hb dX9_length_11 rfl (lv_at hl 1 rfl) ?_
    obtain ⟨x4, ex4, hs⟩ := bi_inv hs
    refine hv_aR (kd := 3) hx hb hk hr rfl ex4 dX9_length_12 ?_
    obtain ⟨_, ex5, hs⟩ := bi_inv hs
    obtain ⟨x6, ex6, hs⟩ := bi_inv hs
    refine hv_V1 (n := 0) [] [] hx hb hml hown hts hk hr hz hS (zm_X8_sizeBits l D z ex6) ex5 rfl tw_583 tw_565 tw_566 tw_2 tw_567 (by decide +kernel) (by decide) ⟨(Nat.zero_le _), (Nat.zero_le _)⟩ rfl hl.1 (Nat.le_of_ble_eq_true rfl) dX9_length_13 rfl (fun H locs hr hS => ?_)
    refine lv_goto (tgt := 20) hx hb dX9_length_16 (by decide) ?_
    obtain rfl := Option.some.inj hs
    exact hv_iret hx hb hrt hlk hr hS dX9_length_20
theorem dX9_limb_0 : decode cX9_limb 0 = .ok (.iload_n 1, 1) := by decide +kernel
theorem dX9_limb_1 : decode cX9_limb 1 = .ok (.invokestatic 90, 3) := by decide +kernel
theorem dX9_limb_4 : decode cX9_limb 4 = .ok (.ifCond .eq 16, 3) := by decide +kernel
theorem dX9_limb_7 : decode cX9_limb 7 = .ok (.aload_n 0, 1) := by decide +kernel
theorem dX9_limb_8 : decode cX9_limb 8 = .ok (.getfield 11, 3) := by decide +kernel
theorem dX9_limb_11 : decode cX9_limb 11 = .ok (.iload_n 1, 1) := by decide +kernel
theorem dX9_limb_12 : decode cX9_limb 12 = .ok (.aaload, 1) := by decide +kernel
theorem dX9_limb_13 : decode cX9_limb 13 = .ok (.iload_n 2, 1) := by decide +kernel
theorem dX9_limb_14 : decode cX9_limb 14 = .ok (.invokevirtual 146, 3) := by decide +kernel
theorem dX9_limb_17 : decode cX9_limb 17 = .ok (.goto 4, 3) := by decide +kernel
theorem dX9_limb_20 : decode cX9_limb 20 = .ok (.lconst 0, 1) := by decide +kernel
theorem dX9_limb_21 : decode cX9_limb 21 = .ok (.lreturn, 1) := by decide +kernel
def zs_X9_limb (h : AH) (u0 : Nat) (u1 : Int32) (u2 : Int32) : Option Int64 :=
  (zs_X9_isSlot h u1).bind fun x1 => (if x1 = 0 then some ((0 : Int64)) else (gR h u0 9 0).bind fun x3 => (aR h x3 3 u1).bind fun x4 => (chk h x4 8).bind fun _ => (zs_X8_partAt h x4 u2).bind fun x6 => some x6)
set_option maxRecDepth 100000 in
set_option maxHeartbeats 4000000 in
theorem zm_X9_limb (l : Launch) (D : hG) (z : Nat) {h : AH} {u0 : Nat} {u1 : Int32} {u2 : Int32} {r : Int64} (hs : zs_X9_limb h u0 u1 u2 = some r) : hC l D z yX9_limb cX9_limb 3 (Option.some Jvm.ClassFile.FieldType.long) 1 21 0 0 [.ref u0, .int u1, .int u2] h h (some (.long r)) := by
  refine hC_of (by decide) (Nat.le_of_ble_eq_true rfl) ?_
  intro p e s m below meth c hx hb hml hrt hlk hown hnm hts hk hr hz ls hl
  replace hown : s.vm.findClass RX9 = some m.cls := hown
  replace hl : lv_has ls 3 [(0, .ref u0), (1, .int u1), (2, .int u2)] := hl
  have hS : va_S (hA z) s.heap s.heap [] := va_S.rf
  suffices hgo : ∀ (H : Heap) (locs : List Loc), hR D z h H → va_S (hA z) s.heap H locs → W p l e ({ frames := 1, cells := 0, slots := 0, locals := 21 } : Room) s m ([.ref u0, .int u1, .int u2] : List Value).toArray below meth c H locs 0 0 (MQ below (hQ D z h (some (.long r))) ([.ref u0, .int u1, .int u2] : List Value).toArray s 0 0 (hA z)) (F0 m 0 ls []) from hgo _ _ hr hS
  clear hr hS
  intro H locs hr hS
  unfold zs_X9_limb at hs
  refine lv_iload_n hx hb dX9_limb_0 rfl (lv_at hl 1 rfl) ?_
  obtain ⟨x1, ex1, hs⟩ := bi_inv hs
  refine hv_S1 (n := 1) [.int u1] [] hx hb hml hown hts hk hr hz hS (zm_X9_isSlot l D z ex1) tw_316 tw_317 tw_1 tw_318 (by decide +kernel) (by decide) ⟨(Nat.zero_le _), (Nat.zero_le _)⟩ rfl hl.1 (Nat.le_of_ble_eq_true rfl) dX9_limb_1 rfl (fun H locs hr hS => ?_)
  refine lv_if_eq (tgt := 20) hx hb dX9_limb_4 (by decide) (fun c2 => ?_) (fun c2 => ?_)
  · rw [if_pos c2] at hs
    refine lv_lconst (v := 0) hx hb dX9_limb_20 (by decide) ?_
    obtain rfl := Option.some.inj hs
    exact hv_lret hx hb hrt hlk hr hS dX9_limb_21
  · rw [if_neg c2] at hs
    refine lv_aload_n hx hb dX9_limb_7 rfl (lv_at hl 0 rfl) ?_
    obtain ⟨x3, ex3, hs⟩ := bi_inv hs
    refine hv_gR (C := RX9) (T := TX9) (N := 12) (ci := 9) hx hb hts inX9 hown hk hr rfl 0 (by decide) (hts _ tw_275) ex3 dX9_limb_8 ?_
    refine lv_iload_n hx hb dX9_limb_11 rfl (lv_at hl 1 rfl) ?_
    obtain ⟨x4, ex4, hs⟩ := bi_inv hs
    refine hv_aR (kd := 3) hx hb hk hr rfl ex4 dX9_limb_12 ?_
    refine lv_iload_n hx hb dX9_limb_13 rfl (lv_at hl 2 rfl) ?_
    obtain ⟨_, ex5, hs⟩ := bi_inv hs
    obtain ⟨x6, ex6, hs⟩ := bi_inv hs
    refine hv_V1 (n := 1) [.int u2] [] hx hb hml hown hts hk hr hz hS (zm_X8_partAt l D z ex6) ex5 rfl tw_432 tw_416 tw_417 tw_2 tw_418 (by decide +kernel) (by decide) ⟨(Nat.zero_le _), (Nat.zero_le _)⟩ rfl hl.1 (Nat.le_of_ble_eq_true rfl) dX9_limb_14 rfl (fun H locs hr hS => ?_)
    refine lv_goto (tgt := 21) hx hb dX9_limb_17 (by decide) ?_
    obtain rfl := Option.some.inj hs
    exact hv_lret hx hb hrt hlk hr hS dX9_limb_21
theorem dX9_limbs_0 : decode cX9_limbs 0 = .ok (.iload_n 1, 1) := by decide +kernel
theorem dX9_limbs_1 : decode cX9_limbs 1 = .ok (.invokestatic 90, 3) := by decide +kernel
theorem dX9_limbs_4 : decode cX9_limbs 4 = .ok (.ifCond .ne 5, 3) := by decide +kernel
theorem dX9_limbs_7 : decode cX9_limbs 7 = .ok (.iconst (-1), 1) := by decide +kernel
theorem dX9_limbs_8 : decode cX9_limbs 8 = .ok (.ireturn, 1) := by decide +kernel
theorem dX9_limbs_9 : decode cX9_limbs 9 = .ok (.aload_n 0, 1) := by decide +kernel
theorem dX9_limbs_10 : decode cX9_limbs 10 = .ok (.getfield 11, 3) := by decide +kernel
theorem dX9_limbs_13 : decode cX9_limbs 13 = .ok (.iload_n 1, 1) := by decide +kernel
theorem dX9_limbs_14 : decode cX9_limbs 14 = .ok (.aaload, 1) := by decide +kernel
theorem dX9_limbs_15 : decode cX9_limbs 15 = .ok (.invokevirtual 139, 3) := by decide +kernel
theorem dX9_limbs_18 : decode cX9_limbs 18 = .ok (.ifCond .eq 7, 3) := by decide +kernel
theorem dX9_limbs_21 : decode cX9_limbs 21 = .ok (.iconst 0, 1) := by decide +kernel
theorem dX9_limbs_22 : decode cX9_limbs 22 = .ok (.goto 12, 3) := by decide +kernel
theorem dX9_limbs_25 : decode cX9_limbs 25 = .ok (.aload_n 0, 1) := by decide +kernel
theorem dX9_limbs_26 : decode cX9_limbs 26 = .ok (.getfield 11, 3) := by decide +kernel
theorem dX9_limbs_29 : decode cX9_limbs 29 = .ok (.iload_n 1, 1) := by decide +kernel
theorem dX9_limbs_30 : decode cX9_limbs 30 = .ok (.aaload, 1) := by decide +kernel
theorem dX9_limbs_31 : decode cX9_limbs 31 = .ok (.getfield 143, 3) := by decide +kernel
theorem dX9_limbs_34 : decode cX9_limbs 34 = .ok (.ireturn, 1) := by decide +kernel
def zs_X9_limbs (h : AH) (u0 : Nat) (u1 : Int32) : Option Int32 :=
  (zs_X9_isSlot h u1).bind fun x1 => (if x1 = 0 then some ((-1 : Int32)) else (gR h u0 9 0).bind fun x3 => (aR h x3 3 u1).bind fun x4 => (chk h x4 8).bind fun _ => (zs_X8_isShort h x4).bind fun x6 => (if x6 = 0 then (gR h u0 9 0).bind fun x8 => (aR h x8 3 u1).bind fun x9 => (gI h x9 8 1).bind fun x10 => some x10 else some ((0 : Int32))))
set_option maxRecDepth 100000 in
set_option maxHeartbeats 4000000 in
theorem zm_X9_limbs (l : Launch) (D : hG) (z : Nat) {h : AH} {u0 : Nat} {u1 : Int32} {r : Int32} (hs : zs_X9_limbs h u0 u1 = some r) : hC l D z yX9_limbs cX9_limbs 2 (Option.some Jvm.ClassFile.FieldType.int) 2 43 0 0 [.ref u0, .int u1] h h (some (.int r)) := by
  refine hC_of (by decide) (Nat.le_of_ble_eq_true rfl) ?_
  intro p e s m below meth c hx hb hml hrt hlk hown hnm hts hk hr hz ls hl
  replace hown : s.vm.findClass RX9 = some m.cls := hown
  replace hl : lv_has ls 2 [(0, .ref u0), (1, .int u1)] := hl
  have hS : va_S (hA z) s.heap s.heap [] := va_S.rf
  suffices hgo : ∀ (H : Heap) (locs : List Loc), hR D z h H → va_S (hA z) s.heap H locs → W p l e ({ frames := 2, cells := 0, slots := 0, locals := 43 } : Room) s m ([.ref u0, .int u1] : List Value).toArray below meth c H locs 0 0 (MQ below (hQ D z h (some (.int r))) ([.ref u0, .int u1] : List Value).toArray s 0 0 (hA z)) (F0 m 0 ls []) from hgo _ _ hr hS
  clear hr hS
  intro H locs hr hS
  unfold zs_X9_limbs at hs
  refine lv_iload_n hx hb dX9_limbs_0 rfl (lv_at hl 1 rfl) ?_
  obtain ⟨x1, ex1, hs⟩ := bi_inv hs
  refine hv_S1 (n := 1) [.int u1] [] hx hb hml hown hts hk hr hz hS (zm_X9_isSlot l D z ex1) tw_316 tw_317 tw_1 tw_318 (by decide +kernel) (by decide) ⟨(Nat.zero_le _), (Nat.zero_le _)⟩ rfl hl.1 (Nat.le_of_ble_eq_true rfl) dX9_limbs_1 rfl (fun H locs hr hS => ?_)
  refine lv_if_ne (tgt := 9) hx hb dX9_limbs_4 (by decide) (fun c2 => ?_) (fun c2 => ?_)
  · rw [if_neg c2] at hs
    refine lv_aload_n hx hb dX9_limbs_9 rfl (lv_at hl 0 rfl) ?_
    obtain ⟨x3, ex3, hs⟩ := bi_inv hs
    refine hv_gR (C := RX9) (T := TX9) (N := 12) (ci := 9) hx hb hts inX9 hown hk hr rfl 0 (by decide) (hts _ tw_275) ex3 dX9_limbs_10 ?_
    refine lv_iload_n hx hb dX9_limbs_13 rfl (lv_at hl 1 rfl) ?_
    obtain ⟨x4, ex4, hs⟩ := bi_inv hs
    refine hv_aR (kd := 3) hx hb hk hr rfl ex4 dX9_limbs_14 ?_
    obtain ⟨_, ex5, hs⟩ := bi_inv hs
    obtain ⟨x6, ex6, hs⟩ := bi_inv hs
    refine hv_V1 (n := 0) [] [] hx hb hml hown hts hk hr hz hS (zm_X8_isShort l D z ex6) ex5 rfl tw_423 tw_424 tw_425 tw_2 tw_426 (by decide +kernel) (by decide) ⟨(Nat.zero_le _), (Nat.zero_le _)⟩ rfl hl.1 (Nat.le_of_ble_eq_true rfl) dX9_limbs_15 rfl (fun H locs hr hS => ?_)
    refine lv_if_eq (tgt := 25) hx hb dX9_limbs_18 (by decide) (fun c7 => ?_) (fun c7 => ?_)
    · rw [if_pos c7] at hs
      refine lv_aload_n hx hb dX9_limbs_25 rfl (lv_at hl 0 rfl) ?_
      obtain ⟨x8, ex8, hs⟩ := bi_inv hs
      refine hv_gR (C := RX9) (T := TX9) (N := 12) (ci := 9) hx hb hts inX9 hown hk hr rfl 0 (by decide) (hts _ tw_275) ex8 dX9_limbs_26 ?_
      refine lv_iload_n hx hb dX9_limbs_29 rfl (lv_at hl 1 rfl) ?_
      obtain ⟨x9, ex9, hs⟩ := bi_inv hs
      refine hv_aR (kd := 3) hx hb hk hr rfl ex9 dX9_limbs_30 ?_
      obtain ⟨x10, ex10, hs⟩ := bi_inv hs
      refine hv_gI (C := RX8) (T := TX8) (N := 3) (ci := 8) hx hb hts inX8 hown hk hr rfl 1 (by decide) (hts _ tw_41) ex10 dX9_limbs_31 ?_
      obtain rfl := Option.some.inj hs
      exact hv_iret hx hb hrt hlk hr hS dX9_limbs_34
    · rw [if_neg c7] at hs
      refine lv_iconst (v := 0) hx hb dX9_limbs_21 (by decide) ?_
      refine lv_goto (tgt := 34) hx hb dX9_limbs_22 (by decide) ?_
      obtain rfl := Option.some.inj hs
      exact hv_iret hx hb hrt hlk hr hS dX9_limbs_34
  · rw [if_pos c2] at hs
    refine lv_iconst (v := (-1)) hx hb dX9_limbs_7 (by decide) ?_
    obtain rfl := Option.some.inj hs
    exact hv_iret hx hb hrt hlk hr hS dX9_limbs_8
theorem dX9_low_0 : decode cX9_low 0 = .ok (.iload_n 1, 1) := by decide +kernel
theorem dX9_low_1 : decode cX9_low 1 = .ok (.invokestatic 90, 3) := by decide +kernel
theorem dX9_low_4 : decode cX9_low 4 = .ok (.ifCond .eq 15, 3) := by decide +kernel
theorem dX9_low_7 : decode cX9_low 7 = .ok (.aload_n 0, 1) := by decide +kernel
theorem dX9_low_8 : decode cX9_low 8 = .ok (.getfield 11, 3) := by decide +kernel
theorem dX9_low_11 : decode cX9_low 11 = .ok (.iload_n 1, 1) := by decide +kernel
theorem dX9_low_12 : decode cX9_low 12 = .ok (.aaload, 1) := by decide +kernel
theorem dX9_low_13 : decode cX9_low 13 = .ok (.invokevirtual 135, 3) := by decide +kernel
theorem dX9_low_16 : decode cX9_low 16 = .ok (.goto 4, 3) := by decide +kernel
theorem dX9_low_19 : decode cX9_low 19 = .ok (.lconst 0, 1) := by decide +kernel
theorem dX9_low_20 : decode cX9_low 20 = .ok (.lreturn, 1) := by decide +kernel
def zs_X9_low (h : AH) (u0 : Nat) (u1 : Int32) : Option Int64 :=
  (zs_X9_isSlot h u1).bind fun x1 => (if x1 = 0 then some ((0 : Int64)) else (gR h u0 9 0).bind fun x3 => (aR h x3 3 u1).bind fun x4 => (chk h x4 8).bind fun _ => (zs_X8_lowest64 h x4).bind fun x6 => some x6)
set_option maxRecDepth 100000 in
set_option maxHeartbeats 4000000 in
theorem zm_X9_low (l : Launch) (D : hG) (z : Nat) {h : AH} {u0 : Nat} {u1 : Int32} {r : Int64} (hs : zs_X9_low h u0 u1 = some r) : hC l D z yX9_low cX9_low 2 (Option.some Jvm.ClassFile.FieldType.long) 2 43 0 0 [.ref u0, .int u1] h h (some (.long r)) := by
  refine hC_of (by decide) (Nat.le_of_ble_eq_true rfl) ?_
  intro p e s m below meth c hx hb hml hrt hlk hown hnm hts hk hr hz ls hl
  replace hown : s.vm.findClass RX9 = some m.cls := hown
  replace hl : lv_has ls 2 [(0, .ref u0), (1, .int u1)] := hl
  have hS : va_S (hA z) s.heap s.heap [] := va_S.rf
  suffices hgo : ∀ (H : Heap) (locs : List Loc), hR D z h H → va_S (hA z) s.heap H locs → W p l e ({ frames := 2, cells := 0, slots := 0, locals := 43 } : Room) s m ([.ref u0, .int u1] : List Value).toArray below meth c H locs 0 0 (MQ below (hQ D z h (some (.long r))) ([.ref u0, .int u1] : List Value).toArray s 0 0 (hA z)) (F0 m 0 ls []) from hgo _ _ hr hS
  clear hr hS
  intro H locs hr hS
  unfold zs_X9_low at hs
  refine lv_iload_n hx hb dX9_low_0 rfl (lv_at hl 1 rfl) ?_
  obtain ⟨x1, ex1, hs⟩ := bi_inv hs
  refine hv_S1 (n := 1) [.int u1] [] hx hb hml hown hts hk hr hz hS (zm_X9_isSlot l D z ex1) tw_316 tw_317 tw_1 tw_318 (by decide +kernel) (by decide) ⟨(Nat.zero_le _), (Nat.zero_le _)⟩ rfl hl.1 (Nat.le_of_ble_eq_true rfl) dX9_low_1 rfl (fun H locs hr hS => ?_)
  refine lv_if_eq (tgt := 19) hx hb dX9_low_4 (by decide) (fun c2 => ?_) (fun c2 => ?_)
  · rw [if_pos c2] at hs
    refine lv_lconst (v := 0) hx hb dX9_low_19 (by decide) ?_
    obtain rfl := Option.some.inj hs
    exact hv_lret hx hb hrt hlk hr hS dX9_low_20
  · rw [if_neg c2] at hs
    refine lv_aload_n hx hb dX9_low_7 rfl (lv_at hl 0 rfl) ?_
    obtain ⟨x3, ex3, hs⟩ := bi_inv hs
    refine hv_gR (C := RX9) (T := TX9) (N := 12) (ci := 9) hx hb hts inX9 hown hk hr rfl 0 (by decide) (hts _ tw_275) ex3 dX9_low_8 ?_
    refine lv_iload_n hx hb dX9_low_11 rfl (lv_at hl 1 rfl) ?_
    obtain ⟨x4, ex4, hs⟩ := bi_inv hs
    refine hv_aR (kd := 3) hx hb hk hr rfl ex4 dX9_low_12 ?_
    obtain ⟨_, ex5, hs⟩ := bi_inv hs
    obtain ⟨x6, ex6, hs⟩ := bi_inv hs
    refine hv_V1 (n := 0) [] [] hx hb hml hown hts hk hr hz hS (zm_X8_lowest64 l D z ex6) ex5 rfl tw_411 tw_412 tw_413 tw_2 tw_414 (by decide +kernel) (by decide) ⟨(Nat.zero_le _), (Nat.zero_le _)⟩ rfl hl.1 (Nat.le_of_ble_eq_true rfl) dX9_low_13 rfl (fun H locs hr hS => ?_)
    refine lv_goto (tgt := 20) hx hb dX9_low_16 (by decide) ?_
    obtain rfl := Option.some.inj hs
    exact hv_lret hx hb hrt hlk hr hS dX9_low_20
theorem dX9_moveDown_0 : decode cX9_moveDown 0 = .ok (.aload_n 1, 1) := by decide +kernel
theorem dX9_moveDown_1 : decode cX9_moveDown 1 = .ok (.getfield 196, 3) := by decide +kernel
theorem dX9_moveDown_4 : decode cX9_moveDown 4 = .ok (.ifCond .ne 13, 3) := by decide +kernel
theorem dX9_moveDown_7 : decode cX9_moveDown 7 = .ok (.aload_n 1, 1) := by decide +kernel
theorem dX9_moveDown_8 : decode cX9_moveDown 8 = .ok (.iload_n 2, 1) := by decide +kernel
theorem dX9_moveDown_9 : decode cX9_moveDown 9 = .ok (.aload_n 0, 1) := by decide +kernel
theorem dX9_moveDown_10 : decode cX9_moveDown 10 = .ok (.getfield 79, 3) := by decide +kernel
theorem dX9_moveDown_13 : decode cX9_moveDown 13 = .ok (.invokestatic 234, 3) := by decide +kernel
theorem dX9_moveDown_16 : decode cX9_moveDown 16 = .ok (.return_, 1) := by decide +kernel
theorem dX9_moveDown_17 : decode cX9_moveDown 17 = .ok (.aload_n 1, 1) := by decide +kernel
theorem dX9_moveDown_18 : decode cX9_moveDown 18 = .ok (.aload_n 0, 1) := by decide +kernel
theorem dX9_moveDown_19 : decode cX9_moveDown 19 = .ok (.getfield 83, 3) := by decide +kernel
theorem dX9_moveDown_22 : decode cX9_moveDown 22 = .ok (.aload_n 0, 1) := by decide +kernel
theorem dX9_moveDown_23 : decode cX9_moveDown 23 = .ok (.getfield 79, 3) := by decide +kernel
theorem dX9_moveDown_26 : decode cX9_moveDown 26 = .ok (.invokestatic 158, 3) := by decide +kernel
theorem dX9_moveDown_29 : decode cX9_moveDown 29 = .ok (.aload_n 0, 1) := by decide +kernel
theorem dX9_moveDown_30 : decode cX9_moveDown 30 = .ok (.getfield 79, 3) := by decide +kernel
theorem dX9_moveDown_33 : decode cX9_moveDown 33 = .ok (.iload_n 2, 1) := by decide +kernel
theorem dX9_moveDown_34 : decode cX9_moveDown 34 = .ok (.aload_n 0, 1) := by decide +kernel
theorem dX9_moveDown_35 : decode cX9_moveDown 35 = .ok (.getfield 79, 3) := by decide +kernel
theorem dX9_moveDown_38 : decode cX9_moveDown 38 = .ok (.invokestatic 234, 3) := by decide +kernel
theorem dX9_moveDown_41 : decode cX9_moveDown 41 = .ok (.aload_n 0, 1) := by decide +kernel
theorem dX9_moveDown_42 : decode cX9_moveDown 42 = .ok (.getfield 79, 3) := by decide +kernel
theorem dX9_moveDown_45 : decode cX9_moveDown 45 = .ok (.aload_n 0, 1) := by decide +kernel
theorem dX9_moveDown_46 : decode cX9_moveDown 46 = .ok (.getfield 83, 3) := by decide +kernel
theorem dX9_moveDown_49 : decode cX9_moveDown 49 = .ok (.aload_n 0, 1) := by decide +kernel
theorem dX9_moveDown_50 : decode cX9_moveDown 50 = .ok (.getfield 79, 3) := by decide +kernel
theorem dX9_moveDown_53 : decode cX9_moveDown 53 = .ok (.invokestatic 162, 3) := by decide +kernel
theorem dX9_moveDown_56 : decode cX9_moveDown 56 = .ok (.return_, 1) := by decide +kernel
def zs_X9_moveDown (h : AH) (u0 : Nat) (u1 : Nat) (u2 : Int32) : Option AH :=
  (gI h u1 8 2).bind fun x1 => (if x1 = 0 then (gR h u0 9 10).bind fun x13 => (zs_X8_move h u1 u2 x13).bind fun g14 => some g14 else (gR h u0 9 11).bind fun x3 => (gR h u0 9 10).bind fun x4 => (zs_X8_sum h u1 x3 x4).bind fun g5 => (gR g5 u0 9 10).bind fun x6 => (gR g5 u0 9 10).bind fun x7 => (zs_X8_move g5 x6 u2 x7).bind fun g8 => (gR g8 u0 9 10).bind fun x9 => (gR g8 u0 9 11).bind fun x10 => (gR g8 u0 9 10).bind fun x11 => (zs_X8_difference g8 x9 x10 x11).bind fun g12 => some g12)
set_option maxRecDepth 100000 in
set_option maxHeartbeats 4000000 in
theorem zm_X9_moveDown (l : Launch) (D : hG) (z : Nat) {h : AH} {u0 : Nat} {u1 : Nat} {u2 : Int32} {h' : AH} (hs : zs_X9_moveDown h u0 u1 u2 = some h') : hC l D z yX9_moveDown cX9_moveDown 3 (Option.none : Option Jvm.ClassFile.FieldType) 4 95 0 0 [.ref u0, .ref u1, .int u2] h h' none := by
  refine hC_of (by decide) (Nat.le_of_ble_eq_true rfl) ?_
  intro p e s m below meth c hx hb hml hrt hlk hown hnm hts hk hr hz ls hl
  replace hown : s.vm.findClass RX9 = some m.cls := hown
  replace hl : lv_has ls 3 [(0, .ref u0), (1, .ref u1), (2, .int u2)] := hl
  have hS : va_S (hA z) s.heap s.heap [] := va_S.rf
  suffices hgo : ∀ (H : Heap) (locs : List Loc), hR D z h H → va_S (hA z) s.heap H locs → W p l e ({ frames := 4, cells := 0, slots := 0, locals := 95 } : Room) s m ([.ref u0, .ref u1, .int u2] : List Value).toArray below meth c H locs 0 0 (MQ below (hQ D z h' none) ([.ref u0, .ref u1, .int u2] : List Value).toArray s 0 0 (hA z)) (F0 m 0 ls []) from hgo _ _ hr hS
  clear hr hS
  intro H locs hr hS
  unfold zs_X9_moveDown at hs
  refine lv_aload_n hx hb dX9_moveDown_0 rfl (lv_at hl 1 rfl) ?_
  obtain ⟨x1, ex1, hs⟩ := bi_inv hs
  refine hv_gI (C := RX8) (T := TX8) (N := 3) (ci := 8) hx hb hts inX8 hown hk hr rfl 2 (by decide) (hts _ tw_47) ex1 dX9_moveDown_1 ?_
  refine lv_if_ne (tgt := 17) hx hb dX9_moveDown_4 (by decide) (fun c2 => ?_) (fun c2 => ?_)
  · rw [if_neg c2] at hs
    refine lv_aload_n hx hb dX9_moveDown_17 rfl (lv_at hl 1 rfl) ?_
    refine lv_aload_n hx hb dX9_moveDown_18 rfl (lv_at hl 0 rfl) ?_
    obtain ⟨x3, ex3, hs⟩ := bi_inv hs
    refine hv_gR (C := RX9) (T := TX9) (N := 12) (ci := 9) hx hb hts inX9 hown hk hr rfl 11 (by decide) (hts _ tw_286) ex3 dX9_moveDown_19 ?_
    refine lv_aload_n hx hb dX9_moveDown_22 rfl (lv_at hl 0 rfl) ?_
    obtain ⟨x4, ex4, hs⟩ := bi_inv hs
    refine hv_gR (C := RX9) (T := TX9) (N := 12) (ci := 9) hx hb hts inX9 hown hk hr rfl 10 (by decide) (hts _ tw_285) ex4 dX9_moveDown_23 ?_
    obtain ⟨g5, eg5, hs⟩ := bi_inv hs
    refine hv_S0 (n := 3) [.ref u1, .ref x3, .ref x4] [] hx hb hml hown hts hk hr hz hS (zm_X8_sum l D z eg5) tw_450 tw_451 tw_2 tw_452 (by decide +kernel) (by decide) ⟨(Nat.zero_le _), (Nat.zero_le _)⟩ rfl hl.1 (Nat.le_of_ble_eq_true rfl) dX9_moveDown_26 rfl (fun H locs hr hS => ?_)
    refine lv_aload_n hx hb dX9_moveDown_29 rfl (lv_at hl 0 rfl) ?_
    obtain ⟨x6, ex6, hs⟩ := bi_inv hs
    refine hv_gR (C := RX9) (T := TX9) (N := 12) (ci := 9) hx hb hts inX9 hown hk hr rfl 10 (by decide) (hts _ tw_285) ex6 dX9_moveDown_30 ?_
    refine lv_iload_n hx hb dX9_moveDown_33 rfl (lv_at hl 2 rfl) ?_
    refine lv_aload_n hx hb dX9_moveDown_34 rfl (lv_at hl 0 rfl) ?_
    obtain ⟨x7, ex7, hs⟩ := bi_inv hs
    refine hv_gR (C := RX9) (T := TX9) (N := 12) (ci := 9) hx hb hts inX9 hown hk hr rfl 10 (by decide) (hts _ tw_285) ex7 dX9_moveDown_35 ?_
    obtain ⟨g8, eg8, hs⟩ := bi_inv hs
    refine hv_S0 (n := 3) [.ref x6, .int u2, .ref x7] [] hx hb hml hown hts hk hr hz hS (zm_X8_move l D z eg8) tw_643 tw_644 tw_2 tw_645 (by decide +kernel) (by decide) ⟨(Nat.zero_le _), (Nat.zero_le _)⟩ rfl hl.1 (Nat.le_of_ble_eq_true rfl) dX9_moveDown_38 rfl (fun H locs hr hS => ?_)
    refine lv_aload_n hx hb dX9_moveDown_41 rfl (lv_at hl 0 rfl) ?_
    obtain ⟨x9, ex9, hs⟩ := bi_inv hs
    refine hv_gR (C := RX9) (T := TX9) (N := 12) (ci := 9) hx hb hts inX9 hown hk hr rfl 10 (by decide) (hts _ tw_285) ex9 dX9_moveDown_42 ?_
    refine lv_aload_n hx hb dX9_moveDown_45 rfl (lv_at hl 0 rfl) ?_
    obtain ⟨x10, ex10, hs⟩ := bi_inv hs
    refine hv_gR (C := RX9) (T := TX9) (N := 12) (ci := 9) hx hb hts inX9 hown hk hr rfl 11 (by decide) (hts _ tw_286) ex10 dX9_moveDown_46 ?_
    refine lv_aload_n hx hb dX9_moveDown_49 rfl (lv_at hl 0 rfl) ?_
    obtain ⟨x11, ex11, hs⟩ := bi_inv hs
    refine hv_gR (C := RX9) (T := TX9) (N := 12) (ci := 9) hx hb hts inX9 hown hk hr rfl 10 (by decide) (hts _ tw_285) ex11 dX9_moveDown_50 ?_
    obtain ⟨g12, eg12, hs⟩ := bi_inv hs
    refine hv_S0 (n := 3) [.ref x9, .ref x10, .ref x11] [] hx hb hml hown hts hk hr hz hS (zm_X8_difference l D z eg12) tw_468 tw_469 tw_2 tw_470 (by decide +kernel) (by decide) ⟨(Nat.zero_le _), (Nat.zero_le _)⟩ rfl hl.1 (Nat.le_of_ble_eq_true rfl) dX9_moveDown_53 rfl (fun H locs hr hS => ?_)
    obtain rfl := Option.some.inj hs
    exact hv_vret hx hb hrt hlk hr hS dX9_moveDown_56
  · rw [if_pos c2] at hs
    refine lv_aload_n hx hb dX9_moveDown_7 rfl (lv_at hl 1 rfl) ?_
    refine lv_iload_n hx hb dX9_moveDown_8 rfl (lv_at hl 2 rfl) ?_
    refine lv_aload_n hx hb dX9_moveDown_9 rfl (lv_at hl 0 rfl) ?_
    obtain ⟨x13, ex13, hs⟩ := bi_inv hs
    refine hv_gR (C := RX9) (T := TX9) (N := 12) (ci := 9) hx hb hts inX9 hown hk hr rfl 10 (by decide) (hts _ tw_285) ex13 dX9_moveDown_10 ?_
    obtain ⟨g14, eg14, hs⟩ := bi_inv hs
    refine hv_S0 (n := 3) [.ref u1, .int u2, .ref x13] [] hx hb hml hown hts hk hr hz hS (zm_X8_move l D z eg14) tw_643 tw_644 tw_2 tw_645 (by decide +kernel) (by decide) ⟨(Nat.zero_le _), (Nat.zero_le _)⟩ rfl hl.1 (Nat.le_of_ble_eq_true rfl) dX9_moveDown_13 rfl (fun H locs hr hS => ?_)
    obtain rfl := Option.some.inj hs
    exact hv_vret hx hb hrt hlk hr hS dX9_moveDown_16
theorem dX9_ones_0 : decode cX9_ones 0 = .ok (.iload_n 1, 1) := by decide +kernel
theorem dX9_ones_1 : decode cX9_ones 1 = .ok (.invokestatic 90, 3) := by decide +kernel
theorem dX9_ones_4 : decode cX9_ones 4 = .ok (.ifCond .ne 5, 3) := by decide +kernel
theorem dX9_ones_7 : decode cX9_ones 7 = .ok (.iconst (-1), 1) := by decide +kernel
theorem dX9_ones_8 : decode cX9_ones 8 = .ok (.ireturn, 1) := by decide +kernel
theorem dX9_ones_9 : decode cX9_ones 9 = .ok (.aload_n 0, 1) := by decide +kernel
theorem dX9_ones_10 : decode cX9_ones 10 = .ok (.getfield 72, 3) := by decide +kernel
theorem dX9_ones_13 : decode cX9_ones 13 = .ok (.aload_n 0, 1) := by decide +kernel
theorem dX9_ones_14 : decode cX9_ones 14 = .ok (.getfield 11, 3) := by decide +kernel
theorem dX9_ones_17 : decode cX9_ones 17 = .ok (.iload_n 1, 1) := by decide +kernel
theorem dX9_ones_18 : decode cX9_ones 18 = .ok (.aaload, 1) := by decide +kernel
theorem dX9_ones_19 : decode cX9_ones 19 = .ok (.invokevirtual 217, 3) := by decide +kernel
theorem dX9_ones_22 : decode cX9_ones 22 = .ok (.aload_n 0, 1) := by decide +kernel
theorem dX9_ones_23 : decode cX9_ones 23 = .ok (.getfield 72, 3) := by decide +kernel
theorem dX9_ones_26 : decode cX9_ones 26 = .ok (.invokevirtual 240, 3) := by decide +kernel
theorem dX9_ones_29 : decode cX9_ones 29 = .ok (.ireturn, 1) := by decide +kernel
def zs_X9_ones (h : AH) (u0 : Nat) (u1 : Int32) : Option (Int32 × AH) :=
  (zs_X9_isSlot h u1).bind fun x1 => (if x1 = 0 then some ((-1 : Int32), h) else (gR h u0 9 8).bind fun x3 => (gR h u0 9 0).bind fun x4 => (aR h x4 3 u1).bind fun x5 => (chk h x3 7).bind fun _ => (zs_X7_load h x3 x5).bind fun g7 => (gR g7 u0 9 8).bind fun x8 => (chk g7 x8 7).bind fun _ => (zs_X7_unlikeSign g7 x8).bind fun x10 => some (x10, g7))
set_option maxRecDepth 100000 in
set_option maxHeartbeats 4000000 in
theorem zm_X9_ones (l : Launch) (D : hG) (z : Nat) {h : AH} {u0 : Nat} {u1 : Int32} {r : Int32} {h' : AH} (hs : zs_X9_ones h u0 u1 = some (r, h')) : hC l D z yX9_ones cX9_ones 2 (Option.some Jvm.ClassFile.FieldType.int) 2 47 0 0 [.ref u0, .int u1] h h' (some (.int r)) := by
  refine hC_of (by decide) (Nat.le_of_ble_eq_true rfl) ?_
  intro p e s m below meth c hx hb hml hrt hlk hown hnm hts hk hr hz ls hl
  replace hown : s.vm.findClass RX9 = some m.cls := hown
  replace hl : lv_has ls 2 [(0, .ref u0), (1, .int u1)] := hl
  have hS : va_S (hA z) s.heap s.heap [] := va_S.rf
  suffices hgo : ∀ (H : Heap) (locs : List Loc), hR D z h H → va_S (hA z) s.heap H locs → W p l e ({ frames := 2, cells := 0, slots := 0, locals := 47 } : Room) s m ([.ref u0, .int u1] : List Value).toArray below meth c H locs 0 0 (MQ below (hQ D z h' (some (.int r))) ([.ref u0, .int u1] : List Value).toArray s 0 0 (hA z)) (F0 m 0 ls []) from hgo _ _ hr hS
  clear hr hS
  intro H locs hr hS
  unfold zs_X9_ones at hs
  refine lv_iload_n hx hb dX9_ones_0 rfl (lv_at hl 1 rfl) ?_
  obtain ⟨x1, ex1, hs⟩ := bi_inv hs
  refine hv_S1 (n := 1) [.int u1] [] hx hb hml hown hts hk hr hz hS (zm_X9_isSlot l D z ex1) tw_316 tw_317 tw_1 tw_318 (by decide +kernel) (by decide) ⟨(Nat.zero_le _), (Nat.zero_le _)⟩ rfl hl.1 (Nat.le_of_ble_eq_true rfl) dX9_ones_1 rfl (fun H locs hr hS => ?_)
  refine lv_if_ne (tgt := 9) hx hb dX9_ones_4 (by decide) (fun c2 => ?_) (fun c2 => ?_)
  · rw [if_neg c2] at hs
    refine lv_aload_n hx hb dX9_ones_9 rfl (lv_at hl 0 rfl) ?_
    obtain ⟨x3, ex3, hs⟩ := bi_inv hs
    refine hv_gR (C := RX9) (T := TX9) (N := 12) (ci := 9) hx hb hts inX9 hown hk hr rfl 8 (by decide) (hts _ tw_283) ex3 dX9_ones_10 ?_
    refine lv_aload_n hx hb dX9_ones_13 rfl (lv_at hl 0 rfl) ?_
    obtain ⟨x4, ex4, hs⟩ := bi_inv hs
    refine hv_gR (C := RX9) (T := TX9) (N := 12) (ci := 9) hx hb hts inX9 hown hk hr rfl 0 (by decide) (hts _ tw_275) ex4 dX9_ones_14 ?_
    refine lv_iload_n hx hb dX9_ones_17 rfl (lv_at hl 1 rfl) ?_
    obtain ⟨x5, ex5, hs⟩ := bi_inv hs
    refine hv_aR (kd := 3) hx hb hk hr rfl ex5 dX9_ones_18 ?_
    obtain ⟨_, ex6, hs⟩ := bi_inv hs
    obtain ⟨g7, eg7, hs⟩ := bi_inv hs
    refine hv_V0 (n := 1) [.ref x5] [] hx hb hml hown hts hk hr hz hS (zm_X7_load l D z eg7) ex6 rfl tw_610 tw_611 tw_612 tw_10 tw_613 (by decide +kernel) (by decide) ⟨(Nat.zero_le _), (Nat.zero_le _)⟩ rfl hl.1 (Nat.le_of_ble_eq_true rfl) dX9_ones_19 rfl (fun H locs hr hS => ?_)
    refine lv_aload_n hx hb dX9_ones_22 rfl (lv_at hl 0 rfl) ?_
    obtain ⟨x8, ex8, hs⟩ := bi_inv hs
    refine hv_gR (C := RX9) (T := TX9) (N := 12) (ci := 9) hx hb hts inX9 hown hk hr rfl 8 (by decide) (hts _ tw_283) ex8 dX9_ones_23 ?_
    obtain ⟨_, ex9, hs⟩ := bi_inv hs
    obtain ⟨x10, ex10, hs⟩ := bi_inv hs
    refine hv_V1 (n := 0) [] [] hx hb hml hown hts hk hr hz hS (zm_X7_unlikeSign l D z ex10) ex9 rfl tw_665 tw_666 tw_667 tw_10 tw_668 (by decide +kernel) (by decide) ⟨(Nat.zero_le _), (Nat.zero_le _)⟩ rfl hl.1 (Nat.le_of_ble_eq_true rfl) dX9_ones_26 rfl (fun H locs hr hS => ?_)
    obtain ⟨rfl, rfl⟩ := Prod.mk.inj (Option.some.inj hs)
    exact hv_iret hx hb hrt hlk hr hS dX9_ones_29
  · rw [if_pos c2] at hs
    refine lv_iconst (v := (-1)) hx hb dX9_ones_7 (by decide) ?_
    obtain ⟨rfl, rfl⟩ := Prod.mk.inj (Option.some.inj hs)
    exact hv_iret hx hb hrt hlk hr hS dX9_ones_8
theorem dX9_over_0 : decode cX9_over 0 = .ok (.iload_n 1, 1) := by decide +kernel
theorem dX9_over_1 : decode cX9_over 1 = .ok (.ifCond .lt 33, 3) := by decide +kernel
theorem dX9_over_4 : decode cX9_over 4 = .ok (.iload_n 1, 1) := by decide +kernel
theorem dX9_over_5 : decode cX9_over 5 = .ok (.iconst 2, 1) := by decide +kernel
theorem dX9_over_6 : decode cX9_over 6 = .ok (.if_icmp .gt 28, 3) := by decide +kernel
theorem dX9_over_9 : decode cX9_over 9 = .ok (.iload_n 2, 1) := by decide +kernel
theorem dX9_over_10 : decode cX9_over 10 = .ok (.iload_n 3, 1) := by decide +kernel
theorem dX9_over_11 : decode cX9_over 11 = .ok (.iload 4, 2) := by decide +kernel
theorem dX9_over_13 : decode cX9_over 13 = .ok (.invokestatic 154, 3) := by decide +kernel
theorem dX9_over_16 : decode cX9_over 16 = .ok (.ifCond .eq 18, 3) := by decide +kernel
theorem dX9_over_19 : decode cX9_over 19 = .ok (.iload 5, 2) := by decide +kernel
theorem dX9_over_21 : decode cX9_over 21 = .ok (.invokestatic 90, 3) := by decide +kernel
theorem dX9_over_24 : decode cX9_over 24 = .ok (.ifCond .eq 10, 3) := by decide +kernel
theorem dX9_over_27 : decode cX9_over 27 = .ok (.iload 4, 2) := by decide +kernel
theorem dX9_over_29 : decode cX9_over 29 = .ok (.iload 5, 2) := by decide +kernel
theorem dX9_over_31 : decode cX9_over 31 = .ok (.if_icmp .ne 5, 3) := by decide +kernel
theorem dX9_over_34 : decode cX9_over 34 = .ok (.iconst (-1), 1) := by decide +kernel
theorem dX9_over_35 : decode cX9_over 35 = .ok (.ireturn, 1) := by decide +kernel
theorem dX9_over_36 : decode cX9_over 36 = .ok (.aload_n 0, 1) := by decide +kernel
theorem dX9_over_37 : decode cX9_over 37 = .ok (.getfield 11, 3) := by decide +kernel
theorem dX9_over_40 : decode cX9_over 40 = .ok (.iload_n 3, 1) := by decide +kernel
theorem dX9_over_41 : decode cX9_over 41 = .ok (.aaload, 1) := by decide +kernel
theorem dX9_over_42 : decode cX9_over 42 = .ok (.invokevirtual 168, 3) := by decide +kernel
theorem dX9_over_45 : decode cX9_over 45 = .ok (.ifCond .eq 6, 3) := by decide +kernel
theorem dX9_over_48 : decode cX9_over 48 = .ok (.bipush (-2), 2) := by decide +kernel
theorem dX9_over_50 : decode cX9_over 50 = .ok (.ireturn, 1) := by decide +kernel
theorem dX9_over_51 : decode cX9_over 51 = .ok (.aload_n 0, 1) := by decide +kernel
theorem dX9_over_52 : decode cX9_over 52 = .ok (.getfield 45, 3) := by decide +kernel
theorem dX9_over_55 : decode cX9_over 55 = .ok (.iload_n 1, 1) := by decide +kernel
theorem dX9_over_56 : decode cX9_over 56 = .ok (.aload_n 0, 1) := by decide +kernel
theorem dX9_over_57 : decode cX9_over 57 = .ok (.getfield 11, 3) := by decide +kernel
theorem dX9_over_60 : decode cX9_over 60 = .ok (.iload_n 2, 1) := by decide +kernel
theorem dX9_over_61 : decode cX9_over 61 = .ok (.aaload, 1) := by decide +kernel
theorem dX9_over_62 : decode cX9_over 62 = .ok (.aload_n 0, 1) := by decide +kernel
theorem dX9_over_63 : decode cX9_over 63 = .ok (.getfield 11, 3) := by decide +kernel
theorem dX9_over_66 : decode cX9_over 66 = .ok (.iload_n 3, 1) := by decide +kernel
theorem dX9_over_67 : decode cX9_over 67 = .ok (.aaload, 1) := by decide +kernel
theorem dX9_over_68 : decode cX9_over 68 = .ok (.invokevirtual 171, 3) := by decide +kernel
theorem dX9_over_71 : decode cX9_over 71 = .ok (.aload_n 0, 1) := by decide +kernel
theorem dX9_over_72 : decode cX9_over 72 = .ok (.getfield 45, 3) := by decide +kernel
theorem dX9_over_75 : decode cX9_over 75 = .ok (.getfield 175, 3) := by decide +kernel
theorem dX9_over_78 : decode cX9_over 78 = .ok (.invokevirtual 178, 3) := by decide +kernel
theorem dX9_over_81 : decode cX9_over 81 = .ok (.ifCond .eq 16, 3) := by decide +kernel
theorem dX9_over_84 : decode cX9_over 84 = .ok (.aload_n 0, 1) := by decide +kernel
theorem dX9_over_85 : decode cX9_over 85 = .ok (.getfield 45, 3) := by decide +kernel
theorem dX9_over_88 : decode cX9_over 88 = .ok (.getfield 181, 3) := by decide +kernel
theorem dX9_over_91 : decode cX9_over 91 = .ok (.invokevirtual 178, 3) := by decide +kernel
theorem dX9_over_94 : decode cX9_over 94 = .ok (.ifCond .ne 6, 3) := by decide +kernel
theorem dX9_over_97 : decode cX9_over 97 = .ok (.bipush (-5), 2) := by decide +kernel
theorem dX9_over_99 : decode cX9_over 99 = .ok (.ireturn, 1) := by decide +kernel
theorem dX9_over_100 : decode cX9_over 100 = .ok (.aload_n 0, 1) := by decide +kernel
theorem dX9_over_101 : decode cX9_over 101 = .ok (.getfield 11, 3) := by decide +kernel
theorem dX9_over_104 : decode cX9_over 104 = .ok (.iload 4, 2) := by decide +kernel
theorem dX9_over_106 : decode cX9_over 106 = .ok (.aaload, 1) := by decide +kernel
theorem dX9_over_107 : decode cX9_over 107 = .ok (.aload_n 0, 1) := by decide +kernel
theorem dX9_over_108 : decode cX9_over 108 = .ok (.getfield 45, 3) := by decide +kernel
theorem dX9_over_111 : decode cX9_over 111 = .ok (.getfield 175, 3) := by decide +kernel
theorem dX9_over_114 : decode cX9_over 114 = .ok (.invokevirtual 184, 3) := by decide +kernel
theorem dX9_over_117 : decode cX9_over 117 = .ok (.aload_n 0, 1) := by decide +kernel
theorem dX9_over_118 : decode cX9_over 118 = .ok (.getfield 11, 3) := by decide +kernel
theorem dX9_over_121 : decode cX9_over 121 = .ok (.iload 5, 2) := by decide +kernel
theorem dX9_over_123 : decode cX9_over 123 = .ok (.aaload, 1) := by decide +kernel
theorem dX9_over_124 : decode cX9_over 124 = .ok (.aload_n 0, 1) := by decide +kernel
theorem dX9_over_125 : decode cX9_over 125 = .ok (.getfield 45, 3) := by decide +kernel
theorem dX9_over_128 : decode cX9_over 128 = .ok (.getfield 181, 3) := by decide +kernel
theorem dX9_over_131 : decode cX9_over 131 = .ok (.invokevirtual 184, 3) := by decide +kernel
theorem dX9_over_134 : decode cX9_over 134 = .ok (.iconst 1, 1) := by decide +kernel
theorem dX9_over_135 : decode cX9_over 135 = .ok (.ireturn, 1) := by decide +kernel
def zs_X9_over (h : AH) (u0 : Nat) (u1 : Int32) (u2 : Int32) (u3 : Int32) (u4 : Int32) (u5 : Int32) : Option (Int32 × AH) :=
  (if u1 < 0 then some ((-1 : Int32), h) else (if (2 : Int32) < u1 then some ((-1 : Int32), h) else (zs_X9_areSlots h u2 u3 u4).bind fun x3 => (if x3 = 0 then some ((-1 : Int32), h) else (zs_X9_isSlot h u5).bind fun x5 => (if x5 = 0 then some ((-1 : Int32), h) else (if u4 = u5 then some ((-1 : Int32), h) else (gR h u0 9 0).bind fun x8 => (aR h x8 3 u3).bind fun x9 => (chk h x9 8).bind fun _ => (zs_X8_isZero h x9).bind fun x11 => (if x11 = 0 then (gR h u0 9 4).bind fun x13 => (gR h u0 9 0).bind fun x14 => (aR h x14 3 u2).bind fun x15 => (gR h u0 9 0).bind fun x16 => (aR h x16 3 u3).bind fun x17 => (chk h x13 0).bind fun _ => (zs_X0_divide h x13 u1 x15 x17).bind fun g19 => (gR g19 u0 9 4).bind fun x20 => (gR g19 x20 0 0).bind fun x21 => (chk g19 x21 8).bind fun _ => (zs_X8_isWithin g19 x21).bind fun x23 => (if x23 = 0 then some ((-5 : Int32), g19) else (gR g19 u0 9 4).bind fun x25 => (gR g19 x25 0 1).bind fun x26 => (chk g19 x26 8).bind fun _ => (zs_X8_isWithin g19 x26).bind fun x28 => (if x28 = 0 then some ((-5 : Int32), g19) else (gR g19 u0 9 0).bind fun x30 => (aR g19 x30 3 u4).bind fun x31 => (gR g19 u0 9 4).bind fun x32 => (gR g19 x32 0 0).bind fun x33 => (chk g19 x31 8).bind fun _ => (zs_X8_copy g19 x31 x33).bind fun g35 => (gR g35 u0 9 0).bind fun x36 => (aR g35 x36 3 u5).bind fun x37 => (gR g35 u0 9 4).bind fun x38 => (gR g35 x38 0 1).bind fun x39 => (chk g35 x37 8).bind fun _ => (zs_X8_copy g35 x37 x39).bind fun g41 => some ((1 : Int32), g41))) else some ((-2 : Int32), h)))))))
set_option maxRecDepth 100000 in
set_option maxHeartbeats 4000000 in
theorem zm_X9_over (l : Launch) (D : hG) (z : Nat) {h : AH} {u0 : Nat} {u1 : Int32} {u2 : Int32} {u3 : Int32} {u4 : Int32} {u5 : Int32} {r : Int32} {h' : AH} (hs : zs_X9_over h u0 u1 u2 u3 u4 u5 = some (r, h')) : hC l D z yX9_over cX9_over 6 (Option.some Jvm.ClassFile.FieldType.int) 5 136 0 0 [.ref u0, .int u1, .int u2, .int u3, .int u4, .int u5] h h' (some (.int r)) := by
  refine hC_of (by decide) (Nat.le_of_ble_eq_true rfl) ?_
  intro p e s m below meth c hx hb hml hrt hlk hown hnm hts hk hr hz ls hl
  replace hown : s.vm.findClass RX9 = some m.cls := hown
  replace hl : lv_has ls 6 [(0, .ref u0), (1, .int u1), (2, .int u2), (3, .int u3), (4, .int u4), (5, .int u5)] := hl
  have hS : va_S (hA z) s.heap s.heap [] := va_S.rf
  suffices hgo : ∀ (H : Heap) (locs : List Loc), hR D z h H → va_S (hA z) s.heap H locs → W p l e ({ frames := 5, cells := 0, slots := 0, locals := 136 } : Room) s m ([.ref u0, .int u1, .int u2, .int u3, .int u4, .int u5] : List Value).toArray below meth c H locs 0 0 (MQ below (hQ D z h' (some (.int r))) ([.ref u0, .int u1, .int u2, .int u3, .int u4, .int u5] : List Value).toArray s 0 0 (hA z)) (F0 m 0 ls []) from hgo _ _ hr hS
  clear hr hS
  intro H locs hr hS
  unfold zs_X9_over at hs
  refine lv_iload_n hx hb dX9_over_0 rfl (lv_at hl 1 rfl) ?_
  refine lv_if_lt (tgt := 34) hx hb dX9_over_1 (by decide) (fun c1 => ?_) (fun c1 => ?_)
  · rw [if_pos c1] at hs
    refine lv_iconst (v := (-1)) hx hb dX9_over_34 (by decide) ?_
    obtain ⟨rfl, rfl⟩ := Prod.mk.inj (Option.some.inj hs)
    exact hv_iret hx hb hrt hlk hr hS dX9_over_35
  · rw [if_neg c1] at hs
    refine lv_iload_n hx hb dX9_over_4 rfl (lv_at hl 1 rfl) ?_
    refine lv_iconst (v := 2) hx hb dX9_over_5 (by decide) ?_
    refine lv_icmp_gt (tgt := 34) hx hb dX9_over_6 (by decide) (fun c2 => ?_) (fun c2 => ?_)
    · rw [if_pos c2] at hs
      refine lv_iconst (v := (-1)) hx hb dX9_over_34 (by decide) ?_
      obtain ⟨rfl, rfl⟩ := Prod.mk.inj (Option.some.inj hs)
      exact hv_iret hx hb hrt hlk hr hS dX9_over_35
    · rw [if_neg c2] at hs
      refine lv_iload_n hx hb dX9_over_9 rfl (lv_at hl 2 rfl) ?_
      refine lv_iload_n hx hb dX9_over_10 rfl (lv_at hl 3 rfl) ?_
      refine lv_iload hx hb dX9_over_11 (lv_at hl 4 rfl) ?_
      obtain ⟨x3, ex3, hs⟩ := bi_inv hs
      refine hv_S1 (n := 3) [.int u2, .int u3, .int u4] [] hx hb hml hown hts hk hr hz hS (zm_X9_areSlots l D z ex3) tw_447 tw_448 tw_1 tw_449 (by decide +kernel) (by decide) ⟨(Nat.zero_le _), (Nat.zero_le _)⟩ rfl hl.1 (Nat.le_of_ble_eq_true rfl) dX9_over_13 rfl (fun H locs hr hS => ?_)
      refine lv_if_eq (tgt := 34) hx hb dX9_over_16 (by decide) (fun c4 => ?_) (fun c4 => ?_)
      · rw [if_pos c4] at hs
        refine lv_iconst (v := (-1)) hx hb dX9_over_34 (by decide) ?_
        obtain ⟨rfl, rfl⟩ := Prod.mk.inj (Option.some.inj hs)
        exact hv_iret hx hb hrt hlk hr hS dX9_over_35
      · rw [if_neg c4] at hs
        refine lv_iload hx hb dX9_over_19 (lv_at hl 5 rfl) ?_
        obtain ⟨x5, ex5, hs⟩ := bi_inv hs
        refine hv_S1 (n := 1) [.int u5] [] hx hb hml hown hts hk hr hz hS (zm_X9_isSlot l D z ex5) tw_316 tw_317 tw_1 tw_318 (by decide +kernel) (by decide) ⟨(Nat.zero_le _), (Nat.zero_le _)⟩ rfl hl.1 (Nat.le_of_ble_eq_true rfl) dX9_over_21 rfl (fun H locs hr hS => ?_)
        refine lv_if_eq (tgt := 34) hx hb dX9_over_24 (by decide) (fun c6 => ?_) (fun c6 => ?_)
        · rw [if_pos c6] at hs
          refine lv_iconst (v := (-1)) hx hb dX9_over_34 (by decide) ?_
          obtain ⟨rfl, rfl⟩ := Prod.mk.inj (Option.some.inj hs)
          exact hv_iret hx hb hrt hlk hr hS dX9_over_35
        · rw [if_neg c6] at hs
          refine lv_iload hx hb dX9_over_27 (lv_at hl 4 rfl) ?_
          refine lv_iload hx hb dX9_over_29 (lv_at hl 5 rfl) ?_
          refine lv_icmp_ne (tgt := 36) hx hb dX9_over_31 (by decide) (fun c7 => ?_) (fun c7 => ?_)
          · rw [if_neg c7] at hs
            refine lv_aload_n hx hb dX9_over_36 rfl (lv_at hl 0 rfl) ?_
            obtain ⟨x8, ex8, hs⟩ := bi_inv hs
            refine hv_gR (C := RX9) (T := TX9) (N := 12) (ci := 9) hx hb hts inX9 hown hk hr rfl 0 (by decide) (hts _ tw_275) ex8 dX9_over_37 ?_
            refine lv_iload_n hx hb dX9_over_40 rfl (lv_at hl 3 rfl) ?_
            obtain ⟨x9, ex9, hs⟩ := bi_inv hs
            refine hv_aR (kd := 3) hx hb hk hr rfl ex9 dX9_over_41 ?_
            obtain ⟨_, ex10, hs⟩ := bi_inv hs
            obtain ⟨x11, ex11, hs⟩ := bi_inv hs
            refine hv_V1 (n := 0) [] [] hx hb hml hown hts hk hr hz hS (zm_X8_isZero l D z ex11) ex10 rfl tw_478 tw_400 tw_401 tw_2 tw_402 (by decide +kernel) (by decide) ⟨(Nat.zero_le _), (Nat.zero_le _)⟩ rfl hl.1 (Nat.le_of_ble_eq_true rfl) dX9_over_42 rfl (fun H locs hr hS => ?_)
            refine lv_if_eq (tgt := 51) hx hb dX9_over_45 (by decide) (fun c12 => ?_) (fun c12 => ?_)
            · rw [if_pos c12] at hs
              refine lv_aload_n hx hb dX9_over_51 rfl (lv_at hl 0 rfl) ?_
              obtain ⟨x13, ex13, hs⟩ := bi_inv hs
              refine hv_gR (C := RX9) (T := TX9) (N := 12) (ci := 9) hx hb hts inX9 hown hk hr rfl 4 (by decide) (hts _ tw_279) ex13 dX9_over_52 ?_
              refine lv_iload_n hx hb dX9_over_55 rfl (lv_at hl 1 rfl) ?_
              refine lv_aload_n hx hb dX9_over_56 rfl (lv_at hl 0 rfl) ?_
              obtain ⟨x14, ex14, hs⟩ := bi_inv hs
              refine hv_gR (C := RX9) (T := TX9) (N := 12) (ci := 9) hx hb hts inX9 hown hk hr rfl 0 (by decide) (hts _ tw_275) ex14 dX9_over_57 ?_
              refine lv_iload_n hx hb dX9_over_60 rfl (lv_at hl 2 rfl) ?_
              obtain ⟨x15, ex15, hs⟩ := bi_inv hs
              refine hv_aR (kd := 3) hx hb hk hr rfl ex15 dX9_over_61 ?_
              refine lv_aload_n hx hb dX9_over_62 rfl (lv_at hl 0 rfl) ?_
              obtain ⟨x16, ex16, hs⟩ := bi_inv hs
              refine hv_gR (C := RX9) (T := TX9) (N := 12) (ci := 9) hx hb hts inX9 hown hk hr rfl 0 (by decide) (hts _ tw_275) ex16 dX9_over_63 ?_
              refine lv_iload_n hx hb dX9_over_66 rfl (lv_at hl 3 rfl) ?_
              obtain ⟨x17, ex17, hs⟩ := bi_inv hs
              refine hv_aR (kd := 3) hx hb hk hr rfl ex17 dX9_over_67 ?_
              obtain ⟨_, ex18, hs⟩ := bi_inv hs
              obtain ⟨g19, eg19, hs⟩ := bi_inv hs
              refine hv_V0 (n := 3) [.int u1, .ref x15, .ref x17] [] hx hb hml hown hts hk hr hz hS (zm_X0_divide l D z eg19) ex18 rfl tw_479 tw_480 tw_481 tw_6 tw_482 (by decide +kernel) (by decide) ⟨(Nat.zero_le _), (Nat.zero_le _)⟩ rfl hl.1 (Nat.le_of_ble_eq_true rfl) dX9_over_68 rfl (fun H locs hr hS => ?_)
              refine lv_aload_n hx hb dX9_over_71 rfl (lv_at hl 0 rfl) ?_
              obtain ⟨x20, ex20, hs⟩ := bi_inv hs
              refine hv_gR (C := RX9) (T := TX9) (N := 12) (ci := 9) hx hb hts inX9 hown hk hr rfl 4 (by decide) (hts _ tw_279) ex20 dX9_over_72 ?_
              obtain ⟨x21, ex21, hs⟩ := bi_inv hs
              refine hv_gR (C := RX0) (T := TX0) (N := 5) (ci := 0) hx hb hts inX0 hown hk hr rfl 0 (by decide) (hts _ tw_139) ex21 dX9_over_75 ?_
              obtain ⟨_, ex22, hs⟩ := bi_inv hs
              obtain ⟨x23, ex23, hs⟩ := bi_inv hs
              refine hv_V1 (n := 0) [] [] hx hb hml hown hts hk hr hz hS (zm_X8_isWithin l D z ex23) ex22 rfl tw_368 tw_369 tw_370 tw_2 tw_371 (by decide +kernel) (by decide) ⟨(Nat.zero_le _), (Nat.zero_le _)⟩ rfl hl.1 (Nat.le_of_ble_eq_true rfl) dX9_over_78 rfl (fun H locs hr hS => ?_)
              refine lv_if_eq (tgt := 97) hx hb dX9_over_81 (by decide) (fun c24 => ?_) (fun c24 => ?_)
              · rw [if_pos c24] at hs
                refine lv_bipush (v := (-5)) hx hb dX9_over_97 (by decide) ?_
                obtain ⟨rfl, rfl⟩ := Prod.mk.inj (Option.some.inj hs)
                exact hv_iret hx hb hrt hlk hr hS dX9_over_99
              · rw [if_neg c24] at hs
                refine lv_aload_n hx hb dX9_over_84 rfl (lv_at hl 0 rfl) ?_
                obtain ⟨x25, ex25, hs⟩ := bi_inv hs
                refine hv_gR (C := RX9) (T := TX9) (N := 12) (ci := 9) hx hb hts inX9 hown hk hr rfl 4 (by decide) (hts _ tw_279) ex25 dX9_over_85 ?_
                obtain ⟨x26, ex26, hs⟩ := bi_inv hs
                refine hv_gR (C := RX0) (T := TX0) (N := 5) (ci := 0) hx hb hts inX0 hown hk hr rfl 1 (by decide) (hts _ tw_144) ex26 dX9_over_88 ?_
                obtain ⟨_, ex27, hs⟩ := bi_inv hs
                obtain ⟨x28, ex28, hs⟩ := bi_inv hs
                refine hv_V1 (n := 0) [] [] hx hb hml hown hts hk hr hz hS (zm_X8_isWithin l D z ex28) ex27 rfl tw_368 tw_369 tw_370 tw_2 tw_371 (by decide +kernel) (by decide) ⟨(Nat.zero_le _), (Nat.zero_le _)⟩ rfl hl.1 (Nat.le_of_ble_eq_true rfl) dX9_over_91 rfl (fun H locs hr hS => ?_)
                refine lv_if_ne (tgt := 100) hx hb dX9_over_94 (by decide) (fun c29 => ?_) (fun c29 => ?_)
                · rw [if_neg c29] at hs
                  refine lv_aload_n hx hb dX9_over_100 rfl (lv_at hl 0 rfl) ?_
                  obtain ⟨x30, ex30, hs⟩ := bi_inv hs
                  refine hv_gR (C := RX9) (T := TX9) (N := 12) (ci := 9) hx hb hts inX9 hown hk hr rfl 0 (by decide) (hts _ tw_275) ex30 dX9_over_101 ?_
                  refine lv_iload hx hb dX9_over_104 (lv_at hl 4 rfl) ?_
                  obtain ⟨x31, ex31, hs⟩ := bi_inv hs
                  refine hv_aR (kd := 3) hx hb hk hr rfl ex31 dX9_over_106 ?_
                  refine lv_aload_n hx hb dX9_over_107 rfl (lv_at hl 0 rfl) ?_
                  obtain ⟨x32, ex32, hs⟩ := bi_inv hs
                  refine hv_gR (C := RX9) (T := TX9) (N := 12) (ci := 9) hx hb hts inX9 hown hk hr rfl 4 (by decide) (hts _ tw_279) ex32 dX9_over_108 ?_
                  obtain ⟨x33, ex33, hs⟩ := bi_inv hs
                  refine hv_gR (C := RX0) (T := TX0) (N := 5) (ci := 0) hx hb hts inX0 hown hk hr rfl 0 (by decide) (hts _ tw_139) ex33 dX9_over_111 ?_
                  obtain ⟨_, ex34, hs⟩ := bi_inv hs
                  obtain ⟨g35, eg35, hs⟩ := bi_inv hs
                  refine hv_V0 (n := 1) [.ref x33] [] hx hb hml hown hts hk hr hz hS (zm_X8_copy l D z eg35) ex34 rfl tw_372 tw_373 tw_374 tw_2 tw_375 (by decide +kernel) (by decide) ⟨(Nat.zero_le _), (Nat.zero_le _)⟩ rfl hl.1 (Nat.le_of_ble_eq_true rfl) dX9_over_114 rfl (fun H locs hr hS => ?_)
                  refine lv_aload_n hx hb dX9_over_117 rfl (lv_at hl 0 rfl) ?_
                  obtain ⟨x36, ex36, hs⟩ := bi_inv hs
                  refine hv_gR (C := RX9) (T := TX9) (N := 12) (ci := 9) hx hb hts inX9 hown hk hr rfl 0 (by decide) (hts _ tw_275) ex36 dX9_over_118 ?_
                  refine lv_iload hx hb dX9_over_121 (lv_at hl 5 rfl) ?_
                  obtain ⟨x37, ex37, hs⟩ := bi_inv hs
                  refine hv_aR (kd := 3) hx hb hk hr rfl ex37 dX9_over_123 ?_
                  refine lv_aload_n hx hb dX9_over_124 rfl (lv_at hl 0 rfl) ?_
                  obtain ⟨x38, ex38, hs⟩ := bi_inv hs
                  refine hv_gR (C := RX9) (T := TX9) (N := 12) (ci := 9) hx hb hts inX9 hown hk hr rfl 4 (by decide) (hts _ tw_279) ex38 dX9_over_125 ?_
                  obtain ⟨x39, ex39, hs⟩ := bi_inv hs
                  refine hv_gR (C := RX0) (T := TX0) (N := 5) (ci := 0) hx hb hts inX0 hown hk hr rfl 1 (by decide) (hts _ tw_144) ex39 dX9_over_128 ?_
                  obtain ⟨_, ex40, hs⟩ := bi_inv hs
                  obtain ⟨g41, eg41, hs⟩ := bi_inv hs
                  refine hv_V0 (n := 1) [.ref x39] [] hx hb hml hown hts hk hr hz hS (zm_X8_copy l D z eg41) ex40 rfl tw_372 tw_373 tw_374 tw_2 tw_375 (by decide +kernel) (by decide) ⟨(Nat.zero_le _), (Nat.zero_le _)⟩ rfl hl.1 (Nat.le_of_ble_eq_true rfl) dX9_over_131 rfl (fun H locs hr hS => ?_)
                  refine lv_iconst (v := 1) hx hb dX9_over_134 (by decide) ?_
                  obtain ⟨rfl, rfl⟩ := Prod.mk.inj (Option.some.inj hs)
                  exact hv_iret hx hb hrt hlk hr hS dX9_over_135
                · rw [if_pos c29] at hs
                  refine lv_bipush (v := (-5)) hx hb dX9_over_97 (by decide) ?_
                  obtain ⟨rfl, rfl⟩ := Prod.mk.inj (Option.some.inj hs)
                  exact hv_iret hx hb hrt hlk hr hS dX9_over_99
            · rw [if_neg c12] at hs
              refine lv_bipush (v := (-2)) hx hb dX9_over_48 (by decide) ?_
              obtain ⟨rfl, rfl⟩ := Prod.mk.inj (Option.some.inj hs)
              exact hv_iret hx hb hrt hlk hr hS dX9_over_50
          · rw [if_pos c7] at hs
            refine lv_iconst (v := (-1)) hx hb dX9_over_34 (by decide) ?_
            obtain ⟨rfl, rfl⟩ := Prod.mk.inj (Option.some.inj hs)
            exact hv_iret hx hb hrt hlk hr hS dX9_over_35
theorem dX9_part_0 : decode cX9_part 0 = .ok (.iload_n 1, 1) := by decide +kernel
theorem dX9_part_1 : decode cX9_part 1 = .ok (.invokestatic 243, 3) := by decide +kernel
theorem dX9_part_4 : decode cX9_part 4 = .ok (.ifCond .eq 19, 3) := by decide +kernel
theorem dX9_part_7 : decode cX9_part 7 = .ok (.iload_n 2, 1) := by decide +kernel
theorem dX9_part_8 : decode cX9_part 8 = .ok (.ifCond .lt 15, 3) := by decide +kernel
theorem dX9_part_11 : decode cX9_part 11 = .ok (.iload_n 2, 1) := by decide +kernel
theorem dX9_part_12 : decode cX9_part 12 = .ok (.iconst 3, 1) := by decide +kernel
theorem dX9_part_13 : decode cX9_part 13 = .ok (.if_icmp .gt 10, 3) := by decide +kernel
theorem dX9_part_16 : decode cX9_part 16 = .ok (.iload_n 3, 1) := by decide +kernel
theorem dX9_part_17 : decode cX9_part 17 = .ok (.invokestatic 90, 3) := by decide +kernel
theorem dX9_part_20 : decode cX9_part 20 = .ok (.ifCond .ne 5, 3) := by decide +kernel
theorem dX9_part_23 : decode cX9_part 23 = .ok (.iconst (-1), 1) := by decide +kernel
theorem dX9_part_24 : decode cX9_part 24 = .ok (.ireturn, 1) := by decide +kernel
theorem dX9_part_25 : decode cX9_part 25 = .ok (.aload_n 0, 1) := by decide +kernel
theorem dX9_part_26 : decode cX9_part 26 = .ok (.getfield 18, 3) := by decide +kernel
theorem dX9_part_29 : decode cX9_part 29 = .ok (.iload_n 1, 1) := by decide +kernel
theorem dX9_part_30 : decode cX9_part 30 = .ok (.aaload, 1) := by decide +kernel
theorem dX9_part_31 : decode cX9_part 31 = .ok (.astore 4, 2) := by decide +kernel
theorem dX9_part_33 : decode cX9_part 33 = .ok (.iload_n 2, 1) := by decide +kernel
theorem dX9_part_34 : decode cX9_part 34 = .ok (.ifCond .ne 14, 3) := by decide +kernel
theorem dX9_part_37 : decode cX9_part 37 = .ok (.aload_n 0, 1) := by decide +kernel
theorem dX9_part_38 : decode cX9_part 38 = .ok (.aload 4, 2) := by decide +kernel
theorem dX9_part_40 : decode cX9_part 40 = .ok (.getfield 253, 3) := by decide +kernel
theorem dX9_part_43 : decode cX9_part 43 = .ok (.iload_n 3, 1) := by decide +kernel
theorem dX9_part_44 : decode cX9_part 44 = .ok (.invokevirtual 116, 3) := by decide +kernel
theorem dX9_part_47 : decode cX9_part 47 = .ok (.ireturn, 1) := by decide +kernel
theorem dX9_part_48 : decode cX9_part 48 = .ok (.iload_n 2, 1) := by decide +kernel
theorem dX9_part_49 : decode cX9_part 49 = .ok (.iconst 1, 1) := by decide +kernel
theorem dX9_part_50 : decode cX9_part 50 = .ok (.if_icmp .ne 14, 3) := by decide +kernel
theorem dX9_part_53 : decode cX9_part 53 = .ok (.aload_n 0, 1) := by decide +kernel
theorem dX9_part_54 : decode cX9_part 54 = .ok (.aload 4, 2) := by decide +kernel
theorem dX9_part_56 : decode cX9_part 56 = .ok (.getfield 260, 3) := by decide +kernel
theorem dX9_part_59 : decode cX9_part 59 = .ok (.iload_n 3, 1) := by decide +kernel
theorem dX9_part_60 : decode cX9_part 60 = .ok (.invokevirtual 116, 3) := by decide +kernel
theorem dX9_part_63 : decode cX9_part 63 = .ok (.ireturn, 1) := by decide +kernel
theorem dX9_part_64 : decode cX9_part 64 = .ok (.aload_n 0, 1) := by decide +kernel
theorem dX9_part_65 : decode cX9_part 65 = .ok (.getfield 45, 3) := by decide +kernel
theorem dX9_part_68 : decode cX9_part 68 = .ok (.iconst 1, 1) := by decide +kernel
theorem dX9_part_69 : decode cX9_part 69 = .ok (.aload 4, 2) := by decide +kernel
theorem dX9_part_71 : decode cX9_part 71 = .ok (.getfield 253, 3) := by decide +kernel
theorem dX9_part_74 : decode cX9_part 74 = .ok (.aload 4, 2) := by decide +kernel
theorem dX9_part_76 : decode cX9_part 76 = .ok (.getfield 260, 3) := by decide +kernel
theorem dX9_part_79 : decode cX9_part 79 = .ok (.invokevirtual 171, 3) := by decide +kernel
theorem dX9_part_82 : decode cX9_part 82 = .ok (.aload_n 0, 1) := by decide +kernel
theorem dX9_part_83 : decode cX9_part 83 = .ok (.getfield 79, 3) := by decide +kernel
theorem dX9_part_86 : decode cX9_part 86 = .ok (.aload_n 0, 1) := by decide +kernel
theorem dX9_part_87 : decode cX9_part 87 = .ok (.getfield 45, 3) := by decide +kernel
theorem dX9_part_90 : decode cX9_part 90 = .ok (.getfield 175, 3) := by decide +kernel
theorem dX9_part_93 : decode cX9_part 93 = .ok (.invokevirtual 184, 3) := by decide +kernel
theorem dX9_part_96 : decode cX9_part 96 = .ok (.iload_n 2, 1) := by decide +kernel
theorem dX9_part_97 : decode cX9_part 97 = .ok (.iconst 3, 1) := by decide +kernel
theorem dX9_part_98 : decode cX9_part 98 = .ok (.if_icmp .ne 33, 3) := by decide +kernel
theorem dX9_part_101 : decode cX9_part 101 = .ok (.aload_n 0, 1) := by decide +kernel
theorem dX9_part_102 : decode cX9_part 102 = .ok (.getfield 58, 3) := by decide +kernel
theorem dX9_part_105 : decode cX9_part 105 = .ok (.aload 4, 2) := by decide +kernel
theorem dX9_part_107 : decode cX9_part 107 = .ok (.getfield 260, 3) := by decide +kernel
theorem dX9_part_110 : decode cX9_part 110 = .ok (.invokevirtual 270, 3) := by decide +kernel
theorem dX9_part_113 : decode cX9_part 113 = .ok (.ifCond .eq 18, 3) := by decide +kernel
theorem dX9_part_116 : decode cX9_part 116 = .ok (.aload_n 0, 1) := by decide +kernel
theorem dX9_part_117 : decode cX9_part 117 = .ok (.getfield 79, 3) := by decide +kernel
theorem dX9_part_120 : decode cX9_part 120 = .ok (.aload_n 0, 1) := by decide +kernel
theorem dX9_part_121 : decode cX9_part 121 = .ok (.getfield 83, 3) := by decide +kernel
theorem dX9_part_124 : decode cX9_part 124 = .ok (.aload_n 0, 1) := by decide +kernel
theorem dX9_part_125 : decode cX9_part 125 = .ok (.getfield 79, 3) := by decide +kernel
theorem dX9_part_128 : decode cX9_part 128 = .ok (.invokestatic 158, 3) := by decide +kernel
theorem dX9_part_131 : decode cX9_part 131 = .ok (.aload_n 0, 1) := by decide +kernel
theorem dX9_part_132 : decode cX9_part 132 = .ok (.aload_n 0, 1) := by decide +kernel
theorem dX9_part_133 : decode cX9_part 133 = .ok (.getfield 79, 3) := by decide +kernel
theorem dX9_part_136 : decode cX9_part 136 = .ok (.iload_n 3, 1) := by decide +kernel
theorem dX9_part_137 : decode cX9_part 137 = .ok (.invokevirtual 116, 3) := by decide +kernel
theorem dX9_part_140 : decode cX9_part 140 = .ok (.ireturn, 1) := by decide +kernel
def zj_X9_part_131 (g22 : AH) (y0_131 : Nat) (y3_131 : Int32) : Option (Int32 × AH) :=
  (gR g22 y0_131 9 10).bind fun x23 => (chk g22 y0_131 9).bind fun _ => (zs_X9_keep g22 y0_131 x23 y3_131).bind fun x25 => some (x25.1, x25.2)
def zs_X9_part (h : AH) (u0 : Nat) (u1 : Int32) (u2 : Int32) (u3 : Int32) : Option (Int32 × AH) :=
  (zs_X9_isRatio h u1).bind fun x1 => (if x1 = 0 then some ((-1 : Int32), h) else (if u2 < 0 then some ((-1 : Int32), h) else (if (3 : Int32) < u2 then some ((-1 : Int32), h) else (zs_X9_isSlot h u3).bind fun x5 => (if x5 = 0 then some ((-1 : Int32), h) else (gR h u0 9 1).bind fun x7 => (aR h x7 4 u1).bind fun x8 => (if u2 = 0 then (gR h x8 4 0).bind fun x38 => (chk h u0 9).bind fun _ => (zs_X9_keep h u0 x38 u3).bind fun x40 => some (x40.1, x40.2) else (if u2 = (1 : Int32) then (gR h x8 4 1).bind fun x35 => (chk h u0 9).bind fun _ => (zs_X9_keep h u0 x35 u3).bind fun x37 => some (x37.1, x37.2) else (gR h u0 9 4).bind fun x11 => (gR h x8 4 0).bind fun x12 => (gR h x8 4 1).bind fun x13 => (chk h x11 0).bind fun _ => (zs_X0_divide h x11 ((1 : Int32)) x12 x13).bind fun g15 => (gR g15 u0 9 10).bind fun x16 => (gR g15 u0 9 4).bind fun x17 => (gR g15 x17 0 0).bind fun x18 => (chk g15 x16 8).bind fun _ => (zs_X8_copy g15 x16 x18).bind fun g20 => (if u2 = (3 : Int32) then (gR g20 u0 9 6).bind fun x26 => (gR g20 x8 4 1).bind fun x27 => (chk g20 x26 2).bind fun _ => (zs_X2_nearerAbove g20 x26 x27).bind fun x29 => (if x29.1 = 0 then zj_X9_part_131 x29.2 u0 u3 else (gR x29.2 u0 9 10).bind fun x31 => (gR x29.2 u0 9 11).bind fun x32 => (gR x29.2 u0 9 10).bind fun x33 => (zs_X8_sum x29.2 x31 x32 x33).bind fun g34 => zj_X9_part_131 g34 u0 u3) else zj_X9_part_131 g20 u0 u3)))))))
set_option maxRecDepth 100000 in
set_option maxHeartbeats 4000000 in
theorem zm_X9_part (l : Launch) (D : hG) (z : Nat) {h : AH} {u0 : Nat} {u1 : Int32} {u2 : Int32} {u3 : Int32} {r : Int32} {h' : AH} (hs : zs_X9_part h u0 u1 u2 u3 = some (r, h')) : hC l D z yX9_part cX9_part 5 (Option.some Jvm.ClassFile.FieldType.int) 5 136 0 0 [.ref u0, .int u1, .int u2, .int u3] h h' (some (.int r)) := by
  refine hC_of (by decide) (Nat.le_of_ble_eq_true rfl) ?_
  intro p e s m below meth c hx hb hml hrt hlk hown hnm hts hk hr hz ls hl
  replace hown : s.vm.findClass RX9 = some m.cls := hown
  replace hl : lv_has ls 5 [(0, .ref u0), (1, .int u1), (2, .int u2), (3, .int u3)] := hl
  have hS : va_S (hA z) s.heap s.heap [] := va_S.rf
  suffices hgo : ∀ (H : Heap) (locs : List Loc), hR D z h H → va_S (hA z) s.heap H locs → W p l e ({ frames := 5, cells := 0, slots := 0, locals := 136 } : Room) s m ([.ref u0, .int u1, .int u2, .int u3] : List Value).toArray below meth c H locs 0 0 (MQ below (hQ D z h' (some (.int r))) ([.ref u0, .int u1, .int u2, .int u3] : List Value).toArray s 0 0 (hA z)) (F0 m 0 ls []) from hgo _ _ hr hS
  clear hr hS
  intro H locs hr hS
  have hJ131 : ∀ (g22 : AH) (y0_131 : Nat) (y3_131 : Int32) (H : Heap) (locs : List Loc) (ls : Array Slot), zj_X9_part_131 g22 y0_131 y3_131 = some (r, h') → hR D z g22 H → va_S (hA z) s.heap H locs → lv_has ls 5 [(0, .ref y0_131), (3, .int y3_131)] → W p l e ({ frames := 5, cells := 0, slots := 0, locals := 136 } : Room) s m ([.ref u0, .int u1, .int u2, .int u3] : List Value).toArray below meth c H locs 0 0 (MQ below (hQ D z h' (some (.int r))) ([.ref u0, .int u1, .int u2, .int u3] : List Value).toArray s 0 0 (hA z)) (F0 m 131 ls []) := by
    intro g22 y0_131 y3_131 H locs ls hs hr hS hl
    unfold zj_X9_part_131 at hs
    refine lv_aload_n hx hb dX9_part_131 rfl (lv_at hl 0 rfl) ?_
    refine lv_aload_n hx hb dX9_part_132 rfl (lv_at hl 0 rfl) ?_
    obtain ⟨x23, ex23, hs⟩ := bi_inv hs
    refine hv_gR (C := RX9) (T := TX9) (N := 12) (ci := 9) hx hb hts inX9 hown hk hr rfl 10 (by decide) (hts _ tw_285) ex23 dX9_part_133 ?_
    refine lv_iload_n hx hb dX9_part_136 rfl (lv_at hl 1 rfl) ?_
    obtain ⟨_, ex24, hs⟩ := bi_inv hs
    obtain ⟨x25, ex25, hs⟩ := bi_inv hs
    refine hv_V1 (n := 2) [.ref x23, .int y3_131] [] hx hb hml hown hts hk hr hz hS (zm_X9_keep l D z ex25) ex24 rfl tw_364 tw_366 ts_2 tw_1 tw_367 (by decide +kernel) (by decide) ⟨(Nat.zero_le _), (Nat.zero_le _)⟩ rfl hl.1 (Nat.le_of_ble_eq_true rfl) dX9_part_137 rfl (fun H locs hr hS => ?_)
    obtain ⟨rfl, rfl⟩ := Prod.mk.inj (Option.some.inj hs)
    exact hv_iret hx hb hrt hlk hr hS dX9_part_140
  unfold zs_X9_part at hs
  refine lv_iload_n hx hb dX9_part_0 rfl (lv_at hl 1 rfl) ?_
  obtain ⟨x1, ex1, hs⟩ := bi_inv hs
  refine hv_S1 (n := 1) [.int u1] [] hx hb hml hown hts hk hr hz hS (zm_X9_isRatio l D z ex1) tw_674 tw_675 tw_1 tw_676 (by decide +kernel) (by decide) ⟨(Nat.zero_le _), (Nat.zero_le _)⟩ rfl hl.1 (Nat.le_of_ble_eq_true rfl) dX9_part_1 rfl (fun H locs hr hS => ?_)
  refine lv_if_eq (tgt := 23) hx hb dX9_part_4 (by decide) (fun c2 => ?_) (fun c2 => ?_)
  · rw [if_pos c2] at hs
    refine lv_iconst (v := (-1)) hx hb dX9_part_23 (by decide) ?_
    obtain ⟨rfl, rfl⟩ := Prod.mk.inj (Option.some.inj hs)
    exact hv_iret hx hb hrt hlk hr hS dX9_part_24
  · rw [if_neg c2] at hs
    refine lv_iload_n hx hb dX9_part_7 rfl (lv_at hl 2 rfl) ?_
    refine lv_if_lt (tgt := 23) hx hb dX9_part_8 (by decide) (fun c3 => ?_) (fun c3 => ?_)
    · rw [if_pos c3] at hs
      refine lv_iconst (v := (-1)) hx hb dX9_part_23 (by decide) ?_
      obtain ⟨rfl, rfl⟩ := Prod.mk.inj (Option.some.inj hs)
      exact hv_iret hx hb hrt hlk hr hS dX9_part_24
    · rw [if_neg c3] at hs
      refine lv_iload_n hx hb dX9_part_11 rfl (lv_at hl 2 rfl) ?_
      refine lv_iconst (v := 3) hx hb dX9_part_12 (by decide) ?_
      refine lv_icmp_gt (tgt := 23) hx hb dX9_part_13 (by decide) (fun c4 => ?_) (fun c4 => ?_)
      · rw [if_pos c4] at hs
        refine lv_iconst (v := (-1)) hx hb dX9_part_23 (by decide) ?_
        obtain ⟨rfl, rfl⟩ := Prod.mk.inj (Option.some.inj hs)
        exact hv_iret hx hb hrt hlk hr hS dX9_part_24
      · rw [if_neg c4] at hs
        refine lv_iload_n hx hb dX9_part_16 rfl (lv_at hl 3 rfl) ?_
        obtain ⟨x5, ex5, hs⟩ := bi_inv hs
        refine hv_S1 (n := 1) [.int u3] [] hx hb hml hown hts hk hr hz hS (zm_X9_isSlot l D z ex5) tw_316 tw_317 tw_1 tw_318 (by decide +kernel) (by decide) ⟨(Nat.zero_le _), (Nat.zero_le _)⟩ rfl hl.1 (Nat.le_of_ble_eq_true rfl) dX9_part_17 rfl (fun H locs hr hS => ?_)
        refine lv_if_ne (tgt := 25) hx hb dX9_part_20 (by decide) (fun c6 => ?_) (fun c6 => ?_)
        · rw [if_neg c6] at hs
          refine lv_aload_n hx hb dX9_part_25 rfl (lv_at hl 0 rfl) ?_
          obtain ⟨x7, ex7, hs⟩ := bi_inv hs
          refine hv_gR (C := RX9) (T := TX9) (N := 12) (ci := 9) hx hb hts inX9 hown hk hr rfl 1 (by decide) (hts _ tw_276) ex7 dX9_part_26 ?_
          refine lv_iload_n hx hb dX9_part_29 rfl (lv_at hl 1 rfl) ?_
          obtain ⟨x8, ex8, hs⟩ := bi_inv hs
          refine hv_aR (kd := 4) hx hb hk hr rfl ex8 dX9_part_30 ?_
          refine lv_astore (lv' := [(4, .ref x8), (0, .ref u0), (1, .int u1), (2, .int u2), (3, .int u3)]) hx hb dX9_part_31 hl (by decide) rfl (fun ls hl => ?_)
          refine lv_iload_n hx hb dX9_part_33 rfl (lv_at hl 3 rfl) ?_
          refine lv_if_ne (tgt := 48) hx hb dX9_part_34 (by decide) (fun c9 => ?_) (fun c9 => ?_)
          · rw [if_neg c9] at hs
            refine lv_iload_n hx hb dX9_part_48 rfl (lv_at hl 3 rfl) ?_
            refine lv_iconst (v := 1) hx hb dX9_part_49 (by decide) ?_
            refine lv_icmp_ne (tgt := 64) hx hb dX9_part_50 (by decide) (fun c10 => ?_) (fun c10 => ?_)
            · rw [if_neg c10] at hs
              refine lv_aload_n hx hb dX9_part_64 rfl (lv_at hl 1 rfl) ?_
              obtain ⟨x11, ex11, hs⟩ := bi_inv hs
              refine hv_gR (C := RX9) (T := TX9) (N := 12) (ci := 9) hx hb hts inX9 hown hk hr rfl 4 (by decide) (hts _ tw_279) ex11 dX9_part_65 ?_
              refine lv_iconst (v := 1) hx hb dX9_part_68 (by decide) ?_
              refine lv_aload hx hb dX9_part_69 (lv_at hl 0 rfl) ?_
              obtain ⟨x12, ex12, hs⟩ := bi_inv hs
              refine hv_gR (C := RX4) (T := TX4) (N := 2) (ci := 4) hx hb hts inX4 hown hk hr rfl 0 (by decide) (hts _ tw_81) ex12 dX9_part_71 ?_
              refine lv_aload hx hb dX9_part_74 (lv_at hl 0 rfl) ?_
              obtain ⟨x13, ex13, hs⟩ := bi_inv hs
              refine hv_gR (C := RX4) (T := TX4) (N := 2) (ci := 4) hx hb hts inX4 hown hk hr rfl 1 (by decide) (hts _ tw_85) ex13 dX9_part_76 ?_
              obtain ⟨_, ex14, hs⟩ := bi_inv hs
              obtain ⟨g15, eg15, hs⟩ := bi_inv hs
              refine hv_V0 (n := 3) [.int ((1 : Int32)), .ref x12, .ref x13] [] hx hb hml hown hts hk hr hz hS (zm_X0_divide l D z eg15) ex14 rfl tw_479 tw_480 tw_481 tw_6 tw_482 (by decide +kernel) (by decide) ⟨(Nat.zero_le _), (Nat.zero_le _)⟩ rfl hl.1 (Nat.le_of_ble_eq_true rfl) dX9_part_79 rfl (fun H locs hr hS => ?_)
              refine lv_aload_n hx hb dX9_part_82 rfl (lv_at hl 1 rfl) ?_
              obtain ⟨x16, ex16, hs⟩ := bi_inv hs
              refine hv_gR (C := RX9) (T := TX9) (N := 12) (ci := 9) hx hb hts inX9 hown hk hr rfl 10 (by decide) (hts _ tw_285) ex16 dX9_part_83 ?_
              refine lv_aload_n hx hb dX9_part_86 rfl (lv_at hl 1 rfl) ?_
              obtain ⟨x17, ex17, hs⟩ := bi_inv hs
              refine hv_gR (C := RX9) (T := TX9) (N := 12) (ci := 9) hx hb hts inX9 hown hk hr rfl 4 (by decide) (hts _ tw_279) ex17 dX9_part_87 ?_
              obtain ⟨x18, ex18, hs⟩ := bi_inv hs
              refine hv_gR (C := RX0) (T := TX0) (N := 5) (ci := 0) hx hb hts inX0 hown hk hr rfl 0 (by decide) (hts _ tw_139) ex18 dX9_part_90 ?_
              obtain ⟨_, ex19, hs⟩ := bi_inv hs
              obtain ⟨g20, eg20, hs⟩ := bi_inv hs
              refine hv_V0 (n := 1) [.ref x18] [] hx hb hml hown hts hk hr hz hS (zm_X8_copy l D z eg20) ex19 rfl tw_372 tw_373 tw_374 tw_2 tw_375 (by decide +kernel) (by decide) ⟨(Nat.zero_le _), (Nat.zero_le _)⟩ rfl hl.1 (Nat.le_of_ble_eq_true rfl) dX9_part_93 rfl (fun H locs hr hS => ?_)
              refine lv_iload_n hx hb dX9_part_96 rfl (lv_at hl 3 rfl) ?_
              refine lv_iconst (v := 3) hx hb dX9_part_97 (by decide) ?_
              refine lv_icmp_ne (tgt := 131) hx hb dX9_part_98 (by decide) (fun c21 => ?_) (fun c21 => ?_)
              · rw [if_neg c21] at hs
                exact hJ131 g20 u0 u3 H locs ls hs hr hS (lv_sub hl [1, 4] rfl)
              · rw [if_pos c21] at hs
                refine lv_aload_n hx hb dX9_part_101 rfl (lv_at hl 1 rfl) ?_
                obtain ⟨x26, ex26, hs⟩ := bi_inv hs
                refine hv_gR (C := RX9) (T := TX9) (N := 12) (ci := 9) hx hb hts inX9 hown hk hr rfl 6 (by decide) (hts _ tw_281) ex26 dX9_part_102 ?_
                refine lv_aload hx hb dX9_part_105 (lv_at hl 0 rfl) ?_
                obtain ⟨x27, ex27, hs⟩ := bi_inv hs
                refine hv_gR (C := RX4) (T := TX4) (N := 2) (ci := 4) hx hb hts inX4 hown hk hr rfl 1 (by decide) (hts _ tw_85) ex27 dX9_part_107 ?_
                obtain ⟨_, ex28, hs⟩ := bi_inv hs
                obtain ⟨x29, ex29, hs⟩ := bi_inv hs
                refine hv_V1 (n := 1) [.ref x27] [] hx hb hml hown hts hk hr hz hS (zm_X2_nearerAbove l D z ex29) ex28 rfl tw_725 tw_726 tw_727 tw_8 tw_728 (by decide +kernel) (by decide) ⟨(Nat.zero_le _), (Nat.zero_le _)⟩ rfl hl.1 (Nat.le_of_ble_eq_true rfl) dX9_part_110 rfl (fun H locs hr hS => ?_)
                refine lv_if_eq (tgt := 131) hx hb dX9_part_113 (by decide) (fun c30 => ?_) (fun c30 => ?_)
                · rw [if_pos c30] at hs
                  exact hJ131 x29.2 u0 u3 H locs ls hs hr hS (lv_sub hl [1, 4] rfl)
                · rw [if_neg c30] at hs
                  refine lv_aload_n hx hb dX9_part_116 rfl (lv_at hl 1 rfl) ?_
                  obtain ⟨x31, ex31, hs⟩ := bi_inv hs
                  refine hv_gR (C := RX9) (T := TX9) (N := 12) (ci := 9) hx hb hts inX9 hown hk hr rfl 10 (by decide) (hts _ tw_285) ex31 dX9_part_117 ?_
                  refine lv_aload_n hx hb dX9_part_120 rfl (lv_at hl 1 rfl) ?_
                  obtain ⟨x32, ex32, hs⟩ := bi_inv hs
                  refine hv_gR (C := RX9) (T := TX9) (N := 12) (ci := 9) hx hb hts inX9 hown hk hr rfl 11 (by decide) (hts _ tw_286) ex32 dX9_part_121 ?_
                  refine lv_aload_n hx hb dX9_part_124 rfl (lv_at hl 1 rfl) ?_
                  obtain ⟨x33, ex33, hs⟩ := bi_inv hs
                  refine hv_gR (C := RX9) (T := TX9) (N := 12) (ci := 9) hx hb hts inX9 hown hk hr rfl 10 (by decide) (hts _ tw_285) ex33 dX9_part_125 ?_
                  obtain ⟨g34, eg34, hs⟩ := bi_inv hs
                  refine hv_S0 (n := 3) [.ref x31, .ref x32, .ref x33] [] hx hb hml hown hts hk hr hz hS (zm_X8_sum l D z eg34) tw_450 tw_451 tw_2 tw_452 (by decide +kernel) (by decide) ⟨(Nat.zero_le _), (Nat.zero_le _)⟩ rfl hl.1 (Nat.le_of_ble_eq_true rfl) dX9_part_128 rfl (fun H locs hr hS => ?_)
                  exact hJ131 g34 u0 u3 H locs ls hs hr hS (lv_sub hl [1, 4] rfl)
            · rw [if_pos c10] at hs
              refine lv_aload_n hx hb dX9_part_53 rfl (lv_at hl 1 rfl) ?_
              refine lv_aload hx hb dX9_part_54 (lv_at hl 0 rfl) ?_
              obtain ⟨x35, ex35, hs⟩ := bi_inv hs
              refine hv_gR (C := RX4) (T := TX4) (N := 2) (ci := 4) hx hb hts inX4 hown hk hr rfl 1 (by decide) (hts _ tw_85) ex35 dX9_part_56 ?_
              refine lv_iload_n hx hb dX9_part_59 rfl (lv_at hl 4 rfl) ?_
              obtain ⟨_, ex36, hs⟩ := bi_inv hs
              obtain ⟨x37, ex37, hs⟩ := bi_inv hs
              refine hv_V1 (n := 2) [.ref x35, .int u3] [] hx hb hml hown hts hk hr hz hS (zm_X9_keep l D z ex37) ex36 rfl tw_364 tw_366 ts_2 tw_1 tw_367 (by decide +kernel) (by decide) ⟨(Nat.zero_le _), (Nat.zero_le _)⟩ rfl hl.1 (Nat.le_of_ble_eq_true rfl) dX9_part_60 rfl (fun H locs hr hS => ?_)
              obtain ⟨rfl, rfl⟩ := Prod.mk.inj (Option.some.inj hs)
              exact hv_iret hx hb hrt hlk hr hS dX9_part_63
          · rw [if_pos c9] at hs
            refine lv_aload_n hx hb dX9_part_37 rfl (lv_at hl 1 rfl) ?_
            refine lv_aload hx hb dX9_part_38 (lv_at hl 0 rfl) ?_
            obtain ⟨x38, ex38, hs⟩ := bi_inv hs
            refine hv_gR (C := RX4) (T := TX4) (N := 2) (ci := 4) hx hb hts inX4 hown hk hr rfl 0 (by decide) (hts _ tw_81) ex38 dX9_part_40 ?_
            refine lv_iload_n hx hb dX9_part_43 rfl (lv_at hl 4 rfl) ?_
            obtain ⟨_, ex39, hs⟩ := bi_inv hs
            obtain ⟨x40, ex40, hs⟩ := bi_inv hs
            refine hv_V1 (n := 2) [.ref x38, .int u3] [] hx hb hml hown hts hk hr hz hS (zm_X9_keep l D z ex40) ex39 rfl tw_364 tw_366 ts_2 tw_1 tw_367 (by decide +kernel) (by decide) ⟨(Nat.zero_le _), (Nat.zero_le _)⟩ rfl hl.1 (Nat.le_of_ble_eq_true rfl) dX9_part_44 rfl (fun H locs hr hS => ?_)
            obtain ⟨rfl, rfl⟩ := Prod.mk.inj (Option.some.inj hs)
            exact hv_iret hx hb hrt hlk hr hS dX9_part_47
        · rw [if_pos c6] at hs
          refine lv_iconst (v := (-1)) hx hb dX9_part_23 (by decide) ?_
          obtain ⟨rfl, rfl⟩ := Prod.mk.inj (Option.some.inj hs)
          exact hv_iret hx hb hrt hlk hr hS dX9_part_24
theorem dX9_power_0 : decode cX9_power 0 = .ok (.iload_n 1, 1) := by decide +kernel
theorem dX9_power_1 : decode cX9_power 1 = .ok (.invokestatic 90, 3) := by decide +kernel
theorem dX9_power_4 : decode cX9_power 4 = .ok (.ifCond .eq 21, 3) := by decide +kernel
theorem dX9_power_7 : decode cX9_power 7 = .ok (.iload_n 3, 1) := by decide +kernel
theorem dX9_power_8 : decode cX9_power 8 = .ok (.invokestatic 90, 3) := by decide +kernel
theorem dX9_power_11 : decode cX9_power 11 = .ok (.ifCond .eq 14, 3) := by decide +kernel
theorem dX9_power_14 : decode cX9_power 14 = .ok (.iload_n 2, 1) := by decide +kernel
theorem dX9_power_15 : decode cX9_power 15 = .ok (.ifCond .lt 10, 3) := by decide +kernel
theorem dX9_power_18 : decode cX9_power 18 = .ok (.iload_n 2, 1) := by decide +kernel
theorem dX9_power_19 : decode cX9_power 19 = .ok (.sipush 2000, 3) := by decide +kernel
theorem dX9_power_22 : decode cX9_power 22 = .ok (.if_icmp .le 5, 3) := by decide +kernel
theorem dX9_power_25 : decode cX9_power 25 = .ok (.iconst (-1), 1) := by decide +kernel
theorem dX9_power_26 : decode cX9_power 26 = .ok (.ireturn, 1) := by decide +kernel
theorem dX9_power_27 : decode cX9_power 27 = .ok (.aload_n 0, 1) := by decide +kernel
theorem dX9_power_28 : decode cX9_power 28 = .ok (.getfield 49, 3) := by decide +kernel
theorem dX9_power_31 : decode cX9_power 31 = .ok (.aload_n 0, 1) := by decide +kernel
theorem dX9_power_32 : decode cX9_power 32 = .ok (.getfield 11, 3) := by decide +kernel
theorem dX9_power_35 : decode cX9_power 35 = .ok (.iload_n 1, 1) := by decide +kernel
theorem dX9_power_36 : decode cX9_power 36 = .ok (.aaload, 1) := by decide +kernel
theorem dX9_power_37 : decode cX9_power 37 = .ok (.iload_n 2, 1) := by decide +kernel
theorem dX9_power_38 : decode cX9_power 38 = .ok (.invokevirtual 191, 3) := by decide +kernel
theorem dX9_power_41 : decode cX9_power 41 = .ok (.ifCond .eq 18, 3) := by decide +kernel
theorem dX9_power_44 : decode cX9_power 44 = .ok (.aload_n 0, 1) := by decide +kernel
theorem dX9_power_45 : decode cX9_power 45 = .ok (.aload_n 0, 1) := by decide +kernel
theorem dX9_power_46 : decode cX9_power 46 = .ok (.getfield 49, 3) := by decide +kernel
theorem dX9_power_49 : decode cX9_power 49 = .ok (.getfield 195, 3) := by decide +kernel
theorem dX9_power_52 : decode cX9_power 52 = .ok (.iload_n 3, 1) := by decide +kernel
theorem dX9_power_53 : decode cX9_power 53 = .ok (.invokevirtual 116, 3) := by decide +kernel
theorem dX9_power_56 : decode cX9_power 56 = .ok (.goto 5, 3) := by decide +kernel
theorem dX9_power_59 : decode cX9_power 59 = .ok (.bipush (-5), 2) := by decide +kernel
theorem dX9_power_61 : decode cX9_power 61 = .ok (.ireturn, 1) := by decide +kernel
def zs_X9_power (h : AH) (u0 : Nat) (u1 : Int32) (u2 : Int32) (u3 : Int32) : Option (Int32 × AH) :=
  (zs_X9_isSlot h u1).bind fun x1 => (if x1 = 0 then some ((-1 : Int32), h) else (zs_X9_isSlot h u3).bind fun x3 => (if x3 = 0 then some ((-1 : Int32), h) else (if u2 < 0 then some ((-1 : Int32), h) else (if u2 ≤ (2000 : Int32) then (gR h u0 9 5).bind fun x7 => (gR h u0 9 0).bind fun x8 => (aR h x8 3 u1).bind fun x9 => (chk h x7 3).bind fun _ => (zs_X3_raise h x7 x9 u2).bind fun x11 => (if x11.1 = 0 then some ((-5 : Int32), x11.2) else (gR x11.2 u0 9 5).bind fun x13 => (gR x11.2 x13 3 0).bind fun x14 => (chk x11.2 u0 9).bind fun _ => (zs_X9_keep x11.2 u0 x14 u3).bind fun x16 => some (x16.1, x16.2)) else some ((-1 : Int32), h)))))
set_option maxRecDepth 100000 in
set_option maxHeartbeats 4000000 in
theorem zm_X9_power (l : Launch) (D : hG) (z : Nat) {h : AH} {u0 : Nat} {u1 : Int32} {u2 : Int32} {u3 : Int32} {r : Int32} {h' : AH} (hs : zs_X9_power h u0 u1 u2 u3 = some (r, h')) : hC l D z yX9_power cX9_power 4 (Option.some Jvm.ClassFile.FieldType.int) 4 96 0 0 [.ref u0, .int u1, .int u2, .int u3] h h' (some (.int r)) := by
  refine hC_of (by decide) (Nat.le_of_ble_eq_true rfl) ?_
  intro p e s m below meth c hx hb hml hrt hlk hown hnm hts hk hr hz ls hl
  replace hown : s.vm.findClass RX9 = some m.cls := hown
  replace hl : lv_has ls 4 [(0, .ref u0), (1, .int u1), (2, .int u2), (3, .int u3)] := hl
  have hS : va_S (hA z) s.heap s.heap [] := va_S.rf
  suffices hgo : ∀ (H : Heap) (locs : List Loc), hR D z h H → va_S (hA z) s.heap H locs → W p l e ({ frames := 4, cells := 0, slots := 0, locals := 96 } : Room) s m ([.ref u0, .int u1, .int u2, .int u3] : List Value).toArray below meth c H locs 0 0 (MQ below (hQ D z h' (some (.int r))) ([.ref u0, .int u1, .int u2, .int u3] : List Value).toArray s 0 0 (hA z)) (F0 m 0 ls []) from hgo _ _ hr hS
  clear hr hS
  intro H locs hr hS
  unfold zs_X9_power at hs
  refine lv_iload_n hx hb dX9_power_0 rfl (lv_at hl 1 rfl) ?_
  obtain ⟨x1, ex1, hs⟩ := bi_inv hs
  refine hv_S1 (n := 1) [.int u1] [] hx hb hml hown hts hk hr hz hS (zm_X9_isSlot l D z ex1) tw_316 tw_317 tw_1 tw_318 (by decide +kernel) (by decide) ⟨(Nat.zero_le _), (Nat.zero_le _)⟩ rfl hl.1 (Nat.le_of_ble_eq_true rfl) dX9_power_1 rfl (fun H locs hr hS => ?_)
  refine lv_if_eq (tgt := 25) hx hb dX9_power_4 (by decide) (fun c2 => ?_) (fun c2 => ?_)
  · rw [if_pos c2] at hs
    refine lv_iconst (v := (-1)) hx hb dX9_power_25 (by decide) ?_
    obtain ⟨rfl, rfl⟩ := Prod.mk.inj (Option.some.inj hs)
    exact hv_iret hx hb hrt hlk hr hS dX9_power_26
  · rw [if_neg c2] at hs
    refine lv_iload_n hx hb dX9_power_7 rfl (lv_at hl 3 rfl) ?_
    obtain ⟨x3, ex3, hs⟩ := bi_inv hs
    refine hv_S1 (n := 1) [.int u3] [] hx hb hml hown hts hk hr hz hS (zm_X9_isSlot l D z ex3) tw_316 tw_317 tw_1 tw_318 (by decide +kernel) (by decide) ⟨(Nat.zero_le _), (Nat.zero_le _)⟩ rfl hl.1 (Nat.le_of_ble_eq_true rfl) dX9_power_8 rfl (fun H locs hr hS => ?_)
    refine lv_if_eq (tgt := 25) hx hb dX9_power_11 (by decide) (fun c4 => ?_) (fun c4 => ?_)
    · rw [if_pos c4] at hs
      refine lv_iconst (v := (-1)) hx hb dX9_power_25 (by decide) ?_
      obtain ⟨rfl, rfl⟩ := Prod.mk.inj (Option.some.inj hs)
      exact hv_iret hx hb hrt hlk hr hS dX9_power_26
    · rw [if_neg c4] at hs
      refine lv_iload_n hx hb dX9_power_14 rfl (lv_at hl 2 rfl) ?_
      refine lv_if_lt (tgt := 25) hx hb dX9_power_15 (by decide) (fun c5 => ?_) (fun c5 => ?_)
      · rw [if_pos c5] at hs
        refine lv_iconst (v := (-1)) hx hb dX9_power_25 (by decide) ?_
        obtain ⟨rfl, rfl⟩ := Prod.mk.inj (Option.some.inj hs)
        exact hv_iret hx hb hrt hlk hr hS dX9_power_26
      · rw [if_neg c5] at hs
        refine lv_iload_n hx hb dX9_power_18 rfl (lv_at hl 2 rfl) ?_
        refine lv_sipush (v := 2000) hx hb dX9_power_19 (by decide) ?_
        refine lv_icmp_le (tgt := 27) hx hb dX9_power_22 (by decide) (fun c6 => ?_) (fun c6 => ?_)
        · rw [if_pos c6] at hs
          refine lv_aload_n hx hb dX9_power_27 rfl (lv_at hl 0 rfl) ?_
          obtain ⟨x7, ex7, hs⟩ := bi_inv hs
          refine hv_gR (C := RX9) (T := TX9) (N := 12) (ci := 9) hx hb hts inX9 hown hk hr rfl 5 (by decide) (hts _ tw_280) ex7 dX9_power_28 ?_
          refine lv_aload_n hx hb dX9_power_31 rfl (lv_at hl 0 rfl) ?_
          obtain ⟨x8, ex8, hs⟩ := bi_inv hs
          refine hv_gR (C := RX9) (T := TX9) (N := 12) (ci := 9) hx hb hts inX9 hown hk hr rfl 0 (by decide) (hts _ tw_275) ex8 dX9_power_32 ?_
          refine lv_iload_n hx hb dX9_power_35 rfl (lv_at hl 1 rfl) ?_
          obtain ⟨x9, ex9, hs⟩ := bi_inv hs
          refine hv_aR (kd := 3) hx hb hk hr rfl ex9 dX9_power_36 ?_
          refine lv_iload_n hx hb dX9_power_37 rfl (lv_at hl 2 rfl) ?_
          obtain ⟨_, ex10, hs⟩ := bi_inv hs
          obtain ⟨x11, ex11, hs⟩ := bi_inv hs
          refine hv_V1 (n := 2) [.ref x9, .int u2] [] hx hb hml hown hts hk hr hz hS (zm_X3_raise l D z ex11) ex10 rfl tw_544 tw_545 tw_546 tw_7 tw_547 (by decide +kernel) (by decide) ⟨(Nat.zero_le _), (Nat.zero_le _)⟩ rfl hl.1 (Nat.le_of_ble_eq_true rfl) dX9_power_38 rfl (fun H locs hr hS => ?_)
          refine lv_if_eq (tgt := 59) hx hb dX9_power_41 (by decide) (fun c12 => ?_) (fun c12 => ?_)
          · rw [if_pos c12] at hs
            refine lv_bipush (v := (-5)) hx hb dX9_power_59 (by decide) ?_
            obtain ⟨rfl, rfl⟩ := Prod.mk.inj (Option.some.inj hs)
            exact hv_iret hx hb hrt hlk hr hS dX9_power_61
          · rw [if_neg c12] at hs
            refine lv_aload_n hx hb dX9_power_44 rfl (lv_at hl 0 rfl) ?_
            refine lv_aload_n hx hb dX9_power_45 rfl (lv_at hl 0 rfl) ?_
            obtain ⟨x13, ex13, hs⟩ := bi_inv hs
            refine hv_gR (C := RX9) (T := TX9) (N := 12) (ci := 9) hx hb hts inX9 hown hk hr rfl 5 (by decide) (hts _ tw_280) ex13 dX9_power_46 ?_
            obtain ⟨x14, ex14, hs⟩ := bi_inv hs
            refine hv_gR (C := RX3) (T := TX3) (N := 8) (ci := 3) hx hb hts inX3 hown hk hr rfl 0 (by decide) (hts _ tw_168) ex14 dX9_power_49 ?_
            refine lv_iload_n hx hb dX9_power_52 rfl (lv_at hl 3 rfl) ?_
            obtain ⟨_, ex15, hs⟩ := bi_inv hs
            obtain ⟨x16, ex16, hs⟩ := bi_inv hs
            refine hv_V1 (n := 2) [.ref x14, .int u3] [] hx hb hml hown hts hk hr hz hS (zm_X9_keep l D z ex16) ex15 rfl tw_364 tw_366 ts_2 tw_1 tw_367 (by decide +kernel) (by decide) ⟨(Nat.zero_le _), (Nat.zero_le _)⟩ rfl hl.1 (Nat.le_of_ble_eq_true rfl) dX9_power_53 rfl (fun H locs hr hS => ?_)
            refine lv_goto (tgt := 61) hx hb dX9_power_56 (by decide) ?_
            obtain ⟨rfl, rfl⟩ := Prod.mk.inj (Option.some.inj hs)
            exact hv_iret hx hb hrt hlk hr hS dX9_power_61
        · rw [if_neg c6] at hs
          refine lv_iconst (v := (-1)) hx hb dX9_power_25 (by decide) ?_
          obtain ⟨rfl, rfl⟩ := Prod.mk.inj (Option.some.inj hs)
          exact hv_iret hx hb hrt hlk hr hS dX9_power_26
theorem dX9_ratio_0 : decode cX9_ratio 0 = .ok (.iload_n 1, 1) := by decide +kernel
theorem dX9_ratio_1 : decode cX9_ratio 1 = .ok (.invokestatic 90, 3) := by decide +kernel
theorem dX9_ratio_4 : decode cX9_ratio 4 = .ok (.ifCond .eq 17, 3) := by decide +kernel
theorem dX9_ratio_7 : decode cX9_ratio 7 = .ok (.iload_n 2, 1) := by decide +kernel
theorem dX9_ratio_8 : decode cX9_ratio 8 = .ok (.invokestatic 90, 3) := by decide +kernel
theorem dX9_ratio_11 : decode cX9_ratio 11 = .ok (.ifCond .eq 10, 3) := by decide +kernel
theorem dX9_ratio_14 : decode cX9_ratio 14 = .ok (.iload_n 3, 1) := by decide +kernel
theorem dX9_ratio_15 : decode cX9_ratio 15 = .ok (.invokestatic 243, 3) := by decide +kernel
theorem dX9_ratio_18 : decode cX9_ratio 18 = .ok (.ifCond .ne 5, 3) := by decide +kernel
theorem dX9_ratio_21 : decode cX9_ratio 21 = .ok (.iconst (-1), 1) := by decide +kernel
theorem dX9_ratio_22 : decode cX9_ratio 22 = .ok (.ireturn, 1) := by decide +kernel
theorem dX9_ratio_23 : decode cX9_ratio 23 = .ok (.aload_n 0, 1) := by decide +kernel
theorem dX9_ratio_24 : decode cX9_ratio 24 = .ok (.getfield 11, 3) := by decide +kernel
theorem dX9_ratio_27 : decode cX9_ratio 27 = .ok (.iload_n 2, 1) := by decide +kernel
theorem dX9_ratio_28 : decode cX9_ratio 28 = .ok (.aaload, 1) := by decide +kernel
theorem dX9_ratio_29 : decode cX9_ratio 29 = .ok (.invokevirtual 168, 3) := by decide +kernel
theorem dX9_ratio_32 : decode cX9_ratio 32 = .ok (.ifCond .eq 6, 3) := by decide +kernel
theorem dX9_ratio_35 : decode cX9_ratio 35 = .ok (.bipush (-2), 2) := by decide +kernel
theorem dX9_ratio_37 : decode cX9_ratio 37 = .ok (.ireturn, 1) := by decide +kernel
theorem dX9_ratio_38 : decode cX9_ratio 38 = .ok (.aload_n 0, 1) := by decide +kernel
theorem dX9_ratio_39 : decode cX9_ratio 39 = .ok (.getfield 58, 3) := by decide +kernel
theorem dX9_ratio_42 : decode cX9_ratio 42 = .ok (.aload_n 0, 1) := by decide +kernel
theorem dX9_ratio_43 : decode cX9_ratio 43 = .ok (.getfield 11, 3) := by decide +kernel
theorem dX9_ratio_46 : decode cX9_ratio 46 = .ok (.iload_n 1, 1) := by decide +kernel
theorem dX9_ratio_47 : decode cX9_ratio 47 = .ok (.aaload, 1) := by decide +kernel
theorem dX9_ratio_48 : decode cX9_ratio 48 = .ok (.aload_n 0, 1) := by decide +kernel
theorem dX9_ratio_49 : decode cX9_ratio 49 = .ok (.getfield 11, 3) := by decide +kernel
theorem dX9_ratio_52 : decode cX9_ratio 52 = .ok (.iload_n 2, 1) := by decide +kernel
theorem dX9_ratio_53 : decode cX9_ratio 53 = .ok (.aaload, 1) := by decide +kernel
theorem dX9_ratio_54 : decode cX9_ratio 54 = .ok (.invokevirtual 246, 3) := by decide +kernel
theorem dX9_ratio_57 : decode cX9_ratio 57 = .ok (.aload_n 0, 1) := by decide +kernel
theorem dX9_ratio_58 : decode cX9_ratio 58 = .ok (.iload_n 3, 1) := by decide +kernel
theorem dX9_ratio_59 : decode cX9_ratio 59 = .ok (.invokevirtual 250, 3) := by decide +kernel
theorem dX9_ratio_62 : decode cX9_ratio 62 = .ok (.ireturn, 1) := by decide +kernel
def zs_X9_ratio (h : AH) (u0 : Nat) (u1 : Int32) (u2 : Int32) (u3 : Int32) : Option (Int32 × AH) :=
  (zs_X9_isSlot h u1).bind fun x1 => (if x1 = 0 then some ((-1 : Int32), h) else (zs_X9_isSlot h u2).bind fun x3 => (if x3 = 0 then some ((-1 : Int32), h) else (zs_X9_isRatio h u3).bind fun x5 => (if x5 = 0 then some ((-1 : Int32), h) else (gR h u0 9 0).bind fun x7 => (aR h x7 3 u2).bind fun x8 => (chk h x8 8).bind fun _ => (zs_X8_isZero h x8).bind fun x10 => (if x10 = 0 then (gR h u0 9 6).bind fun x12 => (gR h u0 9 0).bind fun x13 => (aR h x13 3 u1).bind fun x14 => (gR h u0 9 0).bind fun x15 => (aR h x15 3 u2).bind fun x16 => (chk h x12 2).bind fun _ => (zs_X2_reduce h x12 x14 x16).bind fun g18 => (chk g18 u0 9).bind fun _ => (zs_X9_keepRatio g18 u0 u3).bind fun x20 => some (x20.1, x20.2) else some ((-2 : Int32), h)))))
set_option maxRecDepth 100000 in
set_option maxHeartbeats 4000000 in
theorem zm_X9_ratio (l : Launch) (D : hG) (z : Nat) {h : AH} {u0 : Nat} {u1 : Int32} {u2 : Int32} {u3 : Int32} {r : Int32} {h' : AH} (hs : zs_X9_ratio h u0 u1 u2 u3 = some (r, h')) : hC l D z yX9_ratio cX9_ratio 4 (Option.some Jvm.ClassFile.FieldType.int) 6 156 0 0 [.ref u0, .int u1, .int u2, .int u3] h h' (some (.int r)) := by
  refine hC_of (by decide) (Nat.le_of_ble_eq_true rfl) ?_
  intro p e s m below meth c hx hb hml hrt hlk hown hnm hts hk hr hz ls hl
  replace hown : s.vm.findClass RX9 = some m.cls := hown
  replace hl : lv_has ls 4 [(0, .ref u0), (1, .int u1), (2, .int u2), (3, .int u3)] := hl
  have hS : va_S (hA z) s.heap s.heap [] := va_S.rf
  suffices hgo : ∀ (H : Heap) (locs : List Loc), hR D z h H → va_S (hA z) s.heap H locs → W p l e ({ frames := 6, cells := 0, slots := 0, locals := 156 } : Room) s m ([.ref u0, .int u1, .int u2, .int u3] : List Value).toArray below meth c H locs 0 0 (MQ below (hQ D z h' (some (.int r))) ([.ref u0, .int u1, .int u2, .int u3] : List Value).toArray s 0 0 (hA z)) (F0 m 0 ls []) from hgo _ _ hr hS
  clear hr hS
  intro H locs hr hS
  unfold zs_X9_ratio at hs
  refine lv_iload_n hx hb dX9_ratio_0 rfl (lv_at hl 1 rfl) ?_
  obtain ⟨x1, ex1, hs⟩ := bi_inv hs
  refine hv_S1 (n := 1) [.int u1] [] hx hb hml hown hts hk hr hz hS (zm_X9_isSlot l D z ex1) tw_316 tw_317 tw_1 tw_318 (by decide +kernel) (by decide) ⟨(Nat.zero_le _), (Nat.zero_le _)⟩ rfl hl.1 (Nat.le_of_ble_eq_true rfl) dX9_ratio_1 rfl (fun H locs hr hS => ?_)
  refine lv_if_eq (tgt := 21) hx hb dX9_ratio_4 (by decide) (fun c2 => ?_) (fun c2 => ?_)
  · rw [if_pos c2] at hs
    refine lv_iconst (v := (-1)) hx hb dX9_ratio_21 (by decide) ?_
    obtain ⟨rfl, rfl⟩ := Prod.mk.inj (Option.some.inj hs)
    exact hv_iret hx hb hrt hlk hr hS dX9_ratio_22
  · rw [if_neg c2] at hs
    refine lv_iload_n hx hb dX9_ratio_7 rfl (lv_at hl 2 rfl) ?_
    obtain ⟨x3, ex3, hs⟩ := bi_inv hs
    refine hv_S1 (n := 1) [.int u2] [] hx hb hml hown hts hk hr hz hS (zm_X9_isSlot l D z ex3) tw_316 tw_317 tw_1 tw_318 (by decide +kernel) (by decide) ⟨(Nat.zero_le _), (Nat.zero_le _)⟩ rfl hl.1 (Nat.le_of_ble_eq_true rfl) dX9_ratio_8 rfl (fun H locs hr hS => ?_)
    refine lv_if_eq (tgt := 21) hx hb dX9_ratio_11 (by decide) (fun c4 => ?_) (fun c4 => ?_)
    · rw [if_pos c4] at hs
      refine lv_iconst (v := (-1)) hx hb dX9_ratio_21 (by decide) ?_
      obtain ⟨rfl, rfl⟩ := Prod.mk.inj (Option.some.inj hs)
      exact hv_iret hx hb hrt hlk hr hS dX9_ratio_22
    · rw [if_neg c4] at hs
      refine lv_iload_n hx hb dX9_ratio_14 rfl (lv_at hl 3 rfl) ?_
      obtain ⟨x5, ex5, hs⟩ := bi_inv hs
      refine hv_S1 (n := 1) [.int u3] [] hx hb hml hown hts hk hr hz hS (zm_X9_isRatio l D z ex5) tw_674 tw_675 tw_1 tw_676 (by decide +kernel) (by decide) ⟨(Nat.zero_le _), (Nat.zero_le _)⟩ rfl hl.1 (Nat.le_of_ble_eq_true rfl) dX9_ratio_15 rfl (fun H locs hr hS => ?_)
      refine lv_if_ne (tgt := 23) hx hb dX9_ratio_18 (by decide) (fun c6 => ?_) (fun c6 => ?_)
      · rw [if_neg c6] at hs
        refine lv_aload_n hx hb dX9_ratio_23 rfl (lv_at hl 0 rfl) ?_
        obtain ⟨x7, ex7, hs⟩ := bi_inv hs
        refine hv_gR (C := RX9) (T := TX9) (N := 12) (ci := 9) hx hb hts inX9 hown hk hr rfl 0 (by decide) (hts _ tw_275) ex7 dX9_ratio_24 ?_
        refine lv_iload_n hx hb dX9_ratio_27 rfl (lv_at hl 2 rfl) ?_
        obtain ⟨x8, ex8, hs⟩ := bi_inv hs
        refine hv_aR (kd := 3) hx hb hk hr rfl ex8 dX9_ratio_28 ?_
        obtain ⟨_, ex9, hs⟩ := bi_inv hs
        obtain ⟨x10, ex10, hs⟩ := bi_inv hs
        refine hv_V1 (n := 0) [] [] hx hb hml hown hts hk hr hz hS (zm_X8_isZero l D z ex10) ex9 rfl tw_478 tw_400 tw_401 tw_2 tw_402 (by decide +kernel) (by decide) ⟨(Nat.zero_le _), (Nat.zero_le _)⟩ rfl hl.1 (Nat.le_of_ble_eq_true rfl) dX9_ratio_29 rfl (fun H locs hr hS => ?_)
        refine lv_if_eq (tgt := 38) hx hb dX9_ratio_32 (by decide) (fun c11 => ?_) (fun c11 => ?_)
        · rw [if_pos c11] at hs
          refine lv_aload_n hx hb dX9_ratio_38 rfl (lv_at hl 0 rfl) ?_
          obtain ⟨x12, ex12, hs⟩ := bi_inv hs
          refine hv_gR (C := RX9) (T := TX9) (N := 12) (ci := 9) hx hb hts inX9 hown hk hr rfl 6 (by decide) (hts _ tw_281) ex12 dX9_ratio_39 ?_
          refine lv_aload_n hx hb dX9_ratio_42 rfl (lv_at hl 0 rfl) ?_
          obtain ⟨x13, ex13, hs⟩ := bi_inv hs
          refine hv_gR (C := RX9) (T := TX9) (N := 12) (ci := 9) hx hb hts inX9 hown hk hr rfl 0 (by decide) (hts _ tw_275) ex13 dX9_ratio_43 ?_
          refine lv_iload_n hx hb dX9_ratio_46 rfl (lv_at hl 1 rfl) ?_
          obtain ⟨x14, ex14, hs⟩ := bi_inv hs
          refine hv_aR (kd := 3) hx hb hk hr rfl ex14 dX9_ratio_47 ?_
          refine lv_aload_n hx hb dX9_ratio_48 rfl (lv_at hl 0 rfl) ?_
          obtain ⟨x15, ex15, hs⟩ := bi_inv hs
          refine hv_gR (C := RX9) (T := TX9) (N := 12) (ci := 9) hx hb hts inX9 hown hk hr rfl 0 (by decide) (hts _ tw_275) ex15 dX9_ratio_49 ?_
          refine lv_iload_n hx hb dX9_ratio_52 rfl (lv_at hl 2 rfl) ?_
          obtain ⟨x16, ex16, hs⟩ := bi_inv hs
          refine hv_aR (kd := 3) hx hb hk hr rfl ex16 dX9_ratio_53 ?_
          obtain ⟨_, ex17, hs⟩ := bi_inv hs
          obtain ⟨g18, eg18, hs⟩ := bi_inv hs
          refine hv_V0 (n := 2) [.ref x14, .ref x16] [] hx hb hml hown hts hk hr hz hS (zm_X2_reduce l D z eg18) ex17 rfl tw_677 tw_678 tw_679 tw_8 tw_680 (by decide +kernel) (by decide) ⟨(Nat.zero_le _), (Nat.zero_le _)⟩ rfl hl.1 (Nat.le_of_ble_eq_true rfl) dX9_ratio_54 rfl (fun H locs hr hS => ?_)
          refine lv_aload_n hx hb dX9_ratio_57 rfl (lv_at hl 0 rfl) ?_
          refine lv_iload_n hx hb dX9_ratio_58 rfl (lv_at hl 3 rfl) ?_
          obtain ⟨_, ex19, hs⟩ := bi_inv hs
          obtain ⟨x20, ex20, hs⟩ := bi_inv hs
          refine hv_V1 (n := 1) [.int u3] [] hx hb hml hown hts hk hr hz hS (zm_X9_keepRatio l D z ex20) ex19 rfl tw_693 tw_695 ts_16 tw_1 tw_696 (by decide +kernel) (by decide) ⟨(Nat.zero_le _), (Nat.zero_le _)⟩ rfl hl.1 (Nat.le_of_ble_eq_true rfl) dX9_ratio_59 rfl (fun H locs hr hS => ?_)
          obtain ⟨rfl, rfl⟩ := Prod.mk.inj (Option.some.inj hs)
          exact hv_iret hx hb hrt hlk hr hS dX9_ratio_62
        · rw [if_neg c11] at hs
          refine lv_bipush (v := (-2)) hx hb dX9_ratio_35 (by decide) ?_
          obtain ⟨rfl, rfl⟩ := Prod.mk.inj (Option.some.inj hs)
          exact hv_iret hx hb hrt hlk hr hS dX9_ratio_37
      · rw [if_pos c6] at hs
        refine lv_iconst (v := (-1)) hx hb dX9_ratio_21 (by decide) ?_
        obtain ⟨rfl, rfl⟩ := Prod.mk.inj (Option.some.inj hs)
        exact hv_iret hx hb hrt hlk hr hS dX9_ratio_22
theorem dX9_read_0 : decode cX9_read 0 = .ok (.iload_n 1, 1) := by decide +kernel
theorem dX9_read_1 : decode cX9_read 1 = .ok (.invokestatic 90, 3) := by decide +kernel
theorem dX9_read_4 : decode cX9_read 4 = .ok (.ifCond .eq 10, 3) := by decide +kernel
theorem dX9_read_7 : decode cX9_read 7 = .ok (.iload_n 2, 1) := by decide +kernel
theorem dX9_read_8 : decode cX9_read 8 = .ok (.invokestatic 102, 3) := by decide +kernel
theorem dX9_read_11 : decode cX9_read 11 = .ok (.ifCond .ne 5, 3) := by decide +kernel
theorem dX9_read_14 : decode cX9_read 14 = .ok (.iconst (-1), 1) := by decide +kernel
theorem dX9_read_15 : decode cX9_read 15 = .ok (.ireturn, 1) := by decide +kernel
theorem dX9_read_16 : decode cX9_read 16 = .ok (.aload_n 0, 1) := by decide +kernel
theorem dX9_read_17 : decode cX9_read 17 = .ok (.getfield 26, 3) := by decide +kernel
theorem dX9_read_20 : decode cX9_read 20 = .ok (.iload_n 2, 1) := by decide +kernel
theorem dX9_read_21 : decode cX9_read 21 = .ok (.invokevirtual 105, 3) := by decide +kernel
theorem dX9_read_24 : decode cX9_read 24 = .ok (.istore_n 3, 1) := by decide +kernel
theorem dX9_read_25 : decode cX9_read 25 = .ok (.iload_n 3, 1) := by decide +kernel
theorem dX9_read_26 : decode cX9_read 26 = .ok (.ifCond .ge 15, 3) := by decide +kernel
theorem dX9_read_29 : decode cX9_read 29 = .ok (.aload_n 0, 1) := by decide +kernel
theorem dX9_read_30 : decode cX9_read 30 = .ok (.getfield 26, 3) := by decide +kernel
theorem dX9_read_33 : decode cX9_read 33 = .ok (.aload_n 0, 1) := by decide +kernel
theorem dX9_read_34 : decode cX9_read 34 = .ok (.getfield 79, 3) := by decide +kernel
theorem dX9_read_37 : decode cX9_read 37 = .ok (.iload_n 2, 1) := by decide +kernel
theorem dX9_read_38 : decode cX9_read 38 = .ok (.invokevirtual 109, 3) := by decide +kernel
theorem dX9_read_41 : decode cX9_read 41 = .ok (.aload_n 0, 1) := by decide +kernel
theorem dX9_read_42 : decode cX9_read 42 = .ok (.getfield 26, 3) := by decide +kernel
theorem dX9_read_45 : decode cX9_read 45 = .ok (.invokevirtual 113, 3) := by decide +kernel
theorem dX9_read_48 : decode cX9_read 48 = .ok (.iload_n 3, 1) := by decide +kernel
theorem dX9_read_49 : decode cX9_read 49 = .ok (.ifCond .ge 15, 3) := by decide +kernel
theorem dX9_read_52 : decode cX9_read 52 = .ok (.aload_n 0, 1) := by decide +kernel
theorem dX9_read_53 : decode cX9_read 53 = .ok (.aload_n 0, 1) := by decide +kernel
theorem dX9_read_54 : decode cX9_read 54 = .ok (.getfield 79, 3) := by decide +kernel
theorem dX9_read_57 : decode cX9_read 57 = .ok (.iload_n 1, 1) := by decide +kernel
theorem dX9_read_58 : decode cX9_read 58 = .ok (.invokevirtual 116, 3) := by decide +kernel
theorem dX9_read_61 : decode cX9_read 61 = .ok (.goto 7, 3) := by decide +kernel
theorem dX9_read_64 : decode cX9_read 64 = .ok (.bipush (-10), 2) := by decide +kernel
theorem dX9_read_66 : decode cX9_read 66 = .ok (.iload_n 3, 1) := by decide +kernel
theorem dX9_read_67 : decode cX9_read 67 = .ok (.isub, 1) := by decide +kernel
theorem dX9_read_68 : decode cX9_read 68 = .ok (.ireturn, 1) := by decide +kernel
def zj_X9_read_41 (g9 : AH) (y0_41 : Nat) (y1_41 : Int32) (y3_41 : Int32) : Option (Int32 × AH) :=
  (gR g9 y0_41 9 2).bind fun x10 => (chk g9 x10 5).bind fun _ => (zs_X5_clear g9 x10).bind fun g12 => (if 0 ≤ y3_41 then some (((-10 : Int32)) - y3_41, g12) else (gR g12 y0_41 9 10).bind fun x14 => (chk g12 y0_41 9).bind fun _ => (zs_X9_keep g12 y0_41 x14 y1_41).bind fun x16 => some (x16.1, x16.2))
def zs_X9_read (h : AH) (u0 : Nat) (u1 : Int32) (u2 : Int32) : Option (Int32 × AH) :=
  (zs_X9_isSlot h u1).bind fun x1 => (if x1 = 0 then some ((-1 : Int32), h) else (zs_X9_isBase h u2).bind fun x3 => (if x3 = 0 then some ((-1 : Int32), h) else (gR h u0 9 2).bind fun x5 => (chk h x5 5).bind fun _ => (zs_X5_wrongPlace h x5 u2).bind fun x7 => (if 0 ≤ x7 then zj_X9_read_41 h u0 u1 x7 else (gR h u0 9 2).bind fun x17 => (gR h u0 9 10).bind fun x18 => (chk h x17 5).bind fun _ => (zs_X5_spellInto h x17 x18 u2).bind fun g20 => zj_X9_read_41 g20 u0 u1 x7)))
set_option maxRecDepth 100000 in
set_option maxHeartbeats 4000000 in
theorem zm_X9_read (l : Launch) (D : hG) (z : Nat) {h : AH} {u0 : Nat} {u1 : Int32} {u2 : Int32} {r : Int32} {h' : AH} (hs : zs_X9_read h u0 u1 u2 = some (r, h')) : hC l D z yX9_read cX9_read 4 (Option.some Jvm.ClassFile.FieldType.int) 3 68 0 0 [.ref u0, .int u1, .int u2] h h' (some (.int r)) := by
  refine hC_of (by decide) (Nat.le_of_ble_eq_true rfl) ?_
  intro p e s m below meth c hx hb hml hrt hlk hown hnm hts hk hr hz ls hl
  replace hown : s.vm.findClass RX9 = some m.cls := hown
  replace hl : lv_has ls 4 [(0, .ref u0), (1, .int u1), (2, .int u2)] := hl
  have hS : va_S (hA z) s.heap s.heap [] := va_S.rf
  suffices hgo : ∀ (H : Heap) (locs : List Loc), hR D z h H → va_S (hA z) s.heap H locs → W p l e ({ frames := 3, cells := 0, slots := 0, locals := 68 } : Room) s m ([.ref u0, .int u1, .int u2] : List Value).toArray below meth c H locs 0 0 (MQ below (hQ D z h' (some (.int r))) ([.ref u0, .int u1, .int u2] : List Value).toArray s 0 0 (hA z)) (F0 m 0 ls []) from hgo _ _ hr hS
  clear hr hS
  intro H locs hr hS
  have hJ41 : ∀ (g9 : AH) (y0_41 : Nat) (y1_41 : Int32) (y3_41 : Int32) (H : Heap) (locs : List Loc) (ls : Array Slot), zj_X9_read_41 g9 y0_41 y1_41 y3_41 = some (r, h') → hR D z g9 H → va_S (hA z) s.heap H locs → lv_has ls 4 [(0, .ref y0_41), (1, .int y1_41), (3, .int y3_41)] → W p l e ({ frames := 3, cells := 0, slots := 0, locals := 68 } : Room) s m ([.ref u0, .int u1, .int u2] : List Value).toArray below meth c H locs 0 0 (MQ below (hQ D z h' (some (.int r))) ([.ref u0, .int u1, .int u2] : List Value).toArray s 0 0 (hA z)) (F0 m 41 ls []) := by
    intro g9 y0_41 y1_41 y3_41 H locs ls hs hr hS hl
    unfold zj_X9_read_41 at hs
    refine lv_aload_n hx hb dX9_read_41 rfl (lv_at hl 0 rfl) ?_
    obtain ⟨x10, ex10, hs⟩ := bi_inv hs
    refine hv_gR (C := RX9) (T := TX9) (N := 12) (ci := 9) hx hb hts inX9 hown hk hr rfl 2 (by decide) (hts _ tw_277) ex10 dX9_read_42 ?_
    obtain ⟨_, ex11, hs⟩ := bi_inv hs
    obtain ⟨g12, eg12, hs⟩ := bi_inv hs
    refine hv_V0 (n := 0) [] [] hx hb hml hown hts hk hr hz hS (zm_X5_clear l D z eg12) ex11 rfl tw_360 tw_361 tw_362 tw_4 tw_363 (by decide +kernel) (by decide) ⟨(Nat.zero_le _), (Nat.zero_le _)⟩ rfl hl.1 (Nat.le_of_ble_eq_true rfl) dX9_read_45 rfl (fun H locs hr hS => ?_)
    refine lv_iload_n hx hb dX9_read_48 rfl (lv_at hl 2 rfl) ?_
    refine lv_if_ge (tgt := 64) hx hb dX9_read_49 (by decide) (fun c13 => ?_) (fun c13 => ?_)
    · rw [if_pos c13] at hs
      refine lv_bipush (v := (-10)) hx hb dX9_read_64 (by decide) ?_
      refine lv_iload_n hx hb dX9_read_66 rfl (lv_at hl 2 rfl) ?_
      refine lv_isub hx hb dX9_read_67 ?_
      obtain ⟨rfl, rfl⟩ := Prod.mk.inj (Option.some.inj hs)
      exact hv_iret hx hb hrt hlk hr hS dX9_read_68
    · rw [if_neg c13] at hs
      refine lv_aload_n hx hb dX9_read_52 rfl (lv_at hl 0 rfl) ?_
      refine lv_aload_n hx hb dX9_read_53 rfl (lv_at hl 0 rfl) ?_
      obtain ⟨x14, ex14, hs⟩ := bi_inv hs
      refine hv_gR (C := RX9) (T := TX9) (N := 12) (ci := 9) hx hb hts inX9 hown hk hr rfl 10 (by decide) (hts _ tw_285) ex14 dX9_read_54 ?_
      refine lv_iload_n hx hb dX9_read_57 rfl (lv_at hl 1 rfl) ?_
      obtain ⟨_, ex15, hs⟩ := bi_inv hs
      obtain ⟨x16, ex16, hs⟩ := bi_inv hs
      refine hv_V1 (n := 2) [.ref x14, .int y1_41] [] hx hb hml hown hts hk hr hz hS (zm_X9_keep l D z ex16) ex15 rfl tw_364 tw_366 ts_2 tw_1 tw_367 (by decide +kernel) (by decide) ⟨(Nat.zero_le _), (Nat.zero_le _)⟩ rfl hl.1 (Nat.le_of_ble_eq_true rfl) dX9_read_58 rfl (fun H locs hr hS => ?_)
      refine lv_goto (tgt := 68) hx hb dX9_read_61 (by decide) ?_
      obtain ⟨rfl, rfl⟩ := Prod.mk.inj (Option.some.inj hs)
      exact hv_iret hx hb hrt hlk hr hS dX9_read_68
  unfold zs_X9_read at hs
  refine lv_iload_n hx hb dX9_read_0 rfl (lv_at hl 1 rfl) ?_
  obtain ⟨x1, ex1, hs⟩ := bi_inv hs
  refine hv_S1 (n := 1) [.int u1] [] hx hb hml hown hts hk hr hz hS (zm_X9_isSlot l D z ex1) tw_316 tw_317 tw_1 tw_318 (by decide +kernel) (by decide) ⟨(Nat.zero_le _), (Nat.zero_le _)⟩ rfl hl.1 (Nat.le_of_ble_eq_true rfl) dX9_read_1 rfl (fun H locs hr hS => ?_)
  refine lv_if_eq (tgt := 14) hx hb dX9_read_4 (by decide) (fun c2 => ?_) (fun c2 => ?_)
  · rw [if_pos c2] at hs
    refine lv_iconst (v := (-1)) hx hb dX9_read_14 (by decide) ?_
    obtain ⟨rfl, rfl⟩ := Prod.mk.inj (Option.some.inj hs)
    exact hv_iret hx hb hrt hlk hr hS dX9_read_15
  · rw [if_neg c2] at hs
    refine lv_iload_n hx hb dX9_read_7 rfl (lv_at hl 2 rfl) ?_
    obtain ⟨x3, ex3, hs⟩ := bi_inv hs
    refine hv_S1 (n := 1) [.int u2] [] hx hb hml hown hts hk hr hz hS (zm_X9_isBase l D z ex3) tw_332 tw_333 tw_1 tw_334 (by decide +kernel) (by decide) ⟨(Nat.zero_le _), (Nat.zero_le _)⟩ rfl hl.1 (Nat.le_of_ble_eq_true rfl) dX9_read_8 rfl (fun H locs hr hS => ?_)
    refine lv_if_ne (tgt := 16) hx hb dX9_read_11 (by decide) (fun c4 => ?_) (fun c4 => ?_)
    · rw [if_neg c4] at hs
      refine lv_aload_n hx hb dX9_read_16 rfl (lv_at hl 0 rfl) ?_
      obtain ⟨x5, ex5, hs⟩ := bi_inv hs
      refine hv_gR (C := RX9) (T := TX9) (N := 12) (ci := 9) hx hb hts inX9 hown hk hr rfl 2 (by decide) (hts _ tw_277) ex5 dX9_read_17 ?_
      refine lv_iload_n hx hb dX9_read_20 rfl (lv_at hl 2 rfl) ?_
      obtain ⟨_, ex6, hs⟩ := bi_inv hs
      obtain ⟨x7, ex7, hs⟩ := bi_inv hs
      refine hv_V1 (n := 1) [.int u2] [] hx hb hml hown hts hk hr hz hS (zm_X5_wrongPlace l D z ex7) ex6 rfl tw_335 tw_336 tw_337 tw_4 tw_338 (by decide +kernel) (by decide) ⟨(Nat.zero_le _), (Nat.zero_le _)⟩ rfl hl.1 (Nat.le_of_ble_eq_true rfl) dX9_read_21 rfl (fun H locs hr hS => ?_)
      refine lv_istore_n (lv' := [(3, .int x7), (0, .ref u0), (1, .int u1), (2, .int u2)]) hx hb dX9_read_24 rfl hl (by decide) rfl (fun ls hl => ?_)
      refine lv_iload_n hx hb dX9_read_25 rfl (lv_at hl 0 rfl) ?_
      refine lv_if_ge (tgt := 41) hx hb dX9_read_26 (by decide) (fun c8 => ?_) (fun c8 => ?_)
      · rw [if_pos c8] at hs
        exact hJ41 h u0 u1 x7 H locs ls hs hr hS (lv_sub hl [1, 2, 0] rfl)
      · rw [if_neg c8] at hs
        refine lv_aload_n hx hb dX9_read_29 rfl (lv_at hl 1 rfl) ?_
        obtain ⟨x17, ex17, hs⟩ := bi_inv hs
        refine hv_gR (C := RX9) (T := TX9) (N := 12) (ci := 9) hx hb hts inX9 hown hk hr rfl 2 (by decide) (hts _ tw_277) ex17 dX9_read_30 ?_
        refine lv_aload_n hx hb dX9_read_33 rfl (lv_at hl 1 rfl) ?_
        obtain ⟨x18, ex18, hs⟩ := bi_inv hs
        refine hv_gR (C := RX9) (T := TX9) (N := 12) (ci := 9) hx hb hts inX9 hown hk hr rfl 10 (by decide) (hts _ tw_285) ex18 dX9_read_34 ?_
        refine lv_iload_n hx hb dX9_read_37 rfl (lv_at hl 3 rfl) ?_
        obtain ⟨_, ex19, hs⟩ := bi_inv hs
        obtain ⟨g20, eg20, hs⟩ := bi_inv hs
        refine hv_V0 (n := 2) [.ref x18, .int u2] [] hx hb hml hown hts hk hr hz hS (zm_X5_spellInto l D z eg20) ex19 rfl tw_350 tw_351 tw_352 tw_4 tw_353 (by decide +kernel) (by decide) ⟨(Nat.zero_le _), (Nat.zero_le _)⟩ rfl hl.1 (Nat.le_of_ble_eq_true rfl) dX9_read_38 rfl (fun H locs hr hS => ?_)
        exact hJ41 g20 u0 u1 x7 H locs ls hs hr hS (lv_sub hl [1, 2, 0] rfl)
    · rw [if_pos c4] at hs
      refine lv_iconst (v := (-1)) hx hb dX9_read_14 (by decide) ?_
      obtain ⟨rfl, rfl⟩ := Prod.mk.inj (Option.some.inj hs)
      exact hv_iret hx hb hrt hlk hr hS dX9_read_15
theorem dX9_rest_0 : decode cX9_rest 0 = .ok (.iload_n 1, 1) := by decide +kernel
theorem dX9_rest_1 : decode cX9_rest 1 = .ok (.iload_n 3, 1) := by decide +kernel
theorem dX9_rest_2 : decode cX9_rest 2 = .ok (.iload 4, 2) := by decide +kernel
theorem dX9_rest_4 : decode cX9_rest 4 = .ok (.invokestatic 154, 3) := by decide +kernel
theorem dX9_rest_7 : decode cX9_rest 7 = .ok (.ifCond .eq 13, 3) := by decide +kernel
theorem dX9_rest_10 : decode cX9_rest 10 = .ok (.iload_n 2, 1) := by decide +kernel
theorem dX9_rest_11 : decode cX9_rest 11 = .ok (.ifCond .lt 9, 3) := by decide +kernel
theorem dX9_rest_14 : decode cX9_rest 14 = .ok (.iload_n 2, 1) := by decide +kernel
theorem dX9_rest_15 : decode cX9_rest 15 = .ok (.ldc 204, 2) := by decide +kernel
theorem dX9_rest_17 : decode cX9_rest 17 = .ok (.if_icmp .le 5, 3) := by decide +kernel
theorem dX9_rest_20 : decode cX9_rest 20 = .ok (.iconst (-1), 1) := by decide +kernel
theorem dX9_rest_21 : decode cX9_rest 21 = .ok (.ireturn, 1) := by decide +kernel
theorem dX9_rest_22 : decode cX9_rest 22 = .ok (.aload_n 0, 1) := by decide +kernel
theorem dX9_rest_23 : decode cX9_rest 23 = .ok (.getfield 11, 3) := by decide +kernel
theorem dX9_rest_26 : decode cX9_rest 26 = .ok (.iload_n 3, 1) := by decide +kernel
theorem dX9_rest_27 : decode cX9_rest 27 = .ok (.aaload, 1) := by decide +kernel
theorem dX9_rest_28 : decode cX9_rest 28 = .ok (.invokestatic 205, 3) := by decide +kernel
theorem dX9_rest_31 : decode cX9_rest 31 = .ok (.ifCond .ne 23, 3) := by decide +kernel
theorem dX9_rest_34 : decode cX9_rest 34 = .ok (.aload_n 0, 1) := by decide +kernel
theorem dX9_rest_35 : decode cX9_rest 35 = .ok (.getfield 11, 3) := by decide +kernel
theorem dX9_rest_38 : decode cX9_rest 38 = .ok (.iload_n 3, 1) := by decide +kernel
theorem dX9_rest_39 : decode cX9_rest 39 = .ok (.aaload, 1) := by decide +kernel
theorem dX9_rest_40 : decode cX9_rest 40 = .ok (.invokevirtual 168, 3) := by decide +kernel
theorem dX9_rest_43 : decode cX9_rest 43 = .ok (.ifCond .eq 8, 3) := by decide +kernel
theorem dX9_rest_46 : decode cX9_rest 46 = .ok (.bipush (-2), 2) := by decide +kernel
theorem dX9_rest_48 : decode cX9_rest 48 = .ok (.goto 5, 3) := by decide +kernel
theorem dX9_rest_51 : decode cX9_rest 51 = .ok (.bipush (-3), 2) := by decide +kernel
theorem dX9_rest_53 : decode cX9_rest 53 = .ok (.ireturn, 1) := by decide +kernel
theorem dX9_rest_54 : decode cX9_rest 54 = .ok (.aload_n 0, 1) := by decide +kernel
theorem dX9_rest_55 : decode cX9_rest 55 = .ok (.getfield 49, 3) := by decide +kernel
theorem dX9_rest_58 : decode cX9_rest 58 = .ok (.aload_n 0, 1) := by decide +kernel
theorem dX9_rest_59 : decode cX9_rest 59 = .ok (.getfield 11, 3) := by decide +kernel
theorem dX9_rest_62 : decode cX9_rest 62 = .ok (.iload_n 1, 1) := by decide +kernel
theorem dX9_rest_63 : decode cX9_rest 63 = .ok (.aaload, 1) := by decide +kernel
theorem dX9_rest_64 : decode cX9_rest 64 = .ok (.iload_n 2, 1) := by decide +kernel
theorem dX9_rest_65 : decode cX9_rest 65 = .ok (.aload_n 0, 1) := by decide +kernel
theorem dX9_rest_66 : decode cX9_rest 66 = .ok (.getfield 11, 3) := by decide +kernel
theorem dX9_rest_69 : decode cX9_rest 69 = .ok (.iload_n 3, 1) := by decide +kernel
theorem dX9_rest_70 : decode cX9_rest 70 = .ok (.aaload, 1) := by decide +kernel
theorem dX9_rest_71 : decode cX9_rest 71 = .ok (.invokevirtual 209, 3) := by decide +kernel
theorem dX9_rest_74 : decode cX9_rest 74 = .ok (.aload_n 0, 1) := by decide +kernel
theorem dX9_rest_75 : decode cX9_rest 75 = .ok (.aload_n 0, 1) := by decide +kernel
theorem dX9_rest_76 : decode cX9_rest 76 = .ok (.getfield 49, 3) := by decide +kernel
theorem dX9_rest_79 : decode cX9_rest 79 = .ok (.getfield 195, 3) := by decide +kernel
theorem dX9_rest_82 : decode cX9_rest 82 = .ok (.iload 4, 2) := by decide +kernel
theorem dX9_rest_84 : decode cX9_rest 84 = .ok (.invokevirtual 116, 3) := by decide +kernel
theorem dX9_rest_87 : decode cX9_rest 87 = .ok (.ireturn, 1) := by decide +kernel
def zs_X9_rest (h : AH) (u0 : Nat) (u1 : Int32) (u2 : Int32) (u3 : Int32) (u4 : Int32) : Option (Int32 × AH) :=
  (zs_X9_areSlots h u1 u3 u4).bind fun x1 => (if x1 = 0 then some ((-1 : Int32), h) else (if u2 < 0 then some ((-1 : Int32), h) else (if u2 ≤ (1000000 : Int32) then (gR h u0 9 0).bind fun x5 => (aR h x5 3 u3).bind fun x6 => (zs_X9_isModulus h x6).bind fun x7 => (if x7 = 0 then (gR h u0 9 0).bind fun x20 => (aR h x20 3 u3).bind fun x21 => (chk h x21 8).bind fun _ => (zs_X8_isZero h x21).bind fun x23 => (if x23 = 0 then some ((-3 : Int32), h) else some ((-2 : Int32), h)) else (gR h u0 9 5).bind fun x9 => (gR h u0 9 0).bind fun x10 => (aR h x10 3 u1).bind fun x11 => (gR h u0 9 0).bind fun x12 => (aR h x12 3 u3).bind fun x13 => (chk h x9 3).bind fun _ => (zs_X3_raiseBy h x9 x11 u2 x13).bind fun g15 => (gR g15 u0 9 5).bind fun x16 => (gR g15 x16 3 0).bind fun x17 => (chk g15 u0 9).bind fun _ => (zs_X9_keep g15 u0 x17 u4).bind fun x19 => some (x19.1, x19.2)) else some ((-1 : Int32), h))))
set_option maxRecDepth 100000 in
set_option maxHeartbeats 4000000 in
theorem zm_X9_rest (l : Launch) (D : hG) (z : Nat) {h : AH} {u0 : Nat} {u1 : Int32} {u2 : Int32} {u3 : Int32} {u4 : Int32} {r : Int32} {h' : AH} (hs : zs_X9_rest h u0 u1 u2 u3 u4 = some (r, h')) : hC l D z yX9_rest cX9_rest 5 (Option.some Jvm.ClassFile.FieldType.int) 6 160 0 0 [.ref u0, .int u1, .int u2, .int u3, .int u4] h h' (some (.int r)) := by
  refine hC_of (by decide) (Nat.le_of_ble_eq_true rfl) ?_
  intro p e s m below meth c hx hb hml hrt hlk hown hnm hts hk hr hz ls hl
  replace hown : s.vm.findClass RX9 = some m.cls := hown
  replace hl : lv_has ls 5 [(0, .ref u0), (1, .int u1), (2, .int u2), (3, .int u3), (4, .int u4)] := hl
  have hS : va_S (hA z) s.heap s.heap [] := va_S.rf
  suffices hgo : ∀ (H : Heap) (locs : List Loc), hR D z h H → va_S (hA z) s.heap H locs → W p l e ({ frames := 6, cells := 0, slots := 0, locals := 160 } : Room) s m ([.ref u0, .int u1, .int u2, .int u3, .int u4] : List Value).toArray below meth c H locs 0 0 (MQ below (hQ D z h' (some (.int r))) ([.ref u0, .int u1, .int u2, .int u3, .int u4] : List Value).toArray s 0 0 (hA z)) (F0 m 0 ls []) from hgo _ _ hr hS
  clear hr hS
  intro H locs hr hS
  unfold zs_X9_rest at hs
  refine lv_iload_n hx hb dX9_rest_0 rfl (lv_at hl 1 rfl) ?_
  refine lv_iload_n hx hb dX9_rest_1 rfl (lv_at hl 3 rfl) ?_
  refine lv_iload hx hb dX9_rest_2 (lv_at hl 4 rfl) ?_
  obtain ⟨x1, ex1, hs⟩ := bi_inv hs
  refine hv_S1 (n := 3) [.int u1, .int u3, .int u4] [] hx hb hml hown hts hk hr hz hS (zm_X9_areSlots l D z ex1) tw_447 tw_448 tw_1 tw_449 (by decide +kernel) (by decide) ⟨(Nat.zero_le _), (Nat.zero_le _)⟩ rfl hl.1 (Nat.le_of_ble_eq_true rfl) dX9_rest_4 rfl (fun H locs hr hS => ?_)
  refine lv_if_eq (tgt := 20) hx hb dX9_rest_7 (by decide) (fun c2 => ?_) (fun c2 => ?_)
  · rw [if_pos c2] at hs
    refine lv_iconst (v := (-1)) hx hb dX9_rest_20 (by decide) ?_
    obtain ⟨rfl, rfl⟩ := Prod.mk.inj (Option.some.inj hs)
    exact hv_iret hx hb hrt hlk hr hS dX9_rest_21
  · rw [if_neg c2] at hs
    refine lv_iload_n hx hb dX9_rest_10 rfl (lv_at hl 2 rfl) ?_
    refine lv_if_lt (tgt := 20) hx hb dX9_rest_11 (by decide) (fun c3 => ?_) (fun c3 => ?_)
    · rw [if_pos c3] at hs
      refine lv_iconst (v := (-1)) hx hb dX9_rest_20 (by decide) ?_
      obtain ⟨rfl, rfl⟩ := Prod.mk.inj (Option.some.inj hs)
      exact hv_iret hx hb hrt hlk hr hS dX9_rest_21
    · rw [if_neg c3] at hs
      refine lv_iload_n hx hb dX9_rest_14 rfl (lv_at hl 2 rfl) ?_
      refine lv_ldc hx hb hown (hts _ tw_579) dX9_rest_15 ?_
      refine lv_icmp_le (tgt := 22) hx hb dX9_rest_17 (by decide) (fun c4 => ?_) (fun c4 => ?_)
      · rw [if_pos c4] at hs
        refine lv_aload_n hx hb dX9_rest_22 rfl (lv_at hl 0 rfl) ?_
        obtain ⟨x5, ex5, hs⟩ := bi_inv hs
        refine hv_gR (C := RX9) (T := TX9) (N := 12) (ci := 9) hx hb hts inX9 hown hk hr rfl 0 (by decide) (hts _ tw_275) ex5 dX9_rest_23 ?_
        refine lv_iload_n hx hb dX9_rest_26 rfl (lv_at hl 3 rfl) ?_
        obtain ⟨x6, ex6, hs⟩ := bi_inv hs
        refine hv_aR (kd := 3) hx hb hk hr rfl ex6 dX9_rest_27 ?_
        obtain ⟨x7, ex7, hs⟩ := bi_inv hs
        refine hv_S1 (n := 1) [.ref x6] [] hx hb hml hown hts hk hr hz hS (zm_X9_isModulus l D z ex7) tw_580 tw_581 tw_1 tw_582 (by decide +kernel) (by decide) ⟨(Nat.zero_le _), (Nat.zero_le _)⟩ rfl hl.1 (Nat.le_of_ble_eq_true rfl) dX9_rest_28 rfl (fun H locs hr hS => ?_)
        refine lv_if_ne (tgt := 54) hx hb dX9_rest_31 (by decide) (fun c8 => ?_) (fun c8 => ?_)
        · rw [if_neg c8] at hs
          refine lv_aload_n hx hb dX9_rest_54 rfl (lv_at hl 0 rfl) ?_
          obtain ⟨x9, ex9, hs⟩ := bi_inv hs
          refine hv_gR (C := RX9) (T := TX9) (N := 12) (ci := 9) hx hb hts inX9 hown hk hr rfl 5 (by decide) (hts _ tw_280) ex9 dX9_rest_55 ?_
          refine lv_aload_n hx hb dX9_rest_58 rfl (lv_at hl 0 rfl) ?_
          obtain ⟨x10, ex10, hs⟩ := bi_inv hs
          refine hv_gR (C := RX9) (T := TX9) (N := 12) (ci := 9) hx hb hts inX9 hown hk hr rfl 0 (by decide) (hts _ tw_275) ex10 dX9_rest_59 ?_
          refine lv_iload_n hx hb dX9_rest_62 rfl (lv_at hl 1 rfl) ?_
          obtain ⟨x11, ex11, hs⟩ := bi_inv hs
          refine hv_aR (kd := 3) hx hb hk hr rfl ex11 dX9_rest_63 ?_
          refine lv_iload_n hx hb dX9_rest_64 rfl (lv_at hl 2 rfl) ?_
          refine lv_aload_n hx hb dX9_rest_65 rfl (lv_at hl 0 rfl) ?_
          obtain ⟨x12, ex12, hs⟩ := bi_inv hs
          refine hv_gR (C := RX9) (T := TX9) (N := 12) (ci := 9) hx hb hts inX9 hown hk hr rfl 0 (by decide) (hts _ tw_275) ex12 dX9_rest_66 ?_
          refine lv_iload_n hx hb dX9_rest_69 rfl (lv_at hl 3 rfl) ?_
          obtain ⟨x13, ex13, hs⟩ := bi_inv hs
          refine hv_aR (kd := 3) hx hb hk hr rfl ex13 dX9_rest_70 ?_
          obtain ⟨_, ex14, hs⟩ := bi_inv hs
          obtain ⟨g15, eg15, hs⟩ := bi_inv hs
          refine hv_V0 (n := 3) [.ref x11, .int u2, .ref x13] [] hx hb hml hown hts hk hr hz hS (zm_X3_raiseBy l D z eg15) ex14 rfl tw_584 tw_585 tw_586 tw_7 tw_587 (by decide +kernel) (by decide) ⟨(Nat.zero_le _), (Nat.zero_le _)⟩ rfl hl.1 (Nat.le_of_ble_eq_true rfl) dX9_rest_71 rfl (fun H locs hr hS => ?_)
          refine lv_aload_n hx hb dX9_rest_74 rfl (lv_at hl 0 rfl) ?_
          refine lv_aload_n hx hb dX9_rest_75 rfl (lv_at hl 0 rfl) ?_
          obtain ⟨x16, ex16, hs⟩ := bi_inv hs
          refine hv_gR (C := RX9) (T := TX9) (N := 12) (ci := 9) hx hb hts inX9 hown hk hr rfl 5 (by decide) (hts _ tw_280) ex16 dX9_rest_76 ?_
          obtain ⟨x17, ex17, hs⟩ := bi_inv hs
          refine hv_gR (C := RX3) (T := TX3) (N := 8) (ci := 3) hx hb hts inX3 hown hk hr rfl 0 (by decide) (hts _ tw_168) ex17 dX9_rest_79 ?_
          refine lv_iload hx hb dX9_rest_82 (lv_at hl 4 rfl) ?_
          obtain ⟨_, ex18, hs⟩ := bi_inv hs
          obtain ⟨x19, ex19, hs⟩ := bi_inv hs
          refine hv_V1 (n := 2) [.ref x17, .int u4] [] hx hb hml hown hts hk hr hz hS (zm_X9_keep l D z ex19) ex18 rfl tw_364 tw_366 ts_2 tw_1 tw_367 (by decide +kernel) (by decide) ⟨(Nat.zero_le _), (Nat.zero_le _)⟩ rfl hl.1 (Nat.le_of_ble_eq_true rfl) dX9_rest_84 rfl (fun H locs hr hS => ?_)
          obtain ⟨rfl, rfl⟩ := Prod.mk.inj (Option.some.inj hs)
          exact hv_iret hx hb hrt hlk hr hS dX9_rest_87
        · rw [if_pos c8] at hs
          refine lv_aload_n hx hb dX9_rest_34 rfl (lv_at hl 0 rfl) ?_
          obtain ⟨x20, ex20, hs⟩ := bi_inv hs
          refine hv_gR (C := RX9) (T := TX9) (N := 12) (ci := 9) hx hb hts inX9 hown hk hr rfl 0 (by decide) (hts _ tw_275) ex20 dX9_rest_35 ?_
          refine lv_iload_n hx hb dX9_rest_38 rfl (lv_at hl 3 rfl) ?_
          obtain ⟨x21, ex21, hs⟩ := bi_inv hs
          refine hv_aR (kd := 3) hx hb hk hr rfl ex21 dX9_rest_39 ?_
          obtain ⟨_, ex22, hs⟩ := bi_inv hs
          obtain ⟨x23, ex23, hs⟩ := bi_inv hs
          refine hv_V1 (n := 0) [] [] hx hb hml hown hts hk hr hz hS (zm_X8_isZero l D z ex23) ex22 rfl tw_478 tw_400 tw_401 tw_2 tw_402 (by decide +kernel) (by decide) ⟨(Nat.zero_le _), (Nat.zero_le _)⟩ rfl hl.1 (Nat.le_of_ble_eq_true rfl) dX9_rest_40 rfl (fun H locs hr hS => ?_)
          refine lv_if_eq (tgt := 51) hx hb dX9_rest_43 (by decide) (fun c24 => ?_) (fun c24 => ?_)
          · rw [if_pos c24] at hs
            refine lv_bipush (v := (-3)) hx hb dX9_rest_51 (by decide) ?_
            obtain ⟨rfl, rfl⟩ := Prod.mk.inj (Option.some.inj hs)
            exact hv_iret hx hb hrt hlk hr hS dX9_rest_53
          · rw [if_neg c24] at hs
            refine lv_bipush (v := (-2)) hx hb dX9_rest_46 (by decide) ?_
            refine lv_goto (tgt := 53) hx hb dX9_rest_48 (by decide) ?_
            obtain ⟨rfl, rfl⟩ := Prod.mk.inj (Option.some.inj hs)
            exact hv_iret hx hb hrt hlk hr hS dX9_rest_53
      · rw [if_neg c4] at hs
        refine lv_iconst (v := (-1)) hx hb dX9_rest_20 (by decide) ?_
        obtain ⟨rfl, rfl⟩ := Prod.mk.inj (Option.some.inj hs)
        exact hv_iret hx hb hrt hlk hr hS dX9_rest_21
theorem dX9_root_0 : decode cX9_root 0 = .ok (.iload_n 1, 1) := by decide +kernel
theorem dX9_root_1 : decode cX9_root 1 = .ok (.invokestatic 90, 3) := by decide +kernel
theorem dX9_root_4 : decode cX9_root 4 = .ok (.ifCond .eq 21, 3) := by decide +kernel
theorem dX9_root_7 : decode cX9_root 7 = .ok (.iload_n 3, 1) := by decide +kernel
theorem dX9_root_8 : decode cX9_root 8 = .ok (.invokestatic 90, 3) := by decide +kernel
theorem dX9_root_11 : decode cX9_root 11 = .ok (.ifCond .eq 14, 3) := by decide +kernel
theorem dX9_root_14 : decode cX9_root 14 = .ok (.iload_n 2, 1) := by decide +kernel
theorem dX9_root_15 : decode cX9_root 15 = .ok (.iconst 2, 1) := by decide +kernel
theorem dX9_root_16 : decode cX9_root 16 = .ok (.if_icmp .lt 9, 3) := by decide +kernel
theorem dX9_root_19 : decode cX9_root 19 = .ok (.iload_n 2, 1) := by decide +kernel
theorem dX9_root_20 : decode cX9_root 20 = .ok (.bipush 9, 2) := by decide +kernel
theorem dX9_root_22 : decode cX9_root 22 = .ok (.if_icmp .le 5, 3) := by decide +kernel
theorem dX9_root_25 : decode cX9_root 25 = .ok (.iconst (-1), 1) := by decide +kernel
theorem dX9_root_26 : decode cX9_root 26 = .ok (.ireturn, 1) := by decide +kernel
theorem dX9_root_27 : decode cX9_root 27 = .ok (.aload_n 0, 1) := by decide +kernel
theorem dX9_root_28 : decode cX9_root 28 = .ok (.getfield 11, 3) := by decide +kernel
theorem dX9_root_31 : decode cX9_root 31 = .ok (.iload_n 1, 1) := by decide +kernel
theorem dX9_root_32 : decode cX9_root 32 = .ok (.aaload, 1) := by decide +kernel
theorem dX9_root_33 : decode cX9_root 33 = .ok (.getfield 196, 3) := by decide +kernel
theorem dX9_root_36 : decode cX9_root 36 = .ok (.ifCond .eq 6, 3) := by decide +kernel
theorem dX9_root_39 : decode cX9_root 39 = .ok (.bipush (-3), 2) := by decide +kernel
theorem dX9_root_41 : decode cX9_root 41 = .ok (.ireturn, 1) := by decide +kernel
theorem dX9_root_42 : decode cX9_root 42 = .ok (.aload_n 0, 1) := by decide +kernel
theorem dX9_root_43 : decode cX9_root 43 = .ok (.getfield 49, 3) := by decide +kernel
theorem dX9_root_46 : decode cX9_root 46 = .ok (.aload_n 0, 1) := by decide +kernel
theorem dX9_root_47 : decode cX9_root 47 = .ok (.getfield 11, 3) := by decide +kernel
theorem dX9_root_50 : decode cX9_root 50 = .ok (.iload_n 1, 1) := by decide +kernel
theorem dX9_root_51 : decode cX9_root 51 = .ok (.aaload, 1) := by decide +kernel
theorem dX9_root_52 : decode cX9_root 52 = .ok (.iload_n 2, 1) := by decide +kernel
theorem dX9_root_53 : decode cX9_root 53 = .ok (.aload_n 0, 1) := by decide +kernel
theorem dX9_root_54 : decode cX9_root 54 = .ok (.getfield 79, 3) := by decide +kernel
theorem dX9_root_57 : decode cX9_root 57 = .ok (.invokevirtual 200, 3) := by decide +kernel
theorem dX9_root_60 : decode cX9_root 60 = .ok (.istore 4, 2) := by decide +kernel
theorem dX9_root_62 : decode cX9_root 62 = .ok (.aload_n 0, 1) := by decide +kernel
theorem dX9_root_63 : decode cX9_root 63 = .ok (.getfield 11, 3) := by decide +kernel
theorem dX9_root_66 : decode cX9_root 66 = .ok (.iload_n 3, 1) := by decide +kernel
theorem dX9_root_67 : decode cX9_root 67 = .ok (.aaload, 1) := by decide +kernel
theorem dX9_root_68 : decode cX9_root 68 = .ok (.aload_n 0, 1) := by decide +kernel
theorem dX9_root_69 : decode cX9_root 69 = .ok (.getfield 79, 3) := by decide +kernel
theorem dX9_root_72 : decode cX9_root 72 = .ok (.invokevirtual 184, 3) := by decide +kernel
theorem dX9_root_75 : decode cX9_root 75 = .ok (.iload 4, 2) := by decide +kernel
theorem dX9_root_77 : decode cX9_root 77 = .ok (.ifCond .eq 7, 3) := by decide +kernel
theorem dX9_root_80 : decode cX9_root 80 = .ok (.iconst 1, 1) := by decide +kernel
theorem dX9_root_81 : decode cX9_root 81 = .ok (.goto 4, 3) := by decide +kernel
theorem dX9_root_84 : decode cX9_root 84 = .ok (.iconst 0, 1) := by decide +kernel
theorem dX9_root_85 : decode cX9_root 85 = .ok (.ireturn, 1) := by decide +kernel
def zs_X9_root (h : AH) (u0 : Nat) (u1 : Int32) (u2 : Int32) (u3 : Int32) : Option (Int32 × AH) :=
  (zs_X9_isSlot h u1).bind fun x1 => (if x1 = 0 then some ((-1 : Int32), h) else (zs_X9_isSlot h u3).bind fun x3 => (if x3 = 0 then some ((-1 : Int32), h) else (if u2 < (2 : Int32) then some ((-1 : Int32), h) else (if u2 ≤ (9 : Int32) then (gR h u0 9 0).bind fun x7 => (aR h x7 3 u1).bind fun x8 => (gI h x8 8 2).bind fun x9 => (if x9 = 0 then (gR h u0 9 5).bind fun x11 => (gR h u0 9 0).bind fun x12 => (aR h x12 3 u1).bind fun x13 => (gR h u0 9 10).bind fun x14 => (chk h x11 3).bind fun _ => (zs_X3_extract h x11 x13 u2 x14).bind fun x16 => (gR x16.2 u0 9 0).bind fun x17 => (aR x16.2 x17 3 u3).bind fun x18 => (gR x16.2 u0 9 10).bind fun x19 => (chk x16.2 x18 8).bind fun _ => (zs_X8_copy x16.2 x18 x19).bind fun g21 => (if x16.1 = 0 then some ((0 : Int32), g21) else some ((1 : Int32), g21)) else some ((-3 : Int32), h)) else some ((-1 : Int32), h)))))
set_option maxRecDepth 100000 in
set_option maxHeartbeats 4000000 in
theorem zm_X9_root (l : Launch) (D : hG) (z : Nat) {h : AH} {u0 : Nat} {u1 : Int32} {u2 : Int32} {u3 : Int32} {r : Int32} {h' : AH} (hs : zs_X9_root h u0 u1 u2 u3 = some (r, h')) : hC l D z yX9_root cX9_root 5 (Option.some Jvm.ClassFile.FieldType.int) 5 121 0 0 [.ref u0, .int u1, .int u2, .int u3] h h' (some (.int r)) := by
  refine hC_of (by decide) (Nat.le_of_ble_eq_true rfl) ?_
  intro p e s m below meth c hx hb hml hrt hlk hown hnm hts hk hr hz ls hl
  replace hown : s.vm.findClass RX9 = some m.cls := hown
  replace hl : lv_has ls 5 [(0, .ref u0), (1, .int u1), (2, .int u2), (3, .int u3)] := hl
  have hS : va_S (hA z) s.heap s.heap [] := va_S.rf
  suffices hgo : ∀ (H : Heap) (locs : List Loc), hR D z h H → va_S (hA z) s.heap H locs → W p l e ({ frames := 5, cells := 0, slots := 0, locals := 121 } : Room) s m ([.ref u0, .int u1, .int u2, .int u3] : List Value).toArray below meth c H locs 0 0 (MQ below (hQ D z h' (some (.int r))) ([.ref u0, .int u1, .int u2, .int u3] : List Value).toArray s 0 0 (hA z)) (F0 m 0 ls []) from hgo _ _ hr hS
  clear hr hS
  intro H locs hr hS
  unfold zs_X9_root at hs
  refine lv_iload_n hx hb dX9_root_0 rfl (lv_at hl 1 rfl) ?_
  obtain ⟨x1, ex1, hs⟩ := bi_inv hs
  refine hv_S1 (n := 1) [.int u1] [] hx hb hml hown hts hk hr hz hS (zm_X9_isSlot l D z ex1) tw_316 tw_317 tw_1 tw_318 (by decide +kernel) (by decide) ⟨(Nat.zero_le _), (Nat.zero_le _)⟩ rfl hl.1 (Nat.le_of_ble_eq_true rfl) dX9_root_1 rfl (fun H locs hr hS => ?_)
  refine lv_if_eq (tgt := 25) hx hb dX9_root_4 (by decide) (fun c2 => ?_) (fun c2 => ?_)
  · rw [if_pos c2] at hs
    refine lv_iconst (v := (-1)) hx hb dX9_root_25 (by decide) ?_
    obtain ⟨rfl, rfl⟩ := Prod.mk.inj (Option.some.inj hs)
    exact hv_iret hx hb hrt hlk hr hS dX9_root_26
  · rw [if_neg c2] at hs
    refine lv_iload_n hx hb dX9_root_7 rfl (lv_at hl 3 rfl) ?_
    obtain ⟨x3, ex3, hs⟩ := bi_inv hs
    refine hv_S1 (n := 1) [.int u3] [] hx hb hml hown hts hk hr hz hS (zm_X9_isSlot l D z ex3) tw_316 tw_317 tw_1 tw_318 (by decide +kernel) (by decide) ⟨(Nat.zero_le _), (Nat.zero_le _)⟩ rfl hl.1 (Nat.le_of_ble_eq_true rfl) dX9_root_8 rfl (fun H locs hr hS => ?_)
    refine lv_if_eq (tgt := 25) hx hb dX9_root_11 (by decide) (fun c4 => ?_) (fun c4 => ?_)
    · rw [if_pos c4] at hs
      refine lv_iconst (v := (-1)) hx hb dX9_root_25 (by decide) ?_
      obtain ⟨rfl, rfl⟩ := Prod.mk.inj (Option.some.inj hs)
      exact hv_iret hx hb hrt hlk hr hS dX9_root_26
    · rw [if_neg c4] at hs
      refine lv_iload_n hx hb dX9_root_14 rfl (lv_at hl 2 rfl) ?_
      refine lv_iconst (v := 2) hx hb dX9_root_15 (by decide) ?_
      refine lv_icmp_lt (tgt := 25) hx hb dX9_root_16 (by decide) (fun c5 => ?_) (fun c5 => ?_)
      · rw [if_pos c5] at hs
        refine lv_iconst (v := (-1)) hx hb dX9_root_25 (by decide) ?_
        obtain ⟨rfl, rfl⟩ := Prod.mk.inj (Option.some.inj hs)
        exact hv_iret hx hb hrt hlk hr hS dX9_root_26
      · rw [if_neg c5] at hs
        refine lv_iload_n hx hb dX9_root_19 rfl (lv_at hl 2 rfl) ?_
        refine lv_bipush (v := 9) hx hb dX9_root_20 (by decide) ?_
        refine lv_icmp_le (tgt := 27) hx hb dX9_root_22 (by decide) (fun c6 => ?_) (fun c6 => ?_)
        · rw [if_pos c6] at hs
          refine lv_aload_n hx hb dX9_root_27 rfl (lv_at hl 0 rfl) ?_
          obtain ⟨x7, ex7, hs⟩ := bi_inv hs
          refine hv_gR (C := RX9) (T := TX9) (N := 12) (ci := 9) hx hb hts inX9 hown hk hr rfl 0 (by decide) (hts _ tw_275) ex7 dX9_root_28 ?_
          refine lv_iload_n hx hb dX9_root_31 rfl (lv_at hl 1 rfl) ?_
          obtain ⟨x8, ex8, hs⟩ := bi_inv hs
          refine hv_aR (kd := 3) hx hb hk hr rfl ex8 dX9_root_32 ?_
          obtain ⟨x9, ex9, hs⟩ := bi_inv hs
          refine hv_gI (C := RX8) (T := TX8) (N := 3) (ci := 8) hx hb hts inX8 hown hk hr rfl 2 (by decide) (hts _ tw_47) ex9 dX9_root_33 ?_
          refine lv_if_eq (tgt := 42) hx hb dX9_root_36 (by decide) (fun c10 => ?_) (fun c10 => ?_)
          · rw [if_pos c10] at hs
            refine lv_aload_n hx hb dX9_root_42 rfl (lv_at hl 0 rfl) ?_
            obtain ⟨x11, ex11, hs⟩ := bi_inv hs
            refine hv_gR (C := RX9) (T := TX9) (N := 12) (ci := 9) hx hb hts inX9 hown hk hr rfl 5 (by decide) (hts _ tw_280) ex11 dX9_root_43 ?_
            refine lv_aload_n hx hb dX9_root_46 rfl (lv_at hl 0 rfl) ?_
            obtain ⟨x12, ex12, hs⟩ := bi_inv hs
            refine hv_gR (C := RX9) (T := TX9) (N := 12) (ci := 9) hx hb hts inX9 hown hk hr rfl 0 (by decide) (hts _ tw_275) ex12 dX9_root_47 ?_
            refine lv_iload_n hx hb dX9_root_50 rfl (lv_at hl 1 rfl) ?_
            obtain ⟨x13, ex13, hs⟩ := bi_inv hs
            refine hv_aR (kd := 3) hx hb hk hr rfl ex13 dX9_root_51 ?_
            refine lv_iload_n hx hb dX9_root_52 rfl (lv_at hl 2 rfl) ?_
            refine lv_aload_n hx hb dX9_root_53 rfl (lv_at hl 0 rfl) ?_
            obtain ⟨x14, ex14, hs⟩ := bi_inv hs
            refine hv_gR (C := RX9) (T := TX9) (N := 12) (ci := 9) hx hb hts inX9 hown hk hr rfl 10 (by decide) (hts _ tw_285) ex14 dX9_root_54 ?_
            obtain ⟨_, ex15, hs⟩ := bi_inv hs
            obtain ⟨x16, ex16, hs⟩ := bi_inv hs
            refine hv_V1 (n := 3) [.ref x13, .int u2, .ref x14] [] hx hb hml hown hts hk hr hz hS (zm_X3_extract l D z ex16) ex15 rfl tw_560 tw_561 tw_562 tw_7 tw_563 (by decide +kernel) (by decide) ⟨(Nat.zero_le _), (Nat.zero_le _)⟩ rfl hl.1 (Nat.le_of_ble_eq_true rfl) dX9_root_57 rfl (fun H locs hr hS => ?_)
            refine lv_istore (lv' := [(4, .int x16.1), (0, .ref u0), (1, .int u1), (2, .int u2), (3, .int u3)]) hx hb dX9_root_60 hl (by decide) rfl (fun ls hl => ?_)
            refine lv_aload_n hx hb dX9_root_62 rfl (lv_at hl 1 rfl) ?_
            obtain ⟨x17, ex17, hs⟩ := bi_inv hs
            refine hv_gR (C := RX9) (T := TX9) (N := 12) (ci := 9) hx hb hts inX9 hown hk hr rfl 0 (by decide) (hts _ tw_275) ex17 dX9_root_63 ?_
            refine lv_iload_n hx hb dX9_root_66 rfl (lv_at hl 4 rfl) ?_
            obtain ⟨x18, ex18, hs⟩ := bi_inv hs
            refine hv_aR (kd := 3) hx hb hk hr rfl ex18 dX9_root_67 ?_
            refine lv_aload_n hx hb dX9_root_68 rfl (lv_at hl 1 rfl) ?_
            obtain ⟨x19, ex19, hs⟩ := bi_inv hs
            refine hv_gR (C := RX9) (T := TX9) (N := 12) (ci := 9) hx hb hts inX9 hown hk hr rfl 10 (by decide) (hts _ tw_285) ex19 dX9_root_69 ?_
            obtain ⟨_, ex20, hs⟩ := bi_inv hs
            obtain ⟨g21, eg21, hs⟩ := bi_inv hs
            refine hv_V0 (n := 1) [.ref x19] [] hx hb hml hown hts hk hr hz hS (zm_X8_copy l D z eg21) ex20 rfl tw_372 tw_373 tw_374 tw_2 tw_375 (by decide +kernel) (by decide) ⟨(Nat.zero_le _), (Nat.zero_le _)⟩ rfl hl.1 (Nat.le_of_ble_eq_true rfl) dX9_root_72 rfl (fun H locs hr hS => ?_)
            refine lv_iload hx hb dX9_root_75 (lv_at hl 0 rfl) ?_
            refine lv_if_eq (tgt := 84) hx hb dX9_root_77 (by decide) (fun c22 => ?_) (fun c22 => ?_)
            · rw [if_pos c22] at hs
              refine lv_iconst (v := 0) hx hb dX9_root_84 (by decide) ?_
              obtain ⟨rfl, rfl⟩ := Prod.mk.inj (Option.some.inj hs)
              exact hv_iret hx hb hrt hlk hr hS dX9_root_85
            · rw [if_neg c22] at hs
              refine lv_iconst (v := 1) hx hb dX9_root_80 (by decide) ?_
              refine lv_goto (tgt := 85) hx hb dX9_root_81 (by decide) ?_
              obtain ⟨rfl, rfl⟩ := Prod.mk.inj (Option.some.inj hs)
              exact hv_iret hx hb hrt hlk hr hS dX9_root_85
          · rw [if_neg c10] at hs
            refine lv_bipush (v := (-3)) hx hb dX9_root_39 (by decide) ?_
            obtain ⟨rfl, rfl⟩ := Prod.mk.inj (Option.some.inj hs)
            exact hv_iret hx hb hrt hlk hr hS dX9_root_41
        · rw [if_neg c6] at hs
          refine lv_iconst (v := (-1)) hx hb dX9_root_25 (by decide) ?_
          obtain ⟨rfl, rfl⟩ := Prod.mk.inj (Option.some.inj hs)
          exact hv_iret hx hb hrt hlk hr hS dX9_root_26
theorem dX9_set_0 : decode cX9_set 0 = .ok (.iload_n 1, 1) := by decide +kernel
theorem dX9_set_1 : decode cX9_set 1 = .ok (.invokestatic 90, 3) := by decide +kernel
theorem dX9_set_4 : decode cX9_set 4 = .ok (.ifCond .ne 5, 3) := by decide +kernel
theorem dX9_set_7 : decode cX9_set 7 = .ok (.iconst (-1), 1) := by decide +kernel
theorem dX9_set_8 : decode cX9_set 8 = .ok (.ireturn, 1) := by decide +kernel
theorem dX9_set_9 : decode cX9_set 9 = .ok (.aload_n 0, 1) := by decide +kernel
theorem dX9_set_10 : decode cX9_set 10 = .ok (.getfield 11, 3) := by decide +kernel
theorem dX9_set_13 : decode cX9_set 13 = .ok (.iload_n 1, 1) := by decide +kernel
theorem dX9_set_14 : decode cX9_set 14 = .ok (.aaload, 1) := by decide +kernel
theorem dX9_set_15 : decode cX9_set 15 = .ok (.lload_n 2, 1) := by decide +kernel
theorem dX9_set_16 : decode cX9_set 16 = .ok (.invokevirtual 86, 3) := by decide +kernel
theorem dX9_set_19 : decode cX9_set 19 = .ok (.iconst 1, 1) := by decide +kernel
theorem dX9_set_20 : decode cX9_set 20 = .ok (.ireturn, 1) := by decide +kernel
def zs_X9_set (h : AH) (u0 : Nat) (u1 : Int32) (u2 : Int64) : Option (Int32 × AH) :=
  (zs_X9_isSlot h u1).bind fun x1 => (if x1 = 0 then some ((-1 : Int32), h) else (gR h u0 9 0).bind fun x3 => (aR h x3 3 u1).bind fun x4 => (chk h x4 8).bind fun _ => (zs_X8_become h x4 u2).bind fun g6 => some ((1 : Int32), g6))
set_option maxRecDepth 100000 in
set_option maxHeartbeats 4000000 in
theorem zm_X9_set (l : Launch) (D : hG) (z : Nat) {h : AH} {u0 : Nat} {u1 : Int32} {u2 : Int64} {r : Int32} {h' : AH} (hs : zs_X9_set h u0 u1 u2 = some (r, h')) : hC l D z yX9_set cX9_set 4 (Option.some Jvm.ClassFile.FieldType.int) 2 45 0 0 [.ref u0, .int u1, .long u2] h h' (some (.int r)) := by
  refine hC_of (by decide) (Nat.le_of_ble_eq_true rfl) ?_
  intro p e s m below meth c hx hb hml hrt hlk hown hnm hts hk hr hz ls hl
  replace hown : s.vm.findClass RX9 = some m.cls := hown
  replace hl : lv_has ls 4 [(0, .ref u0), (1, .int u1), (2, .long u2)] := hl
  have hS : va_S (hA z) s.heap s.heap [] := va_S.rf
  suffices hgo : ∀ (H : Heap) (locs : List Loc), hR D z h H → va_S (hA z) s.heap H locs → W p l e ({ frames := 2, cells := 0, slots := 0, locals := 45 } : Room) s m ([.ref u0, .int u1, .long u2] : List Value).toArray below meth c H locs 0 0 (MQ below (hQ D z h' (some (.int r))) ([.ref u0, .int u1, .long u2] : List Value).toArray s 0 0 (hA z)) (F0 m 0 ls []) from hgo _ _ hr hS
  clear hr hS
  intro H locs hr hS
  unfold zs_X9_set at hs
  refine lv_iload_n hx hb dX9_set_0 rfl (lv_at hl 1 rfl) ?_
  obtain ⟨x1, ex1, hs⟩ := bi_inv hs
  refine hv_S1 (n := 1) [.int u1] [] hx hb hml hown hts hk hr hz hS (zm_X9_isSlot l D z ex1) tw_316 tw_317 tw_1 tw_318 (by decide +kernel) (by decide) ⟨(Nat.zero_le _), (Nat.zero_le _)⟩ rfl hl.1 (Nat.le_of_ble_eq_true rfl) dX9_set_1 rfl (fun H locs hr hS => ?_)
  refine lv_if_ne (tgt := 9) hx hb dX9_set_4 (by decide) (fun c2 => ?_) (fun c2 => ?_)
  · rw [if_neg c2] at hs
    refine lv_aload_n hx hb dX9_set_9 rfl (lv_at hl 0 rfl) ?_
    obtain ⟨x3, ex3, hs⟩ := bi_inv hs
    refine hv_gR (C := RX9) (T := TX9) (N := 12) (ci := 9) hx hb hts inX9 hown hk hr rfl 0 (by decide) (hts _ tw_275) ex3 dX9_set_10 ?_
    refine lv_iload_n hx hb dX9_set_13 rfl (lv_at hl 1 rfl) ?_
    obtain ⟨x4, ex4, hs⟩ := bi_inv hs
    refine hv_aR (kd := 3) hx hb hk hr rfl ex4 dX9_set_14 ?_
    refine lv_lload_n hx hb dX9_set_15 rfl (lv_at hl 2 rfl) ?_
    obtain ⟨_, ex5, hs⟩ := bi_inv hs
    obtain ⟨g6, eg6, hs⟩ := bi_inv hs
    refine hv_V0 (n := 1) [.long u2] [] hx hb hml hown hts hk hr hz hS (zm_X8_become l D z eg6) ex5 rfl tw_274 tw_66 tw_67 tw_2 tw_68 (by decide +kernel) (by decide) ⟨(Nat.zero_le _), (Nat.zero_le _)⟩ rfl hl.1 (Nat.le_of_ble_eq_true rfl) dX9_set_16 rfl (fun H locs hr hS => ?_)
    refine lv_iconst (v := 1) hx hb dX9_set_19 (by decide) ?_
    obtain ⟨rfl, rfl⟩ := Prod.mk.inj (Option.some.inj hs)
    exact hv_iret hx hb hrt hlk hr hS dX9_set_20
  · rw [if_pos c2] at hs
    refine lv_iconst (v := (-1)) hx hb dX9_set_7 (by decide) ?_
    obtain ⟨rfl, rfl⟩ := Prod.mk.inj (Option.some.inj hs)
    exact hv_iret hx hb hrt hlk hr hS dX9_set_8
theorem dX9_shift_0 : decode cX9_shift 0 = .ok (.iload_n 1, 1) := by decide +kernel
theorem dX9_shift_1 : decode cX9_shift 1 = .ok (.invokestatic 90, 3) := by decide +kernel
theorem dX9_shift_4 : decode cX9_shift 4 = .ok (.ifCond .eq 24, 3) := by decide +kernel
theorem dX9_shift_7 : decode cX9_shift 7 = .ok (.iload_n 3, 1) := by decide +kernel
theorem dX9_shift_8 : decode cX9_shift 8 = .ok (.invokestatic 90, 3) := by decide +kernel
theorem dX9_shift_11 : decode cX9_shift 11 = .ok (.ifCond .eq 17, 3) := by decide +kernel
theorem dX9_shift_14 : decode cX9_shift 14 = .ok (.iload_n 2, 1) := by decide +kernel
theorem dX9_shift_15 : decode cX9_shift 15 = .ok (.sipush (-1000), 3) := by decide +kernel
theorem dX9_shift_18 : decode cX9_shift 18 = .ok (.if_icmp .lt 10, 3) := by decide +kernel
theorem dX9_shift_21 : decode cX9_shift 21 = .ok (.iload_n 2, 1) := by decide +kernel
theorem dX9_shift_22 : decode cX9_shift 22 = .ok (.sipush 1000, 3) := by decide +kernel
theorem dX9_shift_25 : decode cX9_shift 25 = .ok (.if_icmp .le 5, 3) := by decide +kernel
theorem dX9_shift_28 : decode cX9_shift 28 = .ok (.iconst (-1), 1) := by decide +kernel
theorem dX9_shift_29 : decode cX9_shift 29 = .ok (.ireturn, 1) := by decide +kernel
theorem dX9_shift_30 : decode cX9_shift 30 = .ok (.iload_n 2, 1) := by decide +kernel
theorem dX9_shift_31 : decode cX9_shift 31 = .ok (.ifCond .ge 17, 3) := by decide +kernel
theorem dX9_shift_34 : decode cX9_shift 34 = .ok (.aload_n 0, 1) := by decide +kernel
theorem dX9_shift_35 : decode cX9_shift 35 = .ok (.aload_n 0, 1) := by decide +kernel
theorem dX9_shift_36 : decode cX9_shift 36 = .ok (.getfield 11, 3) := by decide +kernel
theorem dX9_shift_39 : decode cX9_shift 39 = .ok (.iload_n 1, 1) := by decide +kernel
theorem dX9_shift_40 : decode cX9_shift 40 = .ok (.aaload, 1) := by decide +kernel
theorem dX9_shift_41 : decode cX9_shift 41 = .ok (.iload_n 2, 1) := by decide +kernel
theorem dX9_shift_42 : decode cX9_shift 42 = .ok (.invokevirtual 227, 3) := by decide +kernel
theorem dX9_shift_45 : decode cX9_shift 45 = .ok (.goto 52, 3) := by decide +kernel
theorem dX9_shift_48 : decode cX9_shift 48 = .ok (.aload_n 0, 1) := by decide +kernel
theorem dX9_shift_49 : decode cX9_shift 49 = .ok (.getfield 11, 3) := by decide +kernel
theorem dX9_shift_52 : decode cX9_shift 52 = .ok (.iload_n 1, 1) := by decide +kernel
theorem dX9_shift_53 : decode cX9_shift 53 = .ok (.aaload, 1) := by decide +kernel
theorem dX9_shift_54 : decode cX9_shift 54 = .ok (.invokevirtual 168, 3) := by decide +kernel
theorem dX9_shift_57 : decode cX9_shift 57 = .ok (.ifCond .ne 20, 3) := by decide +kernel
theorem dX9_shift_60 : decode cX9_shift 60 = .ok (.aload_n 0, 1) := by decide +kernel
theorem dX9_shift_61 : decode cX9_shift 61 = .ok (.getfield 11, 3) := by decide +kernel
theorem dX9_shift_64 : decode cX9_shift 64 = .ok (.iload_n 1, 1) := by decide +kernel
theorem dX9_shift_65 : decode cX9_shift 65 = .ok (.aaload, 1) := by decide +kernel
theorem dX9_shift_66 : decode cX9_shift 66 = .ok (.invokevirtual 230, 3) := by decide +kernel
theorem dX9_shift_69 : decode cX9_shift 69 = .ok (.iload_n 2, 1) := by decide +kernel
theorem dX9_shift_70 : decode cX9_shift 70 = .ok (.iadd, 1) := by decide +kernel
theorem dX9_shift_71 : decode cX9_shift 71 = .ok (.sipush 384, 3) := by decide +kernel
theorem dX9_shift_74 : decode cX9_shift 74 = .ok (.if_icmp .gt 20, 3) := by decide +kernel
theorem dX9_shift_77 : decode cX9_shift 77 = .ok (.aload_n 0, 1) := by decide +kernel
theorem dX9_shift_78 : decode cX9_shift 78 = .ok (.getfield 11, 3) := by decide +kernel
theorem dX9_shift_81 : decode cX9_shift 81 = .ok (.iload_n 1, 1) := by decide +kernel
theorem dX9_shift_82 : decode cX9_shift 82 = .ok (.aaload, 1) := by decide +kernel
theorem dX9_shift_83 : decode cX9_shift 83 = .ok (.iload_n 2, 1) := by decide +kernel
theorem dX9_shift_84 : decode cX9_shift 84 = .ok (.aload_n 0, 1) := by decide +kernel
theorem dX9_shift_85 : decode cX9_shift 85 = .ok (.getfield 79, 3) := by decide +kernel
theorem dX9_shift_88 : decode cX9_shift 88 = .ok (.invokestatic 234, 3) := by decide +kernel
theorem dX9_shift_91 : decode cX9_shift 91 = .ok (.goto 6, 3) := by decide +kernel
theorem dX9_shift_94 : decode cX9_shift 94 = .ok (.bipush (-5), 2) := by decide +kernel
theorem dX9_shift_96 : decode cX9_shift 96 = .ok (.ireturn, 1) := by decide +kernel
theorem dX9_shift_97 : decode cX9_shift 97 = .ok (.aload_n 0, 1) := by decide +kernel
theorem dX9_shift_98 : decode cX9_shift 98 = .ok (.aload_n 0, 1) := by decide +kernel
theorem dX9_shift_99 : decode cX9_shift 99 = .ok (.getfield 79, 3) := by decide +kernel
theorem dX9_shift_102 : decode cX9_shift 102 = .ok (.iload_n 3, 1) := by decide +kernel
theorem dX9_shift_103 : decode cX9_shift 103 = .ok (.invokevirtual 116, 3) := by decide +kernel
theorem dX9_shift_106 : decode cX9_shift 106 = .ok (.ireturn, 1) := by decide +kernel
def zj_X9_shift_97 (g18 : AH) (y0_97 : Nat) (y3_97 : Int32) : Option (Int32 × AH) :=
  (gR g18 y0_97 9 10).bind fun x19 => (chk g18 y0_97 9).bind fun _ => (zs_X9_keep g18 y0_97 x19 y3_97).bind fun x21 => some (x21.1, x21.2)
def zj_X9_shift_77 (g13 : AH) (y0_77 : Nat) (y1_77 : Int32) (y2_77 : Int32) (y3_77 : Int32) : Option (Int32 × AH) :=
  (gR g13 y0_77 9 0).bind fun x14 => (aR g13 x14 3 y1_77).bind fun x15 => (gR g13 y0_77 9 10).bind fun x16 => (zs_X8_move g13 x15 y2_77 x16).bind fun g17 => zj_X9_shift_97 g17 y0_77 y3_77
def zs_X9_shift (h : AH) (u0 : Nat) (u1 : Int32) (u2 : Int32) (u3 : Int32) : Option (Int32 × AH) :=
  (zs_X9_isSlot h u1).bind fun x1 => (if x1 = 0 then some ((-1 : Int32), h) else (zs_X9_isSlot h u3).bind fun x3 => (if x3 = 0 then some ((-1 : Int32), h) else (if u2 < (-1000 : Int32) then some ((-1 : Int32), h) else (if u2 ≤ (1000 : Int32) then (if 0 ≤ u2 then (gR h u0 9 0).bind fun x8 => (aR h x8 3 u1).bind fun x9 => (chk h x9 8).bind fun _ => (zs_X8_isZero h x9).bind fun x11 => (if x11 = 0 then (gR h u0 9 0).bind fun x22 => (aR h x22 3 u1).bind fun x23 => (chk h x23 8).bind fun _ => (zs_X8_sizeBits h x23).bind fun x25 => (if (384 : Int32) < x25 + u2 then some ((-5 : Int32), h) else zj_X9_shift_77 h u0 u1 u2 u3) else zj_X9_shift_77 h u0 u1 u2 u3) else (gR h u0 9 0).bind fun x27 => (aR h x27 3 u1).bind fun x28 => (chk h u0 9).bind fun _ => (zs_X9_moveDown h u0 x28 u2).bind fun g30 => zj_X9_shift_97 g30 u0 u3) else some ((-1 : Int32), h)))))
set_option maxRecDepth 100000 in
set_option maxHeartbeats 4000000 in
theorem zm_X9_shift (l : Launch) (D : hG) (z : Nat) {h : AH} {u0 : Nat} {u1 : Int32} {u2 : Int32} {u3 : Int32} {r : Int32} {h' : AH} (hs : zs_X9_shift h u0 u1 u2 u3 = some (r, h')) : hC l D z yX9_shift cX9_shift 4 (Option.some Jvm.ClassFile.FieldType.int) 5 117 0 0 [.ref u0, .int u1, .int u2, .int u3] h h' (some (.int r)) := by
  refine hC_of (by decide) (Nat.le_of_ble_eq_true rfl) ?_
  intro p e s m below meth c hx hb hml hrt hlk hown hnm hts hk hr hz ls hl
  replace hown : s.vm.findClass RX9 = some m.cls := hown
  replace hl : lv_has ls 4 [(0, .ref u0), (1, .int u1), (2, .int u2), (3, .int u3)] := hl
  have hS : va_S (hA z) s.heap s.heap [] := va_S.rf
  suffices hgo : ∀ (H : Heap) (locs : List Loc), hR D z h H → va_S (hA z) s.heap H locs → W p l e ({ frames := 5, cells := 0, slots := 0, locals := 117 } : Room) s m ([.ref u0, .int u1, .int u2, .int u3] : List Value).toArray below meth c H locs 0 0 (MQ below (hQ D z h' (some (.int r))) ([.ref u0, .int u1, .int u2, .int u3] : List Value).toArray s 0 0 (hA z)) (F0 m 0 ls []) from hgo _ _ hr hS
  clear hr hS
  intro H locs hr hS
  have hJ97 : ∀ (g18 : AH) (y0_97 : Nat) (y3_97 : Int32) (H : Heap) (locs : List Loc) (ls : Array Slot), zj_X9_shift_97 g18 y0_97 y3_97 = some (r, h') → hR D z g18 H → va_S (hA z) s.heap H locs → lv_has ls 4 [(0, .ref y0_97), (3, .int y3_97)] → W p l e ({ frames := 5, cells := 0, slots := 0, locals := 117 } : Room) s m ([.ref u0, .int u1, .int u2, .int u3] : List Value).toArray below meth c H locs 0 0 (MQ below (hQ D z h' (some (.int r))) ([.ref u0, .int u1, .int u2, .int u3] : List Value).toArray s 0 0 (hA z)) (F0 m 97 ls []) := by
    intro g18 y0_97 y3_97 H locs ls hs hr hS hl
    unfold zj_X9_shift_97 at hs
    refine lv_aload_n hx hb dX9_shift_97 rfl (lv_at hl 0 rfl) ?_
    refine lv_aload_n hx hb dX9_shift_98 rfl (lv_at hl 0 rfl) ?_
    obtain ⟨x19, ex19, hs⟩ := bi_inv hs
    refine hv_gR (C := RX9) (T := TX9) (N := 12) (ci := 9) hx hb hts inX9 hown hk hr rfl 10 (by decide) (hts _ tw_285) ex19 dX9_shift_99 ?_
    refine lv_iload_n hx hb dX9_shift_102 rfl (lv_at hl 1 rfl) ?_
    obtain ⟨_, ex20, hs⟩ := bi_inv hs
    obtain ⟨x21, ex21, hs⟩ := bi_inv hs
    refine hv_V1 (n := 2) [.ref x19, .int y3_97] [] hx hb hml hown hts hk hr hz hS (zm_X9_keep l D z ex21) ex20 rfl tw_364 tw_366 ts_2 tw_1 tw_367 (by decide +kernel) (by decide) ⟨(Nat.zero_le _), (Nat.zero_le _)⟩ rfl hl.1 (Nat.le_of_ble_eq_true rfl) dX9_shift_103 rfl (fun H locs hr hS => ?_)
    obtain ⟨rfl, rfl⟩ := Prod.mk.inj (Option.some.inj hs)
    exact hv_iret hx hb hrt hlk hr hS dX9_shift_106
  have hJ77 : ∀ (g13 : AH) (y0_77 : Nat) (y1_77 : Int32) (y2_77 : Int32) (y3_77 : Int32) (H : Heap) (locs : List Loc) (ls : Array Slot), zj_X9_shift_77 g13 y0_77 y1_77 y2_77 y3_77 = some (r, h') → hR D z g13 H → va_S (hA z) s.heap H locs → lv_has ls 4 [(0, .ref y0_77), (1, .int y1_77), (2, .int y2_77), (3, .int y3_77)] → W p l e ({ frames := 5, cells := 0, slots := 0, locals := 117 } : Room) s m ([.ref u0, .int u1, .int u2, .int u3] : List Value).toArray below meth c H locs 0 0 (MQ below (hQ D z h' (some (.int r))) ([.ref u0, .int u1, .int u2, .int u3] : List Value).toArray s 0 0 (hA z)) (F0 m 77 ls []) := by
    intro g13 y0_77 y1_77 y2_77 y3_77 H locs ls hs hr hS hl
    unfold zj_X9_shift_77 at hs
    refine lv_aload_n hx hb dX9_shift_77 rfl (lv_at hl 0 rfl) ?_
    obtain ⟨x14, ex14, hs⟩ := bi_inv hs
    refine hv_gR (C := RX9) (T := TX9) (N := 12) (ci := 9) hx hb hts inX9 hown hk hr rfl 0 (by decide) (hts _ tw_275) ex14 dX9_shift_78 ?_
    refine lv_iload_n hx hb dX9_shift_81 rfl (lv_at hl 1 rfl) ?_
    obtain ⟨x15, ex15, hs⟩ := bi_inv hs
    refine hv_aR (kd := 3) hx hb hk hr rfl ex15 dX9_shift_82 ?_
    refine lv_iload_n hx hb dX9_shift_83 rfl (lv_at hl 2 rfl) ?_
    refine lv_aload_n hx hb dX9_shift_84 rfl (lv_at hl 0 rfl) ?_
    obtain ⟨x16, ex16, hs⟩ := bi_inv hs
    refine hv_gR (C := RX9) (T := TX9) (N := 12) (ci := 9) hx hb hts inX9 hown hk hr rfl 10 (by decide) (hts _ tw_285) ex16 dX9_shift_85 ?_
    obtain ⟨g17, eg17, hs⟩ := bi_inv hs
    refine hv_S0 (n := 3) [.ref x15, .int y2_77, .ref x16] [] hx hb hml hown hts hk hr hz hS (zm_X8_move l D z eg17) tw_643 tw_644 tw_2 tw_645 (by decide +kernel) (by decide) ⟨(Nat.zero_le _), (Nat.zero_le _)⟩ rfl hl.1 (Nat.le_of_ble_eq_true rfl) dX9_shift_88 rfl (fun H locs hr hS => ?_)
    refine lv_goto (tgt := 97) hx hb dX9_shift_91 (by decide) ?_
    exact hJ97 g17 y0_77 y3_77 H locs ls hs hr hS (lv_sub hl [0, 3] rfl)
  unfold zs_X9_shift at hs
  refine lv_iload_n hx hb dX9_shift_0 rfl (lv_at hl 1 rfl) ?_
  obtain ⟨x1, ex1, hs⟩ := bi_inv hs
  refine hv_S1 (n := 1) [.int u1] [] hx hb hml hown hts hk hr hz hS (zm_X9_isSlot l D z ex1) tw_316 tw_317 tw_1 tw_318 (by decide +kernel) (by decide) ⟨(Nat.zero_le _), (Nat.zero_le _)⟩ rfl hl.1 (Nat.le_of_ble_eq_true rfl) dX9_shift_1 rfl (fun H locs hr hS => ?_)
  refine lv_if_eq (tgt := 28) hx hb dX9_shift_4 (by decide) (fun c2 => ?_) (fun c2 => ?_)
  · rw [if_pos c2] at hs
    refine lv_iconst (v := (-1)) hx hb dX9_shift_28 (by decide) ?_
    obtain ⟨rfl, rfl⟩ := Prod.mk.inj (Option.some.inj hs)
    exact hv_iret hx hb hrt hlk hr hS dX9_shift_29
  · rw [if_neg c2] at hs
    refine lv_iload_n hx hb dX9_shift_7 rfl (lv_at hl 3 rfl) ?_
    obtain ⟨x3, ex3, hs⟩ := bi_inv hs
    refine hv_S1 (n := 1) [.int u3] [] hx hb hml hown hts hk hr hz hS (zm_X9_isSlot l D z ex3) tw_316 tw_317 tw_1 tw_318 (by decide +kernel) (by decide) ⟨(Nat.zero_le _), (Nat.zero_le _)⟩ rfl hl.1 (Nat.le_of_ble_eq_true rfl) dX9_shift_8 rfl (fun H locs hr hS => ?_)
    refine lv_if_eq (tgt := 28) hx hb dX9_shift_11 (by decide) (fun c4 => ?_) (fun c4 => ?_)
    · rw [if_pos c4] at hs
      refine lv_iconst (v := (-1)) hx hb dX9_shift_28 (by decide) ?_
      obtain ⟨rfl, rfl⟩ := Prod.mk.inj (Option.some.inj hs)
      exact hv_iret hx hb hrt hlk hr hS dX9_shift_29
    · rw [if_neg c4] at hs
      refine lv_iload_n hx hb dX9_shift_14 rfl (lv_at hl 2 rfl) ?_
      refine lv_sipush (v := (-1000)) hx hb dX9_shift_15 (by decide) ?_
      refine lv_icmp_lt (tgt := 28) hx hb dX9_shift_18 (by decide) (fun c5 => ?_) (fun c5 => ?_)
      · rw [if_pos c5] at hs
        refine lv_iconst (v := (-1)) hx hb dX9_shift_28 (by decide) ?_
        obtain ⟨rfl, rfl⟩ := Prod.mk.inj (Option.some.inj hs)
        exact hv_iret hx hb hrt hlk hr hS dX9_shift_29
      · rw [if_neg c5] at hs
        refine lv_iload_n hx hb dX9_shift_21 rfl (lv_at hl 2 rfl) ?_
        refine lv_sipush (v := 1000) hx hb dX9_shift_22 (by decide) ?_
        refine lv_icmp_le (tgt := 30) hx hb dX9_shift_25 (by decide) (fun c6 => ?_) (fun c6 => ?_)
        · rw [if_pos c6] at hs
          refine lv_iload_n hx hb dX9_shift_30 rfl (lv_at hl 2 rfl) ?_
          refine lv_if_ge (tgt := 48) hx hb dX9_shift_31 (by decide) (fun c7 => ?_) (fun c7 => ?_)
          · rw [if_pos c7] at hs
            refine lv_aload_n hx hb dX9_shift_48 rfl (lv_at hl 0 rfl) ?_
            obtain ⟨x8, ex8, hs⟩ := bi_inv hs
            refine hv_gR (C := RX9) (T := TX9) (N := 12) (ci := 9) hx hb hts inX9 hown hk hr rfl 0 (by decide) (hts _ tw_275) ex8 dX9_shift_49 ?_
            refine lv_iload_n hx hb dX9_shift_52 rfl (lv_at hl 1 rfl) ?_
            obtain ⟨x9, ex9, hs⟩ := bi_inv hs
            refine hv_aR (kd := 3) hx hb hk hr rfl ex9 dX9_shift_53 ?_
            obtain ⟨_, ex10, hs⟩ := bi_inv hs
            obtain ⟨x11, ex11, hs⟩ := bi_inv hs
            refine hv_V1 (n := 0) [] [] hx hb hml hown hts hk hr hz hS (zm_X8_isZero l D z ex11) ex10 rfl tw_478 tw_400 tw_401 tw_2 tw_402 (by decide +kernel) (by decide) ⟨(Nat.zero_le _), (Nat.zero_le _)⟩ rfl hl.1 (Nat.le_of_ble_eq_true rfl) dX9_shift_54 rfl (fun H locs hr hS => ?_)
            refine lv_if_ne (tgt := 77) hx hb dX9_shift_57 (by decide) (fun c12 => ?_) (fun c12 => ?_)
            · rw [if_neg c12] at hs
              exact hJ77 h u0 u1 u2 u3 H locs ls hs hr hS (lv_sub hl [0, 1, 2, 3] rfl)
            · rw [if_pos c12] at hs
              refine lv_aload_n hx hb dX9_shift_60 rfl (lv_at hl 0 rfl) ?_
              obtain ⟨x22, ex22, hs⟩ := bi_inv hs
              refine hv_gR (C := RX9) (T := TX9) (N := 12) (ci := 9) hx hb hts inX9 hown hk hr rfl 0 (by decide) (hts _ tw_275) ex22 dX9_shift_61 ?_
              refine lv_iload_n hx hb dX9_shift_64 rfl (lv_at hl 1 rfl) ?_
              obtain ⟨x23, ex23, hs⟩ := bi_inv hs
              refine hv_aR (kd := 3) hx hb hk hr rfl ex23 dX9_shift_65 ?_
              obtain ⟨_, ex24, hs⟩ := bi_inv hs
              obtain ⟨x25, ex25, hs⟩ := bi_inv hs
              refine hv_V1 (n := 0) [] [] hx hb hml hown hts hk hr hz hS (zm_X8_sizeBits l D z ex25) ex24 rfl tw_583 tw_565 tw_566 tw_2 tw_567 (by decide +kernel) (by decide) ⟨(Nat.zero_le _), (Nat.zero_le _)⟩ rfl hl.1 (Nat.le_of_ble_eq_true rfl) dX9_shift_66 rfl (fun H locs hr hS => ?_)
              refine lv_iload_n hx hb dX9_shift_69 rfl (lv_at hl 2 rfl) ?_
              refine lv_iadd hx hb dX9_shift_70 ?_
              refine lv_sipush (v := 384) hx hb dX9_shift_71 (by decide) ?_
              refine lv_icmp_gt (tgt := 94) hx hb dX9_shift_74 (by decide) (fun c26 => ?_) (fun c26 => ?_)
              · rw [if_pos c26] at hs
                refine lv_bipush (v := (-5)) hx hb dX9_shift_94 (by decide) ?_
                obtain ⟨rfl, rfl⟩ := Prod.mk.inj (Option.some.inj hs)
                exact hv_iret hx hb hrt hlk hr hS dX9_shift_96
              · rw [if_neg c26] at hs
                exact hJ77 h u0 u1 u2 u3 H locs ls hs hr hS (lv_sub hl [0, 1, 2, 3] rfl)
          · rw [if_neg c7] at hs
            refine lv_aload_n hx hb dX9_shift_34 rfl (lv_at hl 0 rfl) ?_
            refine lv_aload_n hx hb dX9_shift_35 rfl (lv_at hl 0 rfl) ?_
            obtain ⟨x27, ex27, hs⟩ := bi_inv hs
            refine hv_gR (C := RX9) (T := TX9) (N := 12) (ci := 9) hx hb hts inX9 hown hk hr rfl 0 (by decide) (hts _ tw_275) ex27 dX9_shift_36 ?_
            refine lv_iload_n hx hb dX9_shift_39 rfl (lv_at hl 1 rfl) ?_
            obtain ⟨x28, ex28, hs⟩ := bi_inv hs
            refine hv_aR (kd := 3) hx hb hk hr rfl ex28 dX9_shift_40 ?_
            refine lv_iload_n hx hb dX9_shift_41 rfl (lv_at hl 2 rfl) ?_
            obtain ⟨_, ex29, hs⟩ := bi_inv hs
            obtain ⟨g30, eg30, hs⟩ := bi_inv hs
            refine hv_V0 (n := 2) [.ref x28, .int u2] [] hx hb hml hown hts hk hr hz hS (zm_X9_moveDown l D z eg30) ex29 rfl tw_639 tw_641 ts_13 tw_1 tw_642 (by decide +kernel) (by decide) ⟨(Nat.zero_le _), (Nat.zero_le _)⟩ rfl hl.1 (Nat.le_of_ble_eq_true rfl) dX9_shift_42 rfl (fun H locs hr hS => ?_)
            refine lv_goto (tgt := 97) hx hb dX9_shift_45 (by decide) ?_
            exact hJ97 g30 u0 u3 H locs ls hs hr hS (lv_sub hl [0, 3] rfl)
        · rw [if_neg c6] at hs
          refine lv_iconst (v := (-1)) hx hb dX9_shift_28 (by decide) ?_
          obtain ⟨rfl, rfl⟩ := Prod.mk.inj (Option.some.inj hs)
          exact hv_iret hx hb hrt hlk hr hS dX9_shift_29
theorem dX9_write_0 : decode cX9_write 0 = .ok (.iload_n 1, 1) := by decide +kernel
theorem dX9_write_1 : decode cX9_write 1 = .ok (.invokestatic 90, 3) := by decide +kernel
theorem dX9_write_4 : decode cX9_write 4 = .ok (.ifCond .eq 10, 3) := by decide +kernel
theorem dX9_write_7 : decode cX9_write 7 = .ok (.iload_n 2, 1) := by decide +kernel
theorem dX9_write_8 : decode cX9_write 8 = .ok (.invokestatic 102, 3) := by decide +kernel
theorem dX9_write_11 : decode cX9_write 11 = .ok (.ifCond .ne 5, 3) := by decide +kernel
theorem dX9_write_14 : decode cX9_write 14 = .ok (.iconst (-1), 1) := by decide +kernel
theorem dX9_write_15 : decode cX9_write 15 = .ok (.ireturn, 1) := by decide +kernel
theorem dX9_write_16 : decode cX9_write 16 = .ok (.aload_n 0, 1) := by decide +kernel
theorem dX9_write_17 : decode cX9_write 17 = .ok (.getfield 33, 3) := by decide +kernel
theorem dX9_write_20 : decode cX9_write 20 = .ok (.aload_n 0, 1) := by decide +kernel
theorem dX9_write_21 : decode cX9_write 21 = .ok (.getfield 11, 3) := by decide +kernel
theorem dX9_write_24 : decode cX9_write 24 = .ok (.iload_n 1, 1) := by decide +kernel
theorem dX9_write_25 : decode cX9_write 25 = .ok (.aaload, 1) := by decide +kernel
theorem dX9_write_26 : decode cX9_write 26 = .ok (.iload_n 2, 1) := by decide +kernel
theorem dX9_write_27 : decode cX9_write 27 = .ok (.invokevirtual 120, 3) := by decide +kernel
theorem dX9_write_30 : decode cX9_write 30 = .ok (.aload_n 0, 1) := by decide +kernel
theorem dX9_write_31 : decode cX9_write 31 = .ok (.getfield 33, 3) := by decide +kernel
theorem dX9_write_34 : decode cX9_write 34 = .ok (.getfield 123, 3) := by decide +kernel
theorem dX9_write_37 : decode cX9_write 37 = .ok (.ireturn, 1) := by decide +kernel
def zs_X9_write (h : AH) (u0 : Nat) (u1 : Int32) (u2 : Int32) : Option (Int32 × AH) :=
  (zs_X9_isSlot h u1).bind fun x1 => (if x1 = 0 then some ((-1 : Int32), h) else (zs_X9_isBase h u2).bind fun x3 => (if x3 = 0 then some ((-1 : Int32), h) else (gR h u0 9 3).bind fun x5 => (gR h u0 9 0).bind fun x6 => (aR h x6 3 u1).bind fun x7 => (chk h x5 6).bind fun _ => (zs_X6_spell h x5 x7 u2).bind fun g9 => (gR g9 u0 9 3).bind fun x10 => (gI g9 x10 6 0).bind fun x11 => some (x11, g9)))
set_option maxRecDepth 100000 in
set_option maxHeartbeats 4000000 in
theorem zm_X9_write (l : Launch) (D : hG) (z : Nat) {h : AH} {u0 : Nat} {u1 : Int32} {u2 : Int32} {r : Int32} {h' : AH} (hs : zs_X9_write h u0 u1 u2 = some (r, h')) : hC l D z yX9_write cX9_write 3 (Option.some Jvm.ClassFile.FieldType.int) 3 76 0 0 [.ref u0, .int u1, .int u2] h h' (some (.int r)) := by
  refine hC_of (by decide) (Nat.le_of_ble_eq_true rfl) ?_
  intro p e s m below meth c hx hb hml hrt hlk hown hnm hts hk hr hz ls hl
  replace hown : s.vm.findClass RX9 = some m.cls := hown
  replace hl : lv_has ls 3 [(0, .ref u0), (1, .int u1), (2, .int u2)] := hl
  have hS : va_S (hA z) s.heap s.heap [] := va_S.rf
  suffices hgo : ∀ (H : Heap) (locs : List Loc), hR D z h H → va_S (hA z) s.heap H locs → W p l e ({ frames := 3, cells := 0, slots := 0, locals := 76 } : Room) s m ([.ref u0, .int u1, .int u2] : List Value).toArray below meth c H locs 0 0 (MQ below (hQ D z h' (some (.int r))) ([.ref u0, .int u1, .int u2] : List Value).toArray s 0 0 (hA z)) (F0 m 0 ls []) from hgo _ _ hr hS
  clear hr hS
  intro H locs hr hS
  unfold zs_X9_write at hs
  refine lv_iload_n hx hb dX9_write_0 rfl (lv_at hl 1 rfl) ?_
  obtain ⟨x1, ex1, hs⟩ := bi_inv hs
  refine hv_S1 (n := 1) [.int u1] [] hx hb hml hown hts hk hr hz hS (zm_X9_isSlot l D z ex1) tw_316 tw_317 tw_1 tw_318 (by decide +kernel) (by decide) ⟨(Nat.zero_le _), (Nat.zero_le _)⟩ rfl hl.1 (Nat.le_of_ble_eq_true rfl) dX9_write_1 rfl (fun H locs hr hS => ?_)
  refine lv_if_eq (tgt := 14) hx hb dX9_write_4 (by decide) (fun c2 => ?_) (fun c2 => ?_)
  · rw [if_pos c2] at hs
    refine lv_iconst (v := (-1)) hx hb dX9_write_14 (by decide) ?_
    obtain ⟨rfl, rfl⟩ := Prod.mk.inj (Option.some.inj hs)
    exact hv_iret hx hb hrt hlk hr hS dX9_write_15
  · rw [if_neg c2] at hs
    refine lv_iload_n hx hb dX9_write_7 rfl (lv_at hl 2 rfl) ?_
    obtain ⟨x3, ex3, hs⟩ := bi_inv hs
    refine hv_S1 (n := 1) [.int u2] [] hx hb hml hown hts hk hr hz hS (zm_X9_isBase l D z ex3) tw_332 tw_333 tw_1 tw_334 (by decide +kernel) (by decide) ⟨(Nat.zero_le _), (Nat.zero_le _)⟩ rfl hl.1 (Nat.le_of_ble_eq_true rfl) dX9_write_8 rfl (fun H locs hr hS => ?_)
    refine lv_if_ne (tgt := 16) hx hb dX9_write_11 (by decide) (fun c4 => ?_) (fun c4 => ?_)
    · rw [if_neg c4] at hs
      refine lv_aload_n hx hb dX9_write_16 rfl (lv_at hl 0 rfl) ?_
      obtain ⟨x5, ex5, hs⟩ := bi_inv hs
      refine hv_gR (C := RX9) (T := TX9) (N := 12) (ci := 9) hx hb hts inX9 hown hk hr rfl 3 (by decide) (hts _ tw_278) ex5 dX9_write_17 ?_
      refine lv_aload_n hx hb dX9_write_20 rfl (lv_at hl 0 rfl) ?_
      obtain ⟨x6, ex6, hs⟩ := bi_inv hs
      refine hv_gR (C := RX9) (T := TX9) (N := 12) (ci := 9) hx hb hts inX9 hown hk hr rfl 0 (by decide) (hts _ tw_275) ex6 dX9_write_21 ?_
      refine lv_iload_n hx hb dX9_write_24 rfl (lv_at hl 1 rfl) ?_
      obtain ⟨x7, ex7, hs⟩ := bi_inv hs
      refine hv_aR (kd := 3) hx hb hk hr rfl ex7 dX9_write_25 ?_
      refine lv_iload_n hx hb dX9_write_26 rfl (lv_at hl 2 rfl) ?_
      obtain ⟨_, ex8, hs⟩ := bi_inv hs
      obtain ⟨g9, eg9, hs⟩ := bi_inv hs
      refine hv_V0 (n := 2) [.ref x7, .int u2] [] hx hb hml hown hts hk hr hz hS (zm_X6_spell l D z eg9) ex8 rfl tw_380 tw_381 tw_382 tw_5 tw_383 (by decide +kernel) (by decide) ⟨(Nat.zero_le _), (Nat.zero_le _)⟩ rfl hl.1 (Nat.le_of_ble_eq_true rfl) dX9_write_27 rfl (fun H locs hr hS => ?_)
      refine lv_aload_n hx hb dX9_write_30 rfl (lv_at hl 0 rfl) ?_
      obtain ⟨x10, ex10, hs⟩ := bi_inv hs
      refine hv_gR (C := RX9) (T := TX9) (N := 12) (ci := 9) hx hb hts inX9 hown hk hr rfl 3 (by decide) (hts _ tw_278) ex10 dX9_write_31 ?_
      obtain ⟨x11, ex11, hs⟩ := bi_inv hs
      refine hv_gI (C := RX6) (T := TX6) (N := 3) (ci := 6) hx hb hts inX6 hown hk hr rfl 0 (by decide) (hts _ tw_115) ex11 dX9_write_34 ?_
      obtain ⟨rfl, rfl⟩ := Prod.mk.inj (Option.some.inj hs)
      exact hv_iret hx hb hrt hlk hr hS dX9_write_37
    · rw [if_pos c4] at hs
      refine lv_iconst (v := (-1)) hx hb dX9_write_14 (by decide) ?_
      obtain ⟨rfl, rfl⟩ := Prod.mk.inj (Option.some.inj hs)
      exact hv_iret hx hb hrt hlk hr hS dX9_write_15
