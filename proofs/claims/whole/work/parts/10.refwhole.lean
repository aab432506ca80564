theorem dX10_become_0 : decode cX10_become 0 = .ok (.aload_n 0, 1) := by decide +kernel
theorem dX10_become_1 : decode cX10_become 1 = .ok (.aload_n 1, 1) := by decide +kernel
theorem dX10_become_2 : decode cX10_become 2 = .ok (.getfield 25, 3) := by decide +kernel
theorem dX10_become_5 : decode cX10_become 5 = .ok (.putfield 25, 3) := by decide +kernel
theorem dX10_become_8 : decode cX10_become 8 = .ok (.aload_n 0, 1) := by decide +kernel
theorem dX10_become_9 : decode cX10_become 9 = .ok (.aload_n 1, 1) := by decide +kernel
theorem dX10_become_10 : decode cX10_become 10 = .ok (.getfield 15, 3) := by decide +kernel
theorem dX10_become_13 : decode cX10_become 13 = .ok (.putfield 15, 3) := by decide +kernel
theorem dX10_become_16 : decode cX10_become 16 = .ok (.aload_n 1, 1) := by decide +kernel
theorem dX10_become_17 : decode cX10_become 17 = .ok (.getfield 9, 3) := by decide +kernel
theorem dX10_become_20 : decode cX10_become 20 = .ok (.iconst 0, 1) := by decide +kernel
theorem dX10_become_21 : decode cX10_become 21 = .ok (.aload_n 0, 1) := by decide +kernel
theorem dX10_become_22 : decode cX10_become 22 = .ok (.getfield 9, 3) := by decide +kernel
theorem dX10_become_25 : decode cX10_become 25 = .ok (.iconst 0, 1) := by decide +kernel
theorem dX10_become_26 : decode cX10_become 26 = .ok (.aload_n 0, 1) := by decide +kernel
theorem dX10_become_27 : decode cX10_become 27 = .ok (.getfield 15, 3) := by decide +kernel
theorem dX10_become_30 : decode cX10_become 30 = .ok (.invokestatic 29, 3) := by decide +kernel
theorem dX10_become_33 : decode cX10_become 33 = .ok (.return_, 1) := by decide +kernel
def zs_X10_become (h : AH) (u0 : Nat) (u1 : Nat) : Option AH :=
  (gI h u1 10 0).bind fun x1 => (zk x1).bind fun _ => (pV h u0 10 0 (.int x1)).bind fun g3 => (gI g3 u1 10 1).bind fun x4 => (pV g3 u0 10 1 (.int x4)).bind fun g5 => (gR g5 u1 10 2).bind fun x6 => (gR g5 u0 10 2).bind fun x7 => (gI g5 u0 10 1).bind fun x8 => (cpI g5 x6 ((0 : Int32)) x7 ((0 : Int32)) x8).bind fun g9 => some g9
set_option maxRecDepth 100000 in
set_option maxHeartbeats 4000000 in
theorem zm_X10_become (l : Launch) (D : hG) (z : Nat) {h : AH} {u0 : Nat} {u1 : Nat} {h' : AH} (hs : zs_X10_become h u0 u1 = some h') : hC l D z yX10_become cX10_become 2 (Option.none : Option Jvm.ClassFile.FieldType) 1 48 0 0 [.ref u0, .ref u1] h h' none := by
  refine hC_of (by decide) (Nat.le_of_ble_eq_true rfl) ?_
  intro p e s m below meth c hx hb hml hrt hlk hown hnm hts hk hr hz ls hl
  replace hown : s.vm.findClass RX10 = some m.cls := hown
  replace hl : lv_has ls 2 [(0, .ref u0), (1, .ref u1)] := hl
  have hS : va_S (hA z) s.heap s.heap [] := va_S.rf
  suffices hgo : ∀ (H : Heap) (locs : List Loc), hR D z h H → va_S (hA z) s.heap H locs → W p l e ({ frames := 1, cells := 0, slots := 0, locals := 48 } : Room) s m ([.ref u0, .ref u1] : List Value).toArray below meth c H locs 0 0 (MQ below (hQ D z h' none) ([.ref u0, .ref u1] : List Value).toArray s 0 0 (hA z)) (F0 m 0 ls []) from hgo _ _ hr hS
  clear hr hS
  intro H locs hr hS
  unfold zs_X10_become at hs
  refine lv_aload_n hx hb dX10_become_0 rfl (lv_at hl 0 rfl) ?_
  refine lv_aload_n hx hb dX10_become_1 rfl (lv_at hl 1 rfl) ?_
  obtain ⟨x1, ex1, hs⟩ := bi_inv hs
  refine hv_gI (C := RX10) (T := TX10) (N := 3) (ci := 10) hx hb hts inX10 hown hk hr rfl 0 (by decide) (hts _ tw_862) ex1 dX10_become_2 ?_
  obtain ⟨_, ex2, hs⟩ := bi_inv hs
  obtain ⟨g3, eg3, hs⟩ := bi_inv hs
  refine hv_pV (C := RX10) (T := TX10) (N := 3) (ci := 10) hx hb hts inX10 tyX10 tyX10_ok nmX10 hown hk hr hS rfl 0 (by decide) (hts _ tw_862) rfl (zk_n (zk_inv ex2)) (zk_f (zk_inv ex2)) eg3 dX10_become_5 (fun H locs hr hS => ?_)
  refine lv_aload_n hx hb dX10_become_8 rfl (lv_at hl 0 rfl) ?_
  refine lv_aload_n hx hb dX10_become_9 rfl (lv_at hl 1 rfl) ?_
  obtain ⟨x4, ex4, hs⟩ := bi_inv hs
  refine hv_gI (C := RX10) (T := TX10) (N := 3) (ci := 10) hx hb hts inX10 hown hk hr rfl 1 (by decide) (hts _ tw_864) ex4 dX10_become_10 ?_
  obtain ⟨g5, eg5, hs⟩ := bi_inv hs
  refine hv_pV (C := RX10) (T := TX10) (N := 3) (ci := 10) hx hb hts inX10 tyX10 tyX10_ok nmX10 hown hk hr hS rfl 1 (by decide) (hts _ tw_864) rfl rfl rfl eg5 dX10_become_13 (fun H locs hr hS => ?_)
  refine lv_aload_n hx hb dX10_become_16 rfl (lv_at hl 1 rfl) ?_
  obtain ⟨x6, ex6, hs⟩ := bi_inv hs
  refine hv_gR (C := RX10) (T := TX10) (N := 3) (ci := 10) hx hb hts inX10 hown hk hr rfl 2 (by decide) (hts _ tw_866) ex6 dX10_become_17 ?_
  refine lv_iconst (v := 0) hx hb dX10_become_20 (by decide) ?_
  refine lv_aload_n hx hb dX10_become_21 rfl (lv_at hl 0 rfl) ?_
  obtain ⟨x7, ex7, hs⟩ := bi_inv hs
  refine hv_gR (C := RX10) (T := TX10) (N := 3) (ci := 10) hx hb hts inX10 hown hk hr rfl 2 (by decide) (hts _ tw_866) ex7 dX10_become_22 ?_
  refine lv_iconst (v := 0) hx hb dX10_become_25 (by decide) ?_
  refine lv_aload_n hx hb dX10_become_26 rfl (lv_at hl 0 rfl) ?_
  obtain ⟨x8, ex8, hs⟩ := bi_inv hs
  refine hv_gI (C := RX10) (T := TX10) (N := 3) (ci := 10) hx hb hts inX10 hown hk hr rfl 1 (by decide) (hts _ tw_864) ex8 dX10_become_27 ?_
  obtain ⟨g9, eg9, hs⟩ := bi_inv hs
  refine hv_cp hx hb (hml.trans hl.1.symm) hown (hts _ tw_879) (hts _ tw_881) (hts _ tw_880) (hts _ tw_13) hk hr hS eg9 (by decide) (Nat.le_of_ble_eq_true rfl) dX10_become_30 (fun H locs hr hS => ?_)
  obtain rfl := Option.some.inj hs
  exact hv_vret hx hb hrt hlk hr hS dX10_become_33
theorem dX10_bit_0 : decode cX10_bit 0 = .ok (.iload_n 1, 1) := by decide +kernel
theorem dX10_bit_1 : decode cX10_bit 1 = .ok (.bipush 16, 2) := by decide +kernel
theorem dX10_bit_3 : decode cX10_bit 3 = .ok (.idiv, 1) := by decide +kernel
theorem dX10_bit_4 : decode cX10_bit 4 = .ok (.aload_n 0, 1) := by decide +kernel
theorem dX10_bit_5 : decode cX10_bit 5 = .ok (.getfield 15, 3) := by decide +kernel
theorem dX10_bit_8 : decode cX10_bit 8 = .ok (.if_icmp .ge 27, 3) := by decide +kernel
theorem dX10_bit_11 : decode cX10_bit 11 = .ok (.aload_n 0, 1) := by decide +kernel
theorem dX10_bit_12 : decode cX10_bit 12 = .ok (.getfield 9, 3) := by decide +kernel
theorem dX10_bit_15 : decode cX10_bit 15 = .ok (.iload_n 1, 1) := by decide +kernel
theorem dX10_bit_16 : decode cX10_bit 16 = .ok (.bipush 16, 2) := by decide +kernel
theorem dX10_bit_18 : decode cX10_bit 18 = .ok (.idiv, 1) := by decide +kernel
theorem dX10_bit_19 : decode cX10_bit 19 = .ok (.iaload, 1) := by decide +kernel
theorem dX10_bit_20 : decode cX10_bit 20 = .ok (.iload_n 1, 1) := by decide +kernel
theorem dX10_bit_21 : decode cX10_bit 21 = .ok (.bipush 16, 2) := by decide +kernel
theorem dX10_bit_23 : decode cX10_bit 23 = .ok (.irem, 1) := by decide +kernel
theorem dX10_bit_24 : decode cX10_bit 24 = .ok (.ishr, 1) := by decide +kernel
theorem dX10_bit_25 : decode cX10_bit 25 = .ok (.iconst 1, 1) := by decide +kernel
theorem dX10_bit_26 : decode cX10_bit 26 = .ok (.iand, 1) := by decide +kernel
theorem dX10_bit_27 : decode cX10_bit 27 = .ok (.iconst 1, 1) := by decide +kernel
theorem dX10_bit_28 : decode cX10_bit 28 = .ok (.if_icmp .ne 7, 3) := by decide +kernel
theorem dX10_bit_31 : decode cX10_bit 31 = .ok (.iconst 1, 1) := by decide +kernel
theorem dX10_bit_32 : decode cX10_bit 32 = .ok (.goto 4, 3) := by decide +kernel
theorem dX10_bit_35 : decode cX10_bit 35 = .ok (.iconst 0, 1) := by decide +kernel
theorem dX10_bit_36 : decode cX10_bit 36 = .ok (.ireturn, 1) := by decide +kernel
def zs_X10_bit (h : AH) (u0 : Nat) (u1 : Int32) : Option Int32 :=
  (gI h u0 10 1).bind fun x1 => (if x1 ≤ u1 / ((16 : Int32)) then some ((0 : Int32)) else (gR h u0 10 2).bind fun x3 => (aI h x3 0 (u1 / ((16 : Int32)))).bind fun x4 => (if (x4 >>> ((u1 - u1 / ((16 : Int32)) * ((16 : Int32))) &&& 31)) &&& ((1 : Int32)) = (1 : Int32) then some ((1 : Int32)) else some ((0 : Int32))))
set_option maxRecDepth 100000 in
set_option maxHeartbeats 4000000 in
theorem zm_X10_bit (l : Launch) (D : hG) (z : Nat) {h : AH} {u0 : Nat} {u1 : Int32} {r : Int32} (hs : zs_X10_bit h u0 u1 = some r) : hC l D z yX10_bit cX10_bit 2 (Option.some Jvm.ClassFile.FieldType.boolean) 0 0 0 0 [.ref u0, .int u1] h h (some (.int r)) := by
  refine hC_of (by decide) (Nat.le_of_ble_eq_true rfl) ?_
  intro p e s m below meth c hx hb hml hrt hlk hown hnm hts hk hr hz ls hl
  replace hown : s.vm.findClass RX10 = some m.cls := hown
  replace hl : lv_has ls 2 [(0, .ref u0), (1, .int u1)] := hl
  have hS : va_S (hA z) s.heap s.heap [] := va_S.rf
  suffices hgo : ∀ (H : Heap) (locs : List Loc), hR D z h H → va_S (hA z) s.heap H locs → W p l e ({ frames := 0, cells := 0, slots := 0, locals := 0 } : Room) s m ([.ref u0, .int u1] : List Value).toArray below meth c H locs 0 0 (MQ below (hQ D z h (some (.int r))) ([.ref u0, .int u1] : List Value).toArray s 0 0 (hA z)) (F0 m 0 ls []) from hgo _ _ hr hS
  clear hr hS
  intro H locs hr hS
  unfold zs_X10_bit at hs
  refine lv_iload_n hx hb dX10_bit_0 rfl (lv_at hl 1 rfl) ?_
  refine lv_bipush (v := 16) hx hb dX10_bit_1 (by decide) ?_
  refine lv_idiv hx hb dX10_bit_3 (by decide) ?_
  refine lv_aload_n hx hb dX10_bit_4 rfl (lv_at hl 0 rfl) ?_
  obtain ⟨x1, ex1, hs⟩ := bi_inv hs
  refine hv_gI (C := RX10) (T := TX10) (N := 3) (ci := 10) hx hb hts inX10 hown hk hr rfl 1 (by decide) (hts _ tw_864) ex1 dX10_bit_5 ?_
  refine lv_icmp_ge (tgt := 35) hx hb dX10_bit_8 (by decide) (fun c2 => ?_) (fun c2 => ?_)
  · rw [if_pos c2] at hs
    refine lv_iconst (v := 0) hx hb dX10_bit_35 (by decide) ?_
    obtain rfl := Option.some.inj hs
    exact hv_zret hx hb hrt hlk hr hS (by decide) dX10_bit_36
  · rw [if_neg c2] at hs
    refine lv_aload_n hx hb dX10_bit_11 rfl (lv_at hl 0 rfl) ?_
    obtain ⟨x3, ex3, hs⟩ := bi_inv hs
    refine hv_gR (C := RX10) (T := TX10) (N := 3) (ci := 10) hx hb hts inX10 hown hk hr rfl 2 (by decide) (hts _ tw_866) ex3 dX10_bit_12 ?_
    refine lv_iload_n hx hb dX10_bit_15 rfl (lv_at hl 1 rfl) ?_
    refine lv_bipush (v := 16) hx hb dX10_bit_16 (by decide) ?_
    refine lv_idiv hx hb dX10_bit_18 (by decide) ?_
    obtain ⟨x4, ex4, hs⟩ := bi_inv hs
    refine hv_aI hx hb hk hr ex4 dX10_bit_19 ?_
    refine lv_iload_n hx hb dX10_bit_20 rfl (lv_at hl 1 rfl) ?_
    refine lv_bipush (v := 16) hx hb dX10_bit_21 (by decide) ?_
    refine lv_irem hx hb dX10_bit_23 (by decide) ?_
    refine lv_ishr hx hb dX10_bit_24 ?_
    refine lv_iconst (v := 1) hx hb dX10_bit_25 (by decide) ?_
    refine lv_iand hx hb dX10_bit_26 ?_
    refine lv_iconst (v := 1) hx hb dX10_bit_27 (by decide) ?_
    refine lv_icmp_ne (tgt := 35) hx hb dX10_bit_28 (by decide) (fun c5 => ?_) (fun c5 => ?_)
    · rw [if_neg c5] at hs
      refine lv_iconst (v := 0) hx hb dX10_bit_35 (by decide) ?_
      obtain rfl := Option.some.inj hs
      exact hv_zret hx hb hrt hlk hr hS (by decide) dX10_bit_36
    · rw [if_pos c5] at hs
      refine lv_iconst (v := 1) hx hb dX10_bit_31 (by decide) ?_
      refine lv_goto (tgt := 36) hx hb dX10_bit_32 (by decide) ?_
      obtain rfl := Option.some.inj hs
      exact hv_zret hx hb hrt hlk hr hS (by decide) dX10_bit_36
theorem dX10_bits_0 : decode cX10_bits 0 = .ok (.aload_n 0, 1) := by decide +kernel
theorem dX10_bits_1 : decode cX10_bits 1 = .ok (.getfield 15, 3) := by decide +kernel
theorem dX10_bits_4 : decode cX10_bits 4 = .ok (.ifCond .ne 7, 3) := by decide +kernel
theorem dX10_bits_7 : decode cX10_bits 7 = .ok (.iconst 0, 1) := by decide +kernel
theorem dX10_bits_8 : decode cX10_bits 8 = .ok (.goto 31, 3) := by decide +kernel
theorem dX10_bits_11 : decode cX10_bits 11 = .ok (.bipush 16, 2) := by decide +kernel
theorem dX10_bits_13 : decode cX10_bits 13 = .ok (.aload_n 0, 1) := by decide +kernel
theorem dX10_bits_14 : decode cX10_bits 14 = .ok (.getfield 15, 3) := by decide +kernel
theorem dX10_bits_17 : decode cX10_bits 17 = .ok (.imul, 1) := by decide +kernel
theorem dX10_bits_18 : decode cX10_bits 18 = .ok (.bipush 16, 2) := by decide +kernel
theorem dX10_bits_20 : decode cX10_bits 20 = .ok (.isub, 1) := by decide +kernel
theorem dX10_bits_21 : decode cX10_bits 21 = .ok (.bipush 32, 2) := by decide +kernel
theorem dX10_bits_23 : decode cX10_bits 23 = .ok (.iadd, 1) := by decide +kernel
theorem dX10_bits_24 : decode cX10_bits 24 = .ok (.aload_n 0, 1) := by decide +kernel
theorem dX10_bits_25 : decode cX10_bits 25 = .ok (.getfield 9, 3) := by decide +kernel
theorem dX10_bits_28 : decode cX10_bits 28 = .ok (.aload_n 0, 1) := by decide +kernel
theorem dX10_bits_29 : decode cX10_bits 29 = .ok (.getfield 15, 3) := by decide +kernel
theorem dX10_bits_32 : decode cX10_bits 32 = .ok (.iconst 1, 1) := by decide +kernel
theorem dX10_bits_33 : decode cX10_bits 33 = .ok (.isub, 1) := by decide +kernel
theorem dX10_bits_34 : decode cX10_bits 34 = .ok (.iaload, 1) := by decide +kernel
theorem dX10_bits_35 : decode cX10_bits 35 = .ok (.invokestatic 19, 3) := by decide +kernel
theorem dX10_bits_38 : decode cX10_bits 38 = .ok (.isub, 1) := by decide +kernel
theorem dX10_bits_39 : decode cX10_bits 39 = .ok (.ireturn, 1) := by decide +kernel
def zs_X10_bits (h : AH) (u0 : Nat) : Option Int32 :=
  (gI h u0 10 1).bind fun x1 => (if x1 = 0 then some ((0 : Int32)) else (gI h u0 10 1).bind fun x3 => (gR h u0 10 2).bind fun x4 => (gI h u0 10 1).bind fun x5 => (aI h x4 0 (x5 - ((1 : Int32)))).bind fun x6 => (zs_J6_numberOfLeadingZeros_0f7a4 h x6).bind fun x7 => some ((((((16 : Int32)) * x3) - ((16 : Int32))) + ((32 : Int32))) - x7))
set_option maxRecDepth 100000 in
set_option maxHeartbeats 4000000 in
theorem zm_X10_bits (l : Launch) (D : hG) (z : Nat) {h : AH} {u0 : Nat} {r : Int32} (hs : zs_X10_bits h u0 = some r) : hC l D z yX10_bits cX10_bits 1 (Option.some Jvm.ClassFile.FieldType.int) 1 21 0 0 [.ref u0] h h (some (.int r)) := by
  refine hC_of (by decide) (Nat.le_of_ble_eq_true rfl) ?_
  intro p e s m below meth c hx hb hml hrt hlk hown hnm hts hk hr hz ls hl
  replace hown : s.vm.findClass RX10 = some m.cls := hown
  replace hl : lv_has ls 1 [(0, .ref u0)] := hl
  have hS : va_S (hA z) s.heap s.heap [] := va_S.rf
  suffices hgo : ∀ (H : Heap) (locs : List Loc), hR D z h H → va_S (hA z) s.heap H locs → W p l e ({ frames := 1, cells := 0, slots := 0, locals := 21 } : Room) s m ([.ref u0] : List Value).toArray below meth c H locs 0 0 (MQ below (hQ D z h (some (.int r))) ([.ref u0] : List Value).toArray s 0 0 (hA z)) (F0 m 0 ls []) from hgo _ _ hr hS
  clear hr hS
  intro H locs hr hS
  unfold zs_X10_bits at hs
  refine lv_aload_n hx hb dX10_bits_0 rfl (lv_at hl 0 rfl) ?_
  obtain ⟨x1, ex1, hs⟩ := bi_inv hs
  refine hv_gI (C := RX10) (T := TX10) (N := 3) (ci := 10) hx hb hts inX10 hown hk hr rfl 1 (by decide) (hts _ tw_864) ex1 dX10_bits_1 ?_
  refine lv_if_ne (tgt := 11) hx hb dX10_bits_4 (by decide) (fun c2 => ?_) (fun c2 => ?_)
  · rw [if_neg c2] at hs
    refine lv_bipush (v := 16) hx hb dX10_bits_11 (by decide) ?_
    refine lv_aload_n hx hb dX10_bits_13 rfl (lv_at hl 0 rfl) ?_
    obtain ⟨x3, ex3, hs⟩ := bi_inv hs
    refine hv_gI (C := RX10) (T := TX10) (N := 3) (ci := 10) hx hb hts inX10 hown hk hr rfl 1 (by decide) (hts _ tw_864) ex3 dX10_bits_14 ?_
    refine lv_imul hx hb dX10_bits_17 ?_
    refine lv_bipush (v := 16) hx hb dX10_bits_18 (by decide) ?_
    refine lv_isub hx hb dX10_bits_20 ?_
    refine lv_bipush (v := 32) hx hb dX10_bits_21 (by decide) ?_
    refine lv_iadd hx hb dX10_bits_23 ?_
    refine lv_aload_n hx hb dX10_bits_24 rfl (lv_at hl 0 rfl) ?_
    obtain ⟨x4, ex4, hs⟩ := bi_inv hs
    refine hv_gR (C := RX10) (T := TX10) (N := 3) (ci := 10) hx hb hts inX10 hown hk hr rfl 2 (by decide) (hts _ tw_866) ex4 dX10_bits_25 ?_
    refine lv_aload_n hx hb dX10_bits_28 rfl (lv_at hl 0 rfl) ?_
    obtain ⟨x5, ex5, hs⟩ := bi_inv hs
    refine hv_gI (C := RX10) (T := TX10) (N := 3) (ci := 10) hx hb hts inX10 hown hk hr rfl 1 (by decide) (hts _ tw_864) ex5 dX10_bits_29 ?_
    refine lv_iconst (v := 1) hx hb dX10_bits_32 (by decide) ?_
    refine lv_isub hx hb dX10_bits_33 ?_
    obtain ⟨x6, ex6, hs⟩ := bi_inv hs
    refine hv_aI hx hb hk hr ex6 dX10_bits_34 ?_
    obtain ⟨x7, ex7, hs⟩ := bi_inv hs
    refine hv_S1 (n := 1) [.int x6] [.int (((((16 : Int32)) * x3) - ((16 : Int32))) + ((32 : Int32)))] hx hb hml hown hts hk hr hz hS (zm_J6_numberOfLeadingZeros_0f7a4 l D z ex7) tw_984 tw_985 tw_14 tw_986 (by decide +kernel) (by decide) ⟨(Nat.zero_le _), (Nat.zero_le _)⟩ rfl hl.1 (Nat.le_of_ble_eq_true rfl) dX10_bits_35 rfl (fun H locs hr hS => ?_)
    refine lv_isub hx hb dX10_bits_38 ?_
    obtain rfl := Option.some.inj hs
    exact hv_iret hx hb hrt hlk hr hS dX10_bits_39
  · rw [if_pos c2] at hs
    refine lv_iconst (v := 0) hx hb dX10_bits_7 (by decide) ?_
    refine lv_goto (tgt := 39) hx hb dX10_bits_8 (by decide) ?_
    obtain rfl := Option.some.inj hs
    exact hv_iret hx hb hrt hlk hr hS dX10_bits_39
theorem dX10_init_0 : decode cX10_init 0 = .ok (.aload_n 0, 1) := by decide +kernel
theorem dX10_init_1 : decode cX10_init 1 = .ok (.invokespecial 3, 3) := by decide +kernel
theorem dX10_init_4 : decode cX10_init 4 = .ok (.aload_n 0, 1) := by decide +kernel
theorem dX10_init_5 : decode cX10_init 5 = .ok (.bipush 100, 2) := by decide +kernel
theorem dX10_init_7 : decode cX10_init 7 = .ok (.newarray .int, 2) := by decide +kernel
theorem dX10_init_9 : decode cX10_init 9 = .ok (.putfield 9, 3) := by decide +kernel
theorem dX10_init_12 : decode cX10_init 12 = .ok (.return_, 1) := by decide +kernel
def zs_X10_init (h : AH) (u0 : Nat) : Option AH :=
  lt_ (nO h (.inl (0, (100, .inl (fun _ => 0))))) fun g1 => (pV g1 u0 10 2 (.ref h.2)).bind fun g2 => some g2
set_option maxRecDepth 100000 in
set_option maxHeartbeats 4000000 in
theorem zm_X10_init (l : Launch) (D : hG) (z : Nat) {h : AH} {u0 : Nat} {h' : AH} (hs : zs_X10_init h u0 = some h') : hC l D z yX10_init cX10_init 1 (Option.none : Option Jvm.ClassFile.FieldType) 1 21 1 100 [.ref u0] h h' none := by
  refine hC_of (by decide) (Nat.le_of_ble_eq_true rfl) ?_
  intro p e s m below meth c hx hb hml hrt hlk hown hnm hts hk hr hz ls hl
  replace hown : s.vm.findClass RX10 = some m.cls := hown
  replace hl : lv_has ls 1 [(0, .ref u0)] := hl
  have hS : va_S (hA z) s.heap s.heap [] := va_S.rf
  suffices hgo : ∀ (H : Heap) (locs : List Loc), hR D z h H → va_S (hA z) s.heap H locs → W p l e ({ frames := 1, cells := 1, slots := 100, locals := 21 } : Room) s m ([.ref u0] : List Value).toArray below meth c H locs 0 0 (MQ below (hQ D z h' none) ([.ref u0] : List Value).toArray s 1 100 (hA z)) (F0 m 0 ls []) from hgo _ _ hr hS
  clear hr hS
  intro H locs hr hS
  unfold zs_X10_init at hs
  refine lv_aload_n hx hb dX10_init_0 rfl (lv_at hl 0 rfl) ?_
  refine W.objInit hx hb hown (hts _ tw_861) (hts _ tw_27) (hts _ tw_28) rfl (by rw [hml]; exact hl.1) rfl dX10_init_1 (by decide) (Nat.le_of_ble_eq_true rfl) ?_
  refine W.eq (g2 := F0 m 4 ls []) rfl ?_
  refine lv_aload_n hx hb dX10_init_4 rfl (lv_at hl 0 rfl) ?_
  refine lv_bipush (v := 100) hx hb dX10_init_5 (by decide) ?_
  refine hv_newa (at_ := .int) hx hb hts 0 rfl rfl tw_105 hk hr hz hS 100 (100, .inl (fun _ => 0)) (fun _ => rfl) (by decide) (by decide) (by decide) (by show _ ≤ (1 : Nat); omega) (by show _ ≤ (100 : Nat); omega) dX10_init_7 (fun H hr hS => ?_)
  obtain ⟨g1, eg1⟩ : ∃ q, q = nO h (.inl (0, (100, .inl (fun _ => 0)))) := ⟨_, rfl⟩
  rw [← eg1] at hr
  replace hs := lt_inv hs g1 eg1
  obtain ⟨g2, eg2, hs⟩ := bi_inv hs
  refine hv_pF (C := RX10) (T := TX10) (N := 3) (ci := 10) hx hb hts inX10 tyX10 tyX10_ok nmX10 hown hk hr hS rfl 2 (by decide) (hts _ tw_866) rfl hnm rfl rfl rfl eg2 dX10_init_9 (fun H locs hr hS => ?_)
  obtain rfl := Option.some.inj hs
  exact hv_vret hx hb hrt hlk hr hS dX10_init_12
theorem dX10_isZero_0 : decode cX10_isZero 0 = .ok (.aload_n 0, 1) := by decide +kernel
theorem dX10_isZero_1 : decode cX10_isZero 1 = .ok (.getfield 15, 3) := by decide +kernel
theorem dX10_isZero_4 : decode cX10_isZero 4 = .ok (.ifCond .ne 7, 3) := by decide +kernel
theorem dX10_isZero_7 : decode cX10_isZero 7 = .ok (.iconst 1, 1) := by decide +kernel
theorem dX10_isZero_8 : decode cX10_isZero 8 = .ok (.goto 4, 3) := by decide +kernel
theorem dX10_isZero_11 : decode cX10_isZero 11 = .ok (.iconst 0, 1) := by decide +kernel
theorem dX10_isZero_12 : decode cX10_isZero 12 = .ok (.ireturn, 1) := by decide +kernel
def zs_X10_isZero (h : AH) (u0 : Nat) : Option Int32 :=
  (gI h u0 10 1).bind fun x1 => (if x1 = 0 then some ((1 : Int32)) else some ((0 : Int32)))
set_option maxRecDepth 100000 in
set_option maxHeartbeats 4000000 in
theorem zm_X10_isZero (l : Launch) (D : hG) (z : Nat) {h : AH} {u0 : Nat} {r : Int32} (hs : zs_X10_isZero h u0 = some r) : hC l D z yX10_isZero cX10_isZero 1 (Option.some Jvm.ClassFile.FieldType.boolean) 0 0 0 0 [.ref u0] h h (some (.int r)) := by
  refine hC_of (by decide) (Nat.le_of_ble_eq_true rfl) ?_
  intro p e s m below meth c hx hb hml hrt hlk hown hnm hts hk hr hz ls hl
  replace hown : s.vm.findClass RX10 = some m.cls := hown
  replace hl : lv_has ls 1 [(0, .ref u0)] := hl
  have hS : va_S (hA z) s.heap s.heap [] := va_S.rf
  suffices hgo : ∀ (H : Heap) (locs : List Loc), hR D z h H → va_S (hA z) s.heap H locs → W p l e ({ frames := 0, cells := 0, slots := 0, locals := 0 } : Room) s m ([.ref u0] : List Value).toArray below meth c H locs 0 0 (MQ below (hQ D z h (some (.int r))) ([.ref u0] : List Value).toArray s 0 0 (hA z)) (F0 m 0 ls []) from hgo _ _ hr hS
  clear hr hS
  intro H locs hr hS
  unfold zs_X10_isZero at hs
  refine lv_aload_n hx hb dX10_isZero_0 rfl (lv_at hl 0 rfl) ?_
  obtain ⟨x1, ex1, hs⟩ := bi_inv hs
  refine hv_gI (C := RX10) (T := TX10) (N := 3) (ci := 10) hx hb hts inX10 hown hk hr rfl 1 (by decide) (hts _ tw_864) ex1 dX10_isZero_1 ?_
  refine lv_if_ne (tgt := 11) hx hb dX10_isZero_4 (by decide) (fun c2 => ?_) (fun c2 => ?_)
  · rw [if_neg c2] at hs
    refine lv_iconst (v := 0) hx hb dX10_isZero_11 (by decide) ?_
    obtain rfl := Option.some.inj hs
    exact hv_zret hx hb hrt hlk hr hS (by decide) dX10_isZero_12
  · rw [if_pos c2] at hs
    refine lv_iconst (v := 1) hx hb dX10_isZero_7 (by decide) ?_
    refine lv_goto (tgt := 12) hx hb dX10_isZero_8 (by decide) ?_
    obtain rfl := Option.some.inj hs
    exact hv_zret hx hb hrt hlk hr hS (by decide) dX10_isZero_12
theorem dX10_of_0 : decode cX10_of 0 = .ok (.aload_n 0, 1) := by decide +kernel
theorem dX10_of_1 : decode cX10_of 1 = .ok (.iload_n 2, 1) := by decide +kernel
theorem dX10_of_2 : decode cX10_of 2 = .ok (.putfield 15, 3) := by decide +kernel
theorem dX10_of_5 : decode cX10_of 5 = .ok (.aload_n 0, 1) := by decide +kernel
theorem dX10_of_6 : decode cX10_of 6 = .ok (.getfield 15, 3) := by decide +kernel
theorem dX10_of_9 : decode cX10_of 9 = .ok (.ifCond .le 30, 3) := by decide +kernel
theorem dX10_of_12 : decode cX10_of 12 = .ok (.aload_n 0, 1) := by decide +kernel
theorem dX10_of_13 : decode cX10_of 13 = .ok (.getfield 9, 3) := by decide +kernel
theorem dX10_of_16 : decode cX10_of 16 = .ok (.aload_n 0, 1) := by decide +kernel
theorem dX10_of_17 : decode cX10_of 17 = .ok (.getfield 15, 3) := by decide +kernel
theorem dX10_of_20 : decode cX10_of 20 = .ok (.iconst 1, 1) := by decide +kernel
theorem dX10_of_21 : decode cX10_of 21 = .ok (.isub, 1) := by decide +kernel
theorem dX10_of_22 : decode cX10_of 22 = .ok (.iaload, 1) := by decide +kernel
theorem dX10_of_23 : decode cX10_of 23 = .ok (.ifCond .ne 16, 3) := by decide +kernel
theorem dX10_of_26 : decode cX10_of 26 = .ok (.aload_n 0, 1) := by decide +kernel
theorem dX10_of_27 : decode cX10_of 27 = .ok (.dup, 1) := by decide +kernel
theorem dX10_of_28 : decode cX10_of 28 = .ok (.getfield 15, 3) := by decide +kernel
theorem dX10_of_31 : decode cX10_of 31 = .ok (.iconst 1, 1) := by decide +kernel
theorem dX10_of_32 : decode cX10_of 32 = .ok (.isub, 1) := by decide +kernel
theorem dX10_of_33 : decode cX10_of 33 = .ok (.putfield 15, 3) := by decide +kernel
theorem dX10_of_36 : decode cX10_of 36 = .ok (.goto (-31), 3) := by decide +kernel
theorem dX10_of_39 : decode cX10_of 39 = .ok (.aload_n 0, 1) := by decide +kernel
theorem dX10_of_40 : decode cX10_of 40 = .ok (.iload_n 1, 1) := by decide +kernel
theorem dX10_of_41 : decode cX10_of 41 = .ok (.ifCond .eq 14, 3) := by decide +kernel
theorem dX10_of_44 : decode cX10_of 44 = .ok (.aload_n 0, 1) := by decide +kernel
theorem dX10_of_45 : decode cX10_of 45 = .ok (.getfield 15, 3) := by decide +kernel
theorem dX10_of_48 : decode cX10_of 48 = .ok (.ifCond .le 7, 3) := by decide +kernel
theorem dX10_of_51 : decode cX10_of 51 = .ok (.iconst 1, 1) := by decide +kernel
theorem dX10_of_52 : decode cX10_of 52 = .ok (.goto 4, 3) := by decide +kernel
theorem dX10_of_55 : decode cX10_of 55 = .ok (.iconst 0, 1) := by decide +kernel
theorem dX10_of_56 : decode cX10_of 56 = .ok (.putfield 25, 3) := by decide +kernel
theorem dX10_of_59 : decode cX10_of 59 = .ok (.aload_n 0, 1) := by decide +kernel
theorem dX10_of_60 : decode cX10_of 60 = .ok (.areturn, 1) := by decide +kernel
def zb_X10_of_5 (w0 : Nat) (w1 : Int32) (g2 : AH) : Option ((AH) ⊕ (AH)) :=
  (gI g2 w0 10 1).bind fun x3 => (if x3 ≤ 0 then some (Sum.inr g2) else (gR g2 w0 10 2).bind fun x5 => (gI g2 w0 10 1).bind fun x6 => (aI g2 x5 0 (x6 - ((1 : Int32)))).bind fun x7 => (if x7 = 0 then (gI g2 w0 10 1).bind fun x9 => (pV g2 w0 10 1 (.int (x9 - ((1 : Int32))))).bind fun g10 => some (Sum.inl g10) else some (Sum.inr g2)))
def zj_X10_of_56 (g13 : AH) (y0_56 : Nat) (t0_56 : Int32) (t1_56 : Nat) : Option (Nat × AH) :=
  (zk t0_56).bind fun _ => (pV g13 t1_56 10 0 (.int t0_56)).bind fun g15 => some (y0_56, g15)
def zs_X10_of (h : AH) (u0 : Nat) (u1 : Int32) (u2 : Int32) : Option (Nat × AH) :=
  (pV h u0 10 1 (.int u2)).bind fun g1 => (iter (fun q : AH => zb_X10_of_5 u0 u1 q) FU g1).bind fun r11 => (if u1 = 0 then zj_X10_of_56 r11 u0 ((0 : Int32)) u0 else (gI r11 u0 10 1).bind fun x16 => (if x16 ≤ 0 then zj_X10_of_56 r11 u0 ((0 : Int32)) u0 else zj_X10_of_56 r11 u0 ((1 : Int32)) u0))
set_option maxRecDepth 100000 in
set_option maxHeartbeats 4000000 in
theorem zm_X10_of (l : Launch) (D : hG) (z : Nat) {h : AH} {u0 : Nat} {u1 : Int32} {u2 : Int32} {r : Nat} {h' : AH} (hs : zs_X10_of h u0 u1 u2 = some (r, h')) : hC l D z yX10_of cX10_of 3 (Option.some (Jvm.ClassFile.FieldType.object "WideWholesModel$Whole")) 0 0 0 0 [.ref u0, .int u1, .int u2] h h' (some (.ref r)) := by
  refine hC_of (by decide) (Nat.le_of_ble_eq_true rfl) ?_
  intro p e s m below meth c hx hb hml hrt hlk hown hnm hts hk hr hz ls hl
  replace hown : s.vm.findClass RX10 = some m.cls := hown
  replace hl : lv_has ls 3 [(0, .ref u0), (1, .int u1), (2, .int u2)] := hl
  have hS : va_S (hA z) s.heap s.heap [] := va_S.rf
  suffices hgo : ∀ (H : Heap) (locs : List Loc), hR D z h H → va_S (hA z) s.heap H locs → W p l e ({ frames := 0, cells := 0, slots := 0, locals := 0 } : Room) s m ([.ref u0, .int u1, .int u2] : List Value).toArray below meth c H locs 0 0 (MQ below (hQ D z h' (some (.ref r))) ([.ref u0, .int u1, .int u2] : List Value).toArray s 0 0 (hA z)) (F0 m 0 ls []) from hgo _ _ hr hS
  clear hr hS
  intro H locs hr hS
  have hJ56 : ∀ (g13 : AH) (y0_56 : Nat) (t0_56 : Int32) (t1_56 : Nat) (H : Heap) (locs : List Loc) (ls : Array Slot), zj_X10_of_56 g13 y0_56 t0_56 t1_56 = some (r, h') → hR D z g13 H → va_S (hA z) s.heap H locs → lv_has ls 3 [(0, .ref y0_56)] → W p l e ({ frames := 0, cells := 0, slots := 0, locals := 0 } : Room) s m ([.ref u0, .int u1, .int u2] : List Value).toArray below meth c H locs 0 0 (MQ below (hQ D z h' (some (.ref r))) ([.ref u0, .int u1, .int u2] : List Value).toArray s 0 0 (hA z)) (F0 m 56 ls [.int t0_56, .ref t1_56]) := by
    intro g13 y0_56 t0_56 t1_56 H locs ls hs hr hS hl
    unfold zj_X10_of_56 at hs
    obtain ⟨_, ex14, hs⟩ := bi_inv hs
    obtain ⟨g15, eg15, hs⟩ := bi_inv hs
    refine hv_pV (C := RX10) (T := TX10) (N := 3) (ci := 10) hx hb hts inX10 tyX10 tyX10_ok nmX10 hown hk hr hS rfl 0 (by decide) (hts _ tw_862) rfl (zk_n (zk_inv ex14)) (zk_f (zk_inv ex14)) eg15 dX10_of_56 (fun H locs hr hS => ?_)
    refine lv_aload_n hx hb dX10_of_59 rfl (lv_at hl 0 rfl) ?_
    obtain ⟨rfl, rfl⟩ := Prod.mk.inj (Option.some.inj hs)
    exact hv_aret hx hb hrt (by first | exact Or.inl ⟨_, rfl⟩ | exact Or.inr ⟨_, rfl⟩) hlk hr hS dX10_of_60
  unfold zs_X10_of at hs
  refine lv_aload_n hx hb dX10_of_0 rfl (lv_at hl 0 rfl) ?_
  refine lv_iload_n hx hb dX10_of_1 rfl (lv_at hl 2 rfl) ?_
  obtain ⟨g1, eg1, hs⟩ := bi_inv hs
  refine hv_pV (C := RX10) (T := TX10) (N := 3) (ci := 10) hx hb hts inX10 tyX10 tyX10_ok nmX10 hown hk hr hS rfl 1 (by decide) (hts _ tw_864) rfl rfl rfl eg1 dX10_of_2 (fun H locs hr hS => ?_)
  obtain ⟨r11, er11, hs⟩ := bi_inv hs
  refine iter_W (fun (q : AH) => ∀ (H : Heap) (locs : List Loc) (ls : Array Slot), hR D z q H → va_S (hA z) s.heap H locs → lv_has ls 3 [(0, .ref u0), (1, .int u1)] → W p l e ({ frames := 0, cells := 0, slots := 0, locals := 0 } : Room) s m ([.ref u0, .int u1, .int u2] : List Value).toArray below meth c H locs 0 0 (MQ below (hQ D z h' (some (.ref r))) ([.ref u0, .int u1, .int u2] : List Value).toArray s 0 0 (hA z)) (F0 m 5 ls [])) (fun (x : AH) => ∀ (H : Heap) (locs : List Loc) (ls : Array Slot), hR D z x H → va_S (hA z) s.heap H locs → lv_has ls 3 [(0, .ref u0), (1, .int u1)] → W p l e ({ frames := 0, cells := 0, slots := 0, locals := 0 } : Room) s m ([.ref u0, .int u1, .int u2] : List Value).toArray below meth c H locs 0 0 (MQ below (hQ D z h' (some (.ref r))) ([.ref u0, .int u1, .int u2] : List Value).toArray s 0 0 (hA z)) (F0 m 39 ls [])) ?_ FU _ r11 er11 ?_ H locs ls hr hS (lv_sub hl [0, 1] rfl)
  · intro q o hs hcont hexit
    obtain ⟨g2, rfl⟩ : ∃ q2, q2 = q := ⟨_, rfl⟩
    replace hs : zb_X10_of_5 u0 u1 g2 = some o := hs
    intro H locs ls hr hS hl
    unfold zb_X10_of_5 at hs
    refine lv_aload_n hx hb dX10_of_5 rfl (lv_at hl 0 rfl) ?_
    obtain ⟨x3, ex3, hs⟩ := bi_inv hs
    refine hv_gI (C := RX10) (T := TX10) (N := 3) (ci := 10) hx hb hts inX10 hown hk hr rfl 1 (by decide) (hts _ tw_864) ex3 dX10_of_6 ?_
    refine lv_if_le (tgt := 39) hx hb dX10_of_9 (by decide) (fun c4 => ?_) (fun c4 => ?_)
    · rw [if_pos c4] at hs
      obtain rfl := Option.some.inj hs
      exact hexit _ rfl H locs ls hr hS (lv_sub hl [0, 1] rfl)
    · rw [if_neg c4] at hs
      refine lv_aload_n hx hb dX10_of_12 rfl (lv_at hl 0 rfl) ?_
      obtain ⟨x5, ex5, hs⟩ := bi_inv hs
      refine hv_gR (C := RX10) (T := TX10) (N := 3) (ci := 10) hx hb hts inX10 hown hk hr rfl 2 (by decide) (hts _ tw_866) ex5 dX10_of_13 ?_
      refine lv_aload_n hx hb dX10_of_16 rfl (lv_at hl 0 rfl) ?_
      obtain ⟨x6, ex6, hs⟩ := bi_inv hs
      refine hv_gI (C := RX10) (T := TX10) (N := 3) (ci := 10) hx hb hts inX10 hown hk hr rfl 1 (by decide) (hts _ tw_864) ex6 dX10_of_17 ?_
      refine lv_iconst (v := 1) hx hb dX10_of_20 (by decide) ?_
      refine lv_isub hx hb dX10_of_21 ?_
      obtain ⟨x7, ex7, hs⟩ := bi_inv hs
      refine hv_aI hx hb hk hr ex7 dX10_of_22 ?_
      refine lv_if_ne (tgt := 39) hx hb dX10_of_23 (by decide) (fun c8 => ?_) (fun c8 => ?_)
      · rw [if_neg c8] at hs
        obtain rfl := Option.some.inj hs
        exact hexit _ rfl H locs ls hr hS (lv_sub hl [0, 1] rfl)
      · rw [if_pos c8] at hs
        refine lv_aload_n hx hb dX10_of_26 rfl (lv_at hl 0 rfl) ?_
        refine lv_dup hx hb dX10_of_27 rfl ?_
        obtain ⟨x9, ex9, hs⟩ := bi_inv hs
        refine hv_gI (C := RX10) (T := TX10) (N := 3) (ci := 10) hx hb hts inX10 hown hk hr rfl 1 (by decide) (hts _ tw_864) ex9 dX10_of_28 ?_
        refine lv_iconst (v := 1) hx hb dX10_of_31 (by decide) ?_
        refine lv_isub hx hb dX10_of_32 ?_
        obtain ⟨g10, eg10, hs⟩ := bi_inv hs
        refine hv_pV (C := RX10) (T := TX10) (N := 3) (ci := 10) hx hb hts inX10 tyX10 tyX10_ok nmX10 hown hk hr hS rfl 1 (by decide) (hts _ tw_864) rfl rfl rfl eg10 dX10_of_33 (fun H locs hr hS => ?_)
        refine lv_goto (tgt := 5) hx hb dX10_of_36 (by decide) ?_
        obtain rfl := Option.some.inj hs
        exact hcont _ rfl H locs ls hr hS (lv_sub hl [0, 1] rfl)
  · intro H locs ls hr hS hl
    refine lv_aload_n hx hb dX10_of_39 rfl (lv_at hl 0 rfl) ?_
    refine lv_iload_n hx hb dX10_of_40 rfl (lv_at hl 1 rfl) ?_
    refine lv_if_eq (tgt := 55) hx hb dX10_of_41 (by decide) (fun c12 => ?_) (fun c12 => ?_)
    · rw [if_pos c12] at hs
      refine lv_iconst (v := 0) hx hb dX10_of_55 (by decide) ?_
      exact hJ56 r11 u0 ((0 : Int32)) u0 H locs ls hs hr hS (lv_sub hl [0] rfl)
    · rw [if_neg c12] at hs
      refine lv_aload_n hx hb dX10_of_44 rfl (lv_at hl 0 rfl) ?_
      obtain ⟨x16, ex16, hs⟩ := bi_inv hs
      refine hv_gI (C := RX10) (T := TX10) (N := 3) (ci := 10) hx hb hts inX10 hown hk hr rfl 1 (by decide) (hts _ tw_864) ex16 dX10_of_45 ?_
      refine lv_if_le (tgt := 55) hx hb dX10_of_48 (by decide) (fun c17 => ?_) (fun c17 => ?_)
      · rw [if_pos c17] at hs
        refine lv_iconst (v := 0) hx hb dX10_of_55 (by decide) ?_
        exact hJ56 r11 u0 ((0 : Int32)) u0 H locs ls hs hr hS (lv_sub hl [0] rfl)
      · rw [if_neg c17] at hs
        refine lv_iconst (v := 1) hx hb dX10_of_51 (by decide) ?_
        refine lv_goto (tgt := 56) hx hb dX10_of_52 (by decide) ?_
        exact hJ56 r11 u0 ((1 : Int32)) u0 H locs ls hs hr hS (lv_sub hl [0] rfl)
