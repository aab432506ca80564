theorem dX1_smallDivisor_0 : decode cX1_smallDivisor 0 = .ok (.lload_n 0, 1) := by decide +kernel
theorem dX1_smallDivisor_1 : decode cX1_smallDivisor 1 = .ok (.lstore 4, 2) := by decide +kernel
theorem dX1_smallDivisor_3 : decode cX1_smallDivisor 3 = .ok (.lload_n 2, 1) := by decide +kernel
theorem dX1_smallDivisor_4 : decode cX1_smallDivisor 4 = .ok (.lstore 6, 2) := by decide +kernel
theorem dX1_smallDivisor_6 : decode cX1_smallDivisor 6 = .ok (.iconst 0, 1) := by decide +kernel
theorem dX1_smallDivisor_7 : decode cX1_smallDivisor 7 = .ok (.istore 8, 2) := by decide +kernel
theorem dX1_smallDivisor_9 : decode cX1_smallDivisor 9 = .ok (.iload 8, 2) := by decide +kernel
theorem dX1_smallDivisor_11 : decode cX1_smallDivisor 11 = .ok (.bipush 36, 2) := by decide +kernel
theorem dX1_smallDivisor_13 : decode cX1_smallDivisor 13 = .ok (.if_icmp .ge 31, 3) := by decide +kernel
theorem dX1_smallDivisor_16 : decode cX1_smallDivisor 16 = .ok (.lload 6, 2) := by decide +kernel
theorem dX1_smallDivisor_18 : decode cX1_smallDivisor 18 = .ok (.lconst 0, 1) := by decide +kernel
theorem dX1_smallDivisor_19 : decode cX1_smallDivisor 19 = .ok (.lcmp, 1) := by decide +kernel
theorem dX1_smallDivisor_20 : decode cX1_smallDivisor 20 = .ok (.ifCond .le 24, 3) := by decide +kernel
theorem dX1_smallDivisor_23 : decode cX1_smallDivisor 23 = .ok (.lload 4, 2) := by decide +kernel
theorem dX1_smallDivisor_25 : decode cX1_smallDivisor 25 = .ok (.lload 6, 2) := by decide +kernel
theorem dX1_smallDivisor_27 : decode cX1_smallDivisor 27 = .ok (.lrem, 1) := by decide +kernel
theorem dX1_smallDivisor_28 : decode cX1_smallDivisor 28 = .ok (.lstore 9, 2) := by decide +kernel
theorem dX1_smallDivisor_30 : decode cX1_smallDivisor 30 = .ok (.lload 6, 2) := by decide +kernel
theorem dX1_smallDivisor_32 : decode cX1_smallDivisor 32 = .ok (.lstore 4, 2) := by decide +kernel
theorem dX1_smallDivisor_34 : decode cX1_smallDivisor 34 = .ok (.lload 9, 2) := by decide +kernel
theorem dX1_smallDivisor_36 : decode cX1_smallDivisor 36 = .ok (.lstore 6, 2) := by decide +kernel
theorem dX1_smallDivisor_38 : decode cX1_smallDivisor 38 = .ok (.iinc 8 1, 3) := by decide +kernel
theorem dX1_smallDivisor_41 : decode cX1_smallDivisor 41 = .ok (.goto (-32), 3) := by decide +kernel
theorem dX1_smallDivisor_44 : decode cX1_smallDivisor 44 = .ok (.lload 4, 2) := by decide +kernel
theorem dX1_smallDivisor_46 : decode cX1_smallDivisor 46 = .ok (.lreturn, 1) := by decide +kernel
def zb_X1_smallDivisor_9 (h : AH) (w4 : Int64) (w6 : Int64) (w8 : Int32) : Option ((Int64 × Int64 × Int32) ⊕ (Int64)) :=
  (if (36 : Int32) ≤ w8 then some (Sum.inr w4) else (if w6 ≤ (0 : Int64) then some (Sum.inr w4) else (nzl w6).bind fun _ => lt_ (w4 - w4 / w6 * w6) fun x4 => some (Sum.inl ((w6, x4, w8 + (1 : Int32))))))
def zs_X1_smallDivisor (h : AH) (u0 : Int64) (u2 : Int64) : Option Int64 :=
  (iter (fun q : Int64 × Int64 × Int32 => zb_X1_smallDivisor_9 h q.1 q.2.1 q.2.2) FU ((u0, u2, (0 : Int32)))).bind fun r5 => some r5
set_option maxRecDepth 100000 in
set_option maxHeartbeats 4000000 in
theorem zm_X1_smallDivisor (l : Launch) (D : hG) (z : Nat) {h : AH} {u0 : Int64} {u2 : Int64} {r : Int64} (hs : zs_X1_smallDivisor h u0 u2 = some r) : hC l D z yX1_smallDivisor cX1_smallDivisor 11 (Option.some Jvm.ClassFile.FieldType.long) 0 0 0 0 [.long u0, .long u2] h h (some (.long r)) := by
  refine hC_of (by decide) (Nat.le_of_ble_eq_true rfl) ?_
  intro p e s m below meth c hx hb hml hrt hlk hown hnm hts hk hr hz ls hl
  replace hown : s.vm.findClass RX1 = some m.cls := hown
  replace hl : lv_has ls 11 [(0, .long u0), (2, .long u2)] := hl
  have hS : va_S (hA z) s.heap s.heap [] := va_S.rf
  suffices hgo : ∀ (H : Heap) (locs : List Loc), hR D z h H → va_S (hA z) s.heap H locs → W p l e ({ frames := 0, cells := 0, slots := 0, locals := 0 } : Room) s m ([.long u0, .long u2] : List Value).toArray below meth c H locs 0 0 (MQ below (hQ D z h (some (.long r))) ([.long u0, .long u2] : List Value).toArray s 0 0 (hA z)) (F0 m 0 ls []) from hgo _ _ hr hS
  clear hr hS
  intro H locs hr hS
  unfold zs_X1_smallDivisor at hs
  refine lv_lload_n hx hb dX1_smallDivisor_0 rfl (lv_at hl 0 rfl) ?_
  refine lv_lstore (lv' := [(4, .long u0), (0, .long u0), (2, .long u2)]) hx hb dX1_smallDivisor_1 hl (by decide) rfl (fun ls hl => ?_)
  refine lv_lload_n hx hb dX1_smallDivisor_3 rfl (lv_at hl 2 rfl) ?_
  refine lv_lstore (lv' := [(6, .long u2), (4, .long u0), (0, .long u0), (2, .long u2)]) hx hb dX1_smallDivisor_4 hl (by decide) rfl (fun ls hl => ?_)
  refine lv_iconst (v := 0) hx hb dX1_smallDivisor_6 (by decide) ?_
  refine lv_istore (lv' := [(8, .int ((0 : Int32))), (6, .long u2), (4, .long u0), (0, .long u0), (2, .long u2)]) hx hb dX1_smallDivisor_7 hl (by decide) rfl (fun ls hl => ?_)
  obtain ⟨r5, er5, hs⟩ := bi_inv hs
  refine iter_W (fun (q : Int64 × Int64 × Int32) => ∀ (H : Heap) (locs : List Loc) (ls : Array Slot), hR D z h H → va_S (hA z) s.heap H locs → lv_has ls 11 [(4, .long q.1), (6, .long q.2.1), (8, .int q.2.2)] → W p l e ({ frames := 0, cells := 0, slots := 0, locals := 0 } : Room) s m ([.long u0, .long u2] : List Value).toArray below meth c H locs 0 0 (MQ below (hQ D z h (some (.long r))) ([.long u0, .long u2] : List Value).toArray s 0 0 (hA z)) (F0 m 9 ls [])) (fun (x : Int64) => ∀ (H : Heap) (locs : List Loc) (ls : Array Slot), hR D z h H → va_S (hA z) s.heap H locs → lv_has ls 11 [(4, .long x)] → W p l e ({ frames := 0, cells := 0, slots := 0, locals := 0 } : Room) s m ([.long u0, .long u2] : List Value).toArray below meth c H locs 0 0 (MQ below (hQ D z h (some (.long r))) ([.long u0, .long u2] : List Value).toArray s 0 0 (hA z)) (F0 m 44 ls [])) ?_ FU _ r5 er5 ?_ H locs ls hr hS (lv_sub hl [2, 1, 0] rfl)
  · intro q o hs hcont hexit
    obtain ⟨w4, w6, w8⟩ := q
    replace hs : zb_X1_smallDivisor_9 h w4 w6 w8 = some o := hs
    intro H locs ls hr hS hl
    unfold zb_X1_smallDivisor_9 at hs
    refine lv_iload hx hb dX1_smallDivisor_9 (lv_at hl 2 rfl) ?_
    refine lv_bipush (v := 36) hx hb dX1_smallDivisor_11 (by decide) ?_
    refine lv_icmp_ge (tgt := 44) hx hb dX1_smallDivisor_13 (by decide) (fun c1 => ?_) (fun c1 => ?_)
    · rw [if_pos c1] at hs
      obtain rfl := Option.some.inj hs
      exact hexit _ rfl H locs ls hr hS (lv_sub hl [0] rfl)
    · rw [if_neg c1] at hs
      refine lv_lload hx hb dX1_smallDivisor_16 (lv_at hl 1 rfl) ?_
      refine lv_lconst (v := 0) hx hb dX1_smallDivisor_18 (by decide) ?_
      refine hv_lc_le (tgt := 44) hx hb dX1_smallDivisor_19 dX1_smallDivisor_20 (by decide) (fun c2 => ?_) (fun c2 => ?_)
      · rw [if_pos c2] at hs
        obtain rfl := Option.some.inj hs
        exact hexit _ rfl H locs ls hr hS (lv_sub hl [0] rfl)
      · rw [if_neg c2] at hs
        refine lv_lload hx hb dX1_smallDivisor_23 (lv_at hl 0 rfl) ?_
        refine lv_lload hx hb dX1_smallDivisor_25 (lv_at hl 1 rfl) ?_
        obtain ⟨_, ex3, hs⟩ := bi_inv hs
        refine lv_lrem hx hb dX1_smallDivisor_27 (nzl_inv ex3) ?_
        refine lv_topl (fun x4 ex4 => ?_)
        replace hs := lt_inv hs x4 ex4
        refine lv_lstore (lv' := [(9, .long x4), (4, .long w4), (6, .long w6), (8, .int w8)]) hx hb dX1_smallDivisor_28 hl (by decide) rfl (fun ls hl => ?_)
        refine lv_lload hx hb dX1_smallDivisor_30 (lv_at hl 2 rfl) ?_
        refine lv_lstore (lv' := [(4, .long w6), (9, .long x4), (6, .long w6), (8, .int w8)]) hx hb dX1_smallDivisor_32 hl (by decide) rfl (fun ls hl => ?_)
        refine lv_lload hx hb dX1_smallDivisor_34 (lv_at hl 1 rfl) ?_
        refine lv_lstore (lv' := [(6, .long x4), (4, .long w6), (9, .long x4), (8, .int w8)]) hx hb dX1_smallDivisor_36 hl (by decide) rfl (fun ls hl => ?_)
        refine lv_iinc (v := w8 + (1 : Int32)) (lv' := [(8, .int (w8 + (1 : Int32))), (6, .long x4), (4, .long w6), (9, .long x4)]) hx hb dX1_smallDivisor_38 hl (k := 3) rfl (ii_v _ (by decide)) (by decide) rfl (fun ls hl => ?_)
        refine lv_goto (tgt := 9) hx hb dX1_smallDivisor_41 (by decide) ?_
        obtain rfl := Option.some.inj hs
        exact hcont _ rfl H locs ls hr hS (lv_sub hl [2, 1, 0] rfl)
  · intro H locs ls hr hS hl
    refine lv_lload hx hb dX1_smallDivisor_44 (lv_at hl 0 rfl) ?_
    obtain rfl := Option.some.inj hs
    exact hv_lret hx hb hrt hlk hr hS dX1_smallDivisor_46
theorem dX1_countAhead_0 : decode cX1_countAhead 0 = .ok (.aload_n 0, 1) := by decide +kernel
theorem dX1_countAhead_1 : decode cX1_countAhead 1 = .ok (.getfield 39, 3) := by decide +kernel
theorem dX1_countAhead_4 : decode cX1_countAhead 4 = .ok (.aload_n 1, 1) := by decide +kernel
theorem dX1_countAhead_5 : decode cX1_countAhead 5 = .ok (.invokevirtual 61, 3) := by decide +kernel
theorem dX1_countAhead_8 : decode cX1_countAhead 8 = .ok (.iconst 0, 1) := by decide +kernel
theorem dX1_countAhead_9 : decode cX1_countAhead 9 = .ok (.istore_n 3, 1) := by decide +kernel
theorem dX1_countAhead_10 : decode cX1_countAhead 10 = .ok (.iload_n 2, 1) := by decide +kernel
theorem dX1_countAhead_11 : decode cX1_countAhead 11 = .ok (.i2l, 1) := by decide +kernel
theorem dX1_countAhead_12 : decode cX1_countAhead 12 = .ok (.aload_n 0, 1) := by decide +kernel
theorem dX1_countAhead_13 : decode cX1_countAhead 13 = .ok (.getfield 39, 3) := by decide +kernel
theorem dX1_countAhead_16 : decode cX1_countAhead 16 = .ok (.iload_n 2, 1) := by decide +kernel
theorem dX1_countAhead_17 : decode cX1_countAhead 17 = .ok (.i2l, 1) := by decide +kernel
theorem dX1_countAhead_18 : decode cX1_countAhead 18 = .ok (.invokevirtual 80, 3) := by decide +kernel
theorem dX1_countAhead_21 : decode cX1_countAhead 21 = .ok (.invokestatic 84, 3) := by decide +kernel
theorem dX1_countAhead_24 : decode cX1_countAhead 24 = .ok (.lstore 4, 2) := by decide +kernel
theorem dX1_countAhead_26 : decode cX1_countAhead 26 = .ok (.lload 4, 2) := by decide +kernel
theorem dX1_countAhead_28 : decode cX1_countAhead 28 = .ok (.lconst 1, 1) := by decide +kernel
theorem dX1_countAhead_29 : decode cX1_countAhead 29 = .ok (.lcmp, 1) := by decide +kernel
theorem dX1_countAhead_30 : decode cX1_countAhead 30 = .ok (.ifCond .le 42, 3) := by decide +kernel
theorem dX1_countAhead_33 : decode cX1_countAhead 33 = .ok (.iload_n 3, 1) := by decide +kernel
theorem dX1_countAhead_34 : decode cX1_countAhead 34 = .ok (.sipush 200, 3) := by decide +kernel
theorem dX1_countAhead_37 : decode cX1_countAhead 37 = .ok (.if_icmp .gt 35, 3) := by decide +kernel
theorem dX1_countAhead_40 : decode cX1_countAhead 40 = .ok (.aload_n 0, 1) := by decide +kernel
theorem dX1_countAhead_41 : decode cX1_countAhead 41 = .ok (.getfield 39, 3) := by decide +kernel
theorem dX1_countAhead_44 : decode cX1_countAhead 44 = .ok (.lload 4, 2) := by decide +kernel
theorem dX1_countAhead_46 : decode cX1_countAhead 46 = .ok (.invokevirtual 88, 3) := by decide +kernel
theorem dX1_countAhead_49 : decode cX1_countAhead 49 = .ok (.pop2, 1) := by decide +kernel
theorem dX1_countAhead_50 : decode cX1_countAhead 50 = .ok (.iinc 3 1, 3) := by decide +kernel
theorem dX1_countAhead_53 : decode cX1_countAhead 53 = .ok (.iload_n 2, 1) := by decide +kernel
theorem dX1_countAhead_54 : decode cX1_countAhead 54 = .ok (.i2l, 1) := by decide +kernel
theorem dX1_countAhead_55 : decode cX1_countAhead 55 = .ok (.aload_n 0, 1) := by decide +kernel
theorem dX1_countAhead_56 : decode cX1_countAhead 56 = .ok (.getfield 39, 3) := by decide +kernel
theorem dX1_countAhead_59 : decode cX1_countAhead 59 = .ok (.iload_n 2, 1) := by decide +kernel
theorem dX1_countAhead_60 : decode cX1_countAhead 60 = .ok (.i2l, 1) := by decide +kernel
theorem dX1_countAhead_61 : decode cX1_countAhead 61 = .ok (.invokevirtual 80, 3) := by decide +kernel
theorem dX1_countAhead_64 : decode cX1_countAhead 64 = .ok (.invokestatic 84, 3) := by decide +kernel
theorem dX1_countAhead_67 : decode cX1_countAhead 67 = .ok (.lstore 4, 2) := by decide +kernel
theorem dX1_countAhead_69 : decode cX1_countAhead 69 = .ok (.goto (-43), 3) := by decide +kernel
theorem dX1_countAhead_72 : decode cX1_countAhead 72 = .ok (.iload_n 3, 1) := by decide +kernel
theorem dX1_countAhead_73 : decode cX1_countAhead 73 = .ok (.ireturn, 1) := by decide +kernel
def zb_X1_countAhead_26 (w0 : Nat) (w2 : Int32) (g8 : AH) (w3 : Int32) (w4 : Int64) : Option ((AH × Int32 × Int64) ⊕ ((AH × Int32))) :=
  (if w4 ≤ (1 : Int64) then some (Sum.inr ((g8, w3))) else (if (200 : Int32) < w3 then some (Sum.inr ((g8, w3))) else (gR g8 w0 1 7).bind fun x11 => (chk g8 x11 8).bind fun _ => (zs_X8_shrink g8 x11 w4).bind fun x13 => (gR x13.2 w0 1 7).bind fun x14 => (chk x13.2 x14 8).bind fun _ => (zs_X8_leftBy x13.2 x14 w2.toInt64).bind fun x16 => (zs_X1_smallDivisor x13.2 w2.toInt64 x16).bind fun x17 => some (Sum.inl ((x13.2, w3 + (1 : Int32), x17)))))
def zs_X1_countAhead (h : AH) (u0 : Nat) (u1 : Nat) (u2 : Int32) : Option (Int32 × AH) :=
  (gR h u0 1 7).bind fun x1 => (chk h x1 8).bind fun _ => (zs_X8_copy h x1 u1).bind fun g3 => (gR g3 u0 1 7).bind fun x4 => (chk g3 x4 8).bind fun _ => (zs_X8_leftBy g3 x4 u2.toInt64).bind fun x6 => (zs_X1_smallDivisor g3 u2.toInt64 x6).bind fun x7 => (iter (fun q : AH × Int32 × Int64 => zb_X1_countAhead_26 u0 u2 q.1 q.2.1 q.2.2) FU ((g3, (0 : Int32), x7))).bind fun r18 => some (r18.2, r18.1)
set_option maxRecDepth 100000 in
set_option maxHeartbeats 4000000 in
theorem zm_X1_countAhead (l : Launch) (D : hG) (z : Nat) {h : AH} {u0 : Nat} {u1 : Nat} {u2 : Int32} {r : Int32} {h' : AH} (hs : zs_X1_countAhead h u0 u1 u2 = some (r, h')) : hC l D z yX1_countAhead cX1_countAhead 6 (Option.some Jvm.ClassFile.FieldType.int) 2 54 0 0 [.ref u0, .ref u1, .int u2] h h' (some (.int r)) := by
  refine hC_of (by decide) (Nat.le_of_ble_eq_true rfl) ?_
  intro p e s m below meth c hx hb hml hrt hlk hown hnm hts hk hr hz ls hl
  replace hown : s.vm.findClass RX1 = some m.cls := hown
  replace hl : lv_has ls 6 [(0, .ref u0), (1, .ref u1), (2, .int u2)] := hl
  have hS : va_S (hA z) s.heap s.heap [] := va_S.rf
  suffices hgo : ∀ (H : Heap) (locs : List Loc), hR D z h H → va_S (hA z) s.heap H locs → W p l e ({ frames := 2, cells := 0, slots := 0, locals := 54 } : Room) s m ([.ref u0, .ref u1, .int u2] : List Value).toArray below meth c H locs 0 0 (MQ below (hQ D z h' (some (.int r))) ([.ref u0, .ref u1, .int u2] : List Value).toArray s 0 0 (hA z)) (F0 m 0 ls []) from hgo _ _ hr hS
  clear hr hS
  intro H locs hr hS
  unfold zs_X1_countAhead at hs
  refine lv_aload_n hx hb dX1_countAhead_0 rfl (lv_at hl 0 rfl) ?_
  obtain ⟨x1, ex1, hs⟩ := bi_inv hs
  refine hv_gR (C := RX1) (T := TX1) (N := 8) (ci := 1) hx hb hts inX1 hown hk hr rfl 7 (by decide) (hts _ tw_246) ex1 dX1_countAhead_1 ?_
  refine lv_aload_n hx hb dX1_countAhead_4 rfl (lv_at hl 1 rfl) ?_
  obtain ⟨_, ex2, hs⟩ := bi_inv hs
  obtain ⟨g3, eg3, hs⟩ := bi_inv hs
  refine hv_V0 (n := 1) [.ref u1] [] hx hb hml hown hts hk hr hz hS (zm_X8_copy l D z eg3) ex2 rfl tw_745 tw_373 tw_374 tw_2 tw_375 (by decide +kernel) (by decide) ⟨(Nat.zero_le _), (Nat.zero_le _)⟩ rfl hl.1 (Nat.le_of_ble_eq_true rfl) dX1_countAhead_5 rfl (fun H locs hr hS => ?_)
  refine lv_iconst (v := 0) hx hb dX1_countAhead_8 (by decide) ?_
  refine lv_istore_n (lv' := [(3, .int ((0 : Int32))), (0, .ref u0), (1, .ref u1), (2, .int u2)]) hx hb dX1_countAhead_9 rfl hl (by decide) rfl (fun ls hl => ?_)
  refine lv_iload_n hx hb dX1_countAhead_10 rfl (lv_at hl 3 rfl) ?_
  refine lv_i2l hx hb dX1_countAhead_11 rfl ?_
  refine lv_aload_n hx hb dX1_countAhead_12 rfl (lv_at hl 1 rfl) ?_
  obtain ⟨x4, ex4, hs⟩ := bi_inv hs
  refine hv_gR (C := RX1) (T := TX1) (N := 8) (ci := 1) hx hb hts inX1 hown hk hr rfl 7 (by decide) (hts _ tw_246) ex4 dX1_countAhead_13 ?_
  refine lv_iload_n hx hb dX1_countAhead_16 rfl (lv_at hl 3 rfl) ?_
  refine lv_i2l hx hb dX1_countAhead_17 rfl ?_
  obtain ⟨_, ex5, hs⟩ := bi_inv hs
  obtain ⟨x6, ex6, hs⟩ := bi_inv hs
  refine hv_V1 (n := 1) [.long u2.toInt64] [.long u2.toInt64] hx hb hml hown hts hk hr hz hS (zm_X8_leftBy l D z ex6) ex5 rfl tw_746 tw_747 tw_748 tw_2 tw_749 (by decide +kernel) (by decide) ⟨(Nat.zero_le _), (Nat.zero_le _)⟩ rfl hl.1 (Nat.le_of_ble_eq_true rfl) dX1_countAhead_18 rfl (fun H locs hr hS => ?_)
  obtain ⟨x7, ex7, hs⟩ := bi_inv hs
  refine hv_S1 (n := 2) [.long u2.toInt64, .long x6] [] hx hb hml hown hts hk hr hz hS (zm_X1_smallDivisor l D z ex7) tw_750 tw_751 tw_9 tw_752 (by decide +kernel) (by decide) ⟨(Nat.zero_le _), (Nat.zero_le _)⟩ rfl hl.1 (Nat.le_of_ble_eq_true rfl) dX1_countAhead_21 rfl (fun H locs hr hS => ?_)
  refine lv_lstore (lv' := [(4, .long x7), (3, .int ((0 : Int32))), (0, .ref u0), (1, .ref u1), (2, .int u2)]) hx hb dX1_countAhead_24 hl (by decide) rfl (fun ls hl => ?_)
  obtain ⟨r18, er18, hs⟩ := bi_inv hs
  refine iter_W (fun (q : AH × Int32 × Int64) => ∀ (H : Heap) (locs : List Loc) (ls : Array Slot), hR D z q.1 H → va_S (hA z) s.heap H locs → lv_has ls 6 [(0, .ref u0), (2, .int u2), (3, .int q.2.1), (4, .long q.2.2)] → W p l e ({ frames := 2, cells := 0, slots := 0, locals := 54 } : Room) s m ([.ref u0, .ref u1, .int u2] : List Value).toArray below meth c H locs 0 0 (MQ below (hQ D z h' (some (.int r))) ([.ref u0, .ref u1, .int u2] : List Value).toArray s 0 0 (hA z)) (F0 m 26 ls [])) (fun (x : (AH × Int32)) => ∀ (H : Heap) (locs : List Loc) (ls : Array Slot), hR D z x.1 H → va_S (hA z) s.heap H locs → lv_has ls 6 [(3, .int x.2)] → W p l e ({ frames := 2, cells := 0, slots := 0, locals := 54 } : Room) s m ([.ref u0, .ref u1, .int u2] : List Value).toArray below meth c H locs 0 0 (MQ below (hQ D z h' (some (.int r))) ([.ref u0, .ref u1, .int u2] : List Value).toArray s 0 0 (hA z)) (F0 m 72 ls [])) ?_ FU _ r18 er18 ?_ H locs ls hr hS (lv_sub hl [2, 4, 1, 0] rfl)
  · intro q o hs hcont hexit
    obtain ⟨g8, w3, w4⟩ := q
    replace hs : zb_X1_countAhead_26 u0 u2 g8 w3 w4 = some o := hs
    intro H locs ls hr hS hl
    unfold zb_X1_countAhead_26 at hs
    refine lv_lload hx hb dX1_countAhead_26 (lv_at hl 3 rfl) ?_
    refine lv_lconst (v := 1) hx hb dX1_countAhead_28 (by decide) ?_
    refine hv_lc_le (tgt := 72) hx hb dX1_countAhead_29 dX1_countAhead_30 (by decide) (fun c9 => ?_) (fun c9 => ?_)
    · rw [if_pos c9] at hs
      obtain rfl := Option.some.inj hs
      exact hexit _ rfl H locs ls hr hS (lv_sub hl [2] rfl)
    · rw [if_neg c9] at hs
      refine lv_iload_n hx hb dX1_countAhead_33 rfl (lv_at hl 2 rfl) ?_
      refine lv_sipush (v := 200) hx hb dX1_countAhead_34 (by decide) ?_
      refine lv_icmp_gt (tgt := 72) hx hb dX1_countAhead_37 (by decide) (fun c10 => ?_) (fun c10 => ?_)
      · rw [if_pos c10] at hs
        obtain rfl := Option.some.inj hs
        exact hexit _ rfl H locs ls hr hS (lv_sub hl [2] rfl)
      · rw [if_neg c10] at hs
        refine lv_aload_n hx hb dX1_countAhead_40 rfl (lv_at hl 0 rfl) ?_
        obtain ⟨x11, ex11, hs⟩ := bi_inv hs
        refine hv_gR (C := RX1) (T := TX1) (N := 8) (ci := 1) hx hb hts inX1 hown hk hr rfl 7 (by decide) (hts _ tw_246) ex11 dX1_countAhead_41 ?_
        refine lv_lload hx hb dX1_countAhead_44 (lv_at hl 3 rfl) ?_
        obtain ⟨_, ex12, hs⟩ := bi_inv hs
        obtain ⟨x13, ex13, hs⟩ := bi_inv hs
        refine hv_V1 (n := 1) [.long w4] [] hx hb hml hown hts hk hr hz hS (zm_X8_shrink l D z ex13) ex12 rfl tw_753 tw_386 tw_387 tw_2 tw_388 (by decide +kernel) (by decide) ⟨(Nat.zero_le _), (Nat.zero_le _)⟩ rfl hl.1 (Nat.le_of_ble_eq_true rfl) dX1_countAhead_46 rfl (fun H locs hr hS => ?_)
        refine lv_pop2_2 hx hb dX1_countAhead_49 rfl ?_
        refine lv_iinc (v := w3 + (1 : Int32)) (lv' := [(3, .int (w3 + (1 : Int32))), (0, .ref u0), (2, .int u2), (4, .long w4)]) hx hb dX1_countAhead_50 hl (k := 2) rfl (ii_v _ (by decide)) (by decide) rfl (fun ls hl => ?_)
        refine lv_iload_n hx hb dX1_countAhead_53 rfl (lv_at hl 2 rfl) ?_
        refine lv_i2l hx hb dX1_countAhead_54 rfl ?_
        refine lv_aload_n hx hb dX1_countAhead_55 rfl (lv_at hl 1 rfl) ?_
        obtain ⟨x14, ex14, hs⟩ := bi_inv hs
        refine hv_gR (C := RX1) (T := TX1) (N := 8) (ci := 1) hx hb hts inX1 hown hk hr rfl 7 (by decide) (hts _ tw_246) ex14 dX1_countAhead_56 ?_
        refine lv_iload_n hx hb dX1_countAhead_59 rfl (lv_at hl 2 rfl) ?_
        refine lv_i2l hx hb dX1_countAhead_60 rfl ?_
        obtain ⟨_, ex15, hs⟩ := bi_inv hs
        obtain ⟨x16, ex16, hs⟩ := bi_inv hs
        refine hv_V1 (n := 1) [.long u2.toInt64] [.long u2.toInt64] hx hb hml hown hts hk hr hz hS (zm_X8_leftBy l D z ex16) ex15 rfl tw_746 tw_747 tw_748 tw_2 tw_749 (by decide +kernel) (by decide) ⟨(Nat.zero_le _), (Nat.zero_le _)⟩ rfl hl.1 (Nat.le_of_ble_eq_true rfl) dX1_countAhead_61 rfl (fun H locs hr hS => ?_)
        obtain ⟨x17, ex17, hs⟩ := bi_inv hs
        refine hv_S1 (n := 2) [.long u2.toInt64, .long x16] [] hx hb hml hown hts hk hr hz hS (zm_X1_smallDivisor l D z ex17) tw_750 tw_751 tw_9 tw_752 (by decide +kernel) (by decide) ⟨(Nat.zero_le _), (Nat.zero_le _)⟩ rfl hl.1 (Nat.le_of_ble_eq_true rfl) dX1_countAhead_64 rfl (fun H locs hr hS => ?_)
        refine lv_lstore (lv' := [(4, .long x17), (3, .int (w3 + (1 : Int32))), (0, .ref u0), (2, .int u2)]) hx hb dX1_countAhead_67 hl (by decide) rfl (fun ls hl => ?_)
        refine lv_goto (tgt := 26) hx hb dX1_countAhead_69 (by decide) ?_
        obtain rfl := Option.some.inj hs
        exact hcont _ rfl H locs ls hr hS (lv_sub hl [2, 3, 1, 0] rfl)
  · intro H locs ls hr hS hl
    refine lv_iload_n hx hb dX1_countAhead_72 rfl (lv_at hl 0 rfl) ?_
    obtain ⟨rfl, rfl⟩ := Prod.mk.inj (Option.some.inj hs)
    exact hv_iret hx hb hrt hlk hr hS dX1_countAhead_73
theorem dX1_init_0 : decode cX1_init 0 = .ok (.aload_n 0, 1) := by decide +kernel
theorem dX1_init_1 : decode cX1_init 1 = .ok (.invokespecial 3, 3) := by decide +kernel
theorem dX1_init_4 : decode cX1_init 4 = .ok (.aload_n 0, 1) := by decide +kernel
theorem dX1_init_5 : decode cX1_init 5 = .ok (.aload_n 1, 1) := by decide +kernel
theorem dX1_init_6 : decode cX1_init 6 = .ok (.putfield 9, 3) := by decide +kernel
theorem dX1_init_9 : decode cX1_init 9 = .ok (.aload_n 0, 1) := by decide +kernel
theorem dX1_init_10 : decode cX1_init 10 = .ok (.iconst 0, 1) := by decide +kernel
theorem dX1_init_11 : decode cX1_init 11 = .ok (.putfield 15, 3) := by decide +kernel
theorem dX1_init_14 : decode cX1_init 14 = .ok (.aload_n 0, 1) := by decide +kernel
theorem dX1_init_15 : decode cX1_init 15 = .ok (.iconst 0, 1) := by decide +kernel
theorem dX1_init_16 : decode cX1_init 16 = .ok (.putfield 19, 3) := by decide +kernel
theorem dX1_init_19 : decode cX1_init 19 = .ok (.aload_n 0, 1) := by decide +kernel
theorem dX1_init_20 : decode cX1_init 20 = .ok (.sipush 200, 3) := by decide +kernel
theorem dX1_init_23 : decode cX1_init 23 = .ok (.newarray .int, 2) := by decide +kernel
theorem dX1_init_25 : decode cX1_init 25 = .ok (.putfield 22, 3) := by decide +kernel
theorem dX1_init_28 : decode cX1_init 28 = .ok (.aload_n 0, 1) := by decide +kernel
theorem dX1_init_29 : decode cX1_init 29 = .ok (.sipush 200, 3) := by decide +kernel
theorem dX1_init_32 : decode cX1_init 32 = .ok (.newarray .int, 2) := by decide +kernel
theorem dX1_init_34 : decode cX1_init 34 = .ok (.putfield 26, 3) := by decide +kernel
theorem dX1_init_37 : decode cX1_init 37 = .ok (.aload_n 0, 1) := by decide +kernel
theorem dX1_init_38 : decode cX1_init 38 = .ok (.new 29, 3) := by decide +kernel
theorem dX1_init_41 : decode cX1_init 41 = .ok (.dup, 1) := by decide +kernel
theorem dX1_init_42 : decode cX1_init 42 = .ok (.invokespecial 31, 3) := by decide +kernel
theorem dX1_init_45 : decode cX1_init 45 = .ok (.putfield 32, 3) := by decide +kernel
theorem dX1_init_48 : decode cX1_init 48 = .ok (.aload_n 0, 1) := by decide +kernel
theorem dX1_init_49 : decode cX1_init 49 = .ok (.new 29, 3) := by decide +kernel
theorem dX1_init_52 : decode cX1_init 52 = .ok (.dup, 1) := by decide +kernel
theorem dX1_init_53 : decode cX1_init 53 = .ok (.invokespecial 31, 3) := by decide +kernel
theorem dX1_init_56 : decode cX1_init 56 = .ok (.putfield 36, 3) := by decide +kernel
theorem dX1_init_59 : decode cX1_init 59 = .ok (.aload_n 0, 1) := by decide +kernel
theorem dX1_init_60 : decode cX1_init 60 = .ok (.new 29, 3) := by decide +kernel
theorem dX1_init_63 : decode cX1_init 63 = .ok (.dup, 1) := by decide +kernel
theorem dX1_init_64 : decode cX1_init 64 = .ok (.invokespecial 31, 3) := by decide +kernel
theorem dX1_init_67 : decode cX1_init 67 = .ok (.putfield 39, 3) := by decide +kernel
theorem dX1_init_70 : decode cX1_init 70 = .ok (.return_, 1) := by decide +kernel
def zs_X1_init (h : AH) (u0 : Nat) (u1 : Nat) : Option AH :=
  (pV h u0 1 4 (.ref u1)).bind fun g1 => (pV g1 u0 1 0 (.int ((0 : Int32)))).bind fun g2 => (pV g2 u0 1 1 (.int ((0 : Int32)))).bind fun g3 => lt_ (nO g3 (.inl (0, (200, .inl (fun _ => 0))))) fun g4 => (pV g4 u0 1 2 (.ref g3.2)).bind fun g5 => lt_ (nO g5 (.inl (0, (200, .inl (fun _ => 0))))) fun g6 => (pV g6 u0 1 3 (.ref g5.2)).bind fun g7 => lt_ (nO g7 (.inr (8, [.null, .int 0, .int 0]))) fun g8 => (zs_X8_init g8 g7.2).bind fun g9 => (pV g9 u0 1 5 (.ref g7.2)).bind fun g10 => lt_ (nO g10 (.inr (8, [.null, .int 0, .int 0]))) fun g11 => (zs_X8_init g11 g10.2).bind fun g12 => (pV g12 u0 1 6 (.ref g10.2)).bind fun g13 => lt_ (nO g13 (.inr (8, [.null, .int 0, .int 0]))) fun g14 => (zs_X8_init g14 g13.2).bind fun g15 => (pV g15 u0 1 7 (.ref g13.2)).bind fun g16 => some g16
set_option maxRecDepth 100000 in
set_option maxHeartbeats 4000000 in
theorem zm_X1_init (l : Launch) (D : hG) (z : Nat) {h : AH} {u0 : Nat} {u1 : Nat} {h' : AH} (hs : zs_X1_init h u0 u1 = some h') : hC l D z yX1_init cX1_init 2 (Option.none : Option Jvm.ClassFile.FieldType) 2 41 8 487 [.ref u0, .ref u1] h h' none := by
  refine hC_of (by decide) (Nat.le_of_ble_eq_true rfl) ?_
  intro p e s m below meth c hx hb hml hrt hlk hown hnm hts hk hr hz ls hl
  replace hown : s.vm.findClass RX1 = some m.cls := hown
  replace hl : lv_has ls 2 [(0, .ref u0), (1, .ref u1)] := hl
  have hS : va_S (hA z) s.heap s.heap [] := va_S.rf
  suffices hgo : ∀ (H : Heap) (locs : List Loc), hR D z h H → va_S (hA z) s.heap H locs → W p l e ({ frames := 2, cells := 8, slots := 487, locals := 41 } : Room) s m ([.ref u0, .ref u1] : List Value).toArray below meth c H locs 0 0 (MQ below (hQ D z h' none) ([.ref u0, .ref u1] : List Value).toArray s 8 487 (hA z)) (F0 m 0 ls []) from hgo _ _ hr hS
  clear hr hS
  intro H locs hr hS
  unfold zs_X1_init at hs
  refine lv_aload_n hx hb dX1_init_0 rfl (lv_at hl 0 rfl) ?_
  refine W.objInit hx hb hown (hts _ tw_233) (hts _ tw_27) (hts _ tw_28) rfl (by rw [hml]; exact hl.1) rfl dX1_init_1 (by decide) (Nat.le_of_ble_eq_true rfl) ?_
  refine W.eq (g2 := F0 m 4 ls []) rfl ?_
  refine lv_aload_n hx hb dX1_init_4 rfl (lv_at hl 0 rfl) ?_
  refine lv_aload_n hx hb dX1_init_5 rfl (lv_at hl 1 rfl) ?_
  obtain ⟨g1, eg1, hs⟩ := bi_inv hs
  refine hv_pF (C := RX1) (T := TX1) (N := 8) (ci := 1) hx hb hts inX1 tyX1 tyX1_ok nmX1 hown hk hr hS rfl 4 (by decide) (hts _ tw_243) rfl hnm rfl rfl rfl eg1 dX1_init_6 (fun H locs hr hS => ?_)
  refine lv_aload_n hx hb dX1_init_9 rfl (lv_at hl 0 rfl) ?_
  refine lv_iconst (v := 0) hx hb dX1_init_10 (by decide) ?_
  obtain ⟨g2, eg2, hs⟩ := bi_inv hs
  refine hv_pV (C := RX1) (T := TX1) (N := 8) (ci := 1) hx hb hts inX1 tyX1 tyX1_ok nmX1 hown hk hr hS rfl 0 (by decide) (hts _ tw_236) rfl rfl rfl eg2 dX1_init_11 (fun H locs hr hS => ?_)
  refine lv_aload_n hx hb dX1_init_14 rfl (lv_at hl 0 rfl) ?_
  refine lv_iconst (v := 0) hx hb dX1_init_15 (by decide) ?_
  obtain ⟨g3, eg3, hs⟩ := bi_inv hs
  refine hv_pV (C := RX1) (T := TX1) (N := 8) (ci := 1) hx hb hts inX1 tyX1 tyX1_ok nmX1 hown hk hr hS rfl 1 (by decide) (hts _ tw_238) rfl rfl rfl eg3 dX1_init_16 (fun H locs hr hS => ?_)
  refine lv_aload_n hx hb dX1_init_19 rfl (lv_at hl 0 rfl) ?_
  refine lv_sipush (v := 200) hx hb dX1_init_20 (by decide) ?_
  refine hv_newa (at_ := .int) hx hb hts 0 rfl rfl tw_105 hk hr hz hS 200 (200, .inl (fun _ => 0)) (fun _ => rfl) (by decide) (by decide) (by decide) (by show _ ≤ (8 : Nat); omega) (by show _ ≤ (487 : Nat); omega) dX1_init_23 (fun H hr hS => ?_)
  obtain ⟨g4, eg4⟩ : ∃ q, q = nO g3 (.inl (0, (200, .inl (fun _ => 0)))) := ⟨_, rfl⟩
  rw [← eg4] at hr
  replace hs := lt_inv hs g4 eg4
  obtain ⟨g5, eg5, hs⟩ := bi_inv hs
  refine hv_pV (C := RX1) (T := TX1) (N := 8) (ci := 1) hx hb hts inX1 tyX1 tyX1_ok nmX1 hown hk hr hS rfl 2 (by decide) (hts _ tw_240) rfl rfl rfl eg5 dX1_init_25 (fun H locs hr hS => ?_)
  refine lv_aload_n hx hb dX1_init_28 rfl (lv_at hl 0 rfl) ?_
  refine lv_sipush (v := 200) hx hb dX1_init_29 (by decide) ?_
  refine hv_newa (at_ := .int) hx hb hts 0 rfl rfl tw_105 hk hr hz hS 200 (200, .inl (fun _ => 0)) (fun _ => rfl) (by decide) (by decide) (by decide) (by show _ ≤ (8 : Nat); omega) (by show _ ≤ (487 : Nat); omega) dX1_init_32 (fun H hr hS => ?_)
  obtain ⟨g6, eg6⟩ : ∃ q, q = nO g5 (.inl (0, (200, .inl (fun _ => 0)))) := ⟨_, rfl⟩
  rw [← eg6] at hr
  replace hs := lt_inv hs g6 eg6
  obtain ⟨g7, eg7, hs⟩ := bi_inv hs
  refine hv_pV (C := RX1) (T := TX1) (N := 8) (ci := 1) hx hb hts inX1 tyX1 tyX1_ok nmX1 hown hk hr hS rfl 3 (by decide) (hts _ tw_242) rfl rfl rfl eg7 dX1_init_34 (fun H locs hr hS => ?_)
  refine lv_aload_n hx hb dX1_init_37 rfl (lv_at hl 0 rfl) ?_
  refine hv_new (C := RX8) (T := TX8) (N := 3) (ci := 8) hx hb hts inX8 tyX8 tyX8_ok hown tw_234 tw_31 tw_2 hk hr hz hS rfl [.null, .int 0, .int 0] (by decide +kernel) (by show _ ≤ (8 : Nat); omega) (by show _ ≤ (487 : Nat); omega) dX1_init_38 (fun H hr hS => ?_)
  obtain ⟨g8, eg8⟩ : ∃ q, q = nO g7 (.inr (8, [.null, .int 0, .int 0])) := ⟨_, rfl⟩
  rw [← eg8] at hr
  replace hs := lt_inv hs g8 eg8
  refine lv_dup hx hb dX1_init_41 rfl ?_
  obtain ⟨g9, eg9, hs⟩ := bi_inv hs
  refine hv_I0 (n := 0) [] [.ref g7.2, .ref u0] hx hb hml hown hts hk hr hz hS (zm_X8_init l D z eg9) tw_235 tw_33 tw_2 tw_34 rfl (by decide +kernel) (by decide) ⟨(by show _ ≤ (8 : Nat); omega), (by show _ ≤ (487 : Nat); omega)⟩ rfl hl.1 (Nat.le_of_ble_eq_true rfl) dX1_init_42 rfl (fun H locs hr hS => ?_)
  obtain ⟨g10, eg10, hs⟩ := bi_inv hs
  refine hv_pF (C := RX1) (T := TX1) (N := 8) (ci := 1) hx hb hts inX1 tyX1 tyX1_ok nmX1 hown hk hr hS rfl 5 (by decide) (hts _ tw_244) rfl hnm rfl rfl rfl eg10 dX1_init_45 (fun H locs hr hS => ?_)
  refine lv_aload_n hx hb dX1_init_48 rfl (lv_at hl 0 rfl) ?_
  refine hv_new (C := RX8) (T := TX8) (N := 3) (ci := 8) hx hb hts inX8 tyX8 tyX8_ok hown tw_234 tw_31 tw_2 hk hr hz hS rfl [.null, .int 0, .int 0] (by decide +kernel) (by show _ ≤ (8 : Nat); omega) (by show _ ≤ (487 : Nat); omega) dX1_init_49 (fun H hr hS => ?_)
  obtain ⟨g11, eg11⟩ : ∃ q, q = nO g10 (.inr (8, [.null, .int 0, .int 0])) := ⟨_, rfl⟩
  rw [← eg11] at hr
  replace hs := lt_inv hs g11 eg11
  refine lv_dup hx hb dX1_init_52 rfl ?_
  obtain ⟨g12, eg12, hs⟩ := bi_inv hs
  refine hv_I0 (n := 0) [] [.ref g10.2, .ref u0] hx hb hml hown hts hk hr hz hS (zm_X8_init l D z eg12) tw_235 tw_33 tw_2 tw_34 rfl (by decide +kernel) (by decide) ⟨(by show _ ≤ (8 : Nat); omega), (by show _ ≤ (487 : Nat); omega)⟩ rfl hl.1 (Nat.le_of_ble_eq_true rfl) dX1_init_53 rfl (fun H locs hr hS => ?_)
  obtain ⟨g13, eg13, hs⟩ := bi_inv hs
  refine hv_pF (C := RX1) (T := TX1) (N := 8) (ci := 1) hx hb hts inX1 tyX1 tyX1_ok nmX1 hown hk hr hS rfl 6 (by decide) (hts _ tw_245) rfl hnm rfl rfl rfl eg13 dX1_init_56 (fun H locs hr hS => ?_)
  refine lv_aload_n hx hb dX1_init_59 rfl (lv_at hl 0 rfl) ?_
  refine hv_new (C := RX8) (T := TX8) (N := 3) (ci := 8) hx hb hts inX8 tyX8 tyX8_ok hown tw_234 tw_31 tw_2 hk hr hz hS rfl [.null, .int 0, .int 0] (by decide +kernel) (by show _ ≤ (8 : Nat); omega) (by show _ ≤ (487 : Nat); omega) dX1_init_60 (fun H hr hS => ?_)
  obtain ⟨g14, eg14⟩ : ∃ q, q = nO g13 (.inr (8, [.null, .int 0, .int 0])) := ⟨_, rfl⟩
  rw [← eg14] at hr
  replace hs := lt_inv hs g14 eg14
  refine lv_dup hx hb dX1_init_63 rfl ?_
  obtain ⟨g15, eg15, hs⟩ := bi_inv hs
  refine hv_I0 (n := 0) [] [.ref g13.2, .ref u0] hx hb hml hown hts hk hr hz hS (zm_X8_init l D z eg15) tw_235 tw_33 tw_2 tw_34 rfl (by decide +kernel) (by decide) ⟨(by show _ ≤ (8 : Nat); omega), (by show _ ≤ (487 : Nat); omega)⟩ rfl hl.1 (Nat.le_of_ble_eq_true rfl) dX1_init_64 rfl (fun H locs hr hS => ?_)
  obtain ⟨g16, eg16, hs⟩ := bi_inv hs
  refine hv_pF (C := RX1) (T := TX1) (N := 8) (ci := 1) hx hb hts inX1 tyX1 tyX1_ok nmX1 hown hk hr hS rfl 7 (by decide) (hts _ tw_246) rfl hnm rfl rfl rfl eg16 dX1_init_67 (fun H locs hr hS => ?_)
  obtain rfl := Option.some.inj hs
  exact hv_vret hx hb hrt hlk hr hS dX1_init_70
theorem dX1_keepFresh_0 : decode cX1_keepFresh 0 = .ok (.aload_n 0, 1) := by decide +kernel
theorem dX1_keepFresh_1 : decode cX1_keepFresh 1 = .ok (.getfield 22, 3) := by decide +kernel
theorem dX1_keepFresh_4 : decode cX1_keepFresh 4 = .ok (.astore_n 3, 1) := by decide +kernel
theorem dX1_keepFresh_5 : decode cX1_keepFresh 5 = .ok (.aload_n 0, 1) := by decide +kernel
theorem dX1_keepFresh_6 : decode cX1_keepFresh 6 = .ok (.aload_n 0, 1) := by decide +kernel
theorem dX1_keepFresh_7 : decode cX1_keepFresh 7 = .ok (.getfield 26, 3) := by decide +kernel
theorem dX1_keepFresh_10 : decode cX1_keepFresh 10 = .ok (.putfield 22, 3) := by decide +kernel
theorem dX1_keepFresh_13 : decode cX1_keepFresh 13 = .ok (.aload_n 0, 1) := by decide +kernel
theorem dX1_keepFresh_14 : decode cX1_keepFresh 14 = .ok (.aload_n 3, 1) := by decide +kernel
theorem dX1_keepFresh_15 : decode cX1_keepFresh 15 = .ok (.putfield 26, 3) := by decide +kernel
theorem dX1_keepFresh_18 : decode cX1_keepFresh 18 = .ok (.aload_n 0, 1) := by decide +kernel
theorem dX1_keepFresh_19 : decode cX1_keepFresh 19 = .ok (.iload_n 1, 1) := by decide +kernel
theorem dX1_keepFresh_20 : decode cX1_keepFresh 20 = .ok (.putfield 15, 3) := by decide +kernel
theorem dX1_keepFresh_23 : decode cX1_keepFresh 23 = .ok (.aload_n 0, 1) := by decide +kernel
theorem dX1_keepFresh_24 : decode cX1_keepFresh 24 = .ok (.iload_n 2, 1) := by decide +kernel
theorem dX1_keepFresh_25 : decode cX1_keepFresh 25 = .ok (.putfield 19, 3) := by decide +kernel
theorem dX1_keepFresh_28 : decode cX1_keepFresh 28 = .ok (.return_, 1) := by decide +kernel
def zs_X1_keepFresh (h : AH) (u0 : Nat) (u1 : Int32) (u2 : Int32) : Option AH :=
  (gR h u0 1 2).bind fun x1 => (gR h u0 1 3).bind fun x2 => (pV h u0 1 2 (.ref x2)).bind fun g3 => (pV g3 u0 1 3 (.ref x1)).bind fun g4 => (pV g4 u0 1 0 (.int u1)).bind fun g5 => (pV g5 u0 1 1 (.int u2)).bind fun g6 => some g6
set_option maxRecDepth 100000 in
set_option maxHeartbeats 4000000 in
theorem zm_X1_keepFresh (l : Launch) (D : hG) (z : Nat) {h : AH} {u0 : Nat} {u1 : Int32} {u2 : Int32} {h' : AH} (hs : zs_X1_keepFresh h u0 u1 u2 = some h') : hC l D z yX1_keepFresh cX1_keepFresh 4 (Option.none : Option Jvm.ClassFile.FieldType) 0 0 0 0 [.ref u0, .int u1, .int u2] h h' none := by
  refine hC_of (by decide) (Nat.le_of_ble_eq_true rfl) ?_
  intro p e s m below meth c hx hb hml hrt hlk hown hnm hts hk hr hz ls hl
  replace hown : s.vm.findClass RX1 = some m.cls := hown
  replace hl : lv_has ls 4 [(0, .ref u0), (1, .int u1), (2, .int u2)] := hl
  have hS : va_S (hA z) s.heap s.heap [] := va_S.rf
  suffices hgo : ∀ (H : Heap) (locs : List Loc), hR D z h H → va_S (hA z) s.heap H locs → W p l e ({ frames := 0, cells := 0, slots := 0, locals := 0 } : Room) s m ([.ref u0, .int u1, .int u2] : List Value).toArray below meth c H locs 0 0 (MQ below (hQ D z h' none) ([.ref u0, .int u1, .int u2] : List Value).toArray s 0 0 (hA z)) (F0 m 0 ls []) from hgo _ _ hr hS
  clear hr hS
  intro H locs hr hS
  unfold zs_X1_keepFresh at hs
  refine lv_aload_n hx hb dX1_keepFresh_0 rfl (lv_at hl 0 rfl) ?_
  obtain ⟨x1, ex1, hs⟩ := bi_inv hs
  refine hv_gR (C := RX1) (T := TX1) (N := 8) (ci := 1) hx hb hts inX1 hown hk hr rfl 2 (by decide) (hts _ tw_240) ex1 dX1_keepFresh_1 ?_
  refine lv_astore_n (lv' := [(3, .ref x1), (0, .ref u0), (1, .int u1), (2, .int u2)]) hx hb dX1_keepFresh_4 rfl hl (by decide) rfl (fun ls hl => ?_)
  refine lv_aload_n hx hb dX1_keepFresh_5 rfl (lv_at hl 1 rfl) ?_
  refine lv_aload_n hx hb dX1_keepFresh_6 rfl (lv_at hl 1 rfl) ?_
  obtain ⟨x2, ex2, hs⟩ := bi_inv hs
  refine hv_gR (C := RX1) (T := TX1) (N := 8) (ci := 1) hx hb hts inX1 hown hk hr rfl 3 (by decide) (hts _ tw_242) ex2 dX1_keepFresh_7 ?_
  obtain ⟨g3, eg3, hs⟩ := bi_inv hs
  refine hv_pV (C := RX1) (T := TX1) (N := 8) (ci := 1) hx hb hts inX1 tyX1 tyX1_ok nmX1 hown hk hr hS rfl 2 (by decide) (hts _ tw_240) rfl rfl rfl eg3 dX1_keepFresh_10 (fun H locs hr hS => ?_)
  refine lv_aload_n hx hb dX1_keepFresh_13 rfl (lv_at hl 1 rfl) ?_
  refine lv_aload_n hx hb dX1_keepFresh_14 rfl (lv_at hl 0 rfl) ?_
  obtain ⟨g4, eg4, hs⟩ := bi_inv hs
  refine hv_pV (C := RX1) (T := TX1) (N := 8) (ci := 1) hx hb hts inX1 tyX1 tyX1_ok nmX1 hown hk hr hS rfl 3 (by decide) (hts _ tw_242) rfl rfl rfl eg4 dX1_keepFresh_15 (fun H locs hr hS => ?_)
  refine lv_aload_n hx hb dX1_keepFresh_18 rfl (lv_at hl 1 rfl) ?_
  refine lv_iload_n hx hb dX1_keepFresh_19 rfl (lv_at hl 2 rfl) ?_
  obtain ⟨g5, eg5, hs⟩ := bi_inv hs
  refine hv_pV (C := RX1) (T := TX1) (N := 8) (ci := 1) hx hb hts inX1 tyX1 tyX1_ok nmX1 hown hk hr hS rfl 0 (by decide) (hts _ tw_236) rfl rfl rfl eg5 dX1_keepFresh_20 (fun H locs hr hS => ?_)
  refine lv_aload_n hx hb dX1_keepFresh_23 rfl (lv_at hl 1 rfl) ?_
  refine lv_iload_n hx hb dX1_keepFresh_24 rfl (lv_at hl 3 rfl) ?_
  obtain ⟨g6, eg6, hs⟩ := bi_inv hs
  refine hv_pV (C := RX1) (T := TX1) (N := 8) (ci := 1) hx hb hts inX1 tyX1 tyX1_ok nmX1 hown hk hr hS rfl 1 (by decide) (hts _ tw_238) rfl rfl rfl eg6 dX1_keepFresh_25 (fun H locs hr hS => ?_)
  obtain rfl := Option.some.inj hs
  exact hv_vret hx hb hrt hlk hr hS dX1_keepFresh_28
theorem dX1_nextDigit_0 : decode cX1_nextDigit 0 = .ok (.aload_n 0, 1) := by decide +kernel
theorem dX1_nextDigit_1 : decode cX1_nextDigit 1 = .ok (.getfield 32, 3) := by decide +kernel
theorem dX1_nextDigit_4 : decode cX1_nextDigit 4 = .ok (.iload_n 2, 1) := by decide +kernel
theorem dX1_nextDigit_5 : decode cX1_nextDigit 5 = .ok (.i2l, 1) := by decide +kernel
theorem dX1_nextDigit_6 : decode cX1_nextDigit 6 = .ok (.lconst 0, 1) := by decide +kernel
theorem dX1_nextDigit_7 : decode cX1_nextDigit 7 = .ok (.invokevirtual 91, 3) := by decide +kernel
theorem dX1_nextDigit_10 : decode cX1_nextDigit 10 = .ok (.aload_n 0, 1) := by decide +kernel
theorem dX1_nextDigit_11 : decode cX1_nextDigit 11 = .ok (.getfield 9, 3) := by decide +kernel
theorem dX1_nextDigit_14 : decode cX1_nextDigit 14 = .ok (.aload_n 0, 1) := by decide +kernel
theorem dX1_nextDigit_15 : decode cX1_nextDigit 15 = .ok (.getfield 32, 3) := by decide +kernel
theorem dX1_nextDigit_18 : decode cX1_nextDigit 18 = .ok (.aload_n 1, 1) := by decide +kernel
theorem dX1_nextDigit_19 : decode cX1_nextDigit 19 = .ok (.invokevirtual 54, 3) := by decide +kernel
theorem dX1_nextDigit_22 : decode cX1_nextDigit 22 = .ok (.aload_n 0, 1) := by decide +kernel
theorem dX1_nextDigit_23 : decode cX1_nextDigit 23 = .ok (.getfield 32, 3) := by decide +kernel
theorem dX1_nextDigit_26 : decode cX1_nextDigit 26 = .ok (.aload_n 0, 1) := by decide +kernel
theorem dX1_nextDigit_27 : decode cX1_nextDigit 27 = .ok (.getfield 9, 3) := by decide +kernel
theorem dX1_nextDigit_30 : decode cX1_nextDigit 30 = .ok (.getfield 60, 3) := by decide +kernel
theorem dX1_nextDigit_33 : decode cX1_nextDigit 33 = .ok (.invokevirtual 61, 3) := by decide +kernel
theorem dX1_nextDigit_36 : decode cX1_nextDigit 36 = .ok (.aload_n 0, 1) := by decide +kernel
theorem dX1_nextDigit_37 : decode cX1_nextDigit 37 = .ok (.getfield 9, 3) := by decide +kernel
theorem dX1_nextDigit_40 : decode cX1_nextDigit 40 = .ok (.getfield 95, 3) := by decide +kernel
theorem dX1_nextDigit_43 : decode cX1_nextDigit 43 = .ok (.iconst 0, 1) := by decide +kernel
theorem dX1_nextDigit_44 : decode cX1_nextDigit 44 = .ok (.invokevirtual 98, 3) := by decide +kernel
theorem dX1_nextDigit_47 : decode cX1_nextDigit 47 = .ok (.l2i, 1) := by decide +kernel
theorem dX1_nextDigit_48 : decode cX1_nextDigit 48 = .ok (.ireturn, 1) := by decide +kernel
def zs_X1_nextDigit (h : AH) (u0 : Nat) (u1 : Nat) (u2 : Int32) : Option (Int32 × AH) :=
  (gR h u0 1 5).bind fun x1 => (chk h x1 8).bind fun _ => (zs_X8_grow h x1 u2.toInt64 ((0 : Int64))).bind fun g3 => (gR g3 u0 1 4).bind fun x4 => (gR g3 u0 1 5).bind fun x5 => (chk g3 x4 0).bind fun _ => (zs_X0_divideSizes g3 x4 x5 u1).bind fun g7 => (gR g7 u0 1 5).bind fun x8 => (gR g7 u0 1 4).bind fun x9 => (gR g7 x9 0 1).bind fun x10 => (chk g7 x8 8).bind fun _ => (zs_X8_copy g7 x8 x10).bind fun g12 => (gR g12 u0 1 4).bind fun x13 => (gR g12 x13 0 0).bind fun x14 => (chk g12 x14 8).bind fun _ => (zs_X8_partAt g12 x14 ((0 : Int32))).bind fun x16 => some (x16.toInt32, g12)
set_option maxRecDepth 100000 in
set_option maxHeartbeats 4000000 in
theorem zm_X1_nextDigit (l : Launch) (D : hG) (z : Nat) {h : AH} {u0 : Nat} {u1 : Nat} {u2 : Int32} {r : Int32} {h' : AH} (hs : zs_X1_nextDigit h u0 u1 u2 = some (r, h')) : hC l D z yX1_nextDigit cX1_nextDigit 3 (Option.some Jvm.ClassFile.FieldType.int) 4 110 0 0 [.ref u0, .ref u1, .int u2] h h' (some (.int r)) := by
  refine hC_of (by decide) (Nat.le_of_ble_eq_true rfl) ?_
  intro p e s m below meth c hx hb hml hrt hlk hown hnm hts hk hr hz ls hl
  replace hown : s.vm.findClass RX1 = some m.cls := hown
  replace hl : lv_has ls 3 [(0, .ref u0), (1, .ref u1), (2, .int u2)] := hl
  have hS : va_S (hA z) s.heap s.heap [] := va_S.rf
  suffices hgo : ∀ (H : Heap) (locs : List Loc), hR D z h H → va_S (hA z) s.heap H locs → W p l e ({ frames := 4, cells := 0, slots := 0, locals := 110 } : Room) s m ([.ref u0, .ref u1, .int u2] : List Value).toArray below meth c H locs 0 0 (MQ below (hQ D z h' (some (.int r))) ([.ref u0, .ref u1, .int u2] : List Value).toArray s 0 0 (hA z)) (F0 m 0 ls []) from hgo _ _ hr hS
  clear hr hS
  intro H locs hr hS
  unfold zs_X1_nextDigit at hs
  refine lv_aload_n hx hb dX1_nextDigit_0 rfl (lv_at hl 0 rfl) ?_
  obtain ⟨x1, ex1, hs⟩ := bi_inv hs
  refine hv_gR (C := RX1) (T := TX1) (N := 8) (ci := 1) hx hb hts inX1 hown hk hr rfl 5 (by decide) (hts _ tw_244) ex1 dX1_nextDigit_1 ?_
  refine lv_iload_n hx hb dX1_nextDigit_4 rfl (lv_at hl 2 rfl) ?_
  refine lv_i2l hx hb dX1_nextDigit_5 rfl ?_
  refine lv_lconst (v := 0) hx hb dX1_nextDigit_6 (by decide) ?_
  obtain ⟨_, ex2, hs⟩ := bi_inv hs
  obtain ⟨g3, eg3, hs⟩ := bi_inv hs
  refine hv_V0 (n := 2) [.long u2.toInt64, .long ((0 : Int64))] [] hx hb hml hown hts hk hr hz hS (zm_X8_grow l D z eg3) ex2 rfl tw_759 tw_356 tw_357 tw_2 tw_358 (by decide +kernel) (by decide) ⟨(Nat.zero_le _), (Nat.zero_le _)⟩ rfl hl.1 (Nat.le_of_ble_eq_true rfl) dX1_nextDigit_7 rfl (fun H locs hr hS => ?_)
  refine lv_aload_n hx hb dX1_nextDigit_10 rfl (lv_at hl 0 rfl) ?_
  obtain ⟨x4, ex4, hs⟩ := bi_inv hs
  refine hv_gR (C := RX1) (T := TX1) (N := 8) (ci := 1) hx hb hts inX1 hown hk hr rfl 4 (by decide) (hts _ tw_243) ex4 dX1_nextDigit_11 ?_
  refine lv_aload_n hx hb dX1_nextDigit_14 rfl (lv_at hl 0 rfl) ?_
  obtain ⟨x5, ex5, hs⟩ := bi_inv hs
  refine hv_gR (C := RX1) (T := TX1) (N := 8) (ci := 1) hx hb hts inX1 hown hk hr rfl 5 (by decide) (hts _ tw_244) ex5 dX1_nextDigit_15 ?_
  refine lv_aload_n hx hb dX1_nextDigit_18 rfl (lv_at hl 1 rfl) ?_
  obtain ⟨_, ex6, hs⟩ := bi_inv hs
  obtain ⟨g7, eg7, hs⟩ := bi_inv hs
  refine hv_V0 (n := 2) [.ref x5, .ref u1] [] hx hb hml hown hts hk hr hz hS (zm_X0_divideSizes l D z eg7) ex6 rfl tw_754 tw_484 tw_485 tw_6 tw_486 (by decide +kernel) (by decide) ⟨(Nat.zero_le _), (Nat.zero_le _)⟩ rfl hl.1 (Nat.le_of_ble_eq_true rfl) dX1_nextDigit_19 rfl (fun H locs hr hS => ?_)
  refine lv_aload_n hx hb dX1_nextDigit_22 rfl (lv_at hl 0 rfl) ?_
  obtain ⟨x8, ex8, hs⟩ := bi_inv hs
  refine hv_gR (C := RX1) (T := TX1) (N := 8) (ci := 1) hx hb hts inX1 hown hk hr rfl 5 (by decide) (hts _ tw_244) ex8 dX1_nextDigit_23 ?_
  refine lv_aload_n hx hb dX1_nextDigit_26 rfl (lv_at hl 0 rfl) ?_
  obtain ⟨x9, ex9, hs⟩ := bi_inv hs
  refine hv_gR (C := RX1) (T := TX1) (N := 8) (ci := 1) hx hb hts inX1 hown hk hr rfl 4 (by decide) (hts _ tw_243) ex9 dX1_nextDigit_27 ?_
  obtain ⟨x10, ex10, hs⟩ := bi_inv hs
  refine hv_gR (C := RX0) (T := TX0) (N := 5) (ci := 0) hx hb hts inX0 hown hk hr rfl 1 (by decide) (hts _ tw_141) ex10 dX1_nextDigit_30 ?_
  obtain ⟨_, ex11, hs⟩ := bi_inv hs
  obtain ⟨g12, eg12, hs⟩ := bi_inv hs
  refine hv_V0 (n := 1) [.ref x10] [] hx hb hml hown hts hk hr hz hS (zm_X8_copy l D z eg12) ex11 rfl tw_745 tw_373 tw_374 tw_2 tw_375 (by decide +kernel) (by decide) ⟨(Nat.zero_le _), (Nat.zero_le _)⟩ rfl hl.1 (Nat.le_of_ble_eq_true rfl) dX1_nextDigit_33 rfl (fun H locs hr hS => ?_)
  refine lv_aload_n hx hb dX1_nextDigit_36 rfl (lv_at hl 0 rfl) ?_
  obtain ⟨x13, ex13, hs⟩ := bi_inv hs
  refine hv_gR (C := RX1) (T := TX1) (N := 8) (ci := 1) hx hb hts inX1 hown hk hr rfl 4 (by decide) (hts _ tw_243) ex13 dX1_nextDigit_37 ?_
  obtain ⟨x14, ex14, hs⟩ := bi_inv hs
  refine hv_gR (C := RX0) (T := TX0) (N := 5) (ci := 0) hx hb hts inX0 hown hk hr rfl 0 (by decide) (hts _ tw_136) ex14 dX1_nextDigit_40 ?_
  refine lv_iconst (v := 0) hx hb dX1_nextDigit_43 (by decide) ?_
  obtain ⟨_, ex15, hs⟩ := bi_inv hs
  obtain ⟨x16, ex16, hs⟩ := bi_inv hs
  refine hv_V1 (n := 1) [.int ((0 : Int32))] [] hx hb hml hown hts hk hr hz hS (zm_X8_partAt l D z ex16) ex15 rfl tw_760 tw_416 tw_417 tw_2 tw_418 (by decide +kernel) (by decide) ⟨(Nat.zero_le _), (Nat.zero_le _)⟩ rfl hl.1 (Nat.le_of_ble_eq_true rfl) dX1_nextDigit_44 rfl (fun H locs hr hS => ?_)
  refine lv_l2i hx hb dX1_nextDigit_47 rfl ?_
  obtain ⟨rfl, rfl⟩ := Prod.mk.inj (Option.some.inj hs)
  exact hv_iret hx hb hrt hlk hr hS dX1_nextDigit_48
theorem dX1_reckon_0 : decode cX1_reckon 0 = .ok (.aload_n 0, 1) := by decide +kernel
theorem dX1_reckon_1 : decode cX1_reckon 1 = .ok (.aload_n 1, 1) := by decide +kernel
theorem dX1_reckon_2 : decode cX1_reckon 2 = .ok (.getfield 42, 3) := by decide +kernel
theorem dX1_reckon_5 : decode cX1_reckon 5 = .ok (.iload_n 2, 1) := by decide +kernel
theorem dX1_reckon_6 : decode cX1_reckon 6 = .ok (.invokevirtual 47, 3) := by decide +kernel
theorem dX1_reckon_9 : decode cX1_reckon 9 = .ok (.istore_n 3, 1) := by decide +kernel
theorem dX1_reckon_10 : decode cX1_reckon 10 = .ok (.iload_n 3, 1) := by decide +kernel
theorem dX1_reckon_11 : decode cX1_reckon 11 = .ok (.sipush 200, 3) := by decide +kernel
theorem dX1_reckon_14 : decode cX1_reckon 14 = .ok (.if_icmp .le 5, 3) := by decide +kernel
theorem dX1_reckon_17 : decode cX1_reckon 17 = .ok (.iconst 0, 1) := by decide +kernel
theorem dX1_reckon_18 : decode cX1_reckon 18 = .ok (.ireturn, 1) := by decide +kernel
theorem dX1_reckon_19 : decode cX1_reckon 19 = .ok (.aload_n 0, 1) := by decide +kernel
theorem dX1_reckon_20 : decode cX1_reckon 20 = .ok (.getfield 9, 3) := by decide +kernel
theorem dX1_reckon_23 : decode cX1_reckon 23 = .ok (.aload_n 1, 1) := by decide +kernel
theorem dX1_reckon_24 : decode cX1_reckon 24 = .ok (.getfield 51, 3) := by decide +kernel
theorem dX1_reckon_27 : decode cX1_reckon 27 = .ok (.aload_n 1, 1) := by decide +kernel
theorem dX1_reckon_28 : decode cX1_reckon 28 = .ok (.getfield 42, 3) := by decide +kernel
theorem dX1_reckon_31 : decode cX1_reckon 31 = .ok (.invokevirtual 54, 3) := by decide +kernel
theorem dX1_reckon_34 : decode cX1_reckon 34 = .ok (.aload_n 0, 1) := by decide +kernel
theorem dX1_reckon_35 : decode cX1_reckon 35 = .ok (.getfield 32, 3) := by decide +kernel
theorem dX1_reckon_38 : decode cX1_reckon 38 = .ok (.aload_n 0, 1) := by decide +kernel
theorem dX1_reckon_39 : decode cX1_reckon 39 = .ok (.getfield 9, 3) := by decide +kernel
theorem dX1_reckon_42 : decode cX1_reckon 42 = .ok (.getfield 60, 3) := by decide +kernel
theorem dX1_reckon_45 : decode cX1_reckon 45 = .ok (.invokevirtual 61, 3) := by decide +kernel
theorem dX1_reckon_48 : decode cX1_reckon 48 = .ok (.iconst 0, 1) := by decide +kernel
theorem dX1_reckon_49 : decode cX1_reckon 49 = .ok (.istore 4, 2) := by decide +kernel
theorem dX1_reckon_51 : decode cX1_reckon 51 = .ok (.iload 4, 2) := by decide +kernel
theorem dX1_reckon_53 : decode cX1_reckon 53 = .ok (.iload_n 3, 1) := by decide +kernel
theorem dX1_reckon_54 : decode cX1_reckon 54 = .ok (.if_icmp .ge 25, 3) := by decide +kernel
theorem dX1_reckon_57 : decode cX1_reckon 57 = .ok (.aload_n 0, 1) := by decide +kernel
theorem dX1_reckon_58 : decode cX1_reckon 58 = .ok (.getfield 26, 3) := by decide +kernel
theorem dX1_reckon_61 : decode cX1_reckon 61 = .ok (.iload 4, 2) := by decide +kernel
theorem dX1_reckon_63 : decode cX1_reckon 63 = .ok (.aload_n 0, 1) := by decide +kernel
theorem dX1_reckon_64 : decode cX1_reckon 64 = .ok (.aload_n 1, 1) := by decide +kernel
theorem dX1_reckon_65 : decode cX1_reckon 65 = .ok (.getfield 42, 3) := by decide +kernel
theorem dX1_reckon_68 : decode cX1_reckon 68 = .ok (.iload_n 2, 1) := by decide +kernel
theorem dX1_reckon_69 : decode cX1_reckon 69 = .ok (.invokevirtual 65, 3) := by decide +kernel
theorem dX1_reckon_72 : decode cX1_reckon 72 = .ok (.iastore, 1) := by decide +kernel
theorem dX1_reckon_73 : decode cX1_reckon 73 = .ok (.iinc 4 1, 3) := by decide +kernel
theorem dX1_reckon_76 : decode cX1_reckon 76 = .ok (.goto (-25), 3) := by decide +kernel
theorem dX1_reckon_79 : decode cX1_reckon 79 = .ok (.aload_n 0, 1) := by decide +kernel
theorem dX1_reckon_80 : decode cX1_reckon 80 = .ok (.getfield 36, 3) := by decide +kernel
theorem dX1_reckon_83 : decode cX1_reckon 83 = .ok (.aload_n 0, 1) := by decide +kernel
theorem dX1_reckon_84 : decode cX1_reckon 84 = .ok (.getfield 32, 3) := by decide +kernel
theorem dX1_reckon_87 : decode cX1_reckon 87 = .ok (.invokevirtual 61, 3) := by decide +kernel
theorem dX1_reckon_90 : decode cX1_reckon 90 = .ok (.iload_n 3, 1) := by decide +kernel
theorem dX1_reckon_91 : decode cX1_reckon 91 = .ok (.istore 4, 2) := by decide +kernel
theorem dX1_reckon_93 : decode cX1_reckon 93 = .ok (.aload_n 0, 1) := by decide +kernel
theorem dX1_reckon_94 : decode cX1_reckon 94 = .ok (.getfield 32, 3) := by decide +kernel
theorem dX1_reckon_97 : decode cX1_reckon 97 = .ok (.invokevirtual 68, 3) := by decide +kernel
theorem dX1_reckon_100 : decode cX1_reckon 100 = .ok (.ifCond .ne 7, 3) := by decide +kernel
theorem dX1_reckon_103 : decode cX1_reckon 103 = .ok (.iconst 1, 1) := by decide +kernel
theorem dX1_reckon_104 : decode cX1_reckon 104 = .ok (.goto 4, 3) := by decide +kernel
theorem dX1_reckon_107 : decode cX1_reckon 107 = .ok (.iconst 0, 1) := by decide +kernel
theorem dX1_reckon_108 : decode cX1_reckon 108 = .ok (.istore 5, 2) := by decide +kernel
theorem dX1_reckon_110 : decode cX1_reckon 110 = .ok (.iload 5, 2) := by decide +kernel
theorem dX1_reckon_112 : decode cX1_reckon 112 = .ok (.ifCond .eq 54, 3) := by decide +kernel
theorem dX1_reckon_115 : decode cX1_reckon 115 = .ok (.iload 4, 2) := by decide +kernel
theorem dX1_reckon_117 : decode cX1_reckon 117 = .ok (.sipush 200, 3) := by decide +kernel
theorem dX1_reckon_120 : decode cX1_reckon 120 = .ok (.if_icmp .ge 46, 3) := by decide +kernel
theorem dX1_reckon_123 : decode cX1_reckon 123 = .ok (.aload_n 0, 1) := by decide +kernel
theorem dX1_reckon_124 : decode cX1_reckon 124 = .ok (.getfield 26, 3) := by decide +kernel
theorem dX1_reckon_127 : decode cX1_reckon 127 = .ok (.iload 4, 2) := by decide +kernel
theorem dX1_reckon_129 : decode cX1_reckon 129 = .ok (.aload_n 0, 1) := by decide +kernel
theorem dX1_reckon_130 : decode cX1_reckon 130 = .ok (.aload_n 1, 1) := by decide +kernel
theorem dX1_reckon_131 : decode cX1_reckon 131 = .ok (.getfield 42, 3) := by decide +kernel
theorem dX1_reckon_134 : decode cX1_reckon 134 = .ok (.iload_n 2, 1) := by decide +kernel
theorem dX1_reckon_135 : decode cX1_reckon 135 = .ok (.invokevirtual 65, 3) := by decide +kernel
theorem dX1_reckon_138 : decode cX1_reckon 138 = .ok (.iastore, 1) := by decide +kernel
theorem dX1_reckon_139 : decode cX1_reckon 139 = .ok (.iinc 4 1, 3) := by decide +kernel
theorem dX1_reckon_142 : decode cX1_reckon 142 = .ok (.aload_n 0, 1) := by decide +kernel
theorem dX1_reckon_143 : decode cX1_reckon 143 = .ok (.getfield 32, 3) := by decide +kernel
theorem dX1_reckon_146 : decode cX1_reckon 146 = .ok (.aload_n 0, 1) := by decide +kernel
theorem dX1_reckon_147 : decode cX1_reckon 147 = .ok (.getfield 36, 3) := by decide +kernel
theorem dX1_reckon_150 : decode cX1_reckon 150 = .ok (.invokestatic 72, 3) := by decide +kernel
theorem dX1_reckon_153 : decode cX1_reckon 153 = .ok (.ifCond .eq 7, 3) := by decide +kernel
theorem dX1_reckon_156 : decode cX1_reckon 156 = .ok (.iconst 1, 1) := by decide +kernel
theorem dX1_reckon_157 : decode cX1_reckon 157 = .ok (.goto 4, 3) := by decide +kernel
theorem dX1_reckon_160 : decode cX1_reckon 160 = .ok (.iconst 0, 1) := by decide +kernel
theorem dX1_reckon_161 : decode cX1_reckon 161 = .ok (.istore 5, 2) := by decide +kernel
theorem dX1_reckon_163 : decode cX1_reckon 163 = .ok (.goto (-53), 3) := by decide +kernel
theorem dX1_reckon_166 : decode cX1_reckon 166 = .ok (.iload 5, 2) := by decide +kernel
theorem dX1_reckon_168 : decode cX1_reckon 168 = .ok (.ifCond .eq 5, 3) := by decide +kernel
theorem dX1_reckon_171 : decode cX1_reckon 171 = .ok (.iconst 0, 1) := by decide +kernel
theorem dX1_reckon_172 : decode cX1_reckon 172 = .ok (.ireturn, 1) := by decide +kernel
theorem dX1_reckon_173 : decode cX1_reckon 173 = .ok (.aload_n 0, 1) := by decide +kernel
theorem dX1_reckon_174 : decode cX1_reckon 174 = .ok (.iload_n 3, 1) := by decide +kernel
theorem dX1_reckon_175 : decode cX1_reckon 175 = .ok (.iload 4, 2) := by decide +kernel
theorem dX1_reckon_177 : decode cX1_reckon 177 = .ok (.iload_n 3, 1) := by decide +kernel
theorem dX1_reckon_178 : decode cX1_reckon 178 = .ok (.isub, 1) := by decide +kernel
theorem dX1_reckon_179 : decode cX1_reckon 179 = .ok (.invokevirtual 76, 3) := by decide +kernel
theorem dX1_reckon_182 : decode cX1_reckon 182 = .ok (.iconst 1, 1) := by decide +kernel
theorem dX1_reckon_183 : decode cX1_reckon 183 = .ok (.ireturn, 1) := by decide +kernel
def zb_X1_reckon_51 (w0 : Nat) (w1 : Nat) (w2 : Int32) (w3 : Int32) (g15 : AH) (w4 : Int32) : Option ((AH × Int32) ⊕ (AH)) :=
  (if w3 ≤ w4 then some (Sum.inr g15) else (gR g15 w0 1 3).bind fun x17 => (gR g15 w1 4 1).bind fun x18 => (chk g15 w0 1).bind fun _ => (zs_X1_nextDigit g15 w0 x18 w2).bind fun x20 => (sI x20.2 x17 0 w4 x20.1).bind fun g21 => some (Sum.inl ((g21, w4 + (1 : Int32)))))
def zb_X1_reckon_110 (w0 : Nat) (w1 : Nat) (w2 : Int32) (w3 : Int32) (g32 : AH) (w4 : Int32) (w5 : Int32) : Option ((AH × Int32 × Int32) ⊕ ((AH × Int32 × Int32))) :=
  (if w5 = 0 then some (Sum.inr ((g32, w4, w5))) else (if (200 : Int32) ≤ w4 then some (Sum.inr ((g32, w4, w5))) else (gR g32 w0 1 3).bind fun x35 => (gR g32 w1 4 1).bind fun x36 => (chk g32 w0 1).bind fun _ => (zs_X1_nextDigit g32 w0 x36 w2).bind fun x38 => (sI x38.2 x35 0 w4 x38.1).bind fun g39 => (gR g39 w0 1 5).bind fun x40 => (gR g39 w0 1 6).bind fun x41 => (zs_X8_orderSizes g39 x40 x41).bind fun x42 => (if x42 = 0 then some (Sum.inl ((g39, w4 + (1 : Int32), (0 : Int32)))) else some (Sum.inl ((g39, w4 + (1 : Int32), (1 : Int32)))))))
def zj_X1_reckon_108 (g31 : AH) (y0_108 : Nat) (y1_108 : Nat) (y2_108 : Int32) (y3_108 : Int32) (y4_108 : Int32) (t0_108 : Int32) : Option (Int32 × AH) :=
  (iter (fun q : AH × Int32 × Int32 => zb_X1_reckon_110 y0_108 y1_108 y2_108 y3_108 q.1 q.2.1 q.2.2) FU ((g31, y4_108, t0_108))).bind fun r44 => (if r44.2.2 = 0 then (chk r44.1 y0_108 1).bind fun _ => (zs_X1_keepFresh r44.1 y0_108 y3_108 (r44.2.1 - y3_108)).bind fun g47 => some ((1 : Int32), g47) else some ((0 : Int32), r44.1))
def zs_X1_reckon (h : AH) (u0 : Nat) (u1 : Nat) (u2 : Int32) : Option (Int32 × AH) :=
  (gR h u1 4 1).bind fun x1 => (chk h u0 1).bind fun _ => (zs_X1_countAhead h u0 x1 u2).bind fun x3 => (if x3.1 ≤ (200 : Int32) then (gR x3.2 u0 1 4).bind fun x5 => (gR x3.2 u1 4 0).bind fun x6 => (gR x3.2 u1 4 1).bind fun x7 => (chk x3.2 x5 0).bind fun _ => (zs_X0_divideSizes x3.2 x5 x6 x7).bind fun g9 => (gR g9 u0 1 5).bind fun x10 => (gR g9 u0 1 4).bind fun x11 => (gR g9 x11 0 1).bind fun x12 => (chk g9 x10 8).bind fun _ => (zs_X8_copy g9 x10 x12).bind fun g14 => (iter (fun q : AH × Int32 => zb_X1_reckon_51 u0 u1 u2 x3.1 q.1 q.2) FU ((g14, (0 : Int32)))).bind fun r22 => (gR r22 u0 1 6).bind fun x23 => (gR r22 u0 1 5).bind fun x24 => (chk r22 x23 8).bind fun _ => (zs_X8_copy r22 x23 x24).bind fun g26 => (gR g26 u0 1 5).bind fun x27 => (chk g26 x27 8).bind fun _ => (zs_X8_isZero g26 x27).bind fun x29 => (if x29 = 0 then zj_X1_reckon_108 g26 u0 u1 u2 x3.1 x3.1 ((1 : Int32)) else zj_X1_reckon_108 g26 u0 u1 u2 x3.1 x3.1 ((0 : Int32))) else some ((0 : Int32), x3.2))
set_option maxRecDepth 100000 in
set_option maxHeartbeats 4000000 in
theorem zm_X1_reckon (l : Launch) (D : hG) (z : Nat) {h : AH} {u0 : Nat} {u1 : Nat} {u2 : Int32} {r : Int32} {h' : AH} (hs : zs_X1_reckon h u0 u1 u2 = some (r, h')) : hC l D z yX1_reckon cX1_reckon 6 (Option.some Jvm.ClassFile.FieldType.boolean) 5 132 0 0 [.ref u0, .ref u1, .int u2] h h' (some (.int r)) := by
  refine hC_of (by decide) (Nat.le_of_ble_eq_true rfl) ?_
  intro p e s m below meth c hx hb hml hrt hlk hown hnm hts hk hr hz ls hl
  replace hown : s.vm.findClass RX1 = some m.cls := hown
  replace hl : lv_has ls 6 [(0, .ref u0), (1, .ref u1), (2, .int u2)] := hl
  have hS : va_S (hA z) s.heap s.heap [] := va_S.rf
  suffices hgo : ∀ (H : Heap) (locs : List Loc), hR D z h H → va_S (hA z) s.heap H locs → W p l e ({ frames := 5, cells := 0, slots := 0, locals := 132 } : Room) s m ([.ref u0, .ref u1, .int u2] : List Value).toArray below meth c H locs 0 0 (MQ below (hQ D z h' (some (.int r))) ([.ref u0, .ref u1, .int u2] : List Value).toArray s 0 0 (hA z)) (F0 m 0 ls []) from hgo _ _ hr hS
  clear hr hS
  intro H locs hr hS
  have hJ108 : ∀ (g31 : AH) (y0_108 : Nat) (y1_108 : Nat) (y2_108 : Int32) (y3_108 : Int32) (y4_108 : Int32) (t0_108 : Int32) (H : Heap) (locs : List Loc) (ls : Array Slot), zj_X1_reckon_108 g31 y0_108 y1_108 y2_108 y3_108 y4_108 t0_108 = some (r, h') → hR D z g31 H → va_S (hA z) s.heap H locs → lv_has ls 6 [(0, .ref y0_108), (1, .ref y1_108), (2, .int y2_108), (3, .int y3_108), (4, .int y4_108)] → W p l e ({ frames := 5, cells := 0, slots := 0, locals := 132 } : Room) s m ([.ref u0, .ref u1, .int u2] : List Value).toArray below meth c H locs 0 0 (MQ below (hQ D z h' (some (.int r))) ([.ref u0, .ref u1, .int u2] : List Value).toArray s 0 0 (hA z)) (F0 m 108 ls [.int t0_108]) := by
    intro g31 y0_108 y1_108 y2_108 y3_108 y4_108 t0_108 H locs ls hs hr hS hl
    unfold zj_X1_reckon_108 at hs
    refine lv_istore (lv' := [(5, .int t0_108), (0, .ref y0_108), (1, .ref y1_108), (2, .int y2_108), (3, .int y3_108), (4, .int y4_108)]) hx hb dX1_reckon_108 hl (by decide) rfl (fun ls hl => ?_)
    obtain ⟨r44, er44, hs⟩ := bi_inv hs
    refine iter_W (fun (q : AH × Int32 × Int32) => ∀ (H : Heap) (locs : List Loc) (ls : Array Slot), hR D z q.1 H → va_S (hA z) s.heap H locs → lv_has ls 6 [(0, .ref y0_108), (1, .ref y1_108), (2, .int y2_108), (3, .int y3_108), (4, .int q.2.1), (5, .int q.2.2)] → W p l e ({ frames := 5, cells := 0, slots := 0, locals := 132 } : Room) s m ([.ref u0, .ref u1, .int u2] : List Value).toArray below meth c H locs 0 0 (MQ below (hQ D z h' (some (.int r))) ([.ref u0, .ref u1, .int u2] : List Value).toArray s 0 0 (hA z)) (F0 m 110 ls [])) (fun (x : (AH × Int32 × Int32)) => ∀ (H : Heap) (locs : List Loc) (ls : Array Slot), hR D z x.1 H → va_S (hA z) s.heap H locs → lv_has ls 6 [(0, .ref y0_108), (3, .int y3_108), (4, .int x.2.1), (5, .int x.2.2)] → W p l e ({ frames := 5, cells := 0, slots := 0, locals := 132 } : Room) s m ([.ref u0, .ref u1, .int u2] : List Value).toArray below meth c H locs 0 0 (MQ below (hQ D z h' (some (.int r))) ([.ref u0, .ref u1, .int u2] : List Value).toArray s 0 0 (hA z)) (F0 m 166 ls [])) ?_ FU _ r44 er44 ?_ H locs ls hr hS (lv_sub hl [1, 2, 3, 4, 5, 0] rfl)
    · intro q o hs hcont hexit
      obtain ⟨g32, w4, w5⟩ := q
      replace hs : zb_X1_reckon_110 y0_108 y1_108 y2_108 y3_108 g32 w4 w5 = some o := hs
      intro H locs ls hr hS hl
      unfold zb_X1_reckon_110 at hs
      refine lv_iload hx hb dX1_reckon_110 (lv_at hl 5 rfl) ?_
      refine lv_if_eq (tgt := 166) hx hb dX1_reckon_112 (by decide) (fun c33 => ?_) (fun c33 => ?_)
      · rw [if_pos c33] at hs
        obtain rfl := Option.some.inj hs
        exact hexit _ rfl H locs ls hr hS (lv_sub hl [0, 3, 4, 5] rfl)
      · rw [if_neg c33] at hs
        refine lv_iload hx hb dX1_reckon_115 (lv_at hl 4 rfl) ?_
        refine lv_sipush (v := 200) hx hb dX1_reckon_117 (by decide) ?_
        refine lv_icmp_ge (tgt := 166) hx hb dX1_reckon_120 (by decide) (fun c34 => ?_) (fun c34 => ?_)
        · rw [if_pos c34] at hs
          obtain rfl := Option.some.inj hs
          exact hexit _ rfl H locs ls hr hS (lv_sub hl [0, 3, 4, 5] rfl)
        · rw [if_neg c34] at hs
          refine lv_aload_n hx hb dX1_reckon_123 rfl (lv_at hl 0 rfl) ?_
          obtain ⟨x35, ex35, hs⟩ := bi_inv hs
          refine hv_gR (C := RX1) (T := TX1) (N := 8) (ci := 1) hx hb hts inX1 hown hk hr rfl 3 (by decide) (hts _ tw_242) ex35 dX1_reckon_124 ?_
          refine lv_iload hx hb dX1_reckon_127 (lv_at hl 4 rfl) ?_
          refine lv_aload_n hx hb dX1_reckon_129 rfl (lv_at hl 0 rfl) ?_
          refine lv_aload_n hx hb dX1_reckon_130 rfl (lv_at hl 1 rfl) ?_
          obtain ⟨x36, ex36, hs⟩ := bi_inv hs
          refine hv_gR (C := RX4) (T := TX4) (N := 2) (ci := 4) hx hb hts inX4 hown hk hr rfl 1 (by decide) (hts _ tw_83) ex36 dX1_reckon_131 ?_
          refine lv_iload_n hx hb dX1_reckon_134 rfl (lv_at hl 2 rfl) ?_
          obtain ⟨_, ex37, hs⟩ := bi_inv hs
          obtain ⟨x38, ex38, hs⟩ := bi_inv hs
          refine hv_V1 (n := 2) [.ref x36, .int y2_108] [.int w4, .ref x35] hx hb hml hown hts hk hr hz hS (zm_X1_nextDigit l D z ex38) ex37 rfl tw_755 tw_757 ts_18 tw_9 tw_758 (by decide +kernel) (by decide) ⟨(Nat.zero_le _), (Nat.zero_le _)⟩ rfl hl.1 (Nat.le_of_ble_eq_true rfl) dX1_reckon_135 rfl (fun H locs hr hS => ?_)
          obtain ⟨g39, eg39, hs⟩ := bi_inv hs
          refine hv_sI hx hb hk hr hS eg39 dX1_reckon_138 (fun H locs hr hS => ?_)
          refine lv_iinc (v := w4 + (1 : Int32)) (lv' := [(4, .int (w4 + (1 : Int32))), (0, .ref y0_108), (1, .ref y1_108), (2, .int y2_108), (3, .int y3_108), (5, .int w5)]) hx hb dX1_reckon_139 hl (k := 4) rfl (ii_v _ (by decide)) (by decide) rfl (fun ls hl => ?_)
          refine lv_aload_n hx hb dX1_reckon_142 rfl (lv_at hl 1 rfl) ?_
          obtain ⟨x40, ex40, hs⟩ := bi_inv hs
          refine hv_gR (C := RX1) (T := TX1) (N := 8) (ci := 1) hx hb hts inX1 hown hk hr rfl 5 (by decide) (hts _ tw_244) ex40 dX1_reckon_143 ?_
          refine lv_aload_n hx hb dX1_reckon_146 rfl (lv_at hl 1 rfl) ?_
          obtain ⟨x41, ex41, hs⟩ := bi_inv hs
          refine hv_gR (C := RX1) (T := TX1) (N := 8) (ci := 1) hx hb hts inX1 hown hk hr rfl 6 (by decide) (hts _ tw_245) ex41 dX1_reckon_147 ?_
          obtain ⟨x42, ex42, hs⟩ := bi_inv hs
          refine hv_S1 (n := 2) [.ref x40, .ref x41] [] hx hb hml hown hts hk hr hz hS (zm_X8_orderSizes l D z ex42) tw_762 tw_441 tw_2 tw_442 (by decide +kernel) (by decide) ⟨(Nat.zero_le _), (Nat.zero_le _)⟩ rfl hl.1 (Nat.le_of_ble_eq_true rfl) dX1_reckon_150 rfl (fun H locs hr hS => ?_)
          refine lv_if_eq (tgt := 160) hx hb dX1_reckon_153 (by decide) (fun c43 => ?_) (fun c43 => ?_)
          · rw [if_pos c43] at hs
            refine lv_iconst (v := 0) hx hb dX1_reckon_160 (by decide) ?_
            refine lv_istore (lv' := [(5, .int ((0 : Int32))), (4, .int (w4 + (1 : Int32))), (0, .ref y0_108), (1, .ref y1_108), (2, .int y2_108), (3, .int y3_108)]) hx hb dX1_reckon_161 hl (by decide) rfl (fun ls hl => ?_)
            refine lv_goto (tgt := 110) hx hb dX1_reckon_163 (by decide) ?_
            obtain rfl := Option.some.inj hs
            exact hcont _ rfl H locs ls hr hS (lv_sub hl [2, 3, 4, 5, 1, 0] rfl)
          · rw [if_neg c43] at hs
            refine lv_iconst (v := 1) hx hb dX1_reckon_156 (by decide) ?_
            refine lv_goto (tgt := 161) hx hb dX1_reckon_157 (by decide) ?_
            refine lv_istore (lv' := [(5, .int ((1 : Int32))), (4, .int (w4 + (1 : Int32))), (0, .ref y0_108), (1, .ref y1_108), (2, .int y2_108), (3, .int y3_108)]) hx hb dX1_reckon_161 hl (by decide) rfl (fun ls hl => ?_)
            refine lv_goto (tgt := 110) hx hb dX1_reckon_163 (by decide) ?_
            obtain rfl := Option.some.inj hs
            exact hcont _ rfl H locs ls hr hS (lv_sub hl [2, 3, 4, 5, 1, 0] rfl)
    · intro H locs ls hr hS hl
      refine lv_iload hx hb dX1_reckon_166 (lv_at hl 3 rfl) ?_
      refine lv_if_eq (tgt := 173) hx hb dX1_reckon_168 (by decide) (fun c45 => ?_) (fun c45 => ?_)
      · rw [if_pos c45] at hs
        refine lv_aload_n hx hb dX1_reckon_173 rfl (lv_at hl 0 rfl) ?_
        refine lv_iload_n hx hb dX1_reckon_174 rfl (lv_at hl 1 rfl) ?_
        refine lv_iload hx hb dX1_reckon_175 (lv_at hl 2 rfl) ?_
        refine lv_iload_n hx hb dX1_reckon_177 rfl (lv_at hl 1 rfl) ?_
        refine lv_isub hx hb dX1_reckon_178 ?_
        obtain ⟨_, ex46, hs⟩ := bi_inv hs
        obtain ⟨g47, eg47, hs⟩ := bi_inv hs
        refine hv_V0 (n := 2) [.int y3_108, .int (r44.2.1 - y3_108)] [] hx hb hml hown hts hk hr hz hS (zm_X1_keepFresh l D z eg47) ex46 rfl tw_763 tw_765 ts_19 tw_9 tw_766 (by decide +kernel) (by decide) ⟨(Nat.zero_le _), (Nat.zero_le _)⟩ rfl hl.1 (Nat.le_of_ble_eq_true rfl) dX1_reckon_179 rfl (fun H locs hr hS => ?_)
        refine lv_iconst (v := 1) hx hb dX1_reckon_182 (by decide) ?_
        obtain ⟨rfl, rfl⟩ := Prod.mk.inj (Option.some.inj hs)
        exact hv_zret hx hb hrt hlk hr hS (by decide) dX1_reckon_183
      · rw [if_neg c45] at hs
        refine lv_iconst (v := 0) hx hb dX1_reckon_171 (by decide) ?_
        obtain ⟨rfl, rfl⟩ := Prod.mk.inj (Option.some.inj hs)
        exact hv_zret hx hb hrt hlk hr hS (by decide) dX1_reckon_172
  unfold zs_X1_reckon at hs
  refine lv_aload_n hx hb dX1_reckon_0 rfl (lv_at hl 0 rfl) ?_
  refine lv_aload_n hx hb dX1_reckon_1 rfl (lv_at hl 1 rfl) ?_
  obtain ⟨x1, ex1, hs⟩ := bi_inv hs
  refine hv_gR (C := RX4) (T := TX4) (N := 2) (ci := 4) hx hb hts inX4 hown hk hr rfl 1 (by decide) (hts _ tw_83) ex1 dX1_reckon_2 ?_
  refine lv_iload_n hx hb dX1_reckon_5 rfl (lv_at hl 2 rfl) ?_
  obtain ⟨_, ex2, hs⟩ := bi_inv hs
  obtain ⟨x3, ex3, hs⟩ := bi_inv hs
  refine hv_V1 (n := 2) [.ref x1, .int u2] [] hx hb hml hown hts hk hr hz hS (zm_X1_countAhead l D z ex3) ex2 rfl tw_741 tw_743 ts_17 tw_9 tw_744 (by decide +kernel) (by decide) ⟨(Nat.zero_le _), (Nat.zero_le _)⟩ rfl hl.1 (Nat.le_of_ble_eq_true rfl) dX1_reckon_6 rfl (fun H locs hr hS => ?_)
  refine lv_istore_n (lv' := [(3, .int x3.1), (0, .ref u0), (1, .ref u1), (2, .int u2)]) hx hb dX1_reckon_9 rfl hl (by decide) rfl (fun ls hl => ?_)
  refine lv_iload_n hx hb dX1_reckon_10 rfl (lv_at hl 0 rfl) ?_
  refine lv_sipush (v := 200) hx hb dX1_reckon_11 (by decide) ?_
  refine lv_icmp_le (tgt := 19) hx hb dX1_reckon_14 (by decide) (fun c4 => ?_) (fun c4 => ?_)
  · rw [if_pos c4] at hs
    refine lv_aload_n hx hb dX1_reckon_19 rfl (lv_at hl 1 rfl) ?_
    obtain ⟨x5, ex5, hs⟩ := bi_inv hs
    refine hv_gR (C := RX1) (T := TX1) (N := 8) (ci := 1) hx hb hts inX1 hown hk hr rfl 4 (by decide) (hts _ tw_243) ex5 dX1_reckon_20 ?_
    refine lv_aload_n hx hb dX1_reckon_23 rfl (lv_at hl 2 rfl) ?_
    obtain ⟨x6, ex6, hs⟩ := bi_inv hs
    refine hv_gR (C := RX4) (T := TX4) (N := 2) (ci := 4) hx hb hts inX4 hown hk hr rfl 0 (by decide) (hts _ tw_79) ex6 dX1_reckon_24 ?_
    refine lv_aload_n hx hb dX1_reckon_27 rfl (lv_at hl 2 rfl) ?_
    obtain ⟨x7, ex7, hs⟩ := bi_inv hs
    refine hv_gR (C := RX4) (T := TX4) (N := 2) (ci := 4) hx hb hts inX4 hown hk hr rfl 1 (by decide) (hts _ tw_83) ex7 dX1_reckon_28 ?_
    obtain ⟨_, ex8, hs⟩ := bi_inv hs
    obtain ⟨g9, eg9, hs⟩ := bi_inv hs
    refine hv_V0 (n := 2) [.ref x6, .ref x7] [] hx hb hml hown hts hk hr hz hS (zm_X0_divideSizes l D z eg9) ex8 rfl tw_754 tw_484 tw_485 tw_6 tw_486 (by decide +kernel) (by decide) ⟨(Nat.zero_le _), (Nat.zero_le _)⟩ rfl hl.1 (Nat.le_of_ble_eq_true rfl) dX1_reckon_31 rfl (fun H locs hr hS => ?_)
    refine lv_aload_n hx hb dX1_reckon_34 rfl (lv_at hl 1 rfl) ?_
    obtain ⟨x10, ex10, hs⟩ := bi_inv hs
    refine hv_gR (C := RX1) (T := TX1) (N := 8) (ci := 1) hx hb hts inX1 hown hk hr rfl 5 (by decide) (hts _ tw_244) ex10 dX1_reckon_35 ?_
    refine lv_aload_n hx hb dX1_reckon_38 rfl (lv_at hl 1 rfl) ?_
    obtain ⟨x11, ex11, hs⟩ := bi_inv hs
    refine hv_gR (C := RX1) (T := TX1) (N := 8) (ci := 1) hx hb hts inX1 hown hk hr rfl 4 (by decide) (hts _ tw_243) ex11 dX1_reckon_39 ?_
    obtain ⟨x12, ex12, hs⟩ := bi_inv hs
    refine hv_gR (C := RX0) (T := TX0) (N := 5) (ci := 0) hx hb hts inX0 hown hk hr rfl 1 (by decide) (hts _ tw_141) ex12 dX1_reckon_42 ?_
    obtain ⟨_, ex13, hs⟩ := bi_inv hs
    obtain ⟨g14, eg14, hs⟩ := bi_inv hs
    refine hv_V0 (n := 1) [.ref x12] [] hx hb hml hown hts hk hr hz hS (zm_X8_copy l D z eg14) ex13 rfl tw_745 tw_373 tw_374 tw_2 tw_375 (by decide +kernel) (by decide) ⟨(Nat.zero_le _), (Nat.zero_le _)⟩ rfl hl.1 (Nat.le_of_ble_eq_true rfl) dX1_reckon_45 rfl (fun H locs hr hS => ?_)
    refine lv_iconst (v := 0) hx hb dX1_reckon_48 (by decide) ?_
    refine lv_istore (lv' := [(4, .int ((0 : Int32))), (3, .int x3.1), (0, .ref u0), (1, .ref u1), (2, .int u2)]) hx hb dX1_reckon_49 hl (by decide) rfl (fun ls hl => ?_)
    obtain ⟨r22, er22, hs⟩ := bi_inv hs
    refine iter_W (fun (q : AH × Int32) => ∀ (H : Heap) (locs : List Loc) (ls : Array Slot), hR D z q.1 H → va_S (hA z) s.heap H locs → lv_has ls 6 [(0, .ref u0), (1, .ref u1), (2, .int u2), (3, .int x3.1), (4, .int q.2)] → W p l e ({ frames := 5, cells := 0, slots := 0, locals := 132 } : Room) s m ([.ref u0, .ref u1, .int u2] : List Value).toArray below meth c H locs 0 0 (MQ below (hQ D z h' (some (.int r))) ([.ref u0, .ref u1, .int u2] : List Value).toArray s 0 0 (hA z)) (F0 m 51 ls [])) (fun (x : AH) => ∀ (H : Heap) (locs : List Loc) (ls : Array Slot), hR D z x H → va_S (hA z) s.heap H locs → lv_has ls 6 [(0, .ref u0), (1, .ref u1), (2, .int u2), (3, .int x3.1)] → W p l e ({ frames := 5, cells := 0, slots := 0, locals := 132 } : Room) s m ([.ref u0, .ref u1, .int u2] : List Value).toArray below meth c H locs 0 0 (MQ below (hQ D z h' (some (.int r))) ([.ref u0, .ref u1, .int u2] : List Value).toArray s 0 0 (hA z)) (F0 m 79 ls [])) ?_ FU _ r22 er22 ?_ H locs ls hr hS (lv_sub hl [2, 3, 4, 1, 0] rfl)
    · intro q o hs hcont hexit
      obtain ⟨g15, w4⟩ := q
      replace hs : zb_X1_reckon_51 u0 u1 u2 x3.1 g15 w4 = some o := hs
      intro H locs ls hr hS hl
      unfold zb_X1_reckon_51 at hs
      refine lv_iload hx hb dX1_reckon_51 (lv_at hl 4 rfl) ?_
      refine lv_iload_n hx hb dX1_reckon_53 rfl (lv_at hl 3 rfl) ?_
      refine lv_icmp_ge (tgt := 79) hx hb dX1_reckon_54 (by decide) (fun c16 => ?_) (fun c16 => ?_)
      · rw [if_pos c16] at hs
        obtain rfl := Option.some.inj hs
        exact hexit _ rfl H locs ls hr hS (lv_sub hl [0, 1, 2, 3] rfl)
      · rw [if_neg c16] at hs
        refine lv_aload_n hx hb dX1_reckon_57 rfl (lv_at hl 0 rfl) ?_
        obtain ⟨x17, ex17, hs⟩ := bi_inv hs
        refine hv_gR (C := RX1) (T := TX1) (N := 8) (ci := 1) hx hb hts inX1 hown hk hr rfl 3 (by decide) (hts _ tw_242) ex17 dX1_reckon_58 ?_
        refine lv_iload hx hb dX1_reckon_61 (lv_at hl 4 rfl) ?_
        refine lv_aload_n hx hb dX1_reckon_63 rfl (lv_at hl 0 rfl) ?_
        refine lv_aload_n hx hb dX1_reckon_64 rfl (lv_at hl 1 rfl) ?_
        obtain ⟨x18, ex18, hs⟩ := bi_inv hs
        refine hv_gR (C := RX4) (T := TX4) (N := 2) (ci := 4) hx hb hts inX4 hown hk hr rfl 1 (by decide) (hts _ tw_83) ex18 dX1_reckon_65 ?_
        refine lv_iload_n hx hb dX1_reckon_68 rfl (lv_at hl 2 rfl) ?_
        obtain ⟨_, ex19, hs⟩ := bi_inv hs
        obtain ⟨x20, ex20, hs⟩ := bi_inv hs
        refine hv_V1 (n := 2) [.ref x18, .int u2] [.int w4, .ref x17] hx hb hml hown hts hk hr hz hS (zm_X1_nextDigit l D z ex20) ex19 rfl tw_755 tw_757 ts_18 tw_9 tw_758 (by decide +kernel) (by decide) ⟨(Nat.zero_le _), (Nat.zero_le _)⟩ rfl hl.1 (Nat.le_of_ble_eq_true rfl) dX1_reckon_69 rfl (fun H locs hr hS => ?_)
        obtain ⟨g21, eg21, hs⟩ := bi_inv hs
        refine hv_sI hx hb hk hr hS eg21 dX1_reckon_72 (fun H locs hr hS => ?_)
        refine lv_iinc (v := w4 + (1 : Int32)) (lv' := [(4, .int (w4 + (1 : Int32))), (0, .ref u0), (1, .ref u1), (2, .int u2), (3, .int x3.1)]) hx hb dX1_reckon_73 hl (k := 4) rfl (ii_v _ (by decide)) (by decide) rfl (fun ls hl => ?_)
        refine lv_goto (tgt := 51) hx hb dX1_reckon_76 (by decide) ?_
        obtain rfl := Option.some.inj hs
        exact hcont _ rfl H locs ls hr hS (lv_sub hl [1, 2, 3, 4, 0] rfl)
    · intro H locs ls hr hS hl
      refine lv_aload_n hx hb dX1_reckon_79 rfl (lv_at hl 0 rfl) ?_
      obtain ⟨x23, ex23, hs⟩ := bi_inv hs
      refine hv_gR (C := RX1) (T := TX1) (N := 8) (ci := 1) hx hb hts inX1 hown hk hr rfl 6 (by decide) (hts _ tw_245) ex23 dX1_reckon_80 ?_
      refine lv_aload_n hx hb dX1_reckon_83 rfl (lv_at hl 0 rfl) ?_
      obtain ⟨x24, ex24, hs⟩ := bi_inv hs
      refine hv_gR (C := RX1) (T := TX1) (N := 8) (ci := 1) hx hb hts inX1 hown hk hr rfl 5 (by decide) (hts _ tw_244) ex24 dX1_reckon_84 ?_
      obtain ⟨_, ex25, hs⟩ := bi_inv hs
      obtain ⟨g26, eg26, hs⟩ := bi_inv hs
      refine hv_V0 (n := 1) [.ref x24] [] hx hb hml hown hts hk hr hz hS (zm_X8_copy l D z eg26) ex25 rfl tw_745 tw_373 tw_374 tw_2 tw_375 (by decide +kernel) (by decide) ⟨(Nat.zero_le _), (Nat.zero_le _)⟩ rfl hl.1 (Nat.le_of_ble_eq_true rfl) dX1_reckon_87 rfl (fun H locs hr hS => ?_)
      refine lv_iload_n hx hb dX1_reckon_90 rfl (lv_at hl 3 rfl) ?_
      refine lv_istore (lv' := [(4, .int x3.1), (0, .ref u0), (1, .ref u1), (2, .int u2), (3, .int x3.1)]) hx hb dX1_reckon_91 hl (by decide) rfl (fun ls hl => ?_)
      refine lv_aload_n hx hb dX1_reckon_93 rfl (lv_at hl 1 rfl) ?_
      obtain ⟨x27, ex27, hs⟩ := bi_inv hs
      refine hv_gR (C := RX1) (T := TX1) (N := 8) (ci := 1) hx hb hts inX1 hown hk hr rfl 5 (by decide) (hts _ tw_244) ex27 dX1_reckon_94 ?_
      obtain ⟨_, ex28, hs⟩ := bi_inv hs
      obtain ⟨x29, ex29, hs⟩ := bi_inv hs
      refine hv_V1 (n := 0) [] [] hx hb hml hown hts hk hr hz hS (zm_X8_isZero l D z ex29) ex28 rfl tw_761 tw_400 tw_401 tw_2 tw_402 (by decide +kernel) (by decide) ⟨(Nat.zero_le _), (Nat.zero_le _)⟩ rfl hl.1 (Nat.le_of_ble_eq_true rfl) dX1_reckon_97 rfl (fun H locs hr hS => ?_)
      refine lv_if_ne (tgt := 107) hx hb dX1_reckon_100 (by decide) (fun c30 => ?_) (fun c30 => ?_)
      · rw [if_neg c30] at hs
        refine lv_iconst (v := 0) hx hb dX1_reckon_107 (by decide) ?_
        exact hJ108 g26 u0 u1 u2 x3.1 x3.1 ((0 : Int32)) H locs ls hs hr hS (lv_sub hl [1, 2, 3, 4, 0] rfl)
      · rw [if_pos c30] at hs
        refine lv_iconst (v := 1) hx hb dX1_reckon_103 (by decide) ?_
        refine lv_goto (tgt := 108) hx hb dX1_reckon_104 (by decide) ?_
        exact hJ108 g26 u0 u1 u2 x3.1 x3.1 ((1 : Int32)) H locs ls hs hr hS (lv_sub hl [1, 2, 3, 4, 0] rfl)
  · rw [if_neg c4] at hs
    refine lv_iconst (v := 0) hx hb dX1_reckon_17 (by decide) ?_
    obtain ⟨rfl, rfl⟩ := Prod.mk.inj (Option.some.inj hs)
    exact hv_zret hx hb hrt hlk hr hS (by decide) dX1_reckon_18
theorem dX2_cut_0 : decode cX2_cut 0 = .ok (.aload_n 1, 1) := by decide +kernel
theorem dX2_cut_1 : decode cX2_cut 1 = .ok (.getfield 79, 3) := by decide +kernel
theorem dX2_cut_4 : decode cX2_cut 4 = .ok (.istore 4, 2) := by decide +kernel
theorem dX2_cut_6 : decode cX2_cut 6 = .ok (.aload_n 0, 1) := by decide +kernel
theorem dX2_cut_7 : decode cX2_cut 7 = .ok (.getfield 7, 3) := by decide +kernel
theorem dX2_cut_10 : decode cX2_cut 10 = .ok (.aload_n 1, 1) := by decide +kernel
theorem dX2_cut_11 : decode cX2_cut 11 = .ok (.aload_n 2, 1) := by decide +kernel
theorem dX2_cut_12 : decode cX2_cut 12 = .ok (.invokevirtual 83, 3) := by decide +kernel
theorem dX2_cut_15 : decode cX2_cut 15 = .ok (.aload_n 3, 1) := by decide +kernel
theorem dX2_cut_16 : decode cX2_cut 16 = .ok (.aload_n 0, 1) := by decide +kernel
theorem dX2_cut_17 : decode cX2_cut 17 = .ok (.getfield 7, 3) := by decide +kernel
theorem dX2_cut_20 : decode cX2_cut 20 = .ok (.getfield 72, 3) := by decide +kernel
theorem dX2_cut_23 : decode cX2_cut 23 = .ok (.invokevirtual 87, 3) := by decide +kernel
theorem dX2_cut_26 : decode cX2_cut 26 = .ok (.aload_n 3, 1) := by decide +kernel
theorem dX2_cut_27 : decode cX2_cut 27 = .ok (.iload 4, 2) := by decide +kernel
theorem dX2_cut_29 : decode cX2_cut 29 = .ok (.invokevirtual 91, 3) := by decide +kernel
theorem dX2_cut_32 : decode cX2_cut 32 = .ok (.return_, 1) := by decide +kernel
def zs_X2_cut (h : AH) (u0 : Nat) (u1 : Nat) (u2 : Nat) (u3 : Nat) : Option AH :=
  (gI h u1 8 2).bind fun x1 => (gR h u0 2 2).bind fun x2 => (chk h x2 0).bind fun _ => (zs_X0_divideSizes h x2 u1 u2).bind fun g4 => (gR g4 u0 2 2).bind fun x5 => (gR g4 x5 0 0).bind fun x6 => (chk g4 u3 8).bind fun _ => (zs_X8_copy g4 u3 x6).bind fun g8 => (chk g8 u3 8).bind fun _ => (zs_X8_takeSign g8 u3 x1).bind fun g10 => some g10
set_option maxRecDepth 100000 in
set_option maxHeartbeats 4000000 in
theorem zm_X2_cut (l : Launch) (D : hG) (z : Nat) {h : AH} {u0 : Nat} {u1 : Nat} {u2 : Nat} {u3 : Nat} {h' : AH} (hs : zs_X2_cut h u0 u1 u2 u3 = some h') : hC l D z yX2_cut cX2_cut 5 (Option.none : Option Jvm.ClassFile.FieldType) 4 110 0 0 [.ref u0, .ref u1, .ref u2, .ref u3] h h' none := by
  refine hC_of (by decide) (Nat.le_of_ble_eq_true rfl) ?_
  intro p e s m below meth c hx hb hml hrt hlk hown hnm hts hk hr hz ls hl
  replace hown : s.vm.findClass RX2 = some m.cls := hown
  replace hl : lv_has ls 5 [(0, .ref u0), (1, .ref u1), (2, .ref u2), (3, .ref u3)] := hl
  have hS : va_S (hA z) s.heap s.heap [] := va_S.rf
  suffices hgo : ∀ (H : Heap) (locs : List Loc), hR D z h H → va_S (hA z) s.heap H locs → W p l e ({ frames := 4, cells := 0, slots := 0, locals := 110 } : Room) s m ([.ref u0, .ref u1, .ref u2, .ref u3] : List Value).toArray below meth c H locs 0 0 (MQ below (hQ D z h' none) ([.ref u0, .ref u1, .ref u2, .ref u3] : List Value).toArray s 0 0 (hA z)) (F0 m 0 ls []) from hgo _ _ hr hS
  clear hr hS
  intro H locs hr hS
  unfold zs_X2_cut at hs
  refine lv_aload_n hx hb dX2_cut_0 rfl (lv_at hl 1 rfl) ?_
  obtain ⟨x1, ex1, hs⟩ := bi_inv hs
  refine hv_gI (C := RX8) (T := TX8) (N := 3) (ci := 8) hx hb hts inX8 hown hk hr rfl 2 (by decide) (hts _ tw_46) ex1 dX2_cut_1 ?_
  refine lv_istore (lv' := [(4, .int x1), (0, .ref u0), (1, .ref u1), (2, .ref u2), (3, .ref u3)]) hx hb dX2_cut_4 hl (by decide) rfl (fun ls hl => ?_)
  refine lv_aload_n hx hb dX2_cut_6 rfl (lv_at hl 1 rfl) ?_
  obtain ⟨x2, ex2, hs⟩ := bi_inv hs
  refine hv_gR (C := RX2) (T := TX2) (N := 8) (ci := 2) hx hb hts inX2 hown hk hr rfl 2 (by decide) (hts _ tw_205) ex2 dX2_cut_7 ?_
  refine lv_aload_n hx hb dX2_cut_10 rfl (lv_at hl 2 rfl) ?_
  refine lv_aload_n hx hb dX2_cut_11 rfl (lv_at hl 3 rfl) ?_
  obtain ⟨_, ex3, hs⟩ := bi_inv hs
  obtain ⟨g4, eg4, hs⟩ := bi_inv hs
  refine hv_V0 (n := 2) [.ref u1, .ref u2] [] hx hb hml hown hts hk hr hz hS (zm_X0_divideSizes l D z eg4) ex3 rfl tw_686 tw_484 tw_485 tw_6 tw_486 (by decide +kernel) (by decide) ⟨(Nat.zero_le _), (Nat.zero_le _)⟩ rfl hl.1 (Nat.le_of_ble_eq_true rfl) dX2_cut_12 rfl (fun H locs hr hS => ?_)
  refine lv_aload_n hx hb dX2_cut_15 rfl (lv_at hl 4 rfl) ?_
  refine lv_aload_n hx hb dX2_cut_16 rfl (lv_at hl 1 rfl) ?_
  obtain ⟨x5, ex5, hs⟩ := bi_inv hs
  refine hv_gR (C := RX2) (T := TX2) (N := 8) (ci := 2) hx hb hts inX2 hown hk hr rfl 2 (by decide) (hts _ tw_205) ex5 dX2_cut_17 ?_
  obtain ⟨x6, ex6, hs⟩ := bi_inv hs
  refine hv_gR (C := RX0) (T := TX0) (N := 5) (ci := 0) hx hb hts inX0 hown hk hr rfl 0 (by decide) (hts _ tw_137) ex6 dX2_cut_20 ?_
  obtain ⟨_, ex7, hs⟩ := bi_inv hs
  obtain ⟨g8, eg8, hs⟩ := bi_inv hs
  refine hv_V0 (n := 1) [.ref x6] [] hx hb hml hown hts hk hr hz hS (zm_X8_copy l D z eg8) ex7 rfl tw_687 tw_373 tw_374 tw_2 tw_375 (by decide +kernel) (by decide) ⟨(Nat.zero_le _), (Nat.zero_le _)⟩ rfl hl.1 (Nat.le_of_ble_eq_true rfl) dX2_cut_23 rfl (fun H locs hr hS => ?_)
  refine lv_aload_n hx hb dX2_cut_26 rfl (lv_at hl 4 rfl) ?_
  refine lv_iload hx hb dX2_cut_27 (lv_at hl 0 rfl) ?_
  obtain ⟨_, ex9, hs⟩ := bi_inv hs
  obtain ⟨g10, eg10, hs⟩ := bi_inv hs
  refine hv_V0 (n := 1) [.int x1] [] hx hb hml hown hts hk hr hz hS (zm_X8_takeSign l D z eg10) ex9 rfl tw_688 tw_75 tw_76 tw_2 tw_77 (by decide +kernel) (by decide) ⟨(Nat.zero_le _), (Nat.zero_le _)⟩ rfl hl.1 (Nat.le_of_ble_eq_true rfl) dX2_cut_29 rfl (fun H locs hr hS => ?_)
  obtain rfl := Option.some.inj hs
  exact hv_vret hx hb hrt hlk hr hS dX2_cut_32
theorem dX3_commonDivisor_0 : decode cX3_commonDivisor 0 = .ok (.aload_n 0, 1) := by decide +kernel
theorem dX3_commonDivisor_1 : decode cX3_commonDivisor 1 = .ok (.getfield 28, 3) := by decide +kernel
theorem dX3_commonDivisor_4 : decode cX3_commonDivisor 4 = .ok (.aload_n 1, 1) := by decide +kernel
theorem dX3_commonDivisor_5 : decode cX3_commonDivisor 5 = .ok (.invokevirtual 55, 3) := by decide +kernel
theorem dX3_commonDivisor_8 : decode cX3_commonDivisor 8 = .ok (.aload_n 0, 1) := by decide +kernel
theorem dX3_commonDivisor_9 : decode cX3_commonDivisor 9 = .ok (.getfield 28, 3) := by decide +kernel
theorem dX3_commonDivisor_12 : decode cX3_commonDivisor 12 = .ok (.iconst 0, 1) := by decide +kernel
theorem dX3_commonDivisor_13 : decode cX3_commonDivisor 13 = .ok (.invokevirtual 98, 3) := by decide +kernel
theorem dX3_commonDivisor_16 : decode cX3_commonDivisor 16 = .ok (.aload_n 0, 1) := by decide +kernel
theorem dX3_commonDivisor_17 : decode cX3_commonDivisor 17 = .ok (.getfield 31, 3) := by decide +kernel
theorem dX3_commonDivisor_20 : decode cX3_commonDivisor 20 = .ok (.aload_n 2, 1) := by decide +kernel
theorem dX3_commonDivisor_21 : decode cX3_commonDivisor 21 = .ok (.invokevirtual 55, 3) := by decide +kernel
theorem dX3_commonDivisor_24 : decode cX3_commonDivisor 24 = .ok (.aload_n 0, 1) := by decide +kernel
theorem dX3_commonDivisor_25 : decode cX3_commonDivisor 25 = .ok (.getfield 31, 3) := by decide +kernel
theorem dX3_commonDivisor_28 : decode cX3_commonDivisor 28 = .ok (.iconst 0, 1) := by decide +kernel
theorem dX3_commonDivisor_29 : decode cX3_commonDivisor 29 = .ok (.invokevirtual 98, 3) := by decide +kernel
theorem dX3_commonDivisor_32 : decode cX3_commonDivisor 32 = .ok (.iconst 0, 1) := by decide +kernel
theorem dX3_commonDivisor_33 : decode cX3_commonDivisor 33 = .ok (.istore 4, 2) := by decide +kernel
theorem dX3_commonDivisor_35 : decode cX3_commonDivisor 35 = .ok (.iload 4, 2) := by decide +kernel
theorem dX3_commonDivisor_37 : decode cX3_commonDivisor 37 = .ok (.sipush 2000, 3) := by decide +kernel
theorem dX3_commonDivisor_40 : decode cX3_commonDivisor 40 = .ok (.if_icmp .ge 59, 3) := by decide +kernel
theorem dX3_commonDivisor_43 : decode cX3_commonDivisor 43 = .ok (.aload_n 0, 1) := by decide +kernel
theorem dX3_commonDivisor_44 : decode cX3_commonDivisor 44 = .ok (.getfield 31, 3) := by decide +kernel
theorem dX3_commonDivisor_47 : decode cX3_commonDivisor 47 = .ok (.invokevirtual 63, 3) := by decide +kernel
theorem dX3_commonDivisor_50 : decode cX3_commonDivisor 50 = .ok (.ifCond .ne 49, 3) := by decide +kernel
theorem dX3_commonDivisor_53 : decode cX3_commonDivisor 53 = .ok (.aload_n 0, 1) := by decide +kernel
theorem dX3_commonDivisor_54 : decode cX3_commonDivisor 54 = .ok (.getfield 9, 3) := by decide +kernel
theorem dX3_commonDivisor_57 : decode cX3_commonDivisor 57 = .ok (.aload_n 0, 1) := by decide +kernel
theorem dX3_commonDivisor_58 : decode cX3_commonDivisor 58 = .ok (.getfield 28, 3) := by decide +kernel
theorem dX3_commonDivisor_61 : decode cX3_commonDivisor 61 = .ok (.aload_n 0, 1) := by decide +kernel
theorem dX3_commonDivisor_62 : decode cX3_commonDivisor 62 = .ok (.getfield 31, 3) := by decide +kernel
theorem dX3_commonDivisor_65 : decode cX3_commonDivisor 65 = .ok (.invokevirtual 95, 3) := by decide +kernel
theorem dX3_commonDivisor_68 : decode cX3_commonDivisor 68 = .ok (.aload_n 0, 1) := by decide +kernel
theorem dX3_commonDivisor_69 : decode cX3_commonDivisor 69 = .ok (.getfield 28, 3) := by decide +kernel
theorem dX3_commonDivisor_72 : decode cX3_commonDivisor 72 = .ok (.aload_n 0, 1) := by decide +kernel
theorem dX3_commonDivisor_73 : decode cX3_commonDivisor 73 = .ok (.getfield 31, 3) := by decide +kernel
theorem dX3_commonDivisor_76 : decode cX3_commonDivisor 76 = .ok (.invokevirtual 55, 3) := by decide +kernel
theorem dX3_commonDivisor_79 : decode cX3_commonDivisor 79 = .ok (.aload_n 0, 1) := by decide +kernel
theorem dX3_commonDivisor_80 : decode cX3_commonDivisor 80 = .ok (.getfield 31, 3) := by decide +kernel
theorem dX3_commonDivisor_83 : decode cX3_commonDivisor 83 = .ok (.aload_n 0, 1) := by decide +kernel
theorem dX3_commonDivisor_84 : decode cX3_commonDivisor 84 = .ok (.getfield 9, 3) := by decide +kernel
theorem dX3_commonDivisor_87 : decode cX3_commonDivisor 87 = .ok (.getfield 88, 3) := by decide +kernel
theorem dX3_commonDivisor_90 : decode cX3_commonDivisor 90 = .ok (.invokevirtual 55, 3) := by decide +kernel
theorem dX3_commonDivisor_93 : decode cX3_commonDivisor 93 = .ok (.iinc 4 1, 3) := by decide +kernel
theorem dX3_commonDivisor_96 : decode cX3_commonDivisor 96 = .ok (.goto (-61), 3) := by decide +kernel
theorem dX3_commonDivisor_99 : decode cX3_commonDivisor 99 = .ok (.aload_n 3, 1) := by decide +kernel
theorem dX3_commonDivisor_100 : decode cX3_commonDivisor 100 = .ok (.aload_n 0, 1) := by decide +kernel
theorem dX3_commonDivisor_101 : decode cX3_commonDivisor 101 = .ok (.getfield 28, 3) := by decide +kernel
theorem dX3_commonDivisor_104 : decode cX3_commonDivisor 104 = .ok (.invokevirtual 55, 3) := by decide +kernel
theorem dX3_commonDivisor_107 : decode cX3_commonDivisor 107 = .ok (.return_, 1) := by decide +kernel
def zb_X3_commonDivisor_35 (w0 : Nat) (w3 : Nat) (g13 : AH) (w4 : Int32) : Option ((AH × Int32) ⊕ (AH)) :=
  (if (2000 : Int32) ≤ w4 then some (Sum.inr g13) else (gR g13 w0 3 5).bind fun x15 => (chk g13 x15 8).bind fun _ => (zs_X8_isZero g13 x15).bind fun x17 => (if x17 = 0 then (gR g13 w0 3 1).bind fun x19 => (gR g13 w0 3 4).bind fun x20 => (gR g13 w0 3 5).bind fun x21 => (chk g13 x19 0).bind fun _ => (zs_X0_divideSizes g13 x19 x20 x21).bind fun g23 => (gR g23 w0 3 4).bind fun x24 => (gR g23 w0 3 5).bind fun x25 => (chk g23 x24 8).bind fun _ => (zs_X8_copy g23 x24 x25).bind fun g27 => (gR g27 w0 3 5).bind fun x28 => (gR g27 w0 3 1).bind fun x29 => (gR g27 x29 0 1).bind fun x30 => (chk g27 x28 8).bind fun _ => (zs_X8_copy g27 x28 x30).bind fun g32 => some (Sum.inl ((g32, w4 + (1 : Int32)))) else some (Sum.inr g13)))
def zs_X3_commonDivisor (h : AH) (u0 : Nat) (u1 : Nat) (u2 : Nat) (u3 : Nat) : Option AH :=
  (gR h u0 3 4).bind fun x1 => (chk h x1 8).bind fun _ => (zs_X8_copy h x1 u1).bind fun g3 => (gR g3 u0 3 4).bind fun x4 => (chk g3 x4 8).bind fun _ => (zs_X8_takeSign g3 x4 ((0 : Int32))).bind fun g6 => (gR g6 u0 3 5).bind fun x7 => (chk g6 x7 8).bind fun _ => (zs_X8_copy g6 x7 u2).bind fun g9 => (gR g9 u0 3 5).bind fun x10 => (chk g9 x10 8).bind fun _ => (zs_X8_takeSign g9 x10 ((0 : Int32))).bind fun g12 => (iter (fun q : AH × Int32 => zb_X3_commonDivisor_35 u0 u3 q.1 q.2) FU ((g12, (0 : Int32)))).bind fun r33 => (gR r33 u0 3 4).bind fun x34 => (chk r33 u3 8).bind fun _ => (zs_X8_copy r33 u3 x34).bind fun g36 => some g36
set_option maxRecDepth 100000 in
set_option maxHeartbeats 4000000 in
theorem zm_X3_commonDivisor (l : Launch) (D : hG) (z : Nat) {h : AH} {u0 : Nat} {u1 : Nat} {u2 : Nat} {u3 : Nat} {h' : AH} (hs : zs_X3_commonDivisor h u0 u1 u2 u3 = some h') : hC l D z yX3_commonDivisor cX3_commonDivisor 5 (Option.none : Option Jvm.ClassFile.FieldType) 4 110 0 0 [.ref u0, .ref u1, .ref u2, .ref u3] h h' none := by
  refine hC_of (by decide) (Nat.le_of_ble_eq_true rfl) ?_
  intro p e s m below meth c hx hb hml hrt hlk hown hnm hts hk hr hz ls hl
  replace hown : s.vm.findClass RX3 = some m.cls := hown
  replace hl : lv_has ls 5 [(0, .ref u0), (1, .ref u1), (2, .ref u2), (3, .ref u3)] := hl
  have hS : va_S (hA z) s.heap s.heap [] := va_S.rf
  suffices hgo : ∀ (H : Heap) (locs : List Loc), hR D z h H → va_S (hA z) s.heap H locs → W p l e ({ frames := 4, cells := 0, slots := 0, locals := 110 } : Room) s m ([.ref u0, .ref u1, .ref u2, .ref u3] : List Value).toArray below meth c H locs 0 0 (MQ below (hQ D z h' none) ([.ref u0, .ref u1, .ref u2, .ref u3] : List Value).toArray s 0 0 (hA z)) (F0 m 0 ls []) from hgo _ _ hr hS
  clear hr hS
  intro H locs hr hS
  unfold zs_X3_commonDivisor at hs
  refine lv_aload_n hx hb dX3_commonDivisor_0 rfl (lv_at hl 0 rfl) ?_
  obtain ⟨x1, ex1, hs⟩ := bi_inv hs
  refine hv_gR (C := RX3) (T := TX3) (N := 8) (ci := 3) hx hb hts inX3 hown hk hr rfl 4 (by decide) (hts _ tw_172) ex1 dX3_commonDivisor_1 ?_
  refine lv_aload_n hx hb dX3_commonDivisor_4 rfl (lv_at hl 1 rfl) ?_
  obtain ⟨_, ex2, hs⟩ := bi_inv hs
  obtain ⟨g3, eg3, hs⟩ := bi_inv hs
  refine hv_V0 (n := 1) [.ref u1] [] hx hb hml hown hts hk hr hz hS (zm_X8_copy l D z eg3) ex2 rfl tw_536 tw_373 tw_374 tw_2 tw_375 (by decide +kernel) (by decide) ⟨(Nat.zero_le _), (Nat.zero_le _)⟩ rfl hl.1 (Nat.le_of_ble_eq_true rfl) dX3_commonDivisor_5 rfl (fun H locs hr hS => ?_)
  refine lv_aload_n hx hb dX3_commonDivisor_8 rfl (lv_at hl 0 rfl) ?_
  obtain ⟨x4, ex4, hs⟩ := bi_inv hs
  refine hv_gR (C := RX3) (T := TX3) (N := 8) (ci := 3) hx hb hts inX3 hown hk hr rfl 4 (by decide) (hts _ tw_172) ex4 dX3_commonDivisor_9 ?_
  refine lv_iconst (v := 0) hx hb dX3_commonDivisor_12 (by decide) ?_
  obtain ⟨_, ex5, hs⟩ := bi_inv hs
  obtain ⟨g6, eg6, hs⟩ := bi_inv hs
  refine hv_V0 (n := 1) [.int ((0 : Int32))] [] hx hb hml hown hts hk hr hz hS (zm_X8_takeSign l D z eg6) ex5 rfl tw_537 tw_75 tw_76 tw_2 tw_77 (by decide +kernel) (by decide) ⟨(Nat.zero_le _), (Nat.zero_le _)⟩ rfl hl.1 (Nat.le_of_ble_eq_true rfl) dX3_commonDivisor_13 rfl (fun H locs hr hS => ?_)
  refine lv_aload_n hx hb dX3_commonDivisor_16 rfl (lv_at hl 0 rfl) ?_
  obtain ⟨x7, ex7, hs⟩ := bi_inv hs
  refine hv_gR (C := RX3) (T := TX3) (N := 8) (ci := 3) hx hb hts inX3 hown hk hr rfl 5 (by decide) (hts _ tw_173) ex7 dX3_commonDivisor_17 ?_
  refine lv_aload_n hx hb dX3_commonDivisor_20 rfl (lv_at hl 2 rfl) ?_
  obtain ⟨_, ex8, hs⟩ := bi_inv hs
  obtain ⟨g9, eg9, hs⟩ := bi_inv hs
  refine hv_V0 (n := 1) [.ref u2] [] hx hb hml hown hts hk hr hz hS (zm_X8_copy l D z eg9) ex8 rfl tw_536 tw_373 tw_374 tw_2 tw_375 (by decide +kernel) (by decide) ⟨(Nat.zero_le _), (Nat.zero_le _)⟩ rfl hl.1 (Nat.le_of_ble_eq_true rfl) dX3_commonDivisor_21 rfl (fun H locs hr hS => ?_)
  refine lv_aload_n hx hb dX3_commonDivisor_24 rfl (lv_at hl 0 rfl) ?_
  obtain ⟨x10, ex10, hs⟩ := bi_inv hs
  refine hv_gR (C := RX3) (T := TX3) (N := 8) (ci := 3) hx hb hts inX3 hown hk hr rfl 5 (by decide) (hts _ tw_173) ex10 dX3_commonDivisor_25 ?_
  refine lv_iconst (v := 0) hx hb dX3_commonDivisor_28 (by decide) ?_
  obtain ⟨_, ex11, hs⟩ := bi_inv hs
  obtain ⟨g12, eg12, hs⟩ := bi_inv hs
  refine hv_V0 (n := 1) [.int ((0 : Int32))] [] hx hb hml hown hts hk hr hz hS (zm_X8_takeSign l D z eg12) ex11 rfl tw_537 tw_75 tw_76 tw_2 tw_77 (by decide +kernel) (by decide) ⟨(Nat.zero_le _), (Nat.zero_le _)⟩ rfl hl.1 (Nat.le_of_ble_eq_true rfl) dX3_commonDivisor_29 rfl (fun H locs hr hS => ?_)
  refine lv_iconst (v := 0) hx hb dX3_commonDivisor_32 (by decide) ?_
  refine lv_istore (lv' := [(4, .int ((0 : Int32))), (0, .ref u0), (1, .ref u1), (2, .ref u2), (3, .ref u3)]) hx hb dX3_commonDivisor_33 hl (by decide) rfl (fun ls hl => ?_)
  obtain ⟨r33, er33, hs⟩ := bi_inv hs
  refine iter_W (fun (q : AH × Int32) => ∀ (H : Heap) (locs : List Loc) (ls : Array Slot), hR D z q.1 H → va_S (hA z) s.heap H locs → lv_has ls 5 [(0, .ref u0), (3, .ref u3), (4, .int q.2)] → W p l e ({ frames := 4, cells := 0, slots := 0, locals := 110 } : Room) s m ([.ref u0, .ref u1, .ref u2, .ref u3] : List Value).toArray below meth c H locs 0 0 (MQ below (hQ D z h' none) ([.ref u0, .ref u1, .ref u2, .ref u3] : List Value).toArray s 0 0 (hA z)) (F0 m 35 ls [])) (fun (x : AH) => ∀ (H : Heap) (locs : List Loc) (ls : Array Slot), hR D z x H → va_S (hA z) s.heap H locs → lv_has ls 5 [(0, .ref u0), (3, .ref u3)] → W p l e ({ frames := 4, cells := 0, slots := 0, locals := 110 } : Room) s m ([.ref u0, .ref u1, .ref u2, .ref u3] : List Value).toArray below meth c H locs 0 0 (MQ below (hQ D z h' none) ([.ref u0, .ref u1, .ref u2, .ref u3] : List Value).toArray s 0 0 (hA z)) (F0 m 99 ls [])) ?_ FU _ r33 er33 ?_ H locs ls hr hS (lv_sub hl [1, 4, 0] rfl)
  · intro q o hs hcont hexit
    obtain ⟨g13, w4⟩ := q
    replace hs : zb_X3_commonDivisor_35 u0 u3 g13 w4 = some o := hs
    intro H locs ls hr hS hl
    unfold zb_X3_commonDivisor_35 at hs
    refine lv_iload hx hb dX3_commonDivisor_35 (lv_at hl 2 rfl) ?_
    refine lv_sipush (v := 2000) hx hb dX3_commonDivisor_37 (by decide) ?_
    refine lv_icmp_ge (tgt := 99) hx hb dX3_commonDivisor_40 (by decide) (fun c14 => ?_) (fun c14 => ?_)
    · rw [if_pos c14] at hs
      obtain rfl := Option.some.inj hs
      exact hexit _ rfl H locs ls hr hS (lv_sub hl [0, 1] rfl)
    · rw [if_neg c14] at hs
      refine lv_aload_n hx hb dX3_commonDivisor_43 rfl (lv_at hl 0 rfl) ?_
      obtain ⟨x15, ex15, hs⟩ := bi_inv hs
      refine hv_gR (C := RX3) (T := TX3) (N := 8) (ci := 3) hx hb hts inX3 hown hk hr rfl 5 (by decide) (hts _ tw_173) ex15 dX3_commonDivisor_44 ?_
      obtain ⟨_, ex16, hs⟩ := bi_inv hs
      obtain ⟨x17, ex17, hs⟩ := bi_inv hs
      refine hv_V1 (n := 0) [] [] hx hb hml hown hts hk hr hz hS (zm_X8_isZero l D z ex17) ex16 rfl tw_538 tw_400 tw_401 tw_2 tw_402 (by decide +kernel) (by decide) ⟨(Nat.zero_le _), (Nat.zero_le _)⟩ rfl hl.1 (Nat.le_of_ble_eq_true rfl) dX3_commonDivisor_47 rfl (fun H locs hr hS => ?_)
      refine lv_if_ne (tgt := 99) hx hb dX3_commonDivisor_50 (by decide) (fun c18 => ?_) (fun c18 => ?_)
      · rw [if_neg c18] at hs
        obtain rfl := Option.some.inj hs
        exact hexit _ rfl H locs ls hr hS (lv_sub hl [0, 1] rfl)
      · rw [if_pos c18] at hs
        refine lv_aload_n hx hb dX3_commonDivisor_53 rfl (lv_at hl 0 rfl) ?_
        obtain ⟨x19, ex19, hs⟩ := bi_inv hs
        refine hv_gR (C := RX3) (T := TX3) (N := 8) (ci := 3) hx hb hts inX3 hown hk hr rfl 1 (by decide) (hts _ tw_169) ex19 dX3_commonDivisor_54 ?_
        refine lv_aload_n hx hb dX3_commonDivisor_57 rfl (lv_at hl 0 rfl) ?_
        obtain ⟨x20, ex20, hs⟩ := bi_inv hs
        refine hv_gR (C := RX3) (T := TX3) (N := 8) (ci := 3) hx hb hts inX3 hown hk hr rfl 4 (by decide) (hts _ tw_172) ex20 dX3_commonDivisor_58 ?_
        refine lv_aload_n hx hb dX3_commonDivisor_61 rfl (lv_at hl 0 rfl) ?_
        obtain ⟨x21, ex21, hs⟩ := bi_inv hs
        refine hv_gR (C := RX3) (T := TX3) (N := 8) (ci := 3) hx hb hts inX3 hown hk hr rfl 5 (by decide) (hts _ tw_173) ex21 dX3_commonDivisor_62 ?_
        obtain ⟨_, ex22, hs⟩ := bi_inv hs
        obtain ⟨g23, eg23, hs⟩ := bi_inv hs
        refine hv_V0 (n := 2) [.ref x20, .ref x21] [] hx hb hml hown hts hk hr hz hS (zm_X0_divideSizes l D z eg23) ex22 rfl tw_539 tw_484 tw_485 tw_6 tw_486 (by decide +kernel) (by decide) ⟨(Nat.zero_le _), (Nat.zero_le _)⟩ rfl hl.1 (Nat.le_of_ble_eq_true rfl) dX3_commonDivisor_65 rfl (fun H locs hr hS => ?_)
        refine lv_aload_n hx hb dX3_commonDivisor_68 rfl (lv_at hl 0 rfl) ?_
        obtain ⟨x24, ex24, hs⟩ := bi_inv hs
        refine hv_gR (C := RX3) (T := TX3) (N := 8) (ci := 3) hx hb hts inX3 hown hk hr rfl 4 (by decide) (hts _ tw_172) ex24 dX3_commonDivisor_69 ?_
        refine lv_aload_n hx hb dX3_commonDivisor_72 rfl (lv_at hl 0 rfl) ?_
        obtain ⟨x25, ex25, hs⟩ := bi_inv hs
        refine hv_gR (C := RX3) (T := TX3) (N := 8) (ci := 3) hx hb hts inX3 hown hk hr rfl 5 (by decide) (hts _ tw_173) ex25 dX3_commonDivisor_73 ?_
        obtain ⟨_, ex26, hs⟩ := bi_inv hs
        obtain ⟨g27, eg27, hs⟩ := bi_inv hs
        refine hv_V0 (n := 1) [.ref x25] [] hx hb hml hown hts hk hr hz hS (zm_X8_copy l D z eg27) ex26 rfl tw_536 tw_373 tw_374 tw_2 tw_375 (by decide +kernel) (by decide) ⟨(Nat.zero_le _), (Nat.zero_le _)⟩ rfl hl.1 (Nat.le_of_ble_eq_true rfl) dX3_commonDivisor_76 rfl (fun H locs hr hS => ?_)
        refine lv_aload_n hx hb dX3_commonDivisor_79 rfl (lv_at hl 0 rfl) ?_
        obtain ⟨x28, ex28, hs⟩ := bi_inv hs
        refine hv_gR (C := RX3) (T := TX3) (N := 8) (ci := 3) hx hb hts inX3 hown hk hr rfl 5 (by decide) (hts _ tw_173) ex28 dX3_commonDivisor_80 ?_
        refine lv_aload_n hx hb dX3_commonDivisor_83 rfl (lv_at hl 0 rfl) ?_
        obtain ⟨x29, ex29, hs⟩ := bi_inv hs
        refine hv_gR (C := RX3) (T := TX3) (N := 8) (ci := 3) hx hb hts inX3 hown hk hr rfl 1 (by decide) (hts _ tw_169) ex29 dX3_commonDivisor_84 ?_
        obtain ⟨x30, ex30, hs⟩ := bi_inv hs
        refine hv_gR (C := RX0) (T := TX0) (N := 5) (ci := 0) hx hb hts inX0 hown hk hr rfl 1 (by decide) (hts _ tw_142) ex30 dX3_commonDivisor_87 ?_
        obtain ⟨_, ex31, hs⟩ := bi_inv hs
        obtain ⟨g32, eg32, hs⟩ := bi_inv hs
        refine hv_V0 (n := 1) [.ref x30] [] hx hb hml hown hts hk hr hz hS (zm_X8_copy l D z eg32) ex31 rfl tw_536 tw_373 tw_374 tw_2 tw_375 (by decide +kernel) (by decide) ⟨(Nat.zero_le _), (Nat.zero_le _)⟩ rfl hl.1 (Nat.le_of_ble_eq_true rfl) dX3_commonDivisor_90 rfl (fun H locs hr hS => ?_)
        refine lv_iinc (v := w4 + (1 : Int32)) (lv' := [(4, .int (w4 + (1 : Int32))), (0, .ref u0), (3, .ref u3)]) hx hb dX3_commonDivisor_93 hl (k := 2) rfl (ii_v _ (by decide)) (by decide) rfl (fun ls hl => ?_)
        refine lv_goto (tgt := 35) hx hb dX3_commonDivisor_96 (by decide) ?_
        obtain rfl := Option.some.inj hs
        exact hcont _ rfl H locs ls hr hS (lv_sub hl [1, 2, 0] rfl)
  · intro H locs ls hr hS hl
    refine lv_aload_n hx hb dX3_commonDivisor_99 rfl (lv_at hl 1 rfl) ?_
    refine lv_aload_n hx hb dX3_commonDivisor_100 rfl (lv_at hl 0 rfl) ?_
    obtain ⟨x34, ex34, hs⟩ := bi_inv hs
    refine hv_gR (C := RX3) (T := TX3) (N := 8) (ci := 3) hx hb hts inX3 hown hk hr rfl 4 (by decide) (hts _ tw_172) ex34 dX3_commonDivisor_101 ?_
    obtain ⟨_, ex35, hs⟩ := bi_inv hs
    obtain ⟨g36, eg36, hs⟩ := bi_inv hs
    refine hv_V0 (n := 1) [.ref x34] [] hx hb hml hown hts hk hr hz hS (zm_X8_copy l D z eg36) ex35 rfl tw_536 tw_373 tw_374 tw_2 tw_375 (by decide +kernel) (by decide) ⟨(Nat.zero_le _), (Nat.zero_le _)⟩ rfl hl.1 (Nat.le_of_ble_eq_true rfl) dX3_commonDivisor_104 rfl (fun H locs hr hS => ?_)
    obtain rfl := Option.some.inj hs
    exact hv_vret hx hb hrt hlk hr hS dX3_commonDivisor_107
theorem dX2_addUp_0 : decode cX2_addUp 0 = .ok (.aload_n 0, 1) := by decide +kernel
theorem dX2_addUp_1 : decode cX2_addUp 1 = .ok (.getfield 13, 3) := by decide +kernel
theorem dX2_addUp_4 : decode cX2_addUp 4 = .ok (.aload_n 1, 1) := by decide +kernel
theorem dX2_addUp_5 : decode cX2_addUp 5 = .ok (.getfield 51, 3) := by decide +kernel
theorem dX2_addUp_8 : decode cX2_addUp 8 = .ok (.aload_n 2, 1) := by decide +kernel
theorem dX2_addUp_9 : decode cX2_addUp 9 = .ok (.getfield 51, 3) := by decide +kernel
theorem dX2_addUp_12 : decode cX2_addUp 12 = .ok (.aload_n 0, 1) := by decide +kernel
theorem dX2_addUp_13 : decode cX2_addUp 13 = .ok (.getfield 27, 3) := by decide +kernel
theorem dX2_addUp_16 : decode cX2_addUp 16 = .ok (.invokevirtual 39, 3) := by decide +kernel
theorem dX2_addUp_19 : decode cX2_addUp 19 = .ok (.aload_n 0, 1) := by decide +kernel
theorem dX2_addUp_20 : decode cX2_addUp 20 = .ok (.aload_n 1, 1) := by decide +kernel
theorem dX2_addUp_21 : decode cX2_addUp 21 = .ok (.getfield 51, 3) := by decide +kernel
theorem dX2_addUp_24 : decode cX2_addUp 24 = .ok (.aload_n 0, 1) := by decide +kernel
theorem dX2_addUp_25 : decode cX2_addUp 25 = .ok (.getfield 27, 3) := by decide +kernel
theorem dX2_addUp_28 : decode cX2_addUp 28 = .ok (.aload_n 0, 1) := by decide +kernel
theorem dX2_addUp_29 : decode cX2_addUp 29 = .ok (.getfield 30, 3) := by decide +kernel
theorem dX2_addUp_32 : decode cX2_addUp 32 = .ok (.invokevirtual 45, 3) := by decide +kernel
theorem dX2_addUp_35 : decode cX2_addUp 35 = .ok (.aload_n 0, 1) := by decide +kernel
theorem dX2_addUp_36 : decode cX2_addUp 36 = .ok (.aload_n 2, 1) := by decide +kernel
theorem dX2_addUp_37 : decode cX2_addUp 37 = .ok (.getfield 51, 3) := by decide +kernel
theorem dX2_addUp_40 : decode cX2_addUp 40 = .ok (.aload_n 0, 1) := by decide +kernel
theorem dX2_addUp_41 : decode cX2_addUp 41 = .ok (.getfield 27, 3) := by decide +kernel
theorem dX2_addUp_44 : decode cX2_addUp 44 = .ok (.aload_n 0, 1) := by decide +kernel
theorem dX2_addUp_45 : decode cX2_addUp 45 = .ok (.getfield 33, 3) := by decide +kernel
theorem dX2_addUp_48 : decode cX2_addUp 48 = .ok (.invokevirtual 45, 3) := by decide +kernel
theorem dX2_addUp_51 : decode cX2_addUp 51 = .ok (.aload_n 1, 1) := by decide +kernel
theorem dX2_addUp_52 : decode cX2_addUp 52 = .ok (.getfield 54, 3) := by decide +kernel
theorem dX2_addUp_55 : decode cX2_addUp 55 = .ok (.aload_n 0, 1) := by decide +kernel
theorem dX2_addUp_56 : decode cX2_addUp 56 = .ok (.getfield 33, 3) := by decide +kernel
theorem dX2_addUp_59 : decode cX2_addUp 59 = .ok (.aload_n 0, 1) := by decide +kernel
theorem dX2_addUp_60 : decode cX2_addUp 60 = .ok (.getfield 20, 3) := by decide +kernel
theorem dX2_addUp_63 : decode cX2_addUp 63 = .ok (.invokestatic 55, 3) := by decide +kernel
theorem dX2_addUp_66 : decode cX2_addUp 66 = .ok (.aload_n 2, 1) := by decide +kernel
theorem dX2_addUp_67 : decode cX2_addUp 67 = .ok (.getfield 54, 3) := by decide +kernel
theorem dX2_addUp_70 : decode cX2_addUp 70 = .ok (.aload_n 0, 1) := by decide +kernel
theorem dX2_addUp_71 : decode cX2_addUp 71 = .ok (.getfield 30, 3) := by decide +kernel
theorem dX2_addUp_74 : decode cX2_addUp 74 = .ok (.aload_n 0, 1) := by decide +kernel
theorem dX2_addUp_75 : decode cX2_addUp 75 = .ok (.getfield 36, 3) := by decide +kernel
theorem dX2_addUp_78 : decode cX2_addUp 78 = .ok (.invokestatic 55, 3) := by decide +kernel
theorem dX2_addUp_81 : decode cX2_addUp 81 = .ok (.iload_n 3, 1) := by decide +kernel
theorem dX2_addUp_82 : decode cX2_addUp 82 = .ok (.ifCond .eq 21, 3) := by decide +kernel
theorem dX2_addUp_85 : decode cX2_addUp 85 = .ok (.aload_n 0, 1) := by decide +kernel
theorem dX2_addUp_86 : decode cX2_addUp 86 = .ok (.getfield 20, 3) := by decide +kernel
theorem dX2_addUp_89 : decode cX2_addUp 89 = .ok (.aload_n 0, 1) := by decide +kernel
theorem dX2_addUp_90 : decode cX2_addUp 90 = .ok (.getfield 36, 3) := by decide +kernel
theorem dX2_addUp_93 : decode cX2_addUp 93 = .ok (.aload_n 0, 1) := by decide +kernel
theorem dX2_addUp_94 : decode cX2_addUp 94 = .ok (.getfield 20, 3) := by decide +kernel
theorem dX2_addUp_97 : decode cX2_addUp 97 = .ok (.invokestatic 57, 3) := by decide +kernel
theorem dX2_addUp_100 : decode cX2_addUp 100 = .ok (.goto 18, 3) := by decide +kernel
theorem dX2_addUp_103 : decode cX2_addUp 103 = .ok (.aload_n 0, 1) := by decide +kernel
theorem dX2_addUp_104 : decode cX2_addUp 104 = .ok (.getfield 20, 3) := by decide +kernel
theorem dX2_addUp_107 : decode cX2_addUp 107 = .ok (.aload_n 0, 1) := by decide +kernel
theorem dX2_addUp_108 : decode cX2_addUp 108 = .ok (.getfield 36, 3) := by decide +kernel
theorem dX2_addUp_111 : decode cX2_addUp 111 = .ok (.aload_n 0, 1) := by decide +kernel
theorem dX2_addUp_112 : decode cX2_addUp 112 = .ok (.getfield 20, 3) := by decide +kernel
theorem dX2_addUp_115 : decode cX2_addUp 115 = .ok (.invokestatic 60, 3) := by decide +kernel
theorem dX2_addUp_118 : decode cX2_addUp 118 = .ok (.aload_n 0, 1) := by decide +kernel
theorem dX2_addUp_119 : decode cX2_addUp 119 = .ok (.getfield 13, 3) := by decide +kernel
theorem dX2_addUp_122 : decode cX2_addUp 122 = .ok (.aload_n 0, 1) := by decide +kernel
theorem dX2_addUp_123 : decode cX2_addUp 123 = .ok (.getfield 20, 3) := by decide +kernel
theorem dX2_addUp_126 : decode cX2_addUp 126 = .ok (.aload_n 0, 1) := by decide +kernel
theorem dX2_addUp_127 : decode cX2_addUp 127 = .ok (.getfield 27, 3) := by decide +kernel
theorem dX2_addUp_130 : decode cX2_addUp 130 = .ok (.aload_n 0, 1) := by decide +kernel
theorem dX2_addUp_131 : decode cX2_addUp 131 = .ok (.getfield 27, 3) := by decide +kernel
theorem dX2_addUp_134 : decode cX2_addUp 134 = .ok (.invokevirtual 39, 3) := by decide +kernel
theorem dX2_addUp_137 : decode cX2_addUp 137 = .ok (.aload_n 0, 1) := by decide +kernel
theorem dX2_addUp_138 : decode cX2_addUp 138 = .ok (.aload_n 0, 1) := by decide +kernel
theorem dX2_addUp_139 : decode cX2_addUp 139 = .ok (.getfield 20, 3) := by decide +kernel
theorem dX2_addUp_142 : decode cX2_addUp 142 = .ok (.aload_n 0, 1) := by decide +kernel
theorem dX2_addUp_143 : decode cX2_addUp 143 = .ok (.getfield 27, 3) := by decide +kernel
theorem dX2_addUp_146 : decode cX2_addUp 146 = .ok (.aload_n 0, 1) := by decide +kernel
theorem dX2_addUp_147 : decode cX2_addUp 147 = .ok (.getfield 20, 3) := by decide +kernel
theorem dX2_addUp_150 : decode cX2_addUp 150 = .ok (.invokevirtual 45, 3) := by decide +kernel
theorem dX2_addUp_153 : decode cX2_addUp 153 = .ok (.aload_n 0, 1) := by decide +kernel
theorem dX2_addUp_154 : decode cX2_addUp 154 = .ok (.aload_n 2, 1) := by decide +kernel
theorem dX2_addUp_155 : decode cX2_addUp 155 = .ok (.getfield 51, 3) := by decide +kernel
theorem dX2_addUp_158 : decode cX2_addUp 158 = .ok (.aload_n 0, 1) := by decide +kernel
theorem dX2_addUp_159 : decode cX2_addUp 159 = .ok (.getfield 27, 3) := by decide +kernel
theorem dX2_addUp_162 : decode cX2_addUp 162 = .ok (.aload_n 0, 1) := by decide +kernel
theorem dX2_addUp_163 : decode cX2_addUp 163 = .ok (.getfield 33, 3) := by decide +kernel
theorem dX2_addUp_166 : decode cX2_addUp 166 = .ok (.invokevirtual 45, 3) := by decide +kernel
theorem dX2_addUp_169 : decode cX2_addUp 169 = .ok (.aload_n 0, 1) := by decide +kernel
theorem dX2_addUp_170 : decode cX2_addUp 170 = .ok (.getfield 30, 3) := by decide +kernel
theorem dX2_addUp_173 : decode cX2_addUp 173 = .ok (.aload_n 0, 1) := by decide +kernel
theorem dX2_addUp_174 : decode cX2_addUp 174 = .ok (.getfield 33, 3) := by decide +kernel
theorem dX2_addUp_177 : decode cX2_addUp 177 = .ok (.aload_n 0, 1) := by decide +kernel
theorem dX2_addUp_178 : decode cX2_addUp 178 = .ok (.getfield 24, 3) := by decide +kernel
theorem dX2_addUp_181 : decode cX2_addUp 181 = .ok (.invokestatic 55, 3) := by decide +kernel
theorem dX2_addUp_184 : decode cX2_addUp 184 = .ok (.return_, 1) := by decide +kernel
def zj_X2_addUp_118 (g30 : AH) (y0_118 : Nat) (y2_118 : Nat) : Option AH :=
  (gR g30 y0_118 2 3).bind fun x31 => (gR g30 y0_118 2 0).bind fun x32 => (gR g30 y0_118 2 4).bind fun x33 => (gR g30 y0_118 2 4).bind fun x34 => (chk g30 x31 3).bind fun _ => (zs_X3_commonDivisor g30 x31 x32 x33 x34).bind fun g36 => (gR g36 y0_118 2 0).bind fun x37 => (gR g36 y0_118 2 4).bind fun x38 => (gR g36 y0_118 2 0).bind fun x39 => (chk g36 y0_118 2).bind fun _ => (zs_X2_cut g36 y0_118 x37 x38 x39).bind fun g41 => (gR g41 y2_118 4 1).bind fun x42 => (gR g41 y0_118 2 4).bind fun x43 => (gR g41 y0_118 2 6).bind fun x44 => (chk g41 y0_118 2).bind fun _ => (zs_X2_cut g41 y0_118 x42 x43 x44).bind fun g46 => (gR g46 y0_118 2 5).bind fun x47 => (gR g46 y0_118 2 6).bind fun x48 => (gR g46 y0_118 2 1).bind fun x49 => (zs_X8_product g46 x47 x48 x49).bind fun g50 => some g50
def zs_X2_addUp (h : AH) (u0 : Nat) (u1 : Nat) (u2 : Nat) (u3 : Int32) : Option AH :=
  (gR h u0 2 3).bind fun x1 => (gR h u1 4 1).bind fun x2 => (gR h u2 4 1).bind fun x3 => (gR h u0 2 4).bind fun x4 => (chk h x1 3).bind fun _ => (zs_X3_commonDivisor h x1 x2 x3 x4).bind fun g6 => (gR g6 u1 4 1).bind fun x7 => (gR g6 u0 2 4).bind fun x8 => (gR g6 u0 2 5).bind fun x9 => (chk g6 u0 2).bind fun _ => (zs_X2_cut g6 u0 x7 x8 x9).bind fun g11 => (gR g11 u2 4 1).bind fun x12 => (gR g11 u0 2 4).bind fun x13 => (gR g11 u0 2 6).bind fun x14 => (chk g11 u0 2).bind fun _ => (zs_X2_cut g11 u0 x12 x13 x14).bind fun g16 => (gR g16 u1 4 0).bind fun x17 => (gR g16 u0 2 6).bind fun x18 => (gR g16 u0 2 0).bind fun x19 => (zs_X8_product g16 x17 x18 x19).bind fun g20 => (gR g20 u2 4 0).bind fun x21 => (gR g20 u0 2 5).bind fun x22 => (gR g20 u0 2 7).bind fun x23 => (zs_X8_product g20 x21 x22 x23).bind fun g24 => (if u3 = 0 then (gR g24 u0 2 0).bind fun x26 => (gR g24 u0 2 7).bind fun x27 => (gR g24 u0 2 0).bind fun x28 => (zs_X8_sum g24 x26 x27 x28).bind fun g29 => zj_X2_addUp_118 g29 u0 u2 else (gR g24 u0 2 0).bind fun x51 => (gR g24 u0 2 7).bind fun x52 => (gR g24 u0 2 0).bind fun x53 => (zs_X8_difference g24 x51 x52 x53).bind fun g54 => zj_X2_addUp_118 g54 u0 u2)
set_option maxRecDepth 100000 in
set_option maxHeartbeats 4000000 in
theorem zm_X2_addUp (l : Launch) (D : hG) (z : Nat) {h : AH} {u0 : Nat} {u1 : Nat} {u2 : Nat} {u3 : Int32} {h' : AH} (hs : zs_X2_addUp h u0 u1 u2 u3 = some h') : hC l D z yX2_addUp cX2_addUp 4 (Option.none : Option Jvm.ClassFile.FieldType) 5 134 0 0 [.ref u0, .ref u1, .ref u2, .int u3] h h' none := by
  refine hC_of (by decide) (Nat.le_of_ble_eq_true rfl) ?_
  intro p e s m below meth c hx hb hml hrt hlk hown hnm hts hk hr hz ls hl
  replace hown : s.vm.findClass RX2 = some m.cls := hown
  replace hl : lv_has ls 4 [(0, .ref u0), (1, .ref u1), (2, .ref u2), (3, .int u3)] := hl
  have hS : va_S (hA z) s.heap s.heap [] := va_S.rf
  suffices hgo : ∀ (H : Heap) (locs : List Loc), hR D z h H → va_S (hA z) s.heap H locs → W p l e ({ frames := 5, cells := 0, slots := 0, locals := 134 } : Room) s m ([.ref u0, .ref u1, .ref u2, .int u3] : List Value).toArray below meth c H locs 0 0 (MQ below (hQ D z h' none) ([.ref u0, .ref u1, .ref u2, .int u3] : List Value).toArray s 0 0 (hA z)) (F0 m 0 ls []) from hgo _ _ hr hS
  clear hr hS
  intro H locs hr hS
  have hJ118 : ∀ (g30 : AH) (y0_118 : Nat) (y2_118 : Nat) (H : Heap) (locs : List Loc) (ls : Array Slot), zj_X2_addUp_118 g30 y0_118 y2_118 = some h' → hR D z g30 H → va_S (hA z) s.heap H locs → lv_has ls 4 [(0, .ref y0_118), (2, .ref y2_118)] → W p l e ({ frames := 5, cells := 0, slots := 0, locals := 134 } : Room) s m ([.ref u0, .ref u1, .ref u2, .int u3] : List Value).toArray below meth c H locs 0 0 (MQ below (hQ D z h' none) ([.ref u0, .ref u1, .ref u2, .int u3] : List Value).toArray s 0 0 (hA z)) (F0 m 118 ls []) := by
    intro g30 y0_118 y2_118 H locs ls hs hr hS hl
    unfold zj_X2_addUp_118 at hs
    refine lv_aload_n hx hb dX2_addUp_118 rfl (lv_at hl 0 rfl) ?_
    obtain ⟨x31, ex31, hs⟩ := bi_inv hs
    refine hv_gR (C := RX2) (T := TX2) (N := 8) (ci := 2) hx hb hts inX2 hown hk hr rfl 3 (by decide) (hts _ tw_206) ex31 dX2_addUp_119 ?_
    refine lv_aload_n hx hb dX2_addUp_122 rfl (lv_at hl 0 rfl) ?_
    obtain ⟨x32, ex32, hs⟩ := bi_inv hs
    refine hv_gR (C := RX2) (T := TX2) (N := 8) (ci := 2) hx hb hts inX2 hown hk hr rfl 0 (by decide) (hts _ tw_201) ex32 dX2_addUp_123 ?_
    refine lv_aload_n hx hb dX2_addUp_126 rfl (lv_at hl 0 rfl) ?_
    obtain ⟨x33, ex33, hs⟩ := bi_inv hs
    refine hv_gR (C := RX2) (T := TX2) (N := 8) (ci := 2) hx hb hts inX2 hown hk hr rfl 4 (by decide) (hts _ tw_207) ex33 dX2_addUp_127 ?_
    refine lv_aload_n hx hb dX2_addUp_130 rfl (lv_at hl 0 rfl) ?_
    obtain ⟨x34, ex34, hs⟩ := bi_inv hs
    refine hv_gR (C := RX2) (T := TX2) (N := 8) (ci := 2) hx hb hts inX2 hown hk hr rfl 4 (by decide) (hts _ tw_207) ex34 dX2_addUp_131 ?_
    obtain ⟨_, ex35, hs⟩ := bi_inv hs
    obtain ⟨g36, eg36, hs⟩ := bi_inv hs
    refine hv_V0 (n := 3) [.ref x32, .ref x33, .ref x34] [] hx hb hml hown hts hk hr hz hS (zm_X3_commonDivisor l D z eg36) ex35 rfl tw_681 tw_533 tw_534 tw_7 tw_535 (by decide +kernel) (by decide) ⟨(Nat.zero_le _), (Nat.zero_le _)⟩ rfl hl.1 (Nat.le_of_ble_eq_true rfl) dX2_addUp_134 rfl (fun H locs hr hS => ?_)
    refine lv_aload_n hx hb dX2_addUp_137 rfl (lv_at hl 0 rfl) ?_
    refine lv_aload_n hx hb dX2_addUp_138 rfl (lv_at hl 0 rfl) ?_
    obtain ⟨x37, ex37, hs⟩ := bi_inv hs
    refine hv_gR (C := RX2) (T := TX2) (N := 8) (ci := 2) hx hb hts inX2 hown hk hr rfl 0 (by decide) (hts _ tw_201) ex37 dX2_addUp_139 ?_
    refine lv_aload_n hx hb dX2_addUp_142 rfl (lv_at hl 0 rfl) ?_
    obtain ⟨x38, ex38, hs⟩ := bi_inv hs
    refine hv_gR (C := RX2) (T := TX2) (N := 8) (ci := 2) hx hb hts inX2 hown hk hr rfl 4 (by decide) (hts _ tw_207) ex38 dX2_addUp_143 ?_
    refine lv_aload_n hx hb dX2_addUp_146 rfl (lv_at hl 0 rfl) ?_
    obtain ⟨x39, ex39, hs⟩ := bi_inv hs
    refine hv_gR (C := RX2) (T := TX2) (N := 8) (ci := 2) hx hb hts inX2 hown hk hr rfl 0 (by decide) (hts _ tw_201) ex39 dX2_addUp_147 ?_
    obtain ⟨_, ex40, hs⟩ := bi_inv hs
    obtain ⟨g41, eg41, hs⟩ := bi_inv hs
    refine hv_V0 (n := 3) [.ref x37, .ref x38, .ref x39] [] hx hb hml hown hts hk hr hz hS (zm_X2_cut l D z eg41) ex40 rfl tw_682 tw_684 ts_14 tw_8 tw_685 (by decide +kernel) (by decide) ⟨(Nat.zero_le _), (Nat.zero_le _)⟩ rfl hl.1 (Nat.le_of_ble_eq_true rfl) dX2_addUp_150 rfl (fun H locs hr hS => ?_)
    refine lv_aload_n hx hb dX2_addUp_153 rfl (lv_at hl 0 rfl) ?_
    refine lv_aload_n hx hb dX2_addUp_154 rfl (lv_at hl 1 rfl) ?_
    obtain ⟨x42, ex42, hs⟩ := bi_inv hs
    refine hv_gR (C := RX4) (T := TX4) (N := 2) (ci := 4) hx hb hts inX4 hown hk hr rfl 1 (by decide) (hts _ tw_84) ex42 dX2_addUp_155 ?_
    refine lv_aload_n hx hb dX2_addUp_158 rfl (lv_at hl 0 rfl) ?_
    obtain ⟨x43, ex43, hs⟩ := bi_inv hs
    refine hv_gR (C := RX2) (T := TX2) (N := 8) (ci := 2) hx hb hts inX2 hown hk hr rfl 4 (by decide) (hts _ tw_207) ex43 dX2_addUp_159 ?_
    refine lv_aload_n hx hb dX2_addUp_162 rfl (lv_at hl 0 rfl) ?_
    obtain ⟨x44, ex44, hs⟩ := bi_inv hs
    refine hv_gR (C := RX2) (T := TX2) (N := 8) (ci := 2) hx hb hts inX2 hown hk hr rfl 6 (by decide) (hts _ tw_209) ex44 dX2_addUp_163 ?_
    obtain ⟨_, ex45, hs⟩ := bi_inv hs
    obtain ⟨g46, eg46, hs⟩ := bi_inv hs
    refine hv_V0 (n := 3) [.ref x42, .ref x43, .ref x44] [] hx hb hml hown hts hk hr hz hS (zm_X2_cut l D z eg46) ex45 rfl tw_682 tw_684 ts_14 tw_8 tw_685 (by decide +kernel) (by decide) ⟨(Nat.zero_le _), (Nat.zero_le _)⟩ rfl hl.1 (Nat.le_of_ble_eq_true rfl) dX2_addUp_166 rfl (fun H locs hr hS => ?_)
    refine lv_aload_n hx hb dX2_addUp_169 rfl (lv_at hl 0 rfl) ?_
    obtain ⟨x47, ex47, hs⟩ := bi_inv hs
    refine hv_gR (C := RX2) (T := TX2) (N := 8) (ci := 2) hx hb hts inX2 hown hk hr rfl 5 (by decide) (hts _ tw_208) ex47 dX2_addUp_170 ?_
    refine lv_aload_n hx hb dX2_addUp_173 rfl (lv_at hl 0 rfl) ?_
    obtain ⟨x48, ex48, hs⟩ := bi_inv hs
    refine hv_gR (C := RX2) (T := TX2) (N := 8) (ci := 2) hx hb hts inX2 hown hk hr rfl 6 (by decide) (hts _ tw_209) ex48 dX2_addUp_174 ?_
    refine lv_aload_n hx hb dX2_addUp_177 rfl (lv_at hl 0 rfl) ?_
    obtain ⟨x49, ex49, hs⟩ := bi_inv hs
    refine hv_gR (C := RX2) (T := TX2) (N := 8) (ci := 2) hx hb hts inX2 hown hk hr rfl 1 (by decide) (hts _ tw_203) ex49 dX2_addUp_178 ?_
    obtain ⟨g50, eg50, hs⟩ := bi_inv hs
    refine hv_S0 (n := 3) [.ref x47, .ref x48, .ref x49] [] hx hb hml hown hts hk hr hz hS (zm_X8_product l D z eg50) tw_705 tw_472 tw_2 tw_473 (by decide +kernel) (by decide) ⟨(Nat.zero_le _), (Nat.zero_le _)⟩ rfl hl.1 (Nat.le_of_ble_eq_true rfl) dX2_addUp_181 rfl (fun H locs hr hS => ?_)
    obtain rfl := Option.some.inj hs
    exact hv_vret hx hb hrt hlk hr hS dX2_addUp_184
  unfold zs_X2_addUp at hs
  refine lv_aload_n hx hb dX2_addUp_0 rfl (lv_at hl 0 rfl) ?_
  obtain ⟨x1, ex1, hs⟩ := bi_inv hs
  refine hv_gR (C := RX2) (T := TX2) (N := 8) (ci := 2) hx hb hts inX2 hown hk hr rfl 3 (by decide) (hts _ tw_206) ex1 dX2_addUp_1 ?_
  refine lv_aload_n hx hb dX2_addUp_4 rfl (lv_at hl 1 rfl) ?_
  obtain ⟨x2, ex2, hs⟩ := bi_inv hs
  refine hv_gR (C := RX4) (T := TX4) (N := 2) (ci := 4) hx hb hts inX4 hown hk hr rfl 1 (by decide) (hts _ tw_84) ex2 dX2_addUp_5 ?_
  refine lv_aload_n hx hb dX2_addUp_8 rfl (lv_at hl 2 rfl) ?_
  obtain ⟨x3, ex3, hs⟩ := bi_inv hs
  refine hv_gR (C := RX4) (T := TX4) (N := 2) (ci := 4) hx hb hts inX4 hown hk hr rfl 1 (by decide) (hts _ tw_84) ex3 dX2_addUp_9 ?_
  refine lv_aload_n hx hb dX2_addUp_12 rfl (lv_at hl 0 rfl) ?_
  obtain ⟨x4, ex4, hs⟩ := bi_inv hs
  refine hv_gR (C := RX2) (T := TX2) (N := 8) (ci := 2) hx hb hts inX2 hown hk hr rfl 4 (by decide) (hts _ tw_207) ex4 dX2_addUp_13 ?_
  obtain ⟨_, ex5, hs⟩ := bi_inv hs
  obtain ⟨g6, eg6, hs⟩ := bi_inv hs
  refine hv_V0 (n := 3) [.ref x2, .ref x3, .ref x4] [] hx hb hml hown hts hk hr hz hS (zm_X3_commonDivisor l D z eg6) ex5 rfl tw_681 tw_533 tw_534 tw_7 tw_535 (by decide +kernel) (by decide) ⟨(Nat.zero_le _), (Nat.zero_le _)⟩ rfl hl.1 (Nat.le_of_ble_eq_true rfl) dX2_addUp_16 rfl (fun H locs hr hS => ?_)
  refine lv_aload_n hx hb dX2_addUp_19 rfl (lv_at hl 0 rfl) ?_
  refine lv_aload_n hx hb dX2_addUp_20 rfl (lv_at hl 1 rfl) ?_
  obtain ⟨x7, ex7, hs⟩ := bi_inv hs
  refine hv_gR (C := RX4) (T := TX4) (N := 2) (ci := 4) hx hb hts inX4 hown hk hr rfl 1 (by decide) (hts _ tw_84) ex7 dX2_addUp_21 ?_
  refine lv_aload_n hx hb dX2_addUp_24 rfl (lv_at hl 0 rfl) ?_
  obtain ⟨x8, ex8, hs⟩ := bi_inv hs
  refine hv_gR (C := RX2) (T := TX2) (N := 8) (ci := 2) hx hb hts inX2 hown hk hr rfl 4 (by decide) (hts _ tw_207) ex8 dX2_addUp_25 ?_
  refine lv_aload_n hx hb dX2_addUp_28 rfl (lv_at hl 0 rfl) ?_
  obtain ⟨x9, ex9, hs⟩ := bi_inv hs
  refine hv_gR (C := RX2) (T := TX2) (N := 8) (ci := 2) hx hb hts inX2 hown hk hr rfl 5 (by decide) (hts _ tw_208) ex9 dX2_addUp_29 ?_
  obtain ⟨_, ex10, hs⟩ := bi_inv hs
  obtain ⟨g11, eg11, hs⟩ := bi_inv hs
  refine hv_V0 (n := 3) [.ref x7, .ref x8, .ref x9] [] hx hb hml hown hts hk hr hz hS (zm_X2_cut l D z eg11) ex10 rfl tw_682 tw_684 ts_14 tw_8 tw_685 (by decide +kernel) (by decide) ⟨(Nat.zero_le _), (Nat.zero_le _)⟩ rfl hl.1 (Nat.le_of_ble_eq_true rfl) dX2_addUp_32 rfl (fun H locs hr hS => ?_)
  refine lv_aload_n hx hb dX2_addUp_35 rfl (lv_at hl 0 rfl) ?_
  refine lv_aload_n hx hb dX2_addUp_36 rfl (lv_at hl 2 rfl) ?_
  obtain ⟨x12, ex12, hs⟩ := bi_inv hs
  refine hv_gR (C := RX4) (T := TX4) (N := 2) (ci := 4) hx hb hts inX4 hown hk hr rfl 1 (by decide) (hts _ tw_84) ex12 dX2_addUp_37 ?_
  refine lv_aload_n hx hb dX2_addUp_40 rfl (lv_at hl 0 rfl) ?_
  obtain ⟨x13, ex13, hs⟩ := bi_inv hs
  refine hv_gR (C := RX2) (T := TX2) (N := 8) (ci := 2) hx hb hts inX2 hown hk hr rfl 4 (by decide) (hts _ tw_207) ex13 dX2_addUp_41 ?_
  refine lv_aload_n hx hb dX2_addUp_44 rfl (lv_at hl 0 rfl) ?_
  obtain ⟨x14, ex14, hs⟩ := bi_inv hs
  refine hv_gR (C := RX2) (T := TX2) (N := 8) (ci := 2) hx hb hts inX2 hown hk hr rfl 6 (by decide) (hts _ tw_209) ex14 dX2_addUp_45 ?_
  obtain ⟨_, ex15, hs⟩ := bi_inv hs
  obtain ⟨g16, eg16, hs⟩ := bi_inv hs
  refine hv_V0 (n := 3) [.ref x12, .ref x13, .ref x14] [] hx hb hml hown hts hk hr hz hS (zm_X2_cut l D z eg16) ex15 rfl tw_682 tw_684 ts_14 tw_8 tw_685 (by decide +kernel) (by decide) ⟨(Nat.zero_le _), (Nat.zero_le _)⟩ rfl hl.1 (Nat.le_of_ble_eq_true rfl) dX2_addUp_48 rfl (fun H locs hr hS => ?_)
  refine lv_aload_n hx hb dX2_addUp_51 rfl (lv_at hl 1 rfl) ?_
  obtain ⟨x17, ex17, hs⟩ := bi_inv hs
  refine hv_gR (C := RX4) (T := TX4) (N := 2) (ci := 4) hx hb hts inX4 hown hk hr rfl 0 (by decide) (hts _ tw_80) ex17 dX2_addUp_52 ?_
  refine lv_aload_n hx hb dX2_addUp_55 rfl (lv_at hl 0 rfl) ?_
  obtain ⟨x18, ex18, hs⟩ := bi_inv hs
  refine hv_gR (C := RX2) (T := TX2) (N := 8) (ci := 2) hx hb hts inX2 hown hk hr rfl 6 (by decide) (hts _ tw_209) ex18 dX2_addUp_56 ?_
  refine lv_aload_n hx hb dX2_addUp_59 rfl (lv_at hl 0 rfl) ?_
  obtain ⟨x19, ex19, hs⟩ := bi_inv hs
  refine hv_gR (C := RX2) (T := TX2) (N := 8) (ci := 2) hx hb hts inX2 hown hk hr rfl 0 (by decide) (hts _ tw_201) ex19 dX2_addUp_60 ?_
  obtain ⟨g20, eg20, hs⟩ := bi_inv hs
  refine hv_S0 (n := 3) [.ref x17, .ref x18, .ref x19] [] hx hb hml hown hts hk hr hz hS (zm_X8_product l D z eg20) tw_705 tw_472 tw_2 tw_473 (by decide +kernel) (by decide) ⟨(Nat.zero_le _), (Nat.zero_le _)⟩ rfl hl.1 (Nat.le_of_ble_eq_true rfl) dX2_addUp_63 rfl (fun H locs hr hS => ?_)
  refine lv_aload_n hx hb dX2_addUp_66 rfl (lv_at hl 2 rfl) ?_
  obtain ⟨x21, ex21, hs⟩ := bi_inv hs
  refine hv_gR (C := RX4) (T := TX4) (N := 2) (ci := 4) hx hb hts inX4 hown hk hr rfl 0 (by decide) (hts _ tw_80) ex21 dX2_addUp_67 ?_
  refine lv_aload_n hx hb dX2_addUp_70 rfl (lv_at hl 0 rfl) ?_
  obtain ⟨x22, ex22, hs⟩ := bi_inv hs
  refine hv_gR (C := RX2) (T := TX2) (N := 8) (ci := 2) hx hb hts inX2 hown hk hr rfl 5 (by decide) (hts _ tw_208) ex22 dX2_addUp_71 ?_
  refine lv_aload_n hx hb dX2_addUp_74 rfl (lv_at hl 0 rfl) ?_
  obtain ⟨x23, ex23, hs⟩ := bi_inv hs
  refine hv_gR (C := RX2) (T := TX2) (N := 8) (ci := 2) hx hb hts inX2 hown hk hr rfl 7 (by decide) (hts _ tw_210) ex23 dX2_addUp_75 ?_
  obtain ⟨g24, eg24, hs⟩ := bi_inv hs
  refine hv_S0 (n := 3) [.ref x21, .ref x22, .ref x23] [] hx hb hml hown hts hk hr hz hS (zm_X8_product l D z eg24) tw_705 tw_472 tw_2 tw_473 (by decide +kernel) (by decide) ⟨(Nat.zero_le _), (Nat.zero_le _)⟩ rfl hl.1 (Nat.le_of_ble_eq_true rfl) dX2_addUp_78 rfl (fun H locs hr hS => ?_)
  refine lv_iload_n hx hb dX2_addUp_81 rfl (lv_at hl 3 rfl) ?_
  refine lv_if_eq (tgt := 103) hx hb dX2_addUp_82 (by decide) (fun c25 => ?_) (fun c25 => ?_)
  · rw [if_pos c25] at hs
    refine lv_aload_n hx hb dX2_addUp_103 rfl (lv_at hl 0 rfl) ?_
    obtain ⟨x26, ex26, hs⟩ := bi_inv hs
    refine hv_gR (C := RX2) (T := TX2) (N := 8) (ci := 2) hx hb hts inX2 hown hk hr rfl 0 (by decide) (hts _ tw_201) ex26 dX2_addUp_104 ?_
    refine lv_aload_n hx hb dX2_addUp_107 rfl (lv_at hl 0 rfl) ?_
    obtain ⟨x27, ex27, hs⟩ := bi_inv hs
    refine hv_gR (C := RX2) (T := TX2) (N := 8) (ci := 2) hx hb hts inX2 hown hk hr rfl 7 (by decide) (hts _ tw_210) ex27 dX2_addUp_108 ?_
    refine lv_aload_n hx hb dX2_addUp_111 rfl (lv_at hl 0 rfl) ?_
    obtain ⟨x28, ex28, hs⟩ := bi_inv hs
    refine hv_gR (C := RX2) (T := TX2) (N := 8) (ci := 2) hx hb hts inX2 hown hk hr rfl 0 (by decide) (hts _ tw_201) ex28 dX2_addUp_112 ?_
    obtain ⟨g29, eg29, hs⟩ := bi_inv hs
    refine hv_S0 (n := 3) [.ref x26, .ref x27, .ref x28] [] hx hb hml hown hts hk hr hz hS (zm_X8_sum l D z eg29) tw_707 tw_451 tw_2 tw_452 (by decide +kernel) (by decide) ⟨(Nat.zero_le _), (Nat.zero_le _)⟩ rfl hl.1 (Nat.le_of_ble_eq_true rfl) dX2_addUp_115 rfl (fun H locs hr hS => ?_)
    exact hJ118 g29 u0 u2 H locs ls hs hr hS (lv_sub hl [0, 2] rfl)
  · rw [if_neg c25] at hs
    refine lv_aload_n hx hb dX2_addUp_85 rfl (lv_at hl 0 rfl) ?_
    obtain ⟨x51, ex51, hs⟩ := bi_inv hs
    refine hv_gR (C := RX2) (T := TX2) (N := 8) (ci := 2) hx hb hts inX2 hown hk hr rfl 0 (by decide) (hts _ tw_201) ex51 dX2_addUp_86 ?_
    refine lv_aload_n hx hb dX2_addUp_89 rfl (lv_at hl 0 rfl) ?_
    obtain ⟨x52, ex52, hs⟩ := bi_inv hs
    refine hv_gR (C := RX2) (T := TX2) (N := 8) (ci := 2) hx hb hts inX2 hown hk hr rfl 7 (by decide) (hts _ tw_210) ex52 dX2_addUp_90 ?_
    refine lv_aload_n hx hb dX2_addUp_93 rfl (lv_at hl 0 rfl) ?_
    obtain ⟨x53, ex53, hs⟩ := bi_inv hs
    refine hv_gR (C := RX2) (T := TX2) (N := 8) (ci := 2) hx hb hts inX2 hown hk hr rfl 0 (by decide) (hts _ tw_201) ex53 dX2_addUp_94 ?_
    obtain ⟨g54, eg54, hs⟩ := bi_inv hs
    refine hv_S0 (n := 3) [.ref x51, .ref x52, .ref x53] [] hx hb hml hown hts hk hr hz hS (zm_X8_difference l D z eg54) tw_706 tw_469 tw_2 tw_470 (by decide +kernel) (by decide) ⟨(Nat.zero_le _), (Nat.zero_le _)⟩ rfl hl.1 (Nat.le_of_ble_eq_true rfl) dX2_addUp_97 rfl (fun H locs hr hS => ?_)
    refine lv_goto (tgt := 118) hx hb dX2_addUp_100 (by decide) ?_
    exact hJ118 g54 u0 u2 H locs ls hs hr hS (lv_sub hl [0, 2] rfl)
theorem dX2_init_0 : decode cX2_init 0 = .ok (.aload_n 0, 1) := by decide +kernel
theorem dX2_init_1 : decode cX2_init 1 = .ok (.invokespecial 1, 3) := by decide +kernel
theorem dX2_init_4 : decode cX2_init 4 = .ok (.aload_n 0, 1) := by decide +kernel
theorem dX2_init_5 : decode cX2_init 5 = .ok (.aload_n 1, 1) := by decide +kernel
theorem dX2_init_6 : decode cX2_init 6 = .ok (.putfield 7, 3) := by decide +kernel
theorem dX2_init_9 : decode cX2_init 9 = .ok (.aload_n 0, 1) := by decide +kernel
theorem dX2_init_10 : decode cX2_init 10 = .ok (.aload_n 2, 1) := by decide +kernel
theorem dX2_init_11 : decode cX2_init 11 = .ok (.putfield 13, 3) := by decide +kernel
theorem dX2_init_14 : decode cX2_init 14 = .ok (.aload_n 0, 1) := by decide +kernel
theorem dX2_init_15 : decode cX2_init 15 = .ok (.new 17, 3) := by decide +kernel
theorem dX2_init_18 : decode cX2_init 18 = .ok (.dup, 1) := by decide +kernel
theorem dX2_init_19 : decode cX2_init 19 = .ok (.invokespecial 19, 3) := by decide +kernel
theorem dX2_init_22 : decode cX2_init 22 = .ok (.putfield 20, 3) := by decide +kernel
theorem dX2_init_25 : decode cX2_init 25 = .ok (.aload_n 0, 1) := by decide +kernel
theorem dX2_init_26 : decode cX2_init 26 = .ok (.new 17, 3) := by decide +kernel
theorem dX2_init_29 : decode cX2_init 29 = .ok (.dup, 1) := by decide +kernel
theorem dX2_init_30 : decode cX2_init 30 = .ok (.invokespecial 19, 3) := by decide +kernel
theorem dX2_init_33 : decode cX2_init 33 = .ok (.putfield 24, 3) := by decide +kernel
theorem dX2_init_36 : decode cX2_init 36 = .ok (.aload_n 0, 1) := by decide +kernel
theorem dX2_init_37 : decode cX2_init 37 = .ok (.new 17, 3) := by decide +kernel
theorem dX2_init_40 : decode cX2_init 40 = .ok (.dup, 1) := by decide +kernel
theorem dX2_init_41 : decode cX2_init 41 = .ok (.invokespecial 19, 3) := by decide +kernel
theorem dX2_init_44 : decode cX2_init 44 = .ok (.putfield 27, 3) := by decide +kernel
theorem dX2_init_47 : decode cX2_init 47 = .ok (.aload_n 0, 1) := by decide +kernel
theorem dX2_init_48 : decode cX2_init 48 = .ok (.new 17, 3) := by decide +kernel
theorem dX2_init_51 : decode cX2_init 51 = .ok (.dup, 1) := by decide +kernel
theorem dX2_init_52 : decode cX2_init 52 = .ok (.invokespecial 19, 3) := by decide +kernel
theorem dX2_init_55 : decode cX2_init 55 = .ok (.putfield 30, 3) := by decide +kernel
theorem dX2_init_58 : decode cX2_init 58 = .ok (.aload_n 0, 1) := by decide +kernel
theorem dX2_init_59 : decode cX2_init 59 = .ok (.new 17, 3) := by decide +kernel
theorem dX2_init_62 : decode cX2_init 62 = .ok (.dup, 1) := by decide +kernel
theorem dX2_init_63 : decode cX2_init 63 = .ok (.invokespecial 19, 3) := by decide +kernel
theorem dX2_init_66 : decode cX2_init 66 = .ok (.putfield 33, 3) := by decide +kernel
theorem dX2_init_69 : decode cX2_init 69 = .ok (.aload_n 0, 1) := by decide +kernel
theorem dX2_init_70 : decode cX2_init 70 = .ok (.new 17, 3) := by decide +kernel
theorem dX2_init_73 : decode cX2_init 73 = .ok (.dup, 1) := by decide +kernel
theorem dX2_init_74 : decode cX2_init 74 = .ok (.invokespecial 19, 3) := by decide +kernel
theorem dX2_init_77 : decode cX2_init 77 = .ok (.putfield 36, 3) := by decide +kernel
theorem dX2_init_80 : decode cX2_init 80 = .ok (.return_, 1) := by decide +kernel
def zs_X2_init (h : AH) (u0 : Nat) (u1 : Nat) (u2 : Nat) : Option AH :=
  (pV h u0 2 2 (.ref u1)).bind fun g1 => (pV g1 u0 2 3 (.ref u2)).bind fun g2 => lt_ (nO g2 (.inr (8, [.null, .int 0, .int 0]))) fun g3 => (zs_X8_init g3 g2.2).bind fun g4 => (pV g4 u0 2 0 (.ref g2.2)).bind fun g5 => lt_ (nO g5 (.inr (8, [.null, .int 0, .int 0]))) fun g6 => (zs_X8_init g6 g5.2).bind fun g7 => (pV g7 u0 2 1 (.ref g5.2)).bind fun g8 => lt_ (nO g8 (.inr (8, [.null, .int 0, .int 0]))) fun g9 => (zs_X8_init g9 g8.2).bind fun g10 => (pV g10 u0 2 4 (.ref g8.2)).bind fun g11 => lt_ (nO g11 (.inr (8, [.null, .int 0, .int 0]))) fun g12 => (zs_X8_init g12 g11.2).bind fun g13 => (pV g13 u0 2 5 (.ref g11.2)).bind fun g14 => lt_ (nO g14 (.inr (8, [.null, .int 0, .int 0]))) fun g15 => (zs_X8_init g15 g14.2).bind fun g16 => (pV g16 u0 2 6 (.ref g14.2)).bind fun g17 => lt_ (nO g17 (.inr (8, [.null, .int 0, .int 0]))) fun g18 => (zs_X8_init g18 g17.2).bind fun g19 => (pV g19 u0 2 7 (.ref g17.2)).bind fun g20 => some g20
set_option maxRecDepth 100000 in
set_option maxHeartbeats 4000000 in
theorem zm_X2_init (l : Launch) (D : hG) (z : Nat) {h : AH} {u0 : Nat} {u1 : Nat} {u2 : Nat} {h' : AH} (hs : zs_X2_init h u0 u1 u2 = some h') : hC l D z yX2_init cX2_init 3 (Option.none : Option Jvm.ClassFile.FieldType) 2 41 12 174 [.ref u0, .ref u1, .ref u2] h h' none := by
  refine hC_of (by decide) (Nat.le_of_ble_eq_true rfl) ?_
  intro p e s m below meth c hx hb hml hrt hlk hown hnm hts hk hr hz ls hl
  replace hown : s.vm.findClass RX2 = some m.cls := hown
  replace hl : lv_has ls 3 [(0, .ref u0), (1, .ref u1), (2, .ref u2)] := hl
  have hS : va_S (hA z) s.heap s.heap [] := va_S.rf
  suffices hgo : ∀ (H : Heap) (locs : List Loc), hR D z h H → va_S (hA z) s.heap H locs → W p l e ({ frames := 2, cells := 12, slots := 174, locals := 41 } : Room) s m ([.ref u0, .ref u1, .ref u2] : List Value).toArray below meth c H locs 0 0 (MQ below (hQ D z h' none) ([.ref u0, .ref u1, .ref u2] : List Value).toArray s 12 174 (hA z)) (F0 m 0 ls []) from hgo _ _ hr hS
  clear hr hS
  intro H locs hr hS
  unfold zs_X2_init at hs
  refine lv_aload_n hx hb dX2_init_0 rfl (lv_at hl 0 rfl) ?_
  refine W.objInit hx hb hown (hts _ tw_198) (hts _ tw_27) (hts _ tw_28) rfl (by rw [hml]; exact hl.1) rfl dX2_init_1 (by decide) (Nat.le_of_ble_eq_true rfl) ?_
  refine W.eq (g2 := F0 m 4 ls []) rfl ?_
  refine lv_aload_n hx hb dX2_init_4 rfl (lv_at hl 0 rfl) ?_
  refine lv_aload_n hx hb dX2_init_5 rfl (lv_at hl 1 rfl) ?_
  obtain ⟨g1, eg1, hs⟩ := bi_inv hs
  refine hv_pF (C := RX2) (T := TX2) (N := 8) (ci := 2) hx hb hts inX2 tyX2 tyX2_ok nmX2 hown hk hr hS rfl 2 (by decide) (hts _ tw_205) rfl hnm rfl rfl rfl eg1 dX2_init_6 (fun H locs hr hS => ?_)
  refine lv_aload_n hx hb dX2_init_9 rfl (lv_at hl 0 rfl) ?_
  refine lv_aload_n hx hb dX2_init_10 rfl (lv_at hl 2 rfl) ?_
  obtain ⟨g2, eg2, hs⟩ := bi_inv hs
  refine hv_pF (C := RX2) (T := TX2) (N := 8) (ci := 2) hx hb hts inX2 tyX2 tyX2_ok nmX2 hown hk hr hS rfl 3 (by decide) (hts _ tw_206) rfl hnm rfl rfl rfl eg2 dX2_init_11 (fun H locs hr hS => ?_)
  refine lv_aload_n hx hb dX2_init_14 rfl (lv_at hl 0 rfl) ?_
  refine hv_new (C := RX8) (T := TX8) (N := 3) (ci := 8) hx hb hts inX8 tyX8 tyX8_ok hown tw_199 tw_31 tw_2 hk hr hz hS rfl [.null, .int 0, .int 0] (by decide +kernel) (by show _ ≤ (12 : Nat); omega) (by show _ ≤ (174 : Nat); omega) dX2_init_15 (fun H hr hS => ?_)
  obtain ⟨g3, eg3⟩ : ∃ q, q = nO g2 (.inr (8, [.null, .int 0, .int 0])) := ⟨_, rfl⟩
  rw [← eg3] at hr
  replace hs := lt_inv hs g3 eg3
  refine lv_dup hx hb dX2_init_18 rfl ?_
  obtain ⟨g4, eg4, hs⟩ := bi_inv hs
  refine hv_I0 (n := 0) [] [.ref g2.2, .ref u0] hx hb hml hown hts hk hr hz hS (zm_X8_init l D z eg4) tw_200 tw_33 tw_2 tw_34 rfl (by decide +kernel) (by decide) ⟨(by show _ ≤ (12 : Nat); omega), (by show _ ≤ (174 : Nat); omega)⟩ rfl hl.1 (Nat.le_of_ble_eq_true rfl) dX2_init_19 rfl (fun H locs hr hS => ?_)
  obtain ⟨g5, eg5, hs⟩ := bi_inv hs
  refine hv_pF (C := RX2) (T := TX2) (N := 8) (ci := 2) hx hb hts inX2 tyX2 tyX2_ok nmX2 hown hk hr hS rfl 0 (by decide) (hts _ tw_201) rfl hnm rfl rfl rfl eg5 dX2_init_22 (fun H locs hr hS => ?_)
  refine lv_aload_n hx hb dX2_init_25 rfl (lv_at hl 0 rfl) ?_
  refine hv_new (C := RX8) (T := TX8) (N := 3) (ci := 8) hx hb hts inX8 tyX8 tyX8_ok hown tw_199 tw_31 tw_2 hk hr hz hS rfl [.null, .int 0, .int 0] (by decide +kernel) (by show _ ≤ (12 : Nat); omega) (by show _ ≤ (174 : Nat); omega) dX2_init_26 (fun H hr hS => ?_)
  obtain ⟨g6, eg6⟩ : ∃ q, q = nO g5 (.inr (8, [.null, .int 0, .int 0])) := ⟨_, rfl⟩
  rw [← eg6] at hr
  replace hs := lt_inv hs g6 eg6
  refine lv_dup hx hb dX2_init_29 rfl ?_
  obtain ⟨g7, eg7, hs⟩ := bi_inv hs
  refine hv_I0 (n := 0) [] [.ref g5.2, .ref u0] hx hb hml hown hts hk hr hz hS (zm_X8_init l D z eg7) tw_200 tw_33 tw_2 tw_34 rfl (by decide +kernel) (by decide) ⟨(by show _ ≤ (12 : Nat); omega), (by show _ ≤ (174 : Nat); omega)⟩ rfl hl.1 (Nat.le_of_ble_eq_true rfl) dX2_init_30 rfl (fun H locs hr hS => ?_)
  obtain ⟨g8, eg8, hs⟩ := bi_inv hs
  refine hv_pF (C := RX2) (T := TX2) (N := 8) (ci := 2) hx hb hts inX2 tyX2 tyX2_ok nmX2 hown hk hr hS rfl 1 (by decide) (hts _ tw_203) rfl hnm rfl rfl rfl eg8 dX2_init_33 (fun H locs hr hS => ?_)
  refine lv_aload_n hx hb dX2_init_36 rfl (lv_at hl 0 rfl) ?_
  refine hv_new (C := RX8) (T := TX8) (N := 3) (ci := 8) hx hb hts inX8 tyX8 tyX8_ok hown tw_199 tw_31 tw_2 hk hr hz hS rfl [.null, .int 0, .int 0] (by decide +kernel) (by show _ ≤ (12 : Nat); omega) (by show _ ≤ (174 : Nat); omega) dX2_init_37 (fun H hr hS => ?_)
  obtain ⟨g9, eg9⟩ : ∃ q, q = nO g8 (.inr (8, [.null, .int 0, .int 0])) := ⟨_, rfl⟩
  rw [← eg9] at hr
  replace hs := lt_inv hs g9 eg9
  refine lv_dup hx hb dX2_init_40 rfl ?_
  obtain ⟨g10, eg10, hs⟩ := bi_inv hs
  refine hv_I0 (n := 0) [] [.ref g8.2, .ref u0] hx hb hml hown hts hk hr hz hS (zm_X8_init l D z eg10) tw_200 tw_33 tw_2 tw_34 rfl (by decide +kernel) (by decide) ⟨(by show _ ≤ (12 : Nat); omega), (by show _ ≤ (174 : Nat); omega)⟩ rfl hl.1 (Nat.le_of_ble_eq_true rfl) dX2_init_41 rfl (fun H locs hr hS => ?_)
  obtain ⟨g11, eg11, hs⟩ := bi_inv hs
  refine hv_pF (C := RX2) (T := TX2) (N := 8) (ci := 2) hx hb hts inX2 tyX2 tyX2_ok nmX2 hown hk hr hS rfl 4 (by decide) (hts _ tw_207) rfl hnm rfl rfl rfl eg11 dX2_init_44 (fun H locs hr hS => ?_)
  refine lv_aload_n hx hb dX2_init_47 rfl (lv_at hl 0 rfl) ?_
  refine hv_new (C := RX8) (T := TX8) (N := 3) (ci := 8) hx hb hts inX8 tyX8 tyX8_ok hown tw_199 tw_31 tw_2 hk hr hz hS rfl [.null, .int 0, .int 0] (by decide +kernel) (by show _ ≤ (12 : Nat); omega) (by show _ ≤ (174 : Nat); omega) dX2_init_48 (fun H hr hS => ?_)
  obtain ⟨g12, eg12⟩ : ∃ q, q = nO g11 (.inr (8, [.null, .int 0, .int 0])) := ⟨_, rfl⟩
  rw [← eg12] at hr
  replace hs := lt_inv hs g12 eg12
  refine lv_dup hx hb dX2_init_51 rfl ?_
  obtain ⟨g13, eg13, hs⟩ := bi_inv hs
  refine hv_I0 (n := 0) [] [.ref g11.2, .ref u0] hx hb hml hown hts hk hr hz hS (zm_X8_init l D z eg13) tw_200 tw_33 tw_2 tw_34 rfl (by decide +kernel) (by decide) ⟨(by show _ ≤ (12 : Nat); omega), (by show _ ≤ (174 : Nat); omega)⟩ rfl hl.1 (Nat.le_of_ble_eq_true rfl) dX2_init_52 rfl (fun H locs hr hS => ?_)
  obtain ⟨g14, eg14, hs⟩ := bi_inv hs
  refine hv_pF (C := RX2) (T := TX2) (N := 8) (ci := 2) hx hb hts inX2 tyX2 tyX2_ok nmX2 hown hk hr hS rfl 5 (by decide) (hts _ tw_208) rfl hnm rfl rfl rfl eg14 dX2_init_55 (fun H locs hr hS => ?_)
  refine lv_aload_n hx hb dX2_init_58 rfl (lv_at hl 0 rfl) ?_
  refine hv_new (C := RX8) (T := TX8) (N := 3) (ci := 8) hx hb hts inX8 tyX8 tyX8_ok hown tw_199 tw_31 tw_2 hk hr hz hS rfl [.null, .int 0, .int 0] (by decide +kernel) (by show _ ≤ (12 : Nat); omega) (by show _ ≤ (174 : Nat); omega) dX2_init_59 (fun H hr hS => ?_)
  obtain ⟨g15, eg15⟩ : ∃ q, q = nO g14 (.inr (8, [.null, .int 0, .int 0])) := ⟨_, rfl⟩
  rw [← eg15] at hr
  replace hs := lt_inv hs g15 eg15
  refine lv_dup hx hb dX2_init_62 rfl ?_
  obtain ⟨g16, eg16, hs⟩ := bi_inv hs
  refine hv_I0 (n := 0) [] [.ref g14.2, .ref u0] hx hb hml hown hts hk hr hz hS (zm_X8_init l D z eg16) tw_200 tw_33 tw_2 tw_34 rfl (by decide +kernel) (by decide) ⟨(by show _ ≤ (12 : Nat); omega), (by show _ ≤ (174 : Nat); omega)⟩ rfl hl.1 (Nat.le_of_ble_eq_true rfl) dX2_init_63 rfl (fun H locs hr hS => ?_)
  obtain ⟨g17, eg17, hs⟩ := bi_inv hs
  refine hv_pF (C := RX2) (T := TX2) (N := 8) (ci := 2) hx hb hts inX2 tyX2 tyX2_ok nmX2 hown hk hr hS rfl 6 (by decide) (hts _ tw_209) rfl hnm rfl rfl rfl eg17 dX2_init_66 (fun H locs hr hS => ?_)
  refine lv_aload_n hx hb dX2_init_69 rfl (lv_at hl 0 rfl) ?_
  refine hv_new (C := RX8) (T := TX8) (N := 3) (ci := 8) hx hb hts inX8 tyX8 tyX8_ok hown tw_199 tw_31 tw_2 hk hr hz hS rfl [.null, .int 0, .int 0] (by decide +kernel) (by show _ ≤ (12 : Nat); omega) (by show _ ≤ (174 : Nat); omega) dX2_init_70 (fun H hr hS => ?_)
  obtain ⟨g18, eg18⟩ : ∃ q, q = nO g17 (.inr (8, [.null, .int 0, .int 0])) := ⟨_, rfl⟩
  rw [← eg18] at hr
  replace hs := lt_inv hs g18 eg18
  refine lv_dup hx hb dX2_init_73 rfl ?_
  obtain ⟨g19, eg19, hs⟩ := bi_inv hs
  refine hv_I0 (n := 0) [] [.ref g17.2, .ref u0] hx hb hml hown hts hk hr hz hS (zm_X8_init l D z eg19) tw_200 tw_33 tw_2 tw_34 rfl (by decide +kernel) (by decide) ⟨(by show _ ≤ (12 : Nat); omega), (by show _ ≤ (174 : Nat); omega)⟩ rfl hl.1 (Nat.le_of_ble_eq_true rfl) dX2_init_74 rfl (fun H locs hr hS => ?_)
  obtain ⟨g20, eg20, hs⟩ := bi_inv hs
  refine hv_pF (C := RX2) (T := TX2) (N := 8) (ci := 2) hx hb hts inX2 tyX2 tyX2_ok nmX2 hown hk hr hS rfl 7 (by decide) (hts _ tw_210) rfl hnm rfl rfl rfl eg20 dX2_init_77 (fun H locs hr hS => ?_)
  obtain rfl := Option.some.inj hs
  exact hv_vret hx hb hrt hlk hr hS dX2_init_80
theorem dX2_raiseBottom_0 : decode cX2_raiseBottom 0 = .ok (.aload_n 0, 1) := by decide +kernel
theorem dX2_raiseBottom_1 : decode cX2_raiseBottom 1 = .ok (.getfield 24, 3) := by decide +kernel
theorem dX2_raiseBottom_4 : decode cX2_raiseBottom 4 = .ok (.getfield 79, 3) := by decide +kernel
theorem dX2_raiseBottom_7 : decode cX2_raiseBottom 7 = .ok (.ifCond .eq 33, 3) := by decide +kernel
theorem dX2_raiseBottom_10 : decode cX2_raiseBottom 10 = .ok (.aload_n 0, 1) := by decide +kernel
theorem dX2_raiseBottom_11 : decode cX2_raiseBottom 11 = .ok (.getfield 24, 3) := by decide +kernel
theorem dX2_raiseBottom_14 : decode cX2_raiseBottom 14 = .ok (.iconst 0, 1) := by decide +kernel
theorem dX2_raiseBottom_15 : decode cX2_raiseBottom 15 = .ok (.invokevirtual 91, 3) := by decide +kernel
theorem dX2_raiseBottom_18 : decode cX2_raiseBottom 18 = .ok (.aload_n 0, 1) := by decide +kernel
theorem dX2_raiseBottom_19 : decode cX2_raiseBottom 19 = .ok (.getfield 20, 3) := by decide +kernel
theorem dX2_raiseBottom_22 : decode cX2_raiseBottom 22 = .ok (.aload_n 0, 1) := by decide +kernel
theorem dX2_raiseBottom_23 : decode cX2_raiseBottom 23 = .ok (.getfield 20, 3) := by decide +kernel
theorem dX2_raiseBottom_26 : decode cX2_raiseBottom 26 = .ok (.getfield 79, 3) := by decide +kernel
theorem dX2_raiseBottom_29 : decode cX2_raiseBottom 29 = .ok (.ifCond .ne 7, 3) := by decide +kernel
theorem dX2_raiseBottom_32 : decode cX2_raiseBottom 32 = .ok (.iconst 1, 1) := by decide +kernel
theorem dX2_raiseBottom_33 : decode cX2_raiseBottom 33 = .ok (.goto 4, 3) := by decide +kernel
theorem dX2_raiseBottom_36 : decode cX2_raiseBottom 36 = .ok (.iconst 0, 1) := by decide +kernel
theorem dX2_raiseBottom_37 : decode cX2_raiseBottom 37 = .ok (.invokevirtual 91, 3) := by decide +kernel
theorem dX2_raiseBottom_40 : decode cX2_raiseBottom 40 = .ok (.return_, 1) := by decide +kernel
def zj_X2_raiseBottom_37 (g11 : AH) (t0_37 : Int32) (t1_37 : Nat) : Option AH :=
  (chk g11 t1_37 8).bind fun _ => (zs_X8_takeSign g11 t1_37 t0_37).bind fun g13 => some g13
def zs_X2_raiseBottom (h : AH) (u0 : Nat) : Option AH :=
  (gR h u0 2 1).bind fun x1 => (gI h x1 8 2).bind fun x2 => (if x2 = 0 then some h else (gR h u0 2 1).bind fun x4 => (chk h x4 8).bind fun _ => (zs_X8_takeSign h x4 ((0 : Int32))).bind fun g6 => (gR g6 u0 2 0).bind fun x7 => (gR g6 u0 2 0).bind fun x8 => (gI g6 x8 8 2).bind fun x9 => (if x9 = 0 then zj_X2_raiseBottom_37 g6 ((1 : Int32)) x7 else zj_X2_raiseBottom_37 g6 ((0 : Int32)) x7))
set_option maxRecDepth 100000 in
set_option maxHeartbeats 4000000 in
theorem zm_X2_raiseBottom (l : Launch) (D : hG) (z : Nat) {h : AH} {u0 : Nat} {h' : AH} (hs : zs_X2_raiseBottom h u0 = some h') : hC l D z yX2_raiseBottom cX2_raiseBottom 1 (Option.none : Option Jvm.ClassFile.FieldType) 1 21 0 0 [.ref u0] h h' none := by
  refine hC_of (by decide) (Nat.le_of_ble_eq_true rfl) ?_
  intro p e s m below meth c hx hb hml hrt hlk hown hnm hts hk hr hz ls hl
  replace hown : s.vm.findClass RX2 = some m.cls := hown
  replace hl : lv_has ls 1 [(0, .ref u0)] := hl
  have hS : va_S (hA z) s.heap s.heap [] := va_S.rf
  suffices hgo : ∀ (H : Heap) (locs : List Loc), hR D z h H → va_S (hA z) s.heap H locs → W p l e ({ frames := 1, cells := 0, slots := 0, locals := 21 } : Room) s m ([.ref u0] : List Value).toArray below meth c H locs 0 0 (MQ below (hQ D z h' none) ([.ref u0] : List Value).toArray s 0 0 (hA z)) (F0 m 0 ls []) from hgo _ _ hr hS
  clear hr hS
  intro H locs hr hS
  have hJ37 : ∀ (g11 : AH) (t0_37 : Int32) (t1_37 : Nat) (H : Heap) (locs : List Loc) (ls : Array Slot), zj_X2_raiseBottom_37 g11 t0_37 t1_37 = some h' → hR D z g11 H → va_S (hA z) s.heap H locs → lv_has ls 1 [] → W p l e ({ frames := 1, cells := 0, slots := 0, locals := 21 } : Room) s m ([.ref u0] : List Value).toArray below meth c H locs 0 0 (MQ below (hQ D z h' none) ([.ref u0] : List Value).toArray s 0 0 (hA z)) (F0 m 37 ls [.int t0_37, .ref t1_37]) := by
    intro g11 t0_37 t1_37 H locs ls hs hr hS hl
    unfold zj_X2_raiseBottom_37 at hs
    obtain ⟨_, ex12, hs⟩ := bi_inv hs
    obtain ⟨g13, eg13, hs⟩ := bi_inv hs
    refine hv_V0 (n := 1) [.int t0_37] [] hx hb hml hown hts hk hr hz hS (zm_X8_takeSign l D z eg13) ex12 rfl tw_688 tw_75 tw_76 tw_2 tw_77 (by decide +kernel) (by decide) ⟨(Nat.zero_le _), (Nat.zero_le _)⟩ rfl hl.1 (Nat.le_of_ble_eq_true rfl) dX2_raiseBottom_37 rfl (fun H locs hr hS => ?_)
    obtain rfl := Option.some.inj hs
    exact hv_vret hx hb hrt hlk hr hS dX2_raiseBottom_40
  unfold zs_X2_raiseBottom at hs
  refine lv_aload_n hx hb dX2_raiseBottom_0 rfl (lv_at hl 0 rfl) ?_
  obtain ⟨x1, ex1, hs⟩ := bi_inv hs
  refine hv_gR (C := RX2) (T := TX2) (N := 8) (ci := 2) hx hb hts inX2 hown hk hr rfl 1 (by decide) (hts _ tw_203) ex1 dX2_raiseBottom_1 ?_
  obtain ⟨x2, ex2, hs⟩ := bi_inv hs
  refine hv_gI (C := RX8) (T := TX8) (N := 3) (ci := 8) hx hb hts inX8 hown hk hr rfl 2 (by decide) (hts _ tw_46) ex2 dX2_raiseBottom_4 ?_
  refine lv_if_eq (tgt := 40) hx hb dX2_raiseBottom_7 (by decide) (fun c3 => ?_) (fun c3 => ?_)
  · rw [if_pos c3] at hs
    obtain rfl := Option.some.inj hs
    exact hv_vret hx hb hrt hlk hr hS dX2_raiseBottom_40
  · rw [if_neg c3] at hs
    refine lv_aload_n hx hb dX2_raiseBottom_10 rfl (lv_at hl 0 rfl) ?_
    obtain ⟨x4, ex4, hs⟩ := bi_inv hs
    refine hv_gR (C := RX2) (T := TX2) (N := 8) (ci := 2) hx hb hts inX2 hown hk hr rfl 1 (by decide) (hts _ tw_203) ex4 dX2_raiseBottom_11 ?_
    refine lv_iconst (v := 0) hx hb dX2_raiseBottom_14 (by decide) ?_
    obtain ⟨_, ex5, hs⟩ := bi_inv hs
    obtain ⟨g6, eg6, hs⟩ := bi_inv hs
    refine hv_V0 (n := 1) [.int ((0 : Int32))] [] hx hb hml hown hts hk hr hz hS (zm_X8_takeSign l D z eg6) ex5 rfl tw_688 tw_75 tw_76 tw_2 tw_77 (by decide +kernel) (by decide) ⟨(Nat.zero_le _), (Nat.zero_le _)⟩ rfl hl.1 (Nat.le_of_ble_eq_true rfl) dX2_raiseBottom_15 rfl (fun H locs hr hS => ?_)
    refine lv_aload_n hx hb dX2_raiseBottom_18 rfl (lv_at hl 0 rfl) ?_
    obtain ⟨x7, ex7, hs⟩ := bi_inv hs
    refine hv_gR (C := RX2) (T := TX2) (N := 8) (ci := 2) hx hb hts inX2 hown hk hr rfl 0 (by decide) (hts _ tw_201) ex7 dX2_raiseBottom_19 ?_
    refine lv_aload_n hx hb dX2_raiseBottom_22 rfl (lv_at hl 0 rfl) ?_
    obtain ⟨x8, ex8, hs⟩ := bi_inv hs
    refine hv_gR (C := RX2) (T := TX2) (N := 8) (ci := 2) hx hb hts inX2 hown hk hr rfl 0 (by decide) (hts _ tw_201) ex8 dX2_raiseBottom_23 ?_
    obtain ⟨x9, ex9, hs⟩ := bi_inv hs
    refine hv_gI (C := RX8) (T := TX8) (N := 3) (ci := 8) hx hb hts inX8 hown hk hr rfl 2 (by decide) (hts _ tw_46) ex9 dX2_raiseBottom_26 ?_
    refine lv_if_ne (tgt := 36) hx hb dX2_raiseBottom_29 (by decide) (fun c10 => ?_) (fun c10 => ?_)
    · rw [if_neg c10] at hs
      refine lv_iconst (v := 0) hx hb dX2_raiseBottom_36 (by decide) ?_
      exact hJ37 g6 ((0 : Int32)) x7 H locs ls hs hr hS (lv_sub hl [] rfl)
    · rw [if_pos c10] at hs
      refine lv_iconst (v := 1) hx hb dX2_raiseBottom_32 (by decide) ?_
      refine lv_goto (tgt := 37) hx hb dX2_raiseBottom_33 (by decide) ?_
      exact hJ37 g6 ((1 : Int32)) x7 H locs ls hs hr hS (lv_sub hl [] rfl)
theorem dX2_multiply_0 : decode cX2_multiply 0 = .ok (.aload_n 0, 1) := by decide +kernel
theorem dX2_multiply_1 : decode cX2_multiply 1 = .ok (.getfield 13, 3) := by decide +kernel
theorem dX2_multiply_4 : decode cX2_multiply 4 = .ok (.aload_n 1, 1) := by decide +kernel
theorem dX2_multiply_5 : decode cX2_multiply 5 = .ok (.getfield 54, 3) := by decide +kernel
theorem dX2_multiply_8 : decode cX2_multiply 8 = .ok (.aload_n 3, 1) := by decide +kernel
theorem dX2_multiply_9 : decode cX2_multiply 9 = .ok (.aload_n 0, 1) := by decide +kernel
theorem dX2_multiply_10 : decode cX2_multiply 10 = .ok (.getfield 27, 3) := by decide +kernel
theorem dX2_multiply_13 : decode cX2_multiply 13 = .ok (.invokevirtual 39, 3) := by decide +kernel
theorem dX2_multiply_16 : decode cX2_multiply 16 = .ok (.aload_n 0, 1) := by decide +kernel
theorem dX2_multiply_17 : decode cX2_multiply 17 = .ok (.aload_n 1, 1) := by decide +kernel
theorem dX2_multiply_18 : decode cX2_multiply 18 = .ok (.getfield 54, 3) := by decide +kernel
theorem dX2_multiply_21 : decode cX2_multiply 21 = .ok (.aload_n 0, 1) := by decide +kernel
theorem dX2_multiply_22 : decode cX2_multiply 22 = .ok (.getfield 27, 3) := by decide +kernel
theorem dX2_multiply_25 : decode cX2_multiply 25 = .ok (.aload_n 0, 1) := by decide +kernel
theorem dX2_multiply_26 : decode cX2_multiply 26 = .ok (.getfield 30, 3) := by decide +kernel
theorem dX2_multiply_29 : decode cX2_multiply 29 = .ok (.invokevirtual 45, 3) := by decide +kernel
theorem dX2_multiply_32 : decode cX2_multiply 32 = .ok (.aload_n 0, 1) := by decide +kernel
theorem dX2_multiply_33 : decode cX2_multiply 33 = .ok (.aload_n 3, 1) := by decide +kernel
theorem dX2_multiply_34 : decode cX2_multiply 34 = .ok (.aload_n 0, 1) := by decide +kernel
theorem dX2_multiply_35 : decode cX2_multiply 35 = .ok (.getfield 27, 3) := by decide +kernel
theorem dX2_multiply_38 : decode cX2_multiply 38 = .ok (.aload_n 0, 1) := by decide +kernel
theorem dX2_multiply_39 : decode cX2_multiply 39 = .ok (.getfield 33, 3) := by decide +kernel
theorem dX2_multiply_42 : decode cX2_multiply 42 = .ok (.invokevirtual 45, 3) := by decide +kernel
theorem dX2_multiply_45 : decode cX2_multiply 45 = .ok (.aload_n 0, 1) := by decide +kernel
theorem dX2_multiply_46 : decode cX2_multiply 46 = .ok (.getfield 13, 3) := by decide +kernel
theorem dX2_multiply_49 : decode cX2_multiply 49 = .ok (.aload_n 1, 1) := by decide +kernel
theorem dX2_multiply_50 : decode cX2_multiply 50 = .ok (.getfield 51, 3) := by decide +kernel
theorem dX2_multiply_53 : decode cX2_multiply 53 = .ok (.aload_n 2, 1) := by decide +kernel
theorem dX2_multiply_54 : decode cX2_multiply 54 = .ok (.aload_n 0, 1) := by decide +kernel
theorem dX2_multiply_55 : decode cX2_multiply 55 = .ok (.getfield 27, 3) := by decide +kernel
theorem dX2_multiply_58 : decode cX2_multiply 58 = .ok (.invokevirtual 39, 3) := by decide +kernel
theorem dX2_multiply_61 : decode cX2_multiply 61 = .ok (.aload_n 0, 1) := by decide +kernel
theorem dX2_multiply_62 : decode cX2_multiply 62 = .ok (.aload_n 2, 1) := by decide +kernel
theorem dX2_multiply_63 : decode cX2_multiply 63 = .ok (.aload_n 0, 1) := by decide +kernel
theorem dX2_multiply_64 : decode cX2_multiply 64 = .ok (.getfield 27, 3) := by decide +kernel
theorem dX2_multiply_67 : decode cX2_multiply 67 = .ok (.aload_n 0, 1) := by decide +kernel
theorem dX2_multiply_68 : decode cX2_multiply 68 = .ok (.getfield 36, 3) := by decide +kernel
theorem dX2_multiply_71 : decode cX2_multiply 71 = .ok (.invokevirtual 45, 3) := by decide +kernel
theorem dX2_multiply_74 : decode cX2_multiply 74 = .ok (.aload_n 0, 1) := by decide +kernel
theorem dX2_multiply_75 : decode cX2_multiply 75 = .ok (.getfield 30, 3) := by decide +kernel
theorem dX2_multiply_78 : decode cX2_multiply 78 = .ok (.aload_n 0, 1) := by decide +kernel
theorem dX2_multiply_79 : decode cX2_multiply 79 = .ok (.getfield 36, 3) := by decide +kernel
theorem dX2_multiply_82 : decode cX2_multiply 82 = .ok (.aload_n 0, 1) := by decide +kernel
theorem dX2_multiply_83 : decode cX2_multiply 83 = .ok (.getfield 20, 3) := by decide +kernel
theorem dX2_multiply_86 : decode cX2_multiply 86 = .ok (.invokestatic 55, 3) := by decide +kernel
theorem dX2_multiply_89 : decode cX2_multiply 89 = .ok (.aload_n 0, 1) := by decide +kernel
theorem dX2_multiply_90 : decode cX2_multiply 90 = .ok (.aload_n 1, 1) := by decide +kernel
theorem dX2_multiply_91 : decode cX2_multiply 91 = .ok (.getfield 51, 3) := by decide +kernel
theorem dX2_multiply_94 : decode cX2_multiply 94 = .ok (.aload_n 0, 1) := by decide +kernel
theorem dX2_multiply_95 : decode cX2_multiply 95 = .ok (.getfield 27, 3) := by decide +kernel
theorem dX2_multiply_98 : decode cX2_multiply 98 = .ok (.aload_n 0, 1) := by decide +kernel
theorem dX2_multiply_99 : decode cX2_multiply 99 = .ok (.getfield 36, 3) := by decide +kernel
theorem dX2_multiply_102 : decode cX2_multiply 102 = .ok (.invokevirtual 45, 3) := by decide +kernel
theorem dX2_multiply_105 : decode cX2_multiply 105 = .ok (.aload_n 0, 1) := by decide +kernel
theorem dX2_multiply_106 : decode cX2_multiply 106 = .ok (.getfield 33, 3) := by decide +kernel
theorem dX2_multiply_109 : decode cX2_multiply 109 = .ok (.aload_n 0, 1) := by decide +kernel
theorem dX2_multiply_110 : decode cX2_multiply 110 = .ok (.getfield 36, 3) := by decide +kernel
theorem dX2_multiply_113 : decode cX2_multiply 113 = .ok (.aload_n 0, 1) := by decide +kernel
theorem dX2_multiply_114 : decode cX2_multiply 114 = .ok (.getfield 24, 3) := by decide +kernel
theorem dX2_multiply_117 : decode cX2_multiply 117 = .ok (.invokestatic 55, 3) := by decide +kernel
theorem dX2_multiply_120 : decode cX2_multiply 120 = .ok (.aload_n 0, 1) := by decide +kernel
theorem dX2_multiply_121 : decode cX2_multiply 121 = .ok (.invokevirtual 48, 3) := by decide +kernel
theorem dX2_multiply_124 : decode cX2_multiply 124 = .ok (.return_, 1) := by decide +kernel
def zs_X2_multiply (h : AH) (u0 : Nat) (u1 : Nat) (u2 : Nat) (u3 : Nat) : Option AH :=
  (gR h u0 2 3).bind fun x1 => (gR h u1 4 0).bind fun x2 => (gR h u0 2 4).bind fun x3 => (chk h x1 3).bind fun _ => (zs_X3_commonDivisor h x1 x2 u3 x3).bind fun g5 => (gR g5 u1 4 0).bind fun x6 => (gR g5 u0 2 4).bind fun x7 => (gR g5 u0 2 5).bind fun x8 => (chk g5 u0 2).bind fun _ => (zs_X2_cut g5 u0 x6 x7 x8).bind fun g10 => (gR g10 u0 2 4).bind fun x11 => (gR g10 u0 2 6).bind fun x12 => (chk g10 u0 2).bind fun _ => (zs_X2_cut g10 u0 u3 x11 x12).bind fun g14 => (gR g14 u0 2 3).bind fun x15 => (gR g14 u1 4 1).bind fun x16 => (gR g14 u0 2 4).bind fun x17 => (chk g14 x15 3).bind fun _ => (zs_X3_commonDivisor g14 x15 x16 u2 x17).bind fun g19 => (gR g19 u0 2 4).bind fun x20 => (gR g19 u0 2 7).bind fun x21 => (chk g19 u0 2).bind fun _ => (zs_X2_cut g19 u0 u2 x20 x21).bind fun g23 => (gR g23 u0 2 5).bind fun x24 => (gR g23 u0 2 7).bind fun x25 => (gR g23 u0 2 0).bind fun x26 => (zs_X8_product g23 x24 x25 x26).bind fun g27 => (gR g27 u1 4 1).bind fun x28 => (gR g27 u0 2 4).bind fun x29 => (gR g27 u0 2 7).bind fun x30 => (chk g27 u0 2).bind fun _ => (zs_X2_cut g27 u0 x28 x29 x30).bind fun g32 => (gR g32 u0 2 6).bind fun x33 => (gR g32 u0 2 7).bind fun x34 => (gR g32 u0 2 1).bind fun x35 => (zs_X8_product g32 x33 x34 x35).bind fun g36 => (chk g36 u0 2).bind fun _ => (zs_X2_raiseBottom g36 u0).bind fun g38 => some g38
set_option maxRecDepth 100000 in
set_option maxHeartbeats 4000000 in
theorem zm_X2_multiply (l : Launch) (D : hG) (z : Nat) {h : AH} {u0 : Nat} {u1 : Nat} {u2 : Nat} {u3 : Nat} {h' : AH} (hs : zs_X2_multiply h u0 u1 u2 u3 = some h') : hC l D z yX2_multiply cX2_multiply 4 (Option.none : Option Jvm.ClassFile.FieldType) 5 134 0 0 [.ref u0, .ref u1, .ref u2, .ref u3] h h' none := by
  refine hC_of (by decide) (Nat.le_of_ble_eq_true rfl) ?_
  intro p e s m below meth c hx hb hml hrt hlk hown hnm hts hk hr hz ls hl
  replace hown : s.vm.findClass RX2 = some m.cls := hown
  replace hl : lv_has ls 4 [(0, .ref u0), (1, .ref u1), (2, .ref u2), (3, .ref u3)] := hl
  have hS : va_S (hA z) s.heap s.heap [] := va_S.rf
  suffices hgo : ∀ (H : Heap) (locs : List Loc), hR D z h H → va_S (hA z) s.heap H locs → W p l e ({ frames := 5, cells := 0, slots := 0, locals := 134 } : Room) s m ([.ref u0, .ref u1, .ref u2, .ref u3] : List Value).toArray below meth c H locs 0 0 (MQ below (hQ D z h' none) ([.ref u0, .ref u1, .ref u2, .ref u3] : List Value).toArray s 0 0 (hA z)) (F0 m 0 ls []) from hgo _ _ hr hS
  clear hr hS
  intro H locs hr hS
  unfold zs_X2_multiply at hs
  refine lv_aload_n hx hb dX2_multiply_0 rfl (lv_at hl 0 rfl) ?_
  obtain ⟨x1, ex1, hs⟩ := bi_inv hs
  refine hv_gR (C := RX2) (T := TX2) (N := 8) (ci := 2) hx hb hts inX2 hown hk hr rfl 3 (by decide) (hts _ tw_206) ex1 dX2_multiply_1 ?_
  refine lv_aload_n hx hb dX2_multiply_4 rfl (lv_at hl 1 rfl) ?_
  obtain ⟨x2, ex2, hs⟩ := bi_inv hs
  refine hv_gR (C := RX4) (T := TX4) (N := 2) (ci := 4) hx hb hts inX4 hown hk hr rfl 0 (by decide) (hts _ tw_80) ex2 dX2_multiply_5 ?_
  refine lv_aload_n hx hb dX2_multiply_8 rfl (lv_at hl 3 rfl) ?_
  refine lv_aload_n hx hb dX2_multiply_9 rfl (lv_at hl 0 rfl) ?_
  obtain ⟨x3, ex3, hs⟩ := bi_inv hs
  refine hv_gR (C := RX2) (T := TX2) (N := 8) (ci := 2) hx hb hts inX2 hown hk hr rfl 4 (by decide) (hts _ tw_207) ex3 dX2_multiply_10 ?_
  obtain ⟨_, ex4, hs⟩ := bi_inv hs
  obtain ⟨g5, eg5, hs⟩ := bi_inv hs
  refine hv_V0 (n := 3) [.ref x2, .ref u3, .ref x3] [] hx hb hml hown hts hk hr hz hS (zm_X3_commonDivisor l D z eg5) ex4 rfl tw_681 tw_533 tw_534 tw_7 tw_535 (by decide +kernel) (by decide) ⟨(Nat.zero_le _), (Nat.zero_le _)⟩ rfl hl.1 (Nat.le_of_ble_eq_true rfl) dX2_multiply_13 rfl (fun H locs hr hS => ?_)
  refine lv_aload_n hx hb dX2_multiply_16 rfl (lv_at hl 0 rfl) ?_
  refine lv_aload_n hx hb dX2_multiply_17 rfl (lv_at hl 1 rfl) ?_
  obtain ⟨x6, ex6, hs⟩ := bi_inv hs
  refine hv_gR (C := RX4) (T := TX4) (N := 2) (ci := 4) hx hb hts inX4 hown hk hr rfl 0 (by decide) (hts _ tw_80) ex6 dX2_multiply_18 ?_
  refine lv_aload_n hx hb dX2_multiply_21 rfl (lv_at hl 0 rfl) ?_
  obtain ⟨x7, ex7, hs⟩ := bi_inv hs
  refine hv_gR (C := RX2) (T := TX2) (N := 8) (ci := 2) hx hb hts inX2 hown hk hr rfl 4 (by decide) (hts _ tw_207) ex7 dX2_multiply_22 ?_
  refine lv_aload_n hx hb dX2_multiply_25 rfl (lv_at hl 0 rfl) ?_
  obtain ⟨x8, ex8, hs⟩ := bi_inv hs
  refine hv_gR (C := RX2) (T := TX2) (N := 8) (ci := 2) hx hb hts inX2 hown hk hr rfl 5 (by decide) (hts _ tw_208) ex8 dX2_multiply_26 ?_
  obtain ⟨_, ex9, hs⟩ := bi_inv hs
  obtain ⟨g10, eg10, hs⟩ := bi_inv hs
  refine hv_V0 (n := 3) [.ref x6, .ref x7, .ref x8] [] hx hb hml hown hts hk hr hz hS (zm_X2_cut l D z eg10) ex9 rfl tw_682 tw_684 ts_14 tw_8 tw_685 (by decide +kernel) (by decide) ⟨(Nat.zero_le _), (Nat.zero_le _)⟩ rfl hl.1 (Nat.le_of_ble_eq_true rfl) dX2_multiply_29 rfl (fun H locs hr hS => ?_)
  refine lv_aload_n hx hb dX2_multiply_32 rfl (lv_at hl 0 rfl) ?_
  refine lv_aload_n hx hb dX2_multiply_33 rfl (lv_at hl 3 rfl) ?_
  refine lv_aload_n hx hb dX2_multiply_34 rfl (lv_at hl 0 rfl) ?_
  obtain ⟨x11, ex11, hs⟩ := bi_inv hs
  refine hv_gR (C := RX2) (T := TX2) (N := 8) (ci := 2) hx hb hts inX2 hown hk hr rfl 4 (by decide) (hts _ tw_207) ex11 dX2_multiply_35 ?_
  refine lv_aload_n hx hb dX2_multiply_38 rfl (lv_at hl 0 rfl) ?_
  obtain ⟨x12, ex12, hs⟩ := bi_inv hs
  refine hv_gR (C := RX2) (T := TX2) (N := 8) (ci := 2) hx hb hts inX2 hown hk hr rfl 6 (by decide) (hts _ tw_209) ex12 dX2_multiply_39 ?_
  obtain ⟨_, ex13, hs⟩ := bi_inv hs
  obtain ⟨g14, eg14, hs⟩ := bi_inv hs
  refine hv_V0 (n := 3) [.ref u3, .ref x11, .ref x12] [] hx hb hml hown hts hk hr hz hS (zm_X2_cut l D z eg14) ex13 rfl tw_682 tw_684 ts_14 tw_8 tw_685 (by decide +kernel) (by decide) ⟨(Nat.zero_le _), (Nat.zero_le _)⟩ rfl hl.1 (Nat.le_of_ble_eq_true rfl) dX2_multiply_42 rfl (fun H locs hr hS => ?_)
  refine lv_aload_n hx hb dX2_multiply_45 rfl (lv_at hl 0 rfl) ?_
  obtain ⟨x15, ex15, hs⟩ := bi_inv hs
  refine hv_gR (C := RX2) (T := TX2) (N := 8) (ci := 2) hx hb hts inX2 hown hk hr rfl 3 (by decide) (hts _ tw_206) ex15 dX2_multiply_46 ?_
  refine lv_aload_n hx hb dX2_multiply_49 rfl (lv_at hl 1 rfl) ?_
  obtain ⟨x16, ex16, hs⟩ := bi_inv hs
  refine hv_gR (C := RX4) (T := TX4) (N := 2) (ci := 4) hx hb hts inX4 hown hk hr rfl 1 (by decide) (hts _ tw_84) ex16 dX2_multiply_50 ?_
  refine lv_aload_n hx hb dX2_multiply_53 rfl (lv_at hl 2 rfl) ?_
  refine lv_aload_n hx hb dX2_multiply_54 rfl (lv_at hl 0 rfl) ?_
  obtain ⟨x17, ex17, hs⟩ := bi_inv hs
  refine hv_gR (C := RX2) (T := TX2) (N := 8) (ci := 2) hx hb hts inX2 hown hk hr rfl 4 (by decide) (hts _ tw_207) ex17 dX2_multiply_55 ?_
  obtain ⟨_, ex18, hs⟩ := bi_inv hs
  obtain ⟨g19, eg19, hs⟩ := bi_inv hs
  refine hv_V0 (n := 3) [.ref x16, .ref u2, .ref x17] [] hx hb hml hown hts hk hr hz hS (zm_X3_commonDivisor l D z eg19) ex18 rfl tw_681 tw_533 tw_534 tw_7 tw_535 (by decide +kernel) (by decide) ⟨(Nat.zero_le _), (Nat.zero_le _)⟩ rfl hl.1 (Nat.le_of_ble_eq_true rfl) dX2_multiply_58 rfl (fun H locs hr hS => ?_)
  refine lv_aload_n hx hb dX2_multiply_61 rfl (lv_at hl 0 rfl) ?_
  refine lv_aload_n hx hb dX2_multiply_62 rfl (lv_at hl 2 rfl) ?_
  refine lv_aload_n hx hb dX2_multiply_63 rfl (lv_at hl 0 rfl) ?_
  obtain ⟨x20, ex20, hs⟩ := bi_inv hs
  refine hv_gR (C := RX2) (T := TX2) (N := 8) (ci := 2) hx hb hts inX2 hown hk hr rfl 4 (by decide) (hts _ tw_207) ex20 dX2_multiply_64 ?_
  refine lv_aload_n hx hb dX2_multiply_67 rfl (lv_at hl 0 rfl) ?_
  obtain ⟨x21, ex21, hs⟩ := bi_inv hs
  refine hv_gR (C := RX2) (T := TX2) (N := 8) (ci := 2) hx hb hts inX2 hown hk hr rfl 7 (by decide) (hts _ tw_210) ex21 dX2_multiply_68 ?_
  obtain ⟨_, ex22, hs⟩ := bi_inv hs
  obtain ⟨g23, eg23, hs⟩ := bi_inv hs
  refine hv_V0 (n := 3) [.ref u2, .ref x20, .ref x21] [] hx hb hml hown hts hk hr hz hS (zm_X2_cut l D z eg23) ex22 rfl tw_682 tw_684 ts_14 tw_8 tw_685 (by decide +kernel) (by decide) ⟨(Nat.zero_le _), (Nat.zero_le _)⟩ rfl hl.1 (Nat.le_of_ble_eq_true rfl) dX2_multiply_71 rfl (fun H locs hr hS => ?_)
  refine lv_aload_n hx hb dX2_multiply_74 rfl (lv_at hl 0 rfl) ?_
  obtain ⟨x24, ex24, hs⟩ := bi_inv hs
  refine hv_gR (C := RX2) (T := TX2) (N := 8) (ci := 2) hx hb hts inX2 hown hk hr rfl 5 (by decide) (hts _ tw_208) ex24 dX2_multiply_75 ?_
  refine lv_aload_n hx hb dX2_multiply_78 rfl (lv_at hl 0 rfl) ?_
  obtain ⟨x25, ex25, hs⟩ := bi_inv hs
  refine hv_gR (C := RX2) (T := TX2) (N := 8) (ci := 2) hx hb hts inX2 hown hk hr rfl 7 (by decide) (hts _ tw_210) ex25 dX2_multiply_79 ?_
  refine lv_aload_n hx hb dX2_multiply_82 rfl (lv_at hl 0 rfl) ?_
  obtain ⟨x26, ex26, hs⟩ := bi_inv hs
  refine hv_gR (C := RX2) (T := TX2) (N := 8) (ci := 2) hx hb hts inX2 hown hk hr rfl 0 (by decide) (hts _ tw_201) ex26 dX2_multiply_83 ?_
  obtain ⟨g27, eg27, hs⟩ := bi_inv hs
  refine hv_S0 (n := 3) [.ref x24, .ref x25, .ref x26] [] hx hb hml hown hts hk hr hz hS (zm_X8_product l D z eg27) tw_705 tw_472 tw_2 tw_473 (by decide +kernel) (by decide) ⟨(Nat.zero_le _), (Nat.zero_le _)⟩ rfl hl.1 (Nat.le_of_ble_eq_true rfl) dX2_multiply_86 rfl (fun H locs hr hS => ?_)
  refine lv_aload_n hx hb dX2_multiply_89 rfl (lv_at hl 0 rfl) ?_
  refine lv_aload_n hx hb dX2_multiply_90 rfl (lv_at hl 1 rfl) ?_
  obtain ⟨x28, ex28, hs⟩ := bi_inv hs
  refine hv_gR (C := RX4) (T := TX4) (N := 2) (ci := 4) hx hb hts inX4 hown hk hr rfl 1 (by decide) (hts _ tw_84) ex28 dX2_multiply_91 ?_
  refine lv_aload_n hx hb dX2_multiply_94 rfl (lv_at hl 0 rfl) ?_
  obtain ⟨x29, ex29, hs⟩ := bi_inv hs
  refine hv_gR (C := RX2) (T := TX2) (N := 8) (ci := 2) hx hb hts inX2 hown hk hr rfl 4 (by decide) (hts _ tw_207) ex29 dX2_multiply_95 ?_
  refine lv_aload_n hx hb dX2_multiply_98 rfl (lv_at hl 0 rfl) ?_
  obtain ⟨x30, ex30, hs⟩ := bi_inv hs
  refine hv_gR (C := RX2) (T := TX2) (N := 8) (ci := 2) hx hb hts inX2 hown hk hr rfl 7 (by decide) (hts _ tw_210) ex30 dX2_multiply_99 ?_
  obtain ⟨_, ex31, hs⟩ := bi_inv hs
  obtain ⟨g32, eg32, hs⟩ := bi_inv hs
  refine hv_V0 (n := 3) [.ref x28, .ref x29, .ref x30] [] hx hb hml hown hts hk hr hz hS (zm_X2_cut l D z eg32) ex31 rfl tw_682 tw_684 ts_14 tw_8 tw_685 (by decide +kernel) (by decide) ⟨(Nat.zero_le _), (Nat.zero_le _)⟩ rfl hl.1 (Nat.le_of_ble_eq_true rfl) dX2_multiply_102 rfl (fun H locs hr hS => ?_)
  refine lv_aload_n hx hb dX2_multiply_105 rfl (lv_at hl 0 rfl) ?_
  obtain ⟨x33, ex33, hs⟩ := bi_inv hs
  refine hv_gR (C := RX2) (T := TX2) (N := 8) (ci := 2) hx hb hts inX2 hown hk hr rfl 6 (by decide) (hts _ tw_209) ex33 dX2_multiply_106 ?_
  refine lv_aload_n hx hb dX2_multiply_109 rfl (lv_at hl 0 rfl) ?_
  obtain ⟨x34, ex34, hs⟩ := bi_inv hs
  refine hv_gR (C := RX2) (T := TX2) (N := 8) (ci := 2) hx hb hts inX2 hown hk hr rfl 7 (by decide) (hts _ tw_210) ex34 dX2_multiply_110 ?_
  refine lv_aload_n hx hb dX2_multiply_113 rfl (lv_at hl 0 rfl) ?_
  obtain ⟨x35, ex35, hs⟩ := bi_inv hs
  refine hv_gR (C := RX2) (T := TX2) (N := 8) (ci := 2) hx hb hts inX2 hown hk hr rfl 1 (by decide) (hts _ tw_203) ex35 dX2_multiply_114 ?_
  obtain ⟨g36, eg36, hs⟩ := bi_inv hs
  refine hv_S0 (n := 3) [.ref x33, .ref x34, .ref x35] [] hx hb hml hown hts hk hr hz hS (zm_X8_product l D z eg36) tw_705 tw_472 tw_2 tw_473 (by decide +kernel) (by decide) ⟨(Nat.zero_le _), (Nat.zero_le _)⟩ rfl hl.1 (Nat.le_of_ble_eq_true rfl) dX2_multiply_117 rfl (fun H locs hr hS => ?_)
  refine lv_aload_n hx hb dX2_multiply_120 rfl (lv_at hl 0 rfl) ?_
  obtain ⟨_, ex37, hs⟩ := bi_inv hs
  obtain ⟨g38, eg38, hs⟩ := bi_inv hs
  refine hv_V0 (n := 0) [] [] hx hb hml hown hts hk hr hz hS (zm_X2_raiseBottom l D z eg38) ex37 rfl tw_689 tw_691 ts_15 tw_8 tw_692 (by decide +kernel) (by decide) ⟨(Nat.zero_le _), (Nat.zero_le _)⟩ rfl hl.1 (Nat.le_of_ble_eq_true rfl) dX2_multiply_121 rfl (fun H locs hr hS => ?_)
  obtain rfl := Option.some.inj hs
  exact hv_vret hx hb hrt hlk hr hS dX2_multiply_124
theorem dX2_nearerAbove_0 : decode cX2_nearerAbove 0 = .ok (.aload_n 0, 1) := by decide +kernel
theorem dX2_nearerAbove_1 : decode cX2_nearerAbove 1 = .ok (.getfield 7, 3) := by decide +kernel
theorem dX2_nearerAbove_4 : decode cX2_nearerAbove 4 = .ok (.getfield 67, 3) := by decide +kernel
theorem dX2_nearerAbove_7 : decode cX2_nearerAbove 7 = .ok (.aload_n 0, 1) := by decide +kernel
theorem dX2_nearerAbove_8 : decode cX2_nearerAbove 8 = .ok (.getfield 7, 3) := by decide +kernel
theorem dX2_nearerAbove_11 : decode cX2_nearerAbove 11 = .ok (.getfield 67, 3) := by decide +kernel
theorem dX2_nearerAbove_14 : decode cX2_nearerAbove 14 = .ok (.aload_n 0, 1) := by decide +kernel
theorem dX2_nearerAbove_15 : decode cX2_nearerAbove 15 = .ok (.getfield 36, 3) := by decide +kernel
theorem dX2_nearerAbove_18 : decode cX2_nearerAbove 18 = .ok (.invokestatic 60, 3) := by decide +kernel
theorem dX2_nearerAbove_21 : decode cX2_nearerAbove 21 = .ok (.aload_n 0, 1) := by decide +kernel
theorem dX2_nearerAbove_22 : decode cX2_nearerAbove 22 = .ok (.getfield 36, 3) := by decide +kernel
theorem dX2_nearerAbove_25 : decode cX2_nearerAbove 25 = .ok (.aload_n 1, 1) := by decide +kernel
theorem dX2_nearerAbove_26 : decode cX2_nearerAbove 26 = .ok (.invokestatic 63, 3) := by decide +kernel
theorem dX2_nearerAbove_29 : decode cX2_nearerAbove 29 = .ok (.istore_n 2, 1) := by decide +kernel
theorem dX2_nearerAbove_30 : decode cX2_nearerAbove 30 = .ok (.iload_n 2, 1) := by decide +kernel
theorem dX2_nearerAbove_31 : decode cX2_nearerAbove 31 = .ok (.ifCond .gt 20, 3) := by decide +kernel
theorem dX2_nearerAbove_34 : decode cX2_nearerAbove 34 = .ok (.iload_n 2, 1) := by decide +kernel
theorem dX2_nearerAbove_35 : decode cX2_nearerAbove 35 = .ok (.ifCond .ne 20, 3) := by decide +kernel
theorem dX2_nearerAbove_38 : decode cX2_nearerAbove 38 = .ok (.aload_n 0, 1) := by decide +kernel
theorem dX2_nearerAbove_39 : decode cX2_nearerAbove 39 = .ok (.getfield 7, 3) := by decide +kernel
theorem dX2_nearerAbove_42 : decode cX2_nearerAbove 42 = .ok (.getfield 72, 3) := by decide +kernel
theorem dX2_nearerAbove_45 : decode cX2_nearerAbove 45 = .ok (.invokevirtual 75, 3) := by decide +kernel
theorem dX2_nearerAbove_48 : decode cX2_nearerAbove 48 = .ok (.ifCond .eq 7, 3) := by decide +kernel
theorem dX2_nearerAbove_51 : decode cX2_nearerAbove 51 = .ok (.iconst 1, 1) := by decide +kernel
theorem dX2_nearerAbove_52 : decode cX2_nearerAbove 52 = .ok (.goto 4, 3) := by decide +kernel
theorem dX2_nearerAbove_55 : decode cX2_nearerAbove 55 = .ok (.iconst 0, 1) := by decide +kernel
theorem dX2_nearerAbove_56 : decode cX2_nearerAbove 56 = .ok (.ireturn, 1) := by decide +kernel
def zs_X2_nearerAbove (h : AH) (u0 : Nat) (u1 : Nat) : Option (Int32 × AH) :=
  (gR h u0 2 2).bind fun x1 => (gR h x1 0 1).bind fun x2 => (gR h u0 2 2).bind fun x3 => (gR h x3 0 1).bind fun x4 => (gR h u0 2 7).bind fun x5 => (zs_X8_sum h x2 x4 x5).bind fun g6 => (gR g6 u0 2 7).bind fun x7 => (zs_X8_order g6 x7 u1).bind fun x8 => (if 0 < x8 then some ((1 : Int32), g6) else (if x8 = 0 then (gR g6 u0 2 2).bind fun x11 => (gR g6 x11 0 0).bind fun x12 => (chk g6 x12 8).bind fun _ => (zs_X8_isOdd g6 x12).bind fun x14 => (if x14 = 0 then some ((0 : Int32), g6) else some ((1 : Int32), g6)) else some ((0 : Int32), g6)))
set_option maxRecDepth 100000 in
set_option maxHeartbeats 4000000 in
theorem zm_X2_nearerAbove (l : Launch) (D : hG) (z : Nat) {h : AH} {u0 : Nat} {u1 : Nat} {r : Int32} {h' : AH} (hs : zs_X2_nearerAbove h u0 u1 = some (r, h')) : hC l D z yX2_nearerAbove cX2_nearerAbove 3 (Option.some Jvm.ClassFile.FieldType.boolean) 4 95 0 0 [.ref u0, .ref u1] h h' (some (.int r)) := by
  refine hC_of (by decide) (Nat.le_of_ble_eq_true rfl) ?_
  intro p e s m below meth c hx hb hml hrt hlk hown hnm hts hk hr hz ls hl
  replace hown : s.vm.findClass RX2 = some m.cls := hown
  replace hl : lv_has ls 3 [(0, .ref u0), (1, .ref u1)] := hl
  have hS : va_S (hA z) s.heap s.heap [] := va_S.rf
  suffices hgo : ∀ (H : Heap) (locs : List Loc), hR D z h H → va_S (hA z) s.heap H locs → W p l e ({ frames := 4, cells := 0, slots := 0, locals := 95 } : Room) s m ([.ref u0, .ref u1] : List Value).toArray below meth c H locs 0 0 (MQ below (hQ D z h' (some (.int r))) ([.ref u0, .ref u1] : List Value).toArray s 0 0 (hA z)) (F0 m 0 ls []) from hgo _ _ hr hS
  clear hr hS
  intro H locs hr hS
  unfold zs_X2_nearerAbove at hs
  refine lv_aload_n hx hb dX2_nearerAbove_0 rfl (lv_at hl 0 rfl) ?_
  obtain ⟨x1, ex1, hs⟩ := bi_inv hs
  refine hv_gR (C := RX2) (T := TX2) (N := 8) (ci := 2) hx hb hts inX2 hown hk hr rfl 2 (by decide) (hts _ tw_205) ex1 dX2_nearerAbove_1 ?_
  obtain ⟨x2, ex2, hs⟩ := bi_inv hs
  refine hv_gR (C := RX0) (T := TX0) (N := 5) (ci := 0) hx hb hts inX0 hown hk hr rfl 1 (by decide) (hts _ tw_143) ex2 dX2_nearerAbove_4 ?_
  refine lv_aload_n hx hb dX2_nearerAbove_7 rfl (lv_at hl 0 rfl) ?_
  obtain ⟨x3, ex3, hs⟩ := bi_inv hs
  refine hv_gR (C := RX2) (T := TX2) (N := 8) (ci := 2) hx hb hts inX2 hown hk hr rfl 2 (by decide) (hts _ tw_205) ex3 dX2_nearerAbove_8 ?_
  obtain ⟨x4, ex4, hs⟩ := bi_inv hs
  refine hv_gR (C := RX0) (T := TX0) (N := 5) (ci := 0) hx hb hts inX0 hown hk hr rfl 1 (by decide) (hts _ tw_143) ex4 dX2_nearerAbove_11 ?_
  refine lv_aload_n hx hb dX2_nearerAbove_14 rfl (lv_at hl 0 rfl) ?_
  obtain ⟨x5, ex5, hs⟩ := bi_inv hs
  refine hv_gR (C := RX2) (T := TX2) (N := 8) (ci := 2) hx hb hts inX2 hown hk hr rfl 7 (by decide) (hts _ tw_210) ex5 dX2_nearerAbove_15 ?_
  obtain ⟨g6, eg6, hs⟩ := bi_inv hs
  refine hv_S0 (n := 3) [.ref x2, .ref x4, .ref x5] [] hx hb hml hown hts hk hr hz hS (zm_X8_sum l D z eg6) tw_707 tw_451 tw_2 tw_452 (by decide +kernel) (by decide) ⟨(Nat.zero_le _), (Nat.zero_le _)⟩ rfl hl.1 (Nat.le_of_ble_eq_true rfl) dX2_nearerAbove_18 rfl (fun H locs hr hS => ?_)
  refine lv_aload_n hx hb dX2_nearerAbove_21 rfl (lv_at hl 0 rfl) ?_
  obtain ⟨x7, ex7, hs⟩ := bi_inv hs
  refine hv_gR (C := RX2) (T := TX2) (N := 8) (ci := 2) hx hb hts inX2 hown hk hr rfl 7 (by decide) (hts _ tw_210) ex7 dX2_nearerAbove_22 ?_
  refine lv_aload_n hx hb dX2_nearerAbove_25 rfl (lv_at hl 1 rfl) ?_
  obtain ⟨x8, ex8, hs⟩ := bi_inv hs
  refine hv_S1 (n := 2) [.ref x7, .ref u1] [] hx hb hml hown hts hk hr hz hS (zm_X8_order l D z ex8) tw_720 tw_438 tw_2 tw_439 (by decide +kernel) (by decide) ⟨(Nat.zero_le _), (Nat.zero_le _)⟩ rfl hl.1 (Nat.le_of_ble_eq_true rfl) dX2_nearerAbove_26 rfl (fun H locs hr hS => ?_)
  refine lv_istore_n (lv' := [(2, .int x8), (0, .ref u0), (1, .ref u1)]) hx hb dX2_nearerAbove_29 rfl hl (by decide) rfl (fun ls hl => ?_)
  refine lv_iload_n hx hb dX2_nearerAbove_30 rfl (lv_at hl 0 rfl) ?_
  refine lv_if_gt (tgt := 51) hx hb dX2_nearerAbove_31 (by decide) (fun c9 => ?_) (fun c9 => ?_)
  · rw [if_pos c9] at hs
    refine lv_iconst (v := 1) hx hb dX2_nearerAbove_51 (by decide) ?_
    refine lv_goto (tgt := 56) hx hb dX2_nearerAbove_52 (by decide) ?_
    obtain ⟨rfl, rfl⟩ := Prod.mk.inj (Option.some.inj hs)
    exact hv_zret hx hb hrt hlk hr hS (by decide) dX2_nearerAbove_56
  · rw [if_neg c9] at hs
    refine lv_iload_n hx hb dX2_nearerAbove_34 rfl (lv_at hl 0 rfl) ?_
    refine lv_if_ne (tgt := 55) hx hb dX2_nearerAbove_35 (by decide) (fun c10 => ?_) (fun c10 => ?_)
    · rw [if_neg c10] at hs
      refine lv_iconst (v := 0) hx hb dX2_nearerAbove_55 (by decide) ?_
      obtain ⟨rfl, rfl⟩ := Prod.mk.inj (Option.some.inj hs)
      exact hv_zret hx hb hrt hlk hr hS (by decide) dX2_nearerAbove_56
    · rw [if_pos c10] at hs
      refine lv_aload_n hx hb dX2_nearerAbove_38 rfl (lv_at hl 1 rfl) ?_
      obtain ⟨x11, ex11, hs⟩ := bi_inv hs
      refine hv_gR (C := RX2) (T := TX2) (N := 8) (ci := 2) hx hb hts inX2 hown hk hr rfl 2 (by decide) (hts _ tw_205) ex11 dX2_nearerAbove_39 ?_
      obtain ⟨x12, ex12, hs⟩ := bi_inv hs
      refine hv_gR (C := RX0) (T := TX0) (N := 5) (ci := 0) hx hb hts inX0 hown hk hr rfl 0 (by decide) (hts _ tw_137) ex12 dX2_nearerAbove_42 ?_
      obtain ⟨_, ex13, hs⟩ := bi_inv hs
      obtain ⟨x14, ex14, hs⟩ := bi_inv hs
      refine hv_V1 (n := 0) [] [] hx hb hml hown hts hk hr hz hS (zm_X8_isOdd l D z ex14) ex13 rfl tw_729 tw_730 tw_731 tw_2 tw_732 (by decide +kernel) (by decide) ⟨(Nat.zero_le _), (Nat.zero_le _)⟩ rfl hl.1 (Nat.le_of_ble_eq_true rfl) dX2_nearerAbove_45 rfl (fun H locs hr hS => ?_)
      refine lv_if_eq (tgt := 55) hx hb dX2_nearerAbove_48 (by decide) (fun c15 => ?_) (fun c15 => ?_)
      · rw [if_pos c15] at hs
        refine lv_iconst (v := 0) hx hb dX2_nearerAbove_55 (by decide) ?_
        obtain ⟨rfl, rfl⟩ := Prod.mk.inj (Option.some.inj hs)
        exact hv_zret hx hb hrt hlk hr hS (by decide) dX2_nearerAbove_56
      · rw [if_neg c15] at hs
        refine lv_iconst (v := 1) hx hb dX2_nearerAbove_51 (by decide) ?_
        refine lv_goto (tgt := 56) hx hb dX2_nearerAbove_52 (by decide) ?_
        obtain ⟨rfl, rfl⟩ := Prod.mk.inj (Option.some.inj hs)
        exact hv_zret hx hb hrt hlk hr hS (by decide) dX2_nearerAbove_56
theorem dX2_order_0 : decode cX2_order 0 = .ok (.aload_n 1, 1) := by decide +kernel
theorem dX2_order_1 : decode cX2_order 1 = .ok (.getfield 54, 3) := by decide +kernel
theorem dX2_order_4 : decode cX2_order 4 = .ok (.aload_n 2, 1) := by decide +kernel
theorem dX2_order_5 : decode cX2_order 5 = .ok (.getfield 51, 3) := by decide +kernel
theorem dX2_order_8 : decode cX2_order 8 = .ok (.aload_n 0, 1) := by decide +kernel
theorem dX2_order_9 : decode cX2_order 9 = .ok (.getfield 30, 3) := by decide +kernel
theorem dX2_order_12 : decode cX2_order 12 = .ok (.invokestatic 55, 3) := by decide +kernel
theorem dX2_order_15 : decode cX2_order 15 = .ok (.aload_n 2, 1) := by decide +kernel
theorem dX2_order_16 : decode cX2_order 16 = .ok (.getfield 54, 3) := by decide +kernel
theorem dX2_order_19 : decode cX2_order 19 = .ok (.aload_n 1, 1) := by decide +kernel
theorem dX2_order_20 : decode cX2_order 20 = .ok (.getfield 51, 3) := by decide +kernel
theorem dX2_order_23 : decode cX2_order 23 = .ok (.aload_n 0, 1) := by decide +kernel
theorem dX2_order_24 : decode cX2_order 24 = .ok (.getfield 33, 3) := by decide +kernel
theorem dX2_order_27 : decode cX2_order 27 = .ok (.invokestatic 55, 3) := by decide +kernel
theorem dX2_order_30 : decode cX2_order 30 = .ok (.aload_n 0, 1) := by decide +kernel
theorem dX2_order_31 : decode cX2_order 31 = .ok (.getfield 30, 3) := by decide +kernel
theorem dX2_order_34 : decode cX2_order 34 = .ok (.aload_n 0, 1) := by decide +kernel
theorem dX2_order_35 : decode cX2_order 35 = .ok (.getfield 33, 3) := by decide +kernel
theorem dX2_order_38 : decode cX2_order 38 = .ok (.invokestatic 63, 3) := by decide +kernel
theorem dX2_order_41 : decode cX2_order 41 = .ok (.ireturn, 1) := by decide +kernel
def zs_X2_order (h : AH) (u0 : Nat) (u1 : Nat) (u2 : Nat) : Option (Int32 × AH) :=
  (gR h u1 4 0).bind fun x1 => (gR h u2 4 1).bind fun x2 => (gR h u0 2 5).bind fun x3 => (zs_X8_product h x1 x2 x3).bind fun g4 => (gR g4 u2 4 0).bind fun x5 => (gR g4 u1 4 1).bind fun x6 => (gR g4 u0 2 6).bind fun x7 => (zs_X8_product g4 x5 x6 x7).bind fun g8 => (gR g8 u0 2 5).bind fun x9 => (gR g8 u0 2 6).bind fun x10 => (zs_X8_order g8 x9 x10).bind fun x11 => some (x11, g8)
set_option maxRecDepth 100000 in
set_option maxHeartbeats 4000000 in
theorem zm_X2_order (l : Launch) (D : hG) (z : Nat) {h : AH} {u0 : Nat} {u1 : Nat} {u2 : Nat} {r : Int32} {h' : AH} (hs : zs_X2_order h u0 u1 u2 = some (r, h')) : hC l D z yX2_order cX2_order 3 (Option.some Jvm.ClassFile.FieldType.int) 2 52 0 0 [.ref u0, .ref u1, .ref u2] h h' (some (.int r)) := by
  refine hC_of (by decide) (Nat.le_of_ble_eq_true rfl) ?_
  intro p e s m below meth c hx hb hml hrt hlk hown hnm hts hk hr hz ls hl
  replace hown : s.vm.findClass RX2 = some m.cls := hown
  replace hl : lv_has ls 3 [(0, .ref u0), (1, .ref u1), (2, .ref u2)] := hl
  have hS : va_S (hA z) s.heap s.heap [] := va_S.rf
  suffices hgo : ∀ (H : Heap) (locs : List Loc), hR D z h H → va_S (hA z) s.heap H locs → W p l e ({ frames := 2, cells := 0, slots := 0, locals := 52 } : Room) s m ([.ref u0, .ref u1, .ref u2] : List Value).toArray below meth c H locs 0 0 (MQ below (hQ D z h' (some (.int r))) ([.ref u0, .ref u1, .ref u2] : List Value).toArray s 0 0 (hA z)) (F0 m 0 ls []) from hgo _ _ hr hS
  clear hr hS
  intro H locs hr hS
  unfold zs_X2_order at hs
  refine lv_aload_n hx hb dX2_order_0 rfl (lv_at hl 1 rfl) ?_
  obtain ⟨x1, ex1, hs⟩ := bi_inv hs
  refine hv_gR (C := RX4) (T := TX4) (N := 2) (ci := 4) hx hb hts inX4 hown hk hr rfl 0 (by decide) (hts _ tw_80) ex1 dX2_order_1 ?_
  refine lv_aload_n hx hb dX2_order_4 rfl (lv_at hl 2 rfl) ?_
  obtain ⟨x2, ex2, hs⟩ := bi_inv hs
  refine hv_gR (C := RX4) (T := TX4) (N := 2) (ci := 4) hx hb hts inX4 hown hk hr rfl 1 (by decide) (hts _ tw_84) ex2 dX2_order_5 ?_
  refine lv_aload_n hx hb dX2_order_8 rfl (lv_at hl 0 rfl) ?_
  obtain ⟨x3, ex3, hs⟩ := bi_inv hs
  refine hv_gR (C := RX2) (T := TX2) (N := 8) (ci := 2) hx hb hts inX2 hown hk hr rfl 5 (by decide) (hts _ tw_208) ex3 dX2_order_9 ?_
  obtain ⟨g4, eg4, hs⟩ := bi_inv hs
  refine hv_S0 (n := 3) [.ref x1, .ref x2, .ref x3] [] hx hb hml hown hts hk hr hz hS (zm_X8_product l D z eg4) tw_705 tw_472 tw_2 tw_473 (by decide +kernel) (by decide) ⟨(Nat.zero_le _), (Nat.zero_le _)⟩ rfl hl.1 (Nat.le_of_ble_eq_true rfl) dX2_order_12 rfl (fun H locs hr hS => ?_)
  refine lv_aload_n hx hb dX2_order_15 rfl (lv_at hl 2 rfl) ?_
  obtain ⟨x5, ex5, hs⟩ := bi_inv hs
  refine hv_gR (C := RX4) (T := TX4) (N := 2) (ci := 4) hx hb hts inX4 hown hk hr rfl 0 (by decide) (hts _ tw_80) ex5 dX2_order_16 ?_
  refine lv_aload_n hx hb dX2_order_19 rfl (lv_at hl 1 rfl) ?_
  obtain ⟨x6, ex6, hs⟩ := bi_inv hs
  refine hv_gR (C := RX4) (T := TX4) (N := 2) (ci := 4) hx hb hts inX4 hown hk hr rfl 1 (by decide) (hts _ tw_84) ex6 dX2_order_20 ?_
  refine lv_aload_n hx hb dX2_order_23 rfl (lv_at hl 0 rfl) ?_
  obtain ⟨x7, ex7, hs⟩ := bi_inv hs
  refine hv_gR (C := RX2) (T := TX2) (N := 8) (ci := 2) hx hb hts inX2 hown hk hr rfl 6 (by decide) (hts _ tw_209) ex7 dX2_order_24 ?_
  obtain ⟨g8, eg8, hs⟩ := bi_inv hs
  refine hv_S0 (n := 3) [.ref x5, .ref x6, .ref x7] [] hx hb hml hown hts hk hr hz hS (zm_X8_product l D z eg8) tw_705 tw_472 tw_2 tw_473 (by decide +kernel) (by decide) ⟨(Nat.zero_le _), (Nat.zero_le _)⟩ rfl hl.1 (Nat.le_of_ble_eq_true rfl) dX2_order_27 rfl (fun H locs hr hS => ?_)
  refine lv_aload_n hx hb dX2_order_30 rfl (lv_at hl 0 rfl) ?_
  obtain ⟨x9, ex9, hs⟩ := bi_inv hs
  refine hv_gR (C := RX2) (T := TX2) (N := 8) (ci := 2) hx hb hts inX2 hown hk hr rfl 5 (by decide) (hts _ tw_208) ex9 dX2_order_31 ?_
  refine lv_aload_n hx hb dX2_order_34 rfl (lv_at hl 0 rfl) ?_
  obtain ⟨x10, ex10, hs⟩ := bi_inv hs
  refine hv_gR (C := RX2) (T := TX2) (N := 8) (ci := 2) hx hb hts inX2 hown hk hr rfl 6 (by decide) (hts _ tw_209) ex10 dX2_order_35 ?_
  obtain ⟨x11, ex11, hs⟩ := bi_inv hs
  refine hv_S1 (n := 2) [.ref x9, .ref x10] [] hx hb hml hown hts hk hr hz hS (zm_X8_order l D z ex11) tw_720 tw_438 tw_2 tw_439 (by decide +kernel) (by decide) ⟨(Nat.zero_le _), (Nat.zero_le _)⟩ rfl hl.1 (Nat.le_of_ble_eq_true rfl) dX2_order_38 rfl (fun H locs hr hS => ?_)
  obtain ⟨rfl, rfl⟩ := Prod.mk.inj (Option.some.inj hs)
  exact hv_iret hx hb hrt hlk hr hS dX2_order_41
theorem dX2_reduce_0 : decode cX2_reduce 0 = .ok (.aload_n 0, 1) := by decide +kernel
theorem dX2_reduce_1 : decode cX2_reduce 1 = .ok (.getfield 13, 3) := by decide +kernel
theorem dX2_reduce_4 : decode cX2_reduce 4 = .ok (.aload_n 1, 1) := by decide +kernel
theorem dX2_reduce_5 : decode cX2_reduce 5 = .ok (.aload_n 2, 1) := by decide +kernel
theorem dX2_reduce_6 : decode cX2_reduce 6 = .ok (.aload_n 0, 1) := by decide +kernel
theorem dX2_reduce_7 : decode cX2_reduce 7 = .ok (.getfield 27, 3) := by decide +kernel
theorem dX2_reduce_10 : decode cX2_reduce 10 = .ok (.invokevirtual 39, 3) := by decide +kernel
theorem dX2_reduce_13 : decode cX2_reduce 13 = .ok (.aload_n 0, 1) := by decide +kernel
theorem dX2_reduce_14 : decode cX2_reduce 14 = .ok (.aload_n 1, 1) := by decide +kernel
theorem dX2_reduce_15 : decode cX2_reduce 15 = .ok (.aload_n 0, 1) := by decide +kernel
theorem dX2_reduce_16 : decode cX2_reduce 16 = .ok (.getfield 27, 3) := by decide +kernel
theorem dX2_reduce_19 : decode cX2_reduce 19 = .ok (.aload_n 0, 1) := by decide +kernel
theorem dX2_reduce_20 : decode cX2_reduce 20 = .ok (.getfield 20, 3) := by decide +kernel
theorem dX2_reduce_23 : decode cX2_reduce 23 = .ok (.invokevirtual 45, 3) := by decide +kernel
theorem dX2_reduce_26 : decode cX2_reduce 26 = .ok (.aload_n 0, 1) := by decide +kernel
theorem dX2_reduce_27 : decode cX2_reduce 27 = .ok (.aload_n 2, 1) := by decide +kernel
theorem dX2_reduce_28 : decode cX2_reduce 28 = .ok (.aload_n 0, 1) := by decide +kernel
theorem dX2_reduce_29 : decode cX2_reduce 29 = .ok (.getfield 27, 3) := by decide +kernel
theorem dX2_reduce_32 : decode cX2_reduce 32 = .ok (.aload_n 0, 1) := by decide +kernel
theorem dX2_reduce_33 : decode cX2_reduce 33 = .ok (.getfield 24, 3) := by decide +kernel
theorem dX2_reduce_36 : decode cX2_reduce 36 = .ok (.invokevirtual 45, 3) := by decide +kernel
theorem dX2_reduce_39 : decode cX2_reduce 39 = .ok (.aload_n 0, 1) := by decide +kernel
theorem dX2_reduce_40 : decode cX2_reduce 40 = .ok (.invokevirtual 48, 3) := by decide +kernel
theorem dX2_reduce_43 : decode cX2_reduce 43 = .ok (.return_, 1) := by decide +kernel
def zs_X2_reduce (h : AH) (u0 : Nat) (u1 : Nat) (u2 : Nat) : Option AH :=
  (gR h u0 2 3).bind fun x1 => (gR h u0 2 4).bind fun x2 => (chk h x1 3).bind fun _ => (zs_X3_commonDivisor h x1 u1 u2 x2).bind fun g4 => (gR g4 u0 2 4).bind fun x5 => (gR g4 u0 2 0).bind fun x6 => (chk g4 u0 2).bind fun _ => (zs_X2_cut g4 u0 u1 x5 x6).bind fun g8 => (gR g8 u0 2 4).bind fun x9 => (gR g8 u0 2 1).bind fun x10 => (chk g8 u0 2).bind fun _ => (zs_X2_cut g8 u0 u2 x9 x10).bind fun g12 => (chk g12 u0 2).bind fun _ => (zs_X2_raiseBottom g12 u0).bind fun g14 => some g14
set_option maxRecDepth 100000 in
set_option maxHeartbeats 4000000 in
theorem zm_X2_reduce (l : Launch) (D : hG) (z : Nat) {h : AH} {u0 : Nat} {u1 : Nat} {u2 : Nat} {h' : AH} (hs : zs_X2_reduce h u0 u1 u2 = some h') : hC l D z yX2_reduce cX2_reduce 3 (Option.none : Option Jvm.ClassFile.FieldType) 5 134 0 0 [.ref u0, .ref u1, .ref u2] h h' none := by
  refine hC_of (by decide) (Nat.le_of_ble_eq_true rfl) ?_
  intro p e s m below meth c hx hb hml hrt hlk hown hnm hts hk hr hz ls hl
  replace hown : s.vm.findClass RX2 = some m.cls := hown
  replace hl : lv_has ls 3 [(0, .ref u0), (1, .ref u1), (2, .ref u2)] := hl
  have hS : va_S (hA z) s.heap s.heap [] := va_S.rf
  suffices hgo : ∀ (H : Heap) (locs : List Loc), hR D z h H → va_S (hA z) s.heap H locs → W p l e ({ frames := 5, cells := 0, slots := 0, locals := 134 } : Room) s m ([.ref u0, .ref u1, .ref u2] : List Value).toArray below meth c H locs 0 0 (MQ below (hQ D z h' none) ([.ref u0, .ref u1, .ref u2] : List Value).toArray s 0 0 (hA z)) (F0 m 0 ls []) from hgo _ _ hr hS
  clear hr hS
  intro H locs hr hS
  unfold zs_X2_reduce at hs
  refine lv_aload_n hx hb dX2_reduce_0 rfl (lv_at hl 0 rfl) ?_
  obtain ⟨x1, ex1, hs⟩ := bi_inv hs
  refine hv_gR (C := RX2) (T := TX2) (N := 8) (ci := 2) hx hb hts inX2 hown hk hr rfl 3 (by decide) (hts _ tw_206) ex1 dX2_reduce_1 ?_
  refine lv_aload_n hx hb dX2_reduce_4 rfl (lv_at hl 1 rfl) ?_
  refine lv_aload_n hx hb dX2_reduce_5 rfl (lv_at hl 2 rfl) ?_
  refine lv_aload_n hx hb dX2_reduce_6 rfl (lv_at hl 0 rfl) ?_
  obtain ⟨x2, ex2, hs⟩ := bi_inv hs
  refine hv_gR (C := RX2) (T := TX2) (N := 8) (ci := 2) hx hb hts inX2 hown hk hr rfl 4 (by decide) (hts _ tw_207) ex2 dX2_reduce_7 ?_
  obtain ⟨_, ex3, hs⟩ := bi_inv hs
  obtain ⟨g4, eg4, hs⟩ := bi_inv hs
  refine hv_V0 (n := 3) [.ref u1, .ref u2, .ref x2] [] hx hb hml hown hts hk hr hz hS (zm_X3_commonDivisor l D z eg4) ex3 rfl tw_681 tw_533 tw_534 tw_7 tw_535 (by decide +kernel) (by decide) ⟨(Nat.zero_le _), (Nat.zero_le _)⟩ rfl hl.1 (Nat.le_of_ble_eq_true rfl) dX2_reduce_10 rfl (fun H locs hr hS => ?_)
  refine lv_aload_n hx hb dX2_reduce_13 rfl (lv_at hl 0 rfl) ?_
  refine lv_aload_n hx hb dX2_reduce_14 rfl (lv_at hl 1 rfl) ?_
  refine lv_aload_n hx hb dX2_reduce_15 rfl (lv_at hl 0 rfl) ?_
  obtain ⟨x5, ex5, hs⟩ := bi_inv hs
  refine hv_gR (C := RX2) (T := TX2) (N := 8) (ci := 2) hx hb hts inX2 hown hk hr rfl 4 (by decide) (hts _ tw_207) ex5 dX2_reduce_16 ?_
  refine lv_aload_n hx hb dX2_reduce_19 rfl (lv_at hl 0 rfl) ?_
  obtain ⟨x6, ex6, hs⟩ := bi_inv hs
  refine hv_gR (C := RX2) (T := TX2) (N := 8) (ci := 2) hx hb hts inX2 hown hk hr rfl 0 (by decide) (hts _ tw_201) ex6 dX2_reduce_20 ?_
  obtain ⟨_, ex7, hs⟩ := bi_inv hs
  obtain ⟨g8, eg8, hs⟩ := bi_inv hs
  refine hv_V0 (n := 3) [.ref u1, .ref x5, .ref x6] [] hx hb hml hown hts hk hr hz hS (zm_X2_cut l D z eg8) ex7 rfl tw_682 tw_684 ts_14 tw_8 tw_685 (by decide +kernel) (by decide) ⟨(Nat.zero_le _), (Nat.zero_le _)⟩ rfl hl.1 (Nat.le_of_ble_eq_true rfl) dX2_reduce_23 rfl (fun H locs hr hS => ?_)
  refine lv_aload_n hx hb dX2_reduce_26 rfl (lv_at hl 0 rfl) ?_
  refine lv_aload_n hx hb dX2_reduce_27 rfl (lv_at hl 2 rfl) ?_
  refine lv_aload_n hx hb dX2_reduce_28 rfl (lv_at hl 0 rfl) ?_
  obtain ⟨x9, ex9, hs⟩ := bi_inv hs
  refine hv_gR (C := RX2) (T := TX2) (N := 8) (ci := 2) hx hb hts inX2 hown hk hr rfl 4 (by decide) (hts _ tw_207) ex9 dX2_reduce_29 ?_
  refine lv_aload_n hx hb dX2_reduce_32 rfl (lv_at hl 0 rfl) ?_
  obtain ⟨x10, ex10, hs⟩ := bi_inv hs
  refine hv_gR (C := RX2) (T := TX2) (N := 8) (ci := 2) hx hb hts inX2 hown hk hr rfl 1 (by decide) (hts _ tw_203) ex10 dX2_reduce_33 ?_
  obtain ⟨_, ex11, hs⟩ := bi_inv hs
  obtain ⟨g12, eg12, hs⟩ := bi_inv hs
  refine hv_V0 (n := 3) [.ref u2, .ref x9, .ref x10] [] hx hb hml hown hts hk hr hz hS (zm_X2_cut l D z eg12) ex11 rfl tw_682 tw_684 ts_14 tw_8 tw_685 (by decide +kernel) (by decide) ⟨(Nat.zero_le _), (Nat.zero_le _)⟩ rfl hl.1 (Nat.le_of_ble_eq_true rfl) dX2_reduce_36 rfl (fun H locs hr hS => ?_)
  refine lv_aload_n hx hb dX2_reduce_39 rfl (lv_at hl 0 rfl) ?_
  obtain ⟨_, ex13, hs⟩ := bi_inv hs
  obtain ⟨g14, eg14, hs⟩ := bi_inv hs
  refine hv_V0 (n := 0) [] [] hx hb hml hown hts hk hr hz hS (zm_X2_raiseBottom l D z eg14) ex13 rfl tw_689 tw_691 ts_15 tw_8 tw_692 (by decide +kernel) (by decide) ⟨(Nat.zero_le _), (Nat.zero_le _)⟩ rfl hl.1 (Nat.le_of_ble_eq_true rfl) dX2_reduce_40 rfl (fun H locs hr hS => ?_)
  obtain rfl := Option.some.inj hs
  exact hv_vret hx hb hrt hlk hr hS dX2_reduce_43
theorem dX3_multiplyBy_0 : decode cX3_multiplyBy 0 = .ok (.aload_n 0, 1) := by decide +kernel
theorem dX3_multiplyBy_1 : decode cX3_multiplyBy 1 = .ok (.getfield 18, 3) := by decide +kernel
theorem dX3_multiplyBy_4 : decode cX3_multiplyBy 4 = .ok (.aload_n 1, 1) := by decide +kernel
theorem dX3_multiplyBy_5 : decode cX3_multiplyBy 5 = .ok (.aload_n 0, 1) := by decide +kernel
theorem dX3_multiplyBy_6 : decode cX3_multiplyBy 6 = .ok (.getfield 22, 3) := by decide +kernel
theorem dX3_multiplyBy_9 : decode cX3_multiplyBy 9 = .ok (.invokestatic 52, 3) := by decide +kernel
theorem dX3_multiplyBy_12 : decode cX3_multiplyBy 12 = .ok (.aload_n 0, 1) := by decide +kernel
theorem dX3_multiplyBy_13 : decode cX3_multiplyBy 13 = .ok (.getfield 18, 3) := by decide +kernel
theorem dX3_multiplyBy_16 : decode cX3_multiplyBy 16 = .ok (.aload_n 0, 1) := by decide +kernel
theorem dX3_multiplyBy_17 : decode cX3_multiplyBy 17 = .ok (.getfield 22, 3) := by decide +kernel
theorem dX3_multiplyBy_20 : decode cX3_multiplyBy 20 = .ok (.invokevirtual 55, 3) := by decide +kernel
theorem dX3_multiplyBy_23 : decode cX3_multiplyBy 23 = .ok (.aload_n 0, 1) := by decide +kernel
theorem dX3_multiplyBy_24 : decode cX3_multiplyBy 24 = .ok (.getfield 18, 3) := by decide +kernel
theorem dX3_multiplyBy_27 : decode cX3_multiplyBy 27 = .ok (.invokevirtual 59, 3) := by decide +kernel
theorem dX3_multiplyBy_30 : decode cX3_multiplyBy 30 = .ok (.ireturn, 1) := by decide +kernel
def zs_X3_multiplyBy (h : AH) (u0 : Nat) (u1 : Nat) : Option (Int32 × AH) :=
  (gR h u0 3 0).bind fun x1 => (gR h u0 3 2).bind fun x2 => (zs_X8_product h x1 u1 x2).bind fun g3 => (gR g3 u0 3 0).bind fun x4 => (gR g3 u0 3 2).bind fun x5 => (chk g3 x4 8).bind fun _ => (zs_X8_copy g3 x4 x5).bind fun g7 => (gR g7 u0 3 0).bind fun x8 => (chk g7 x8 8).bind fun _ => (zs_X8_isWithin g7 x8).bind fun x10 => (zk x10).bind fun _ => some (x10, g7)
set_option maxRecDepth 100000 in
set_option maxHeartbeats 4000000 in
theorem zm_X3_multiplyBy (l : Launch) (D : hG) (z : Nat) {h : AH} {u0 : Nat} {u1 : Nat} {r : Int32} {h' : AH} (hs : zs_X3_multiplyBy h u0 u1 = some (r, h')) : hC l D z yX3_multiplyBy cX3_multiplyBy 2 (Option.some Jvm.ClassFile.FieldType.boolean) 2 52 0 0 [.ref u0, .ref u1] h h' (some (.int r)) := by
  refine hC_of (by decide) (Nat.le_of_ble_eq_true rfl) ?_
  intro p e s m below meth c hx hb hml hrt hlk hown hnm hts hk hr hz ls hl
  replace hown : s.vm.findClass RX3 = some m.cls := hown
  replace hl : lv_has ls 2 [(0, .ref u0), (1, .ref u1)] := hl
  have hS : va_S (hA z) s.heap s.heap [] := va_S.rf
  suffices hgo : ∀ (H : Heap) (locs : List Loc), hR D z h H → va_S (hA z) s.heap H locs → W p l e ({ frames := 2, cells := 0, slots := 0, locals := 52 } : Room) s m ([.ref u0, .ref u1] : List Value).toArray below meth c H locs 0 0 (MQ below (hQ D z h' (some (.int r))) ([.ref u0, .ref u1] : List Value).toArray s 0 0 (hA z)) (F0 m 0 ls []) from hgo _ _ hr hS
  clear hr hS
  intro H locs hr hS
  unfold zs_X3_multiplyBy at hs
  refine lv_aload_n hx hb dX3_multiplyBy_0 rfl (lv_at hl 0 rfl) ?_
  obtain ⟨x1, ex1, hs⟩ := bi_inv hs
  refine hv_gR (C := RX3) (T := TX3) (N := 8) (ci := 3) hx hb hts inX3 hown hk hr rfl 0 (by decide) (hts _ tw_167) ex1 dX3_multiplyBy_1 ?_
  refine lv_aload_n hx hb dX3_multiplyBy_4 rfl (lv_at hl 1 rfl) ?_
  refine lv_aload_n hx hb dX3_multiplyBy_5 rfl (lv_at hl 0 rfl) ?_
  obtain ⟨x2, ex2, hs⟩ := bi_inv hs
  refine hv_gR (C := RX3) (T := TX3) (N := 8) (ci := 3) hx hb hts inX3 hown hk hr rfl 2 (by decide) (hts _ tw_170) ex2 dX3_multiplyBy_6 ?_
  obtain ⟨g3, eg3, hs⟩ := bi_inv hs
  refine hv_S0 (n := 3) [.ref x1, .ref u1, .ref x2] [] hx hb hml hown hts hk hr hz hS (zm_X8_product l D z eg3) tw_554 tw_472 tw_2 tw_473 (by decide +kernel) (by decide) ⟨(Nat.zero_le _), (Nat.zero_le _)⟩ rfl hl.1 (Nat.le_of_ble_eq_true rfl) dX3_multiplyBy_9 rfl (fun H locs hr hS => ?_)
  refine lv_aload_n hx hb dX3_multiplyBy_12 rfl (lv_at hl 0 rfl) ?_
  obtain ⟨x4, ex4, hs⟩ := bi_inv hs
  refine hv_gR (C := RX3) (T := TX3) (N := 8) (ci := 3) hx hb hts inX3 hown hk hr rfl 0 (by decide) (hts _ tw_167) ex4 dX3_multiplyBy_13 ?_
  refine lv_aload_n hx hb dX3_multiplyBy_16 rfl (lv_at hl 0 rfl) ?_
  obtain ⟨x5, ex5, hs⟩ := bi_inv hs
  refine hv_gR (C := RX3) (T := TX3) (N := 8) (ci := 3) hx hb hts inX3 hown hk hr rfl 2 (by decide) (hts _ tw_170) ex5 dX3_multiplyBy_17 ?_
  obtain ⟨_, ex6, hs⟩ := bi_inv hs
  obtain ⟨g7, eg7, hs⟩ := bi_inv hs
  refine hv_V0 (n := 1) [.ref x5] [] hx hb hml hown hts hk hr hz hS (zm_X8_copy l D z eg7) ex6 rfl tw_536 tw_373 tw_374 tw_2 tw_375 (by decide +kernel) (by decide) ⟨(Nat.zero_le _), (Nat.zero_le _)⟩ rfl hl.1 (Nat.le_of_ble_eq_true rfl) dX3_multiplyBy_20 rfl (fun H locs hr hS => ?_)
  refine lv_aload_n hx hb dX3_multiplyBy_23 rfl (lv_at hl 0 rfl) ?_
  obtain ⟨x8, ex8, hs⟩ := bi_inv hs
  refine hv_gR (C := RX3) (T := TX3) (N := 8) (ci := 3) hx hb hts inX3 hown hk hr rfl 0 (by decide) (hts _ tw_167) ex8 dX3_multiplyBy_24 ?_
  obtain ⟨_, ex9, hs⟩ := bi_inv hs
  obtain ⟨x10, ex10, hs⟩ := bi_inv hs
  refine hv_V1 (n := 0) [] [] hx hb hml hown hts hk hr hz hS (zm_X8_isWithin l D z ex10) ex9 rfl tw_555 tw_369 tw_370 tw_2 tw_371 (by decide +kernel) (by decide) ⟨(Nat.zero_le _), (Nat.zero_le _)⟩ rfl hl.1 (Nat.le_of_ble_eq_true rfl) dX3_multiplyBy_27 rfl (fun H locs hr hS => ?_)
  obtain ⟨_, ex11, hs⟩ := bi_inv hs
  obtain ⟨rfl, rfl⟩ := Prod.mk.inj (Option.some.inj hs)
  exact hv_zret hx hb hrt hlk hr hS (zk_inv ex11) dX3_multiplyBy_30
theorem dX3_raise_0 : decode cX3_raise 0 = .ok (.aload_n 0, 1) := by decide +kernel
theorem dX3_raise_1 : decode cX3_raise 1 = .ok (.getfield 18, 3) := by decide +kernel
theorem dX3_raise_4 : decode cX3_raise 4 = .ok (.lconst 1, 1) := by decide +kernel
theorem dX3_raise_5 : decode cX3_raise 5 = .ok (.invokevirtual 40, 3) := by decide +kernel
theorem dX3_raise_8 : decode cX3_raise 8 = .ok (.iload_n 2, 1) := by decide +kernel
theorem dX3_raise_9 : decode cX3_raise 9 = .ok (.i2l, 1) := by decide +kernel
theorem dX3_raise_10 : decode cX3_raise 10 = .ok (.invokestatic 44, 3) := by decide +kernel
theorem dX3_raise_13 : decode cX3_raise 13 = .ok (.iconst 1, 1) := by decide +kernel
theorem dX3_raise_14 : decode cX3_raise 14 = .ok (.isub, 1) := by decide +kernel
theorem dX3_raise_15 : decode cX3_raise 15 = .ok (.istore_n 3, 1) := by decide +kernel
theorem dX3_raise_16 : decode cX3_raise 16 = .ok (.iload_n 3, 1) := by decide +kernel
theorem dX3_raise_17 : decode cX3_raise 17 = .ok (.ifCond .lt 41, 3) := by decide +kernel
theorem dX3_raise_20 : decode cX3_raise 20 = .ok (.aload_n 0, 1) := by decide +kernel
theorem dX3_raise_21 : decode cX3_raise 21 = .ok (.aload_n 0, 1) := by decide +kernel
theorem dX3_raise_22 : decode cX3_raise 22 = .ok (.getfield 18, 3) := by decide +kernel
theorem dX3_raise_25 : decode cX3_raise 25 = .ok (.invokevirtual 48, 3) := by decide +kernel
theorem dX3_raise_28 : decode cX3_raise 28 = .ok (.ifCond .ne 5, 3) := by decide +kernel
theorem dX3_raise_31 : decode cX3_raise 31 = .ok (.iconst 0, 1) := by decide +kernel
theorem dX3_raise_32 : decode cX3_raise 32 = .ok (.ireturn, 1) := by decide +kernel
theorem dX3_raise_33 : decode cX3_raise 33 = .ok (.iload_n 2, 1) := by decide +kernel
theorem dX3_raise_34 : decode cX3_raise 34 = .ok (.iload_n 3, 1) := by decide +kernel
theorem dX3_raise_35 : decode cX3_raise 35 = .ok (.ishr, 1) := by decide +kernel
theorem dX3_raise_36 : decode cX3_raise 36 = .ok (.iconst 1, 1) := by decide +kernel
theorem dX3_raise_37 : decode cX3_raise 37 = .ok (.iand, 1) := by decide +kernel
theorem dX3_raise_38 : decode cX3_raise 38 = .ok (.iconst 1, 1) := by decide +kernel
theorem dX3_raise_39 : decode cX3_raise 39 = .ok (.if_icmp .ne 13, 3) := by decide +kernel
theorem dX3_raise_42 : decode cX3_raise 42 = .ok (.aload_n 0, 1) := by decide +kernel
theorem dX3_raise_43 : decode cX3_raise 43 = .ok (.aload_n 1, 1) := by decide +kernel
theorem dX3_raise_44 : decode cX3_raise 44 = .ok (.invokevirtual 48, 3) := by decide +kernel
theorem dX3_raise_47 : decode cX3_raise 47 = .ok (.ifCond .ne 5, 3) := by decide +kernel
theorem dX3_raise_50 : decode cX3_raise 50 = .ok (.iconst 0, 1) := by decide +kernel
theorem dX3_raise_51 : decode cX3_raise 51 = .ok (.ireturn, 1) := by decide +kernel
theorem dX3_raise_52 : decode cX3_raise 52 = .ok (.iinc 3 (-1), 3) := by decide +kernel
theorem dX3_raise_55 : decode cX3_raise 55 = .ok (.goto (-39), 3) := by decide +kernel
theorem dX3_raise_58 : decode cX3_raise 58 = .ok (.iconst 1, 1) := by decide +kernel
theorem dX3_raise_59 : decode cX3_raise 59 = .ok (.ireturn, 1) := by decide +kernel
def zb_X3_raise_16 (w0 : Nat) (w1 : Nat) (w2 : Int32) (g6 : AH) (w3 : Int32) : Option ((AH × Int32) ⊕ (AH ⊕ AH ⊕ AH)) :=
  (if w3 < 0 then some (Sum.inr ((Sum.inr (Sum.inr (g6))))) else (gR g6 w0 3 0).bind fun x8 => (chk g6 w0 3).bind fun _ => (zs_X3_multiplyBy g6 w0 x8).bind fun x10 => (if x10.1 = 0 then some (Sum.inr ((Sum.inl x10.2))) else (if (w2 >>> (w3 &&& 31)) &&& ((1 : Int32)) = (1 : Int32) then (chk x10.2 w0 3).bind fun _ => (zs_X3_multiplyBy x10.2 w0 w1).bind fun x14 => (if x14.1 = 0 then some (Sum.inr ((Sum.inr (Sum.inl x14.2)))) else some (Sum.inl ((x14.2, w3 + (-1 : Int32))))) else some (Sum.inl ((x10.2, w3 + (-1 : Int32)))))))
def zs_X3_raise (h : AH) (u0 : Nat) (u1 : Nat) (u2 : Int32) : Option (Int32 × AH) :=
  (gR h u0 3 0).bind fun x1 => (chk h x1 8).bind fun _ => (zs_X8_become h x1 ((1 : Int64))).bind fun g3 => (zs_X8_bitsOf g3 u2.toInt64).bind fun x4 => lt_ (x4 - ((1 : Int32))) fun x5 => (iter (fun q : AH × Int32 => zb_X3_raise_16 u0 u1 u2 q.1 q.2) FU ((g3, x5))).bind fun r16 => (match r16 with | .inl r17 => some ((0 : Int32), r17) | .inr (.inl r18) => some ((0 : Int32), r18) | .inr (.inr r19) => some ((1 : Int32), r19))
set_option maxRecDepth 100000 in
set_option maxHeartbeats 4000000 in
theorem zm_X3_raise (l : Launch) (D : hG) (z : Nat) {h : AH} {u0 : Nat} {u1 : Nat} {u2 : Int32} {r : Int32} {h' : AH} (hs : zs_X3_raise h u0 u1 u2 = some (r, h')) : hC l D z yX3_raise cX3_raise 4 (Option.some Jvm.ClassFile.FieldType.boolean) 3 73 0 0 [.ref u0, .ref u1, .int u2] h h' (some (.int r)) := by
  refine hC_of (by decide) (Nat.le_of_ble_eq_true rfl) ?_
  intro p e s m below meth c hx hb hml hrt hlk hown hnm hts hk hr hz ls hl
  replace hown : s.vm.findClass RX3 = some m.cls := hown
  replace hl : lv_has ls 4 [(0, .ref u0), (1, .ref u1), (2, .int u2)] := hl
  have hS : va_S (hA z) s.heap s.heap [] := va_S.rf
  suffices hgo : ∀ (H : Heap) (locs : List Loc), hR D z h H → va_S (hA z) s.heap H locs → W p l e ({ frames := 3, cells := 0, slots := 0, locals := 73 } : Room) s m ([.ref u0, .ref u1, .int u2] : List Value).toArray below meth c H locs 0 0 (MQ below (hQ D z h' (some (.int r))) ([.ref u0, .ref u1, .int u2] : List Value).toArray s 0 0 (hA z)) (F0 m 0 ls []) from hgo _ _ hr hS
  clear hr hS
  intro H locs hr hS
  unfold zs_X3_raise at hs
  refine lv_aload_n hx hb dX3_raise_0 rfl (lv_at hl 0 rfl) ?_
  obtain ⟨x1, ex1, hs⟩ := bi_inv hs
  refine hv_gR (C := RX3) (T := TX3) (N := 8) (ci := 3) hx hb hts inX3 hown hk hr rfl 0 (by decide) (hts _ tw_167) ex1 dX3_raise_1 ?_
  refine lv_lconst (v := 1) hx hb dX3_raise_4 (by decide) ?_
  obtain ⟨_, ex2, hs⟩ := bi_inv hs
  obtain ⟨g3, eg3, hs⟩ := bi_inv hs
  refine hv_V0 (n := 1) [.long ((1 : Int64))] [] hx hb hml hown hts hk hr hz hS (zm_X8_become l D z eg3) ex2 rfl tw_548 tw_66 tw_67 tw_2 tw_68 (by decide +kernel) (by decide) ⟨(Nat.zero_le _), (Nat.zero_le _)⟩ rfl hl.1 (Nat.le_of_ble_eq_true rfl) dX3_raise_5 rfl (fun H locs hr hS => ?_)
  refine lv_iload_n hx hb dX3_raise_8 rfl (lv_at hl 2 rfl) ?_
  refine lv_i2l hx hb dX3_raise_9 rfl ?_
  obtain ⟨x4, ex4, hs⟩ := bi_inv hs
  refine hv_S1 (n := 1) [.long u2.toInt64] [] hx hb hml hown hts hk hr hz hS (zm_X8_bitsOf l D z ex4) tw_549 tw_497 tw_2 tw_498 (by decide +kernel) (by decide) ⟨(Nat.zero_le _), (Nat.zero_le _)⟩ rfl hl.1 (Nat.le_of_ble_eq_true rfl) dX3_raise_10 rfl (fun H locs hr hS => ?_)
  refine lv_iconst (v := 1) hx hb dX3_raise_13 (by decide) ?_
  refine lv_isub hx hb dX3_raise_14 ?_
  refine lv_topi (fun x5 ex5 => ?_)
  replace hs := lt_inv hs x5 ex5
  refine lv_istore_n (lv' := [(3, .int x5), (0, .ref u0), (1, .ref u1), (2, .int u2)]) hx hb dX3_raise_15 rfl hl (by decide) rfl (fun ls hl => ?_)
  obtain ⟨r16, er16, hs⟩ := bi_inv hs
  refine iter_W (fun (q : AH × Int32) => ∀ (H : Heap) (locs : List Loc) (ls : Array Slot), hR D z q.1 H → va_S (hA z) s.heap H locs → lv_has ls 4 [(0, .ref u0), (1, .ref u1), (2, .int u2), (3, .int q.2)] → W p l e ({ frames := 3, cells := 0, slots := 0, locals := 73 } : Room) s m ([.ref u0, .ref u1, .int u2] : List Value).toArray below meth c H locs 0 0 (MQ below (hQ D z h' (some (.int r))) ([.ref u0, .ref u1, .int u2] : List Value).toArray s 0 0 (hA z)) (F0 m 16 ls [])) (fun (x : AH ⊕ AH ⊕ AH) => (Sum.elim (fun x => ∀ (H : Heap) (locs : List Loc) (ls : Array Slot), hR D z x H → va_S (hA z) s.heap H locs → lv_has ls 4 [] → W p l e ({ frames := 3, cells := 0, slots := 0, locals := 73 } : Room) s m ([.ref u0, .ref u1, .int u2] : List Value).toArray below meth c H locs 0 0 (MQ below (hQ D z h' (some (.int r))) ([.ref u0, .ref u1, .int u2] : List Value).toArray s 0 0 (hA z)) (F0 m 31 ls [])) (Sum.elim (fun x => ∀ (H : Heap) (locs : List Loc) (ls : Array Slot), hR D z x H → va_S (hA z) s.heap H locs → lv_has ls 4 [] → W p l e ({ frames := 3, cells := 0, slots := 0, locals := 73 } : Room) s m ([.ref u0, .ref u1, .int u2] : List Value).toArray below meth c H locs 0 0 (MQ below (hQ D z h' (some (.int r))) ([.ref u0, .ref u1, .int u2] : List Value).toArray s 0 0 (hA z)) (F0 m 50 ls [])) (fun x => ∀ (H : Heap) (locs : List Loc) (ls : Array Slot), hR D z x H → va_S (hA z) s.heap H locs → lv_has ls 4 [] → W p l e ({ frames := 3, cells := 0, slots := 0, locals := 73 } : Room) s m ([.ref u0, .ref u1, .int u2] : List Value).toArray below meth c H locs 0 0 (MQ below (hQ D z h' (some (.int r))) ([.ref u0, .ref u1, .int u2] : List Value).toArray s 0 0 (hA z)) (F0 m 58 ls [])))) x) ?_ FU _ r16 er16 ?_ H locs ls hr hS (lv_sub hl [1, 2, 3, 0] rfl)
  · intro q o hs hcont hexit
    obtain ⟨g6, w3⟩ := q
    replace hs : zb_X3_raise_16 u0 u1 u2 g6 w3 = some o := hs
    intro H locs ls hr hS hl
    unfold zb_X3_raise_16 at hs
    refine lv_iload_n hx hb dX3_raise_16 rfl (lv_at hl 3 rfl) ?_
    refine lv_if_lt (tgt := 58) hx hb dX3_raise_17 (by decide) (fun c7 => ?_) (fun c7 => ?_)
    · rw [if_pos c7] at hs
      obtain rfl := Option.some.inj hs
      exact hexit _ rfl H locs ls hr hS (lv_sub hl [] rfl)
    · rw [if_neg c7] at hs
      refine lv_aload_n hx hb dX3_raise_20 rfl (lv_at hl 0 rfl) ?_
      refine lv_aload_n hx hb dX3_raise_21 rfl (lv_at hl 0 rfl) ?_
      obtain ⟨x8, ex8, hs⟩ := bi_inv hs
      refine hv_gR (C := RX3) (T := TX3) (N := 8) (ci := 3) hx hb hts inX3 hown hk hr rfl 0 (by decide) (hts _ tw_167) ex8 dX3_raise_22 ?_
      obtain ⟨_, ex9, hs⟩ := bi_inv hs
      obtain ⟨x10, ex10, hs⟩ := bi_inv hs
      refine hv_V1 (n := 1) [.ref x8] [] hx hb hml hown hts hk hr hz hS (zm_X3_multiplyBy l D z ex10) ex9 rfl tw_550 tw_552 ts_9 tw_7 tw_553 (by decide +kernel) (by decide) ⟨(Nat.zero_le _), (Nat.zero_le _)⟩ rfl hl.1 (Nat.le_of_ble_eq_true rfl) dX3_raise_25 rfl (fun H locs hr hS => ?_)
      refine lv_if_ne (tgt := 33) hx hb dX3_raise_28 (by decide) (fun c11 => ?_) (fun c11 => ?_)
      · rw [if_neg c11] at hs
        refine lv_iload_n hx hb dX3_raise_33 rfl (lv_at hl 2 rfl) ?_
        refine lv_iload_n hx hb dX3_raise_34 rfl (lv_at hl 3 rfl) ?_
        refine lv_ishr hx hb dX3_raise_35 ?_
        refine lv_iconst (v := 1) hx hb dX3_raise_36 (by decide) ?_
        refine lv_iand hx hb dX3_raise_37 ?_
        refine lv_iconst (v := 1) hx hb dX3_raise_38 (by decide) ?_
        refine lv_icmp_ne (tgt := 52) hx hb dX3_raise_39 (by decide) (fun c12 => ?_) (fun c12 => ?_)
        · rw [if_neg c12] at hs
          refine lv_iinc (v := w3 + (-1 : Int32)) (lv' := [(3, .int (w3 + (-1 : Int32))), (0, .ref u0), (1, .ref u1), (2, .int u2)]) hx hb dX3_raise_52 hl (k := 3) rfl (ii_v _ (by decide)) (by decide) rfl (fun ls hl => ?_)
          refine lv_goto (tgt := 16) hx hb dX3_raise_55 (by decide) ?_
          obtain rfl := Option.some.inj hs
          exact hcont _ rfl H locs ls hr hS (lv_sub hl [1, 2, 3, 0] rfl)
        · rw [if_pos c12] at hs
          refine lv_aload_n hx hb dX3_raise_42 rfl (lv_at hl 0 rfl) ?_
          refine lv_aload_n hx hb dX3_raise_43 rfl (lv_at hl 1 rfl) ?_
          obtain ⟨_, ex13, hs⟩ := bi_inv hs
          obtain ⟨x14, ex14, hs⟩ := bi_inv hs
          refine hv_V1 (n := 1) [.ref u1] [] hx hb hml hown hts hk hr hz hS (zm_X3_multiplyBy l D z ex14) ex13 rfl tw_550 tw_552 ts_9 tw_7 tw_553 (by decide +kernel) (by decide) ⟨(Nat.zero_le _), (Nat.zero_le _)⟩ rfl hl.1 (Nat.le_of_ble_eq_true rfl) dX3_raise_44 rfl (fun H locs hr hS => ?_)
          refine lv_if_ne (tgt := 52) hx hb dX3_raise_47 (by decide) (fun c15 => ?_) (fun c15 => ?_)
          · rw [if_neg c15] at hs
            refine lv_iinc (v := w3 + (-1 : Int32)) (lv' := [(3, .int (w3 + (-1 : Int32))), (0, .ref u0), (1, .ref u1), (2, .int u2)]) hx hb dX3_raise_52 hl (k := 3) rfl (ii_v _ (by decide)) (by decide) rfl (fun ls hl => ?_)
            refine lv_goto (tgt := 16) hx hb dX3_raise_55 (by decide) ?_
            obtain rfl := Option.some.inj hs
            exact hcont _ rfl H locs ls hr hS (lv_sub hl [1, 2, 3, 0] rfl)
          · rw [if_pos c15] at hs
            obtain rfl := Option.some.inj hs
            exact hexit _ rfl H locs ls hr hS (lv_sub hl [] rfl)
      · rw [if_pos c11] at hs
        obtain rfl := Option.some.inj hs
        exact hexit _ rfl H locs ls hr hS (lv_sub hl [] rfl)
  · cases r16 with
    | inl r17 =>
      intro H locs ls hr hS hl
      replace hs := hs
      dsimp only at hs
      refine lv_iconst (v := 0) hx hb dX3_raise_31 (by decide) ?_
      obtain ⟨rfl, rfl⟩ := Prod.mk.inj (Option.some.inj hs)
      exact hv_zret hx hb hrt hlk hr hS (by decide) dX3_raise_32
    | inr q20 =>
      cases q20 with
      | inl r18 =>
        intro H locs ls hr hS hl
        replace hs := hs
        dsimp only at hs
        refine lv_iconst (v := 0) hx hb dX3_raise_50 (by decide) ?_
        obtain ⟨rfl, rfl⟩ := Prod.mk.inj (Option.some.inj hs)
        exact hv_zret hx hb hrt hlk hr hS (by decide) dX3_raise_51
      | inr r19 =>
        dsimp only at hs
        intro H locs ls hr hS hl
        refine lv_iconst (v := 1) hx hb dX3_raise_58 (by decide) ?_
        obtain ⟨rfl, rfl⟩ := Prod.mk.inj (Option.some.inj hs)
        exact hv_zret hx hb hrt hlk hr hS (by decide) dX3_raise_59
theorem dX3_extract_0 : decode cX3_extract 0 = .ok (.aload_n 3, 1) := by decide +kernel
theorem dX3_extract_1 : decode cX3_extract 1 = .ok (.lconst 0, 1) := by decide +kernel
theorem dX3_extract_2 : decode cX3_extract 2 = .ok (.invokevirtual 40, 3) := by decide +kernel
theorem dX3_extract_5 : decode cX3_extract 5 = .ok (.iload_n 2, 1) := by decide +kernel
theorem dX3_extract_6 : decode cX3_extract 6 = .ok (.iconst 1, 1) := by decide +kernel
theorem dX3_extract_7 : decode cX3_extract 7 = .ok (.if_icmp .ge 5, 3) := by decide +kernel
theorem dX3_extract_10 : decode cX3_extract 10 = .ok (.iconst 0, 1) := by decide +kernel
theorem dX3_extract_11 : decode cX3_extract 11 = .ok (.ireturn, 1) := by decide +kernel
theorem dX3_extract_12 : decode cX3_extract 12 = .ok (.aload_n 1, 1) := by decide +kernel
theorem dX3_extract_13 : decode cX3_extract 13 = .ok (.invokevirtual 63, 3) := by decide +kernel
theorem dX3_extract_16 : decode cX3_extract 16 = .ok (.istore 4, 2) := by decide +kernel
theorem dX3_extract_18 : decode cX3_extract 18 = .ok (.aload_n 1, 1) := by decide +kernel
theorem dX3_extract_19 : decode cX3_extract 19 = .ok (.invokevirtual 66, 3) := by decide +kernel
theorem dX3_extract_22 : decode cX3_extract 22 = .ok (.iload_n 2, 1) := by decide +kernel
theorem dX3_extract_23 : decode cX3_extract 23 = .ok (.idiv, 1) := by decide +kernel
theorem dX3_extract_24 : decode cX3_extract 24 = .ok (.istore 5, 2) := by decide +kernel
theorem dX3_extract_26 : decode cX3_extract 26 = .ok (.iload 5, 2) := by decide +kernel
theorem dX3_extract_28 : decode cX3_extract 28 = .ok (.ifCond .lt 75, 3) := by decide +kernel
theorem dX3_extract_31 : decode cX3_extract 31 = .ok (.aload_n 0, 1) := by decide +kernel
theorem dX3_extract_32 : decode cX3_extract 32 = .ok (.getfield 25, 3) := by decide +kernel
theorem dX3_extract_35 : decode cX3_extract 35 = .ok (.aload_n 3, 1) := by decide +kernel
theorem dX3_extract_36 : decode cX3_extract 36 = .ok (.invokevirtual 55, 3) := by decide +kernel
theorem dX3_extract_39 : decode cX3_extract 39 = .ok (.aload_n 0, 1) := by decide +kernel
theorem dX3_extract_40 : decode cX3_extract 40 = .ok (.getfield 25, 3) := by decide +kernel
theorem dX3_extract_43 : decode cX3_extract 43 = .ok (.iload 5, 2) := by decide +kernel
theorem dX3_extract_45 : decode cX3_extract 45 = .ok (.invokevirtual 70, 3) := by decide +kernel
theorem dX3_extract_48 : decode cX3_extract 48 = .ok (.aload_n 0, 1) := by decide +kernel
theorem dX3_extract_49 : decode cX3_extract 49 = .ok (.aload_n 0, 1) := by decide +kernel
theorem dX3_extract_50 : decode cX3_extract 50 = .ok (.getfield 25, 3) := by decide +kernel
theorem dX3_extract_53 : decode cX3_extract 53 = .ok (.iload_n 2, 1) := by decide +kernel
theorem dX3_extract_54 : decode cX3_extract 54 = .ok (.invokevirtual 74, 3) := by decide +kernel
theorem dX3_extract_57 : decode cX3_extract 57 = .ok (.ifCond .eq 40, 3) := by decide +kernel
theorem dX3_extract_60 : decode cX3_extract 60 = .ok (.aload_n 0, 1) := by decide +kernel
theorem dX3_extract_61 : decode cX3_extract 61 = .ok (.getfield 18, 3) := by decide +kernel
theorem dX3_extract_64 : decode cX3_extract 64 = .ok (.aload_n 1, 1) := by decide +kernel
theorem dX3_extract_65 : decode cX3_extract 65 = .ok (.invokestatic 78, 3) := by decide +kernel
theorem dX3_extract_68 : decode cX3_extract 68 = .ok (.ifCond .gt 29, 3) := by decide +kernel
theorem dX3_extract_71 : decode cX3_extract 71 = .ok (.aload_n 3, 1) := by decide +kernel
theorem dX3_extract_72 : decode cX3_extract 72 = .ok (.aload_n 0, 1) := by decide +kernel
theorem dX3_extract_73 : decode cX3_extract 73 = .ok (.getfield 25, 3) := by decide +kernel
theorem dX3_extract_76 : decode cX3_extract 76 = .ok (.invokevirtual 55, 3) := by decide +kernel
theorem dX3_extract_79 : decode cX3_extract 79 = .ok (.aload_n 0, 1) := by decide +kernel
theorem dX3_extract_80 : decode cX3_extract 80 = .ok (.getfield 18, 3) := by decide +kernel
theorem dX3_extract_83 : decode cX3_extract 83 = .ok (.aload_n 1, 1) := by decide +kernel
theorem dX3_extract_84 : decode cX3_extract 84 = .ok (.invokestatic 78, 3) := by decide +kernel
theorem dX3_extract_87 : decode cX3_extract 87 = .ok (.ifCond .ne 7, 3) := by decide +kernel
theorem dX3_extract_90 : decode cX3_extract 90 = .ok (.iconst 1, 1) := by decide +kernel
theorem dX3_extract_91 : decode cX3_extract 91 = .ok (.goto 4, 3) := by decide +kernel
theorem dX3_extract_94 : decode cX3_extract 94 = .ok (.iconst 0, 1) := by decide +kernel
theorem dX3_extract_95 : decode cX3_extract 95 = .ok (.istore 4, 2) := by decide +kernel
theorem dX3_extract_97 : decode cX3_extract 97 = .ok (.iinc 5 (-1), 3) := by decide +kernel
theorem dX3_extract_100 : decode cX3_extract 100 = .ok (.goto (-74), 3) := by decide +kernel
theorem dX3_extract_103 : decode cX3_extract 103 = .ok (.iload 4, 2) := by decide +kernel
theorem dX3_extract_105 : decode cX3_extract 105 = .ok (.ireturn, 1) := by decide +kernel
def zb_X3_extract_26 (w0 : Nat) (w1 : Nat) (w2 : Int32) (w3 : Nat) (g10 : AH) (w4 : Int32) (w5 : Int32) : Option ((AH × Int32 × Int32) ⊕ ((AH × Int32))) :=
  (if w5 < 0 then some (Sum.inr ((g10, w4))) else (gR g10 w0 3 3).bind fun x12 => (chk g10 x12 8).bind fun _ => (zs_X8_copy g10 x12 w3).bind fun g14 => (gR g14 w0 3 3).bind fun x15 => (chk g14 x15 8).bind fun _ => (zs_X8_raiseBit g14 x15 w5).bind fun g17 => (gR g17 w0 3 3).bind fun x18 => (chk g17 w0 3).bind fun _ => (zs_X3_raise g17 w0 x18 w2).bind fun x20 => (if x20.1 = 0 then some (Sum.inl ((x20.2, w4, w5 + (-1 : Int32)))) else (gR x20.2 w0 3 0).bind fun x22 => (zs_X8_orderSizes x20.2 x22 w1).bind fun x23 => (if 0 < x23 then some (Sum.inl ((x20.2, w4, w5 + (-1 : Int32)))) else (gR x20.2 w0 3 3).bind fun x25 => (chk x20.2 w3 8).bind fun _ => (zs_X8_copy x20.2 w3 x25).bind fun g27 => (gR g27 w0 3 0).bind fun x28 => (zs_X8_orderSizes g27 x28 w1).bind fun x29 => (if x29 = 0 then some (Sum.inl ((g27, (1 : Int32), w5 + (-1 : Int32)))) else some (Sum.inl ((g27, (0 : Int32), w5 + (-1 : Int32))))))))
def zs_X3_extract (h : AH) (u0 : Nat) (u1 : Nat) (u2 : Int32) (u3 : Nat) : Option (Int32 × AH) :=
  (chk h u3 8).bind fun _ => (zs_X8_become h u3 ((0 : Int64))).bind fun g2 => (if (1 : Int32) ≤ u2 then (chk g2 u1 8).bind fun _ => (zs_X8_isZero g2 u1).bind fun x5 => (chk g2 u1 8).bind fun _ => (zs_X8_sizeBits g2 u1).bind fun x7 => (nz u2).bind fun _ => lt_ (x7 / u2) fun x9 => (iter (fun q : AH × Int32 × Int32 => zb_X3_extract_26 u0 u1 u2 u3 q.1 q.2.1 q.2.2) FU ((g2, x5, x9))).bind fun r31 => (zk r31.2).bind fun _ => some (r31.2, r31.1) else some ((0 : Int32), g2))
set_option maxRecDepth 100000 in
set_option maxHeartbeats 4000000 in
theorem zm_X3_extract (l : Launch) (D : hG) (z : Nat) {h : AH} {u0 : Nat} {u1 : Nat} {u2 : Int32} {u3 : Nat} {r : Int32} {h' : AH} (hs : zs_X3_extract h u0 u1 u2 u3 = some (r, h')) : hC l D z yX3_extract cX3_extract 6 (Option.some Jvm.ClassFile.FieldType.boolean) 4 96 0 0 [.ref u0, .ref u1, .int u2, .ref u3] h h' (some (.int r)) := by
  refine hC_of (by decide) (Nat.le_of_ble_eq_true rfl) ?_
  intro p e s m below meth c hx hb hml hrt hlk hown hnm hts hk hr hz ls hl
  replace hown : s.vm.findClass RX3 = some m.cls := hown
  replace hl : lv_has ls 6 [(0, .ref u0), (1, .ref u1), (2, .int u2), (3, .ref u3)] := hl
  have hS : va_S (hA z) s.heap s.heap [] := va_S.rf
  suffices hgo : ∀ (H : Heap) (locs : List Loc), hR D z h H → va_S (hA z) s.heap H locs → W p l e ({ frames := 4, cells := 0, slots := 0, locals := 96 } : Room) s m ([.ref u0, .ref u1, .int u2, .ref u3] : List Value).toArray below meth c H locs 0 0 (MQ below (hQ D z h' (some (.int r))) ([.ref u0, .ref u1, .int u2, .ref u3] : List Value).toArray s 0 0 (hA z)) (F0 m 0 ls []) from hgo _ _ hr hS
  clear hr hS
  intro H locs hr hS
  unfold zs_X3_extract at hs
  refine lv_aload_n hx hb dX3_extract_0 rfl (lv_at hl 3 rfl) ?_
  refine lv_lconst (v := 0) hx hb dX3_extract_1 (by decide) ?_
  obtain ⟨_, ex1, hs⟩ := bi_inv hs
  obtain ⟨g2, eg2, hs⟩ := bi_inv hs
  refine hv_V0 (n := 1) [.long ((0 : Int64))] [] hx hb hml hown hts hk hr hz hS (zm_X8_become l D z eg2) ex1 rfl tw_548 tw_66 tw_67 tw_2 tw_68 (by decide +kernel) (by decide) ⟨(Nat.zero_le _), (Nat.zero_le _)⟩ rfl hl.1 (Nat.le_of_ble_eq_true rfl) dX3_extract_2 rfl (fun H locs hr hS => ?_)
  refine lv_iload_n hx hb dX3_extract_5 rfl (lv_at hl 2 rfl) ?_
  refine lv_iconst (v := 1) hx hb dX3_extract_6 (by decide) ?_
  refine lv_icmp_ge (tgt := 12) hx hb dX3_extract_7 (by decide) (fun c3 => ?_) (fun c3 => ?_)
  · rw [if_pos c3] at hs
    refine lv_aload_n hx hb dX3_extract_12 rfl (lv_at hl 1 rfl) ?_
    obtain ⟨_, ex4, hs⟩ := bi_inv hs
    obtain ⟨x5, ex5, hs⟩ := bi_inv hs
    refine hv_V1 (n := 0) [] [] hx hb hml hown hts hk hr hz hS (zm_X8_isZero l D z ex5) ex4 rfl tw_538 tw_400 tw_401 tw_2 tw_402 (by decide +kernel) (by decide) ⟨(Nat.zero_le _), (Nat.zero_le _)⟩ rfl hl.1 (Nat.le_of_ble_eq_true rfl) dX3_extract_13 rfl (fun H locs hr hS => ?_)
    refine lv_istore (lv' := [(4, .int x5), (0, .ref u0), (1, .ref u1), (2, .int u2), (3, .ref u3)]) hx hb dX3_extract_16 hl (by decide) rfl (fun ls hl => ?_)
    refine lv_aload_n hx hb dX3_extract_18 rfl (lv_at hl 2 rfl) ?_
    obtain ⟨_, ex6, hs⟩ := bi_inv hs
    obtain ⟨x7, ex7, hs⟩ := bi_inv hs
    refine hv_V1 (n := 0) [] [] hx hb hml hown hts hk hr hz hS (zm_X8_sizeBits l D z ex7) ex6 rfl tw_564 tw_565 tw_566 tw_2 tw_567 (by decide +kernel) (by decide) ⟨(Nat.zero_le _), (Nat.zero_le _)⟩ rfl hl.1 (Nat.le_of_ble_eq_true rfl) dX3_extract_19 rfl (fun H locs hr hS => ?_)
    refine lv_iload_n hx hb dX3_extract_22 rfl (lv_at hl 3 rfl) ?_
    obtain ⟨_, ex8, hs⟩ := bi_inv hs
    refine lv_idiv hx hb dX3_extract_23 (nz_inv ex8) ?_
    refine lv_topi (fun x9 ex9 => ?_)
    replace hs := lt_inv hs x9 ex9
    refine lv_istore (lv' := [(5, .int x9), (4, .int x5), (0, .ref u0), (1, .ref u1), (2, .int u2), (3, .ref u3)]) hx hb dX3_extract_24 hl (by decide) rfl (fun ls hl => ?_)
    obtain ⟨r31, er31, hs⟩ := bi_inv hs
    refine iter_W (fun (q : AH × Int32 × Int32) => ∀ (H : Heap) (locs : List Loc) (ls : Array Slot), hR D z q.1 H → va_S (hA z) s.heap H locs → lv_has ls 6 [(0, .ref u0), (1, .ref u1), (2, .int u2), (3, .ref u3), (4, .int q.2.1), (5, .int q.2.2)] → W p l e ({ frames := 4, cells := 0, slots := 0, locals := 96 } : Room) s m ([.ref u0, .ref u1, .int u2, .ref u3] : List Value).toArray below meth c H locs 0 0 (MQ below (hQ D z h' (some (.int r))) ([.ref u0, .ref u1, .int u2, .ref u3] : List Value).toArray s 0 0 (hA z)) (F0 m 26 ls [])) (fun (x : (AH × Int32)) => ∀ (H : Heap) (locs : List Loc) (ls : Array Slot), hR D z x.1 H → va_S (hA z) s.heap H locs → lv_has ls 6 [(4, .int x.2)] → W p l e ({ frames := 4, cells := 0, slots := 0, locals := 96 } : Room) s m ([.ref u0, .ref u1, .int u2, .ref u3] : List Value).toArray below meth c H locs 0 0 (MQ below (hQ D z h' (some (.int r))) ([.ref u0, .ref u1, .int u2, .ref u3] : List Value).toArray s 0 0 (hA z)) (F0 m 103 ls [])) ?_ FU _ r31 er31 ?_ H locs ls hr hS (lv_sub hl [2, 3, 4, 5, 1, 0] rfl)
    · intro q o hs hcont hexit
      obtain ⟨g10, w4, w5⟩ := q
      replace hs : zb_X3_extract_26 u0 u1 u2 u3 g10 w4 w5 = some o := hs
      intro H locs ls hr hS hl
      unfold zb_X3_extract_26 at hs
      refine lv_iload hx hb dX3_extract_26 (lv_at hl 5 rfl) ?_
      refine lv_if_lt (tgt := 103) hx hb dX3_extract_28 (by decide) (fun c11 => ?_) (fun c11 => ?_)
      · rw [if_pos c11] at hs
        obtain rfl := Option.some.inj hs
        exact hexit _ rfl H locs ls hr hS (lv_sub hl [4] rfl)
      · rw [if_neg c11] at hs
        refine lv_aload_n hx hb dX3_extract_31 rfl (lv_at hl 0 rfl) ?_
        obtain ⟨x12, ex12, hs⟩ := bi_inv hs
        refine hv_gR (C := RX3) (T := TX3) (N := 8) (ci := 3) hx hb hts inX3 hown hk hr rfl 3 (by decide) (hts _ tw_171) ex12 dX3_extract_32 ?_
        refine lv_aload_n hx hb dX3_extract_35 rfl (lv_at hl 3 rfl) ?_
        obtain ⟨_, ex13, hs⟩ := bi_inv hs
        obtain ⟨g14, eg14, hs⟩ := bi_inv hs
        refine hv_V0 (n := 1) [.ref u3] [] hx hb hml hown hts hk hr hz hS (zm_X8_copy l D z eg14) ex13 rfl tw_536 tw_373 tw_374 tw_2 tw_375 (by decide +kernel) (by decide) ⟨(Nat.zero_le _), (Nat.zero_le _)⟩ rfl hl.1 (Nat.le_of_ble_eq_true rfl) dX3_extract_36 rfl (fun H locs hr hS => ?_)
        refine lv_aload_n hx hb dX3_extract_39 rfl (lv_at hl 0 rfl) ?_
        obtain ⟨x15, ex15, hs⟩ := bi_inv hs
        refine hv_gR (C := RX3) (T := TX3) (N := 8) (ci := 3) hx hb hts inX3 hown hk hr rfl 3 (by decide) (hts _ tw_171) ex15 dX3_extract_40 ?_
        refine lv_iload hx hb dX3_extract_43 (lv_at hl 5 rfl) ?_
        obtain ⟨_, ex16, hs⟩ := bi_inv hs
        obtain ⟨g17, eg17, hs⟩ := bi_inv hs
        refine hv_V0 (n := 1) [.int w5] [] hx hb hml hown hts hk hr hz hS (zm_X8_raiseBit l D z eg17) ex16 rfl tw_569 tw_570 tw_571 tw_2 tw_572 (by decide +kernel) (by decide) ⟨(Nat.zero_le _), (Nat.zero_le _)⟩ rfl hl.1 (Nat.le_of_ble_eq_true rfl) dX3_extract_45 rfl (fun H locs hr hS => ?_)
        refine lv_aload_n hx hb dX3_extract_48 rfl (lv_at hl 0 rfl) ?_
        refine lv_aload_n hx hb dX3_extract_49 rfl (lv_at hl 0 rfl) ?_
        obtain ⟨x18, ex18, hs⟩ := bi_inv hs
        refine hv_gR (C := RX3) (T := TX3) (N := 8) (ci := 3) hx hb hts inX3 hown hk hr rfl 3 (by decide) (hts _ tw_171) ex18 dX3_extract_50 ?_
        refine lv_iload_n hx hb dX3_extract_53 rfl (lv_at hl 2 rfl) ?_
        obtain ⟨_, ex19, hs⟩ := bi_inv hs
        obtain ⟨x20, ex20, hs⟩ := bi_inv hs
        refine hv_V1 (n := 2) [.ref x18, .int u2] [] hx hb hml hown hts hk hr hz hS (zm_X3_raise l D z ex20) ex19 rfl tw_573 tw_545 tw_546 tw_7 tw_547 (by decide +kernel) (by decide) ⟨(Nat.zero_le _), (Nat.zero_le _)⟩ rfl hl.1 (Nat.le_of_ble_eq_true rfl) dX3_extract_54 rfl (fun H locs hr hS => ?_)
        refine lv_if_eq (tgt := 97) hx hb dX3_extract_57 (by decide) (fun c21 => ?_) (fun c21 => ?_)
        · rw [if_pos c21] at hs
          refine lv_iinc (v := w5 + (-1 : Int32)) (lv' := [(5, .int (w5 + (-1 : Int32))), (0, .ref u0), (1, .ref u1), (2, .int u2), (3, .ref u3), (4, .int w4)]) hx hb dX3_extract_97 hl (k := 5) rfl (ii_v _ (by decide)) (by decide) rfl (fun ls hl => ?_)
          refine lv_goto (tgt := 26) hx hb dX3_extract_100 (by decide) ?_
          obtain rfl := Option.some.inj hs
          exact hcont _ rfl H locs ls hr hS (lv_sub hl [1, 2, 3, 4, 5, 0] rfl)
        · rw [if_neg c21] at hs
          refine lv_aload_n hx hb dX3_extract_60 rfl (lv_at hl 0 rfl) ?_
          obtain ⟨x22, ex22, hs⟩ := bi_inv hs
          refine hv_gR (C := RX3) (T := TX3) (N := 8) (ci := 3) hx hb hts inX3 hown hk hr rfl 0 (by decide) (hts _ tw_167) ex22 dX3_extract_61 ?_
          refine lv_aload_n hx hb dX3_extract_64 rfl (lv_at hl 1 rfl) ?_
          obtain ⟨x23, ex23, hs⟩ := bi_inv hs
          refine hv_S1 (n := 2) [.ref x22, .ref u1] [] hx hb hml hown hts hk hr hz hS (zm_X8_orderSizes l D z ex23) tw_574 tw_441 tw_2 tw_442 (by decide +kernel) (by decide) ⟨(Nat.zero_le _), (Nat.zero_le _)⟩ rfl hl.1 (Nat.le_of_ble_eq_true rfl) dX3_extract_65 rfl (fun H locs hr hS => ?_)
          refine lv_if_gt (tgt := 97) hx hb dX3_extract_68 (by decide) (fun c24 => ?_) (fun c24 => ?_)
          · rw [if_pos c24] at hs
            refine lv_iinc (v := w5 + (-1 : Int32)) (lv' := [(5, .int (w5 + (-1 : Int32))), (0, .ref u0), (1, .ref u1), (2, .int u2), (3, .ref u3), (4, .int w4)]) hx hb dX3_extract_97 hl (k := 5) rfl (ii_v _ (by decide)) (by decide) rfl (fun ls hl => ?_)
            refine lv_goto (tgt := 26) hx hb dX3_extract_100 (by decide) ?_
            obtain rfl := Option.some.inj hs
            exact hcont _ rfl H locs ls hr hS (lv_sub hl [1, 2, 3, 4, 5, 0] rfl)
          · rw [if_neg c24] at hs
            refine lv_aload_n hx hb dX3_extract_71 rfl (lv_at hl 3 rfl) ?_
            refine lv_aload_n hx hb dX3_extract_72 rfl (lv_at hl 0 rfl) ?_
            obtain ⟨x25, ex25, hs⟩ := bi_inv hs
            refine hv_gR (C := RX3) (T := TX3) (N := 8) (ci := 3) hx hb hts inX3 hown hk hr rfl 3 (by decide) (hts _ tw_171) ex25 dX3_extract_73 ?_
            obtain ⟨_, ex26, hs⟩ := bi_inv hs
            obtain ⟨g27, eg27, hs⟩ := bi_inv hs
            refine hv_V0 (n := 1) [.ref x25] [] hx hb hml hown hts hk hr hz hS (zm_X8_copy l D z eg27) ex26 rfl tw_536 tw_373 tw_374 tw_2 tw_375 (by decide +kernel) (by decide) ⟨(Nat.zero_le _), (Nat.zero_le _)⟩ rfl hl.1 (Nat.le_of_ble_eq_true rfl) dX3_extract_76 rfl (fun H locs hr hS => ?_)
            refine lv_aload_n hx hb dX3_extract_79 rfl (lv_at hl 0 rfl) ?_
            obtain ⟨x28, ex28, hs⟩ := bi_inv hs
            refine hv_gR (C := RX3) (T := TX3) (N := 8) (ci := 3) hx hb hts inX3 hown hk hr rfl 0 (by decide) (hts _ tw_167) ex28 dX3_extract_80 ?_
            refine lv_aload_n hx hb dX3_extract_83 rfl (lv_at hl 1 rfl) ?_
            obtain ⟨x29, ex29, hs⟩ := bi_inv hs
            refine hv_S1 (n := 2) [.ref x28, .ref u1] [] hx hb hml hown hts hk hr hz hS (zm_X8_orderSizes l D z ex29) tw_574 tw_441 tw_2 tw_442 (by decide +kernel) (by decide) ⟨(Nat.zero_le _), (Nat.zero_le _)⟩ rfl hl.1 (Nat.le_of_ble_eq_true rfl) dX3_extract_84 rfl (fun H locs hr hS => ?_)
            refine lv_if_ne (tgt := 94) hx hb dX3_extract_87 (by decide) (fun c30 => ?_) (fun c30 => ?_)
            · rw [if_neg c30] at hs
              refine lv_iconst (v := 0) hx hb dX3_extract_94 (by decide) ?_
              refine lv_istore (lv' := [(4, .int ((0 : Int32))), (0, .ref u0), (1, .ref u1), (2, .int u2), (3, .ref u3), (5, .int w5)]) hx hb dX3_extract_95 hl (by decide) rfl (fun ls hl => ?_)
              refine lv_iinc (v := w5 + (-1 : Int32)) (lv' := [(5, .int (w5 + (-1 : Int32))), (4, .int ((0 : Int32))), (0, .ref u0), (1, .ref u1), (2, .int u2), (3, .ref u3)]) hx hb dX3_extract_97 hl (k := 5) rfl (ii_v _ (by decide)) (by decide) rfl (fun ls hl => ?_)
              refine lv_goto (tgt := 26) hx hb dX3_extract_100 (by decide) ?_
              obtain rfl := Option.some.inj hs
              exact hcont _ rfl H locs ls hr hS (lv_sub hl [2, 3, 4, 5, 1, 0] rfl)
            · rw [if_pos c30] at hs
              refine lv_iconst (v := 1) hx hb dX3_extract_90 (by decide) ?_
              refine lv_goto (tgt := 95) hx hb dX3_extract_91 (by decide) ?_
              refine lv_istore (lv' := [(4, .int ((1 : Int32))), (0, .ref u0), (1, .ref u1), (2, .int u2), (3, .ref u3), (5, .int w5)]) hx hb dX3_extract_95 hl (by decide) rfl (fun ls hl => ?_)
              refine lv_iinc (v := w5 + (-1 : Int32)) (lv' := [(5, .int (w5 + (-1 : Int32))), (4, .int ((1 : Int32))), (0, .ref u0), (1, .ref u1), (2, .int u2), (3, .ref u3)]) hx hb dX3_extract_97 hl (k := 5) rfl (ii_v _ (by decide)) (by decide) rfl (fun ls hl => ?_)
              refine lv_goto (tgt := 26) hx hb dX3_extract_100 (by decide) ?_
              obtain rfl := Option.some.inj hs
              exact hcont _ rfl H locs ls hr hS (lv_sub hl [2, 3, 4, 5, 1, 0] rfl)
    · intro H locs ls hr hS hl
      refine lv_iload hx hb dX3_extract_103 (lv_at hl 0 rfl) ?_
      obtain ⟨_, ex32, hs⟩ := bi_inv hs
      obtain ⟨rfl, rfl⟩ := Prod.mk.inj (Option.some.inj hs)
      exact hv_zret hx hb hrt hlk hr hS (zk_inv ex32) dX3_extract_105
  · rw [if_neg c3] at hs
    refine lv_iconst (v := 0) hx hb dX3_extract_10 (by decide) ?_
    obtain ⟨rfl, rfl⟩ := Prod.mk.inj (Option.some.inj hs)
    exact hv_zret hx hb hrt hlk hr hS (by decide) dX3_extract_11
theorem dX3_init_0 : decode cX3_init 0 = .ok (.aload_n 0, 1) := by decide +kernel
theorem dX3_init_1 : decode cX3_init 1 = .ok (.invokespecial 3, 3) := by decide +kernel
theorem dX3_init_4 : decode cX3_init 4 = .ok (.aload_n 0, 1) := by decide +kernel
theorem dX3_init_5 : decode cX3_init 5 = .ok (.aload_n 1, 1) := by decide +kernel
theorem dX3_init_6 : decode cX3_init 6 = .ok (.putfield 9, 3) := by decide +kernel
theorem dX3_init_9 : decode cX3_init 9 = .ok (.aload_n 0, 1) := by decide +kernel
theorem dX3_init_10 : decode cX3_init 10 = .ok (.new 15, 3) := by decide +kernel
theorem dX3_init_13 : decode cX3_init 13 = .ok (.dup, 1) := by decide +kernel
theorem dX3_init_14 : decode cX3_init 14 = .ok (.invokespecial 17, 3) := by decide +kernel
theorem dX3_init_17 : decode cX3_init 17 = .ok (.putfield 18, 3) := by decide +kernel
theorem dX3_init_20 : decode cX3_init 20 = .ok (.aload_n 0, 1) := by decide +kernel
theorem dX3_init_21 : decode cX3_init 21 = .ok (.new 15, 3) := by decide +kernel
theorem dX3_init_24 : decode cX3_init 24 = .ok (.dup, 1) := by decide +kernel
theorem dX3_init_25 : decode cX3_init 25 = .ok (.invokespecial 17, 3) := by decide +kernel
theorem dX3_init_28 : decode cX3_init 28 = .ok (.putfield 22, 3) := by decide +kernel
theorem dX3_init_31 : decode cX3_init 31 = .ok (.aload_n 0, 1) := by decide +kernel
theorem dX3_init_32 : decode cX3_init 32 = .ok (.new 15, 3) := by decide +kernel
theorem dX3_init_35 : decode cX3_init 35 = .ok (.dup, 1) := by decide +kernel
theorem dX3_init_36 : decode cX3_init 36 = .ok (.invokespecial 17, 3) := by decide +kernel
theorem dX3_init_39 : decode cX3_init 39 = .ok (.putfield 25, 3) := by decide +kernel
theorem dX3_init_42 : decode cX3_init 42 = .ok (.aload_n 0, 1) := by decide +kernel
theorem dX3_init_43 : decode cX3_init 43 = .ok (.new 15, 3) := by decide +kernel
theorem dX3_init_46 : decode cX3_init 46 = .ok (.dup, 1) := by decide +kernel
theorem dX3_init_47 : decode cX3_init 47 = .ok (.invokespecial 17, 3) := by decide +kernel
theorem dX3_init_50 : decode cX3_init 50 = .ok (.putfield 28, 3) := by decide +kernel
theorem dX3_init_53 : decode cX3_init 53 = .ok (.aload_n 0, 1) := by decide +kernel
theorem dX3_init_54 : decode cX3_init 54 = .ok (.new 15, 3) := by decide +kernel
theorem dX3_init_57 : decode cX3_init 57 = .ok (.dup, 1) := by decide +kernel
theorem dX3_init_58 : decode cX3_init 58 = .ok (.invokespecial 17, 3) := by decide +kernel
theorem dX3_init_61 : decode cX3_init 61 = .ok (.putfield 31, 3) := by decide +kernel
theorem dX3_init_64 : decode cX3_init 64 = .ok (.aload_n 0, 1) := by decide +kernel
theorem dX3_init_65 : decode cX3_init 65 = .ok (.new 15, 3) := by decide +kernel
theorem dX3_init_68 : decode cX3_init 68 = .ok (.dup, 1) := by decide +kernel
theorem dX3_init_69 : decode cX3_init 69 = .ok (.invokespecial 17, 3) := by decide +kernel
theorem dX3_init_72 : decode cX3_init 72 = .ok (.putfield 34, 3) := by decide +kernel
theorem dX3_init_75 : decode cX3_init 75 = .ok (.aload_n 0, 1) := by decide +kernel
theorem dX3_init_76 : decode cX3_init 76 = .ok (.new 15, 3) := by decide +kernel
theorem dX3_init_79 : decode cX3_init 79 = .ok (.dup, 1) := by decide +kernel
theorem dX3_init_80 : decode cX3_init 80 = .ok (.invokespecial 17, 3) := by decide +kernel
theorem dX3_init_83 : decode cX3_init 83 = .ok (.putfield 37, 3) := by decide +kernel
theorem dX3_init_86 : decode cX3_init 86 = .ok (.return_, 1) := by decide +kernel
def zs_X3_init (h : AH) (u0 : Nat) (u1 : Nat) : Option AH :=
  (pV h u0 3 1 (.ref u1)).bind fun g1 => lt_ (nO g1 (.inr (8, [.null, .int 0, .int 0]))) fun g2 => (zs_X8_init g2 g1.2).bind fun g3 => (pV g3 u0 3 0 (.ref g1.2)).bind fun g4 => lt_ (nO g4 (.inr (8, [.null, .int 0, .int 0]))) fun g5 => (zs_X8_init g5 g4.2).bind fun g6 => (pV g6 u0 3 2 (.ref g4.2)).bind fun g7 => lt_ (nO g7 (.inr (8, [.null, .int 0, .int 0]))) fun g8 => (zs_X8_init g8 g7.2).bind fun g9 => (pV g9 u0 3 3 (.ref g7.2)).bind fun g10 => lt_ (nO g10 (.inr (8, [.null, .int 0, .int 0]))) fun g11 => (zs_X8_init g11 g10.2).bind fun g12 => (pV g12 u0 3 4 (.ref g10.2)).bind fun g13 => lt_ (nO g13 (.inr (8, [.null, .int 0, .int 0]))) fun g14 => (zs_X8_init g14 g13.2).bind fun g15 => (pV g15 u0 3 5 (.ref g13.2)).bind fun g16 => lt_ (nO g16 (.inr (8, [.null, .int 0, .int 0]))) fun g17 => (zs_X8_init g17 g16.2).bind fun g18 => (pV g18 u0 3 6 (.ref g16.2)).bind fun g19 => lt_ (nO g19 (.inr (8, [.null, .int 0, .int 0]))) fun g20 => (zs_X8_init g20 g19.2).bind fun g21 => (pV g21 u0 3 7 (.ref g19.2)).bind fun g22 => some g22
set_option maxRecDepth 100000 in
set_option maxHeartbeats 4000000 in
theorem zm_X3_init (l : Launch) (D : hG) (z : Nat) {h : AH} {u0 : Nat} {u1 : Nat} {h' : AH} (hs : zs_X3_init h u0 u1 = some h') : hC l D z yX3_init cX3_init 2 (Option.none : Option Jvm.ClassFile.FieldType) 2 41 14 203 [.ref u0, .ref u1] h h' none := by
  refine hC_of (by decide) (Nat.le_of_ble_eq_true rfl) ?_
  intro p e s m below meth c hx hb hml hrt hlk hown hnm hts hk hr hz ls hl
  replace hown : s.vm.findClass RX3 = some m.cls := hown
  replace hl : lv_has ls 2 [(0, .ref u0), (1, .ref u1)] := hl
  have hS : va_S (hA z) s.heap s.heap [] := va_S.rf
  suffices hgo : ∀ (H : Heap) (locs : List Loc), hR D z h H → va_S (hA z) s.heap H locs → W p l e ({ frames := 2, cells := 14, slots := 203, locals := 41 } : Room) s m ([.ref u0, .ref u1] : List Value).toArray below meth c H locs 0 0 (MQ below (hQ D z h' none) ([.ref u0, .ref u1] : List Value).toArray s 14 203 (hA z)) (F0 m 0 ls []) from hgo _ _ hr hS
  clear hr hS
  intro H locs hr hS
  unfold zs_X3_init at hs
  refine lv_aload_n hx hb dX3_init_0 rfl (lv_at hl 0 rfl) ?_
  refine W.objInit hx hb hown (hts _ tw_164) (hts _ tw_27) (hts _ tw_28) rfl (by rw [hml]; exact hl.1) rfl dX3_init_1 (by decide) (Nat.le_of_ble_eq_true rfl) ?_
  refine W.eq (g2 := F0 m 4 ls []) rfl ?_
  refine lv_aload_n hx hb dX3_init_4 rfl (lv_at hl 0 rfl) ?_
  refine lv_aload_n hx hb dX3_init_5 rfl (lv_at hl 1 rfl) ?_
  obtain ⟨g1, eg1, hs⟩ := bi_inv hs
  refine hv_pF (C := RX3) (T := TX3) (N := 8) (ci := 3) hx hb hts inX3 tyX3 tyX3_ok nmX3 hown hk hr hS rfl 1 (by decide) (hts _ tw_169) rfl hnm rfl rfl rfl eg1 dX3_init_6 (fun H locs hr hS => ?_)
  refine lv_aload_n hx hb dX3_init_9 rfl (lv_at hl 0 rfl) ?_
  refine hv_new (C := RX8) (T := TX8) (N := 3) (ci := 8) hx hb hts inX8 tyX8 tyX8_ok hown tw_165 tw_31 tw_2 hk hr hz hS rfl [.null, .int 0, .int 0] (by decide +kernel) (by show _ ≤ (14 : Nat); omega) (by show _ ≤ (203 : Nat); omega) dX3_init_10 (fun H hr hS => ?_)
  obtain ⟨g2, eg2⟩ : ∃ q, q = nO g1 (.inr (8, [.null, .int 0, .int 0])) := ⟨_, rfl⟩
  rw [← eg2] at hr
  replace hs := lt_inv hs g2 eg2
  refine lv_dup hx hb dX3_init_13 rfl ?_
  obtain ⟨g3, eg3, hs⟩ := bi_inv hs
  refine hv_I0 (n := 0) [] [.ref g1.2, .ref u0] hx hb hml hown hts hk hr hz hS (zm_X8_init l D z eg3) tw_166 tw_33 tw_2 tw_34 rfl (by decide +kernel) (by decide) ⟨(by show _ ≤ (14 : Nat); omega), (by show _ ≤ (203 : Nat); omega)⟩ rfl hl.1 (Nat.le_of_ble_eq_true rfl) dX3_init_14 rfl (fun H locs hr hS => ?_)
  obtain ⟨g4, eg4, hs⟩ := bi_inv hs
  refine hv_pF (C := RX3) (T := TX3) (N := 8) (ci := 3) hx hb hts inX3 tyX3 tyX3_ok nmX3 hown hk hr hS rfl 0 (by decide) (hts _ tw_167) rfl hnm rfl rfl rfl eg4 dX3_init_17 (fun H locs hr hS => ?_)
  refine lv_aload_n hx hb dX3_init_20 rfl (lv_at hl 0 rfl) ?_
  refine hv_new (C := RX8) (T := TX8) (N := 3) (ci := 8) hx hb hts inX8 tyX8 tyX8_ok hown tw_165 tw_31 tw_2 hk hr hz hS rfl [.null, .int 0, .int 0] (by decide +kernel) (by show _ ≤ (14 : Nat); omega) (by show _ ≤ (203 : Nat); omega) dX3_init_21 (fun H hr hS => ?_)
  obtain ⟨g5, eg5⟩ : ∃ q, q = nO g4 (.inr (8, [.null, .int 0, .int 0])) := ⟨_, rfl⟩
  rw [← eg5] at hr
  replace hs := lt_inv hs g5 eg5
  refine lv_dup hx hb dX3_init_24 rfl ?_
  obtain ⟨g6, eg6, hs⟩ := bi_inv hs
  refine hv_I0 (n := 0) [] [.ref g4.2, .ref u0] hx hb hml hown hts hk hr hz hS (zm_X8_init l D z eg6) tw_166 tw_33 tw_2 tw_34 rfl (by decide +kernel) (by decide) ⟨(by show _ ≤ (14 : Nat); omega), (by show _ ≤ (203 : Nat); omega)⟩ rfl hl.1 (Nat.le_of_ble_eq_true rfl) dX3_init_25 rfl (fun H locs hr hS => ?_)
  obtain ⟨g7, eg7, hs⟩ := bi_inv hs
  refine hv_pF (C := RX3) (T := TX3) (N := 8) (ci := 3) hx hb hts inX3 tyX3 tyX3_ok nmX3 hown hk hr hS rfl 2 (by decide) (hts _ tw_170) rfl hnm rfl rfl rfl eg7 dX3_init_28 (fun H locs hr hS => ?_)
  refine lv_aload_n hx hb dX3_init_31 rfl (lv_at hl 0 rfl) ?_
  refine hv_new (C := RX8) (T := TX8) (N := 3) (ci := 8) hx hb hts inX8 tyX8 tyX8_ok hown tw_165 tw_31 tw_2 hk hr hz hS rfl [.null, .int 0, .int 0] (by decide +kernel) (by show _ ≤ (14 : Nat); omega) (by show _ ≤ (203 : Nat); omega) dX3_init_32 (fun H hr hS => ?_)
  obtain ⟨g8, eg8⟩ : ∃ q, q = nO g7 (.inr (8, [.null, .int 0, .int 0])) := ⟨_, rfl⟩
  rw [← eg8] at hr
  replace hs := lt_inv hs g8 eg8
  refine lv_dup hx hb dX3_init_35 rfl ?_
  obtain ⟨g9, eg9, hs⟩ := bi_inv hs
  refine hv_I0 (n := 0) [] [.ref g7.2, .ref u0] hx hb hml hown hts hk hr hz hS (zm_X8_init l D z eg9) tw_166 tw_33 tw_2 tw_34 rfl (by decide +kernel) (by decide) ⟨(by show _ ≤ (14 : Nat); omega), (by show _ ≤ (203 : Nat); omega)⟩ rfl hl.1 (Nat.le_of_ble_eq_true rfl) dX3_init_36 rfl (fun H locs hr hS => ?_)
  obtain ⟨g10, eg10, hs⟩ := bi_inv hs
  refine hv_pF (C := RX3) (T := TX3) (N := 8) (ci := 3) hx hb hts inX3 tyX3 tyX3_ok nmX3 hown hk hr hS rfl 3 (by decide) (hts _ tw_171) rfl hnm rfl rfl rfl eg10 dX3_init_39 (fun H locs hr hS => ?_)
  refine lv_aload_n hx hb dX3_init_42 rfl (lv_at hl 0 rfl) ?_
  refine hv_new (C := RX8) (T := TX8) (N := 3) (ci := 8) hx hb hts inX8 tyX8 tyX8_ok hown tw_165 tw_31 tw_2 hk hr hz hS rfl [.null, .int 0, .int 0] (by decide +kernel) (by show _ ≤ (14 : Nat); omega) (by show _ ≤ (203 : Nat); omega) dX3_init_43 (fun H hr hS => ?_)
  obtain ⟨g11, eg11⟩ : ∃ q, q = nO g10 (.inr (8, [.null, .int 0, .int 0])) := ⟨_, rfl⟩
  rw [← eg11] at hr
  replace hs := lt_inv hs g11 eg11
  refine lv_dup hx hb dX3_init_46 rfl ?_
  obtain ⟨g12, eg12, hs⟩ := bi_inv hs
  refine hv_I0 (n := 0) [] [.ref g10.2, .ref u0] hx hb hml hown hts hk hr hz hS (zm_X8_init l D z eg12) tw_166 tw_33 tw_2 tw_34 rfl (by decide +kernel) (by decide) ⟨(by show _ ≤ (14 : Nat); omega), (by show _ ≤ (203 : Nat); omega)⟩ rfl hl.1 (Nat.le_of_ble_eq_true rfl) dX3_init_47 rfl (fun H locs hr hS => ?_)
  obtain ⟨g13, eg13, hs⟩ := bi_inv hs
  refine hv_pF (C := RX3) (T := TX3) (N := 8) (ci := 3) hx hb hts inX3 tyX3 tyX3_ok nmX3 hown hk hr hS rfl 4 (by decide) (hts _ tw_172) rfl hnm rfl rfl rfl eg13 dX3_init_50 (fun H locs hr hS => ?_)
  refine lv_aload_n hx hb dX3_init_53 rfl (lv_at hl 0 rfl) ?_
  refine hv_new (C := RX8) (T := TX8) (N := 3) (ci := 8) hx hb hts inX8 tyX8 tyX8_ok hown tw_165 tw_31 tw_2 hk hr hz hS rfl [.null, .int 0, .int 0] (by decide +kernel) (by show _ ≤ (14 : Nat); omega) (by show _ ≤ (203 : Nat); omega) dX3_init_54 (fun H hr hS => ?_)
  obtain ⟨g14, eg14⟩ : ∃ q, q = nO g13 (.inr (8, [.null, .int 0, .int 0])) := ⟨_, rfl⟩
  rw [← eg14] at hr
  replace hs := lt_inv hs g14 eg14
  refine lv_dup hx hb dX3_init_57 rfl ?_
  obtain ⟨g15, eg15, hs⟩ := bi_inv hs
  refine hv_I0 (n := 0) [] [.ref g13.2, .ref u0] hx hb hml hown hts hk hr hz hS (zm_X8_init l D z eg15) tw_166 tw_33 tw_2 tw_34 rfl (by decide +kernel) (by decide) ⟨(by show _ ≤ (14 : Nat); omega), (by show _ ≤ (203 : Nat); omega)⟩ rfl hl.1 (Nat.le_of_ble_eq_true rfl) dX3_init_58 rfl (fun H locs hr hS => ?_)
  obtain ⟨g16, eg16, hs⟩ := bi_inv hs
  refine hv_pF (C := RX3) (T := TX3) (N := 8) (ci := 3) hx hb hts inX3 tyX3 tyX3_ok nmX3 hown hk hr hS rfl 5 (by decide) (hts _ tw_173) rfl hnm rfl rfl rfl eg16 dX3_init_61 (fun H locs hr hS => ?_)
  refine lv_aload_n hx hb dX3_init_64 rfl (lv_at hl 0 rfl) ?_
  refine hv_new (C := RX8) (T := TX8) (N := 3) (ci := 8) hx hb hts inX8 tyX8 tyX8_ok hown tw_165 tw_31 tw_2 hk hr hz hS rfl [.null, .int 0, .int 0] (by decide +kernel) (by show _ ≤ (14 : Nat); omega) (by show _ ≤ (203 : Nat); omega) dX3_init_65 (fun H hr hS => ?_)
  obtain ⟨g17, eg17⟩ : ∃ q, q = nO g16 (.inr (8, [.null, .int 0, .int 0])) := ⟨_, rfl⟩
  rw [← eg17] at hr
  replace hs := lt_inv hs g17 eg17
  refine lv_dup hx hb dX3_init_68 rfl ?_
  obtain ⟨g18, eg18, hs⟩ := bi_inv hs
  refine hv_I0 (n := 0) [] [.ref g16.2, .ref u0] hx hb hml hown hts hk hr hz hS (zm_X8_init l D z eg18) tw_166 tw_33 tw_2 tw_34 rfl (by decide +kernel) (by decide) ⟨(by show _ ≤ (14 : Nat); omega), (by show _ ≤ (203 : Nat); omega)⟩ rfl hl.1 (Nat.le_of_ble_eq_true rfl) dX3_init_69 rfl (fun H locs hr hS => ?_)
  obtain ⟨g19, eg19, hs⟩ := bi_inv hs
  refine hv_pF (C := RX3) (T := TX3) (N := 8) (ci := 3) hx hb hts inX3 tyX3 tyX3_ok nmX3 hown hk hr hS rfl 6 (by decide) (hts _ tw_174) rfl hnm rfl rfl rfl eg19 dX3_init_72 (fun H locs hr hS => ?_)
  refine lv_aload_n hx hb dX3_init_75 rfl (lv_at hl 0 rfl) ?_
  refine hv_new (C := RX8) (T := TX8) (N := 3) (ci := 8) hx hb hts inX8 tyX8 tyX8_ok hown tw_165 tw_31 tw_2 hk hr hz hS rfl [.null, .int 0, .int 0] (by decide +kernel) (by show _ ≤ (14 : Nat); omega) (by show _ ≤ (203 : Nat); omega) dX3_init_76 (fun H hr hS => ?_)
  obtain ⟨g20, eg20⟩ : ∃ q, q = nO g19 (.inr (8, [.null, .int 0, .int 0])) := ⟨_, rfl⟩
  rw [← eg20] at hr
  replace hs := lt_inv hs g20 eg20
  refine lv_dup hx hb dX3_init_79 rfl ?_
  obtain ⟨g21, eg21, hs⟩ := bi_inv hs
  refine hv_I0 (n := 0) [] [.ref g19.2, .ref u0] hx hb hml hown hts hk hr hz hS (zm_X8_init l D z eg21) tw_166 tw_33 tw_2 tw_34 rfl (by decide +kernel) (by decide) ⟨(by show _ ≤ (14 : Nat); omega), (by show _ ≤ (203 : Nat); omega)⟩ rfl hl.1 (Nat.le_of_ble_eq_true rfl) dX3_init_80 rfl (fun H locs hr hS => ?_)
  obtain ⟨g22, eg22, hs⟩ := bi_inv hs
  refine hv_pF (C := RX3) (T := TX3) (N := 8) (ci := 3) hx hb hts inX3 tyX3 tyX3_ok nmX3 hown hk hr hS rfl 7 (by decide) (hts _ tw_175) rfl hnm rfl rfl rfl eg22 dX3_init_83 (fun H locs hr hS => ?_)
  obtain rfl := Option.some.inj hs
  exact hv_vret hx hb hrt hlk hr hS dX3_init_86
theorem dX3_invert_0 : decode cX3_invert 0 = .ok (.aload_n 0, 1) := by decide +kernel
theorem dX3_invert_1 : decode cX3_invert 1 = .ok (.getfield 9, 3) := by decide +kernel
theorem dX3_invert_4 : decode cX3_invert 4 = .ok (.iconst 2, 1) := by decide +kernel
theorem dX3_invert_5 : decode cX3_invert 5 = .ok (.aload_n 1, 1) := by decide +kernel
theorem dX3_invert_6 : decode cX3_invert 6 = .ok (.aload_n 2, 1) := by decide +kernel
theorem dX3_invert_7 : decode cX3_invert 7 = .ok (.invokevirtual 82, 3) := by decide +kernel
theorem dX3_invert_10 : decode cX3_invert 10 = .ok (.aload_n 0, 1) := by decide +kernel
theorem dX3_invert_11 : decode cX3_invert 11 = .ok (.getfield 28, 3) := by decide +kernel
theorem dX3_invert_14 : decode cX3_invert 14 = .ok (.aload_n 2, 1) := by decide +kernel
theorem dX3_invert_15 : decode cX3_invert 15 = .ok (.invokevirtual 55, 3) := by decide +kernel
theorem dX3_invert_18 : decode cX3_invert 18 = .ok (.aload_n 0, 1) := by decide +kernel
theorem dX3_invert_19 : decode cX3_invert 19 = .ok (.getfield 31, 3) := by decide +kernel
theorem dX3_invert_22 : decode cX3_invert 22 = .ok (.aload_n 0, 1) := by decide +kernel
theorem dX3_invert_23 : decode cX3_invert 23 = .ok (.getfield 9, 3) := by decide +kernel
theorem dX3_invert_26 : decode cX3_invert 26 = .ok (.getfield 88, 3) := by decide +kernel
theorem dX3_invert_29 : decode cX3_invert 29 = .ok (.invokevirtual 55, 3) := by decide +kernel
theorem dX3_invert_32 : decode cX3_invert 32 = .ok (.aload_n 0, 1) := by decide +kernel
theorem dX3_invert_33 : decode cX3_invert 33 = .ok (.getfield 34, 3) := by decide +kernel
theorem dX3_invert_36 : decode cX3_invert 36 = .ok (.lconst 0, 1) := by decide +kernel
theorem dX3_invert_37 : decode cX3_invert 37 = .ok (.invokevirtual 40, 3) := by decide +kernel
theorem dX3_invert_40 : decode cX3_invert 40 = .ok (.aload_n 0, 1) := by decide +kernel
theorem dX3_invert_41 : decode cX3_invert 41 = .ok (.getfield 37, 3) := by decide +kernel
theorem dX3_invert_44 : decode cX3_invert 44 = .ok (.lconst 1, 1) := by decide +kernel
theorem dX3_invert_45 : decode cX3_invert 45 = .ok (.invokevirtual 40, 3) := by decide +kernel
theorem dX3_invert_48 : decode cX3_invert 48 = .ok (.iconst 0, 1) := by decide +kernel
theorem dX3_invert_49 : decode cX3_invert 49 = .ok (.istore_n 3, 1) := by decide +kernel
theorem dX3_invert_50 : decode cX3_invert 50 = .ok (.iload_n 3, 1) := by decide +kernel
theorem dX3_invert_51 : decode cX3_invert 51 = .ok (.sipush 2000, 3) := by decide +kernel
theorem dX3_invert_54 : decode cX3_invert 54 = .ok (.if_icmp .ge 114, 3) := by decide +kernel
theorem dX3_invert_57 : decode cX3_invert 57 = .ok (.aload_n 0, 1) := by decide +kernel
theorem dX3_invert_58 : decode cX3_invert 58 = .ok (.getfield 31, 3) := by decide +kernel
theorem dX3_invert_61 : decode cX3_invert 61 = .ok (.invokevirtual 63, 3) := by decide +kernel
theorem dX3_invert_64 : decode cX3_invert 64 = .ok (.ifCond .ne 104, 3) := by decide +kernel
theorem dX3_invert_67 : decode cX3_invert 67 = .ok (.aload_n 0, 1) := by decide +kernel
theorem dX3_invert_68 : decode cX3_invert 68 = .ok (.getfield 9, 3) := by decide +kernel
theorem dX3_invert_71 : decode cX3_invert 71 = .ok (.aload_n 0, 1) := by decide +kernel
theorem dX3_invert_72 : decode cX3_invert 72 = .ok (.getfield 28, 3) := by decide +kernel
theorem dX3_invert_75 : decode cX3_invert 75 = .ok (.aload_n 0, 1) := by decide +kernel
theorem dX3_invert_76 : decode cX3_invert 76 = .ok (.getfield 31, 3) := by decide +kernel
theorem dX3_invert_79 : decode cX3_invert 79 = .ok (.invokevirtual 95, 3) := by decide +kernel
theorem dX3_invert_82 : decode cX3_invert 82 = .ok (.aload_n 0, 1) := by decide +kernel
theorem dX3_invert_83 : decode cX3_invert 83 = .ok (.getfield 9, 3) := by decide +kernel
theorem dX3_invert_86 : decode cX3_invert 86 = .ok (.getfield 102, 3) := by decide +kernel
theorem dX3_invert_89 : decode cX3_invert 89 = .ok (.aload_n 0, 1) := by decide +kernel
theorem dX3_invert_90 : decode cX3_invert 90 = .ok (.getfield 37, 3) := by decide +kernel
theorem dX3_invert_93 : decode cX3_invert 93 = .ok (.aload_n 0, 1) := by decide +kernel
theorem dX3_invert_94 : decode cX3_invert 94 = .ok (.getfield 22, 3) := by decide +kernel
theorem dX3_invert_97 : decode cX3_invert 97 = .ok (.invokestatic 52, 3) := by decide +kernel
theorem dX3_invert_100 : decode cX3_invert 100 = .ok (.aload_n 0, 1) := by decide +kernel
theorem dX3_invert_101 : decode cX3_invert 101 = .ok (.getfield 34, 3) := by decide +kernel
theorem dX3_invert_104 : decode cX3_invert 104 = .ok (.aload_n 0, 1) := by decide +kernel
theorem dX3_invert_105 : decode cX3_invert 105 = .ok (.getfield 22, 3) := by decide +kernel
theorem dX3_invert_108 : decode cX3_invert 108 = .ok (.aload_n 0, 1) := by decide +kernel
theorem dX3_invert_109 : decode cX3_invert 109 = .ok (.getfield 22, 3) := by decide +kernel
theorem dX3_invert_112 : decode cX3_invert 112 = .ok (.invokestatic 105, 3) := by decide +kernel
theorem dX3_invert_115 : decode cX3_invert 115 = .ok (.aload_n 0, 1) := by decide +kernel
theorem dX3_invert_116 : decode cX3_invert 116 = .ok (.getfield 34, 3) := by decide +kernel
theorem dX3_invert_119 : decode cX3_invert 119 = .ok (.aload_n 0, 1) := by decide +kernel
theorem dX3_invert_120 : decode cX3_invert 120 = .ok (.getfield 37, 3) := by decide +kernel
theorem dX3_invert_123 : decode cX3_invert 123 = .ok (.invokevirtual 55, 3) := by decide +kernel
theorem dX3_invert_126 : decode cX3_invert 126 = .ok (.aload_n 0, 1) := by decide +kernel
theorem dX3_invert_127 : decode cX3_invert 127 = .ok (.getfield 37, 3) := by decide +kernel
theorem dX3_invert_130 : decode cX3_invert 130 = .ok (.aload_n 0, 1) := by decide +kernel
theorem dX3_invert_131 : decode cX3_invert 131 = .ok (.getfield 22, 3) := by decide +kernel
theorem dX3_invert_134 : decode cX3_invert 134 = .ok (.invokevirtual 55, 3) := by decide +kernel
theorem dX3_invert_137 : decode cX3_invert 137 = .ok (.aload_n 0, 1) := by decide +kernel
theorem dX3_invert_138 : decode cX3_invert 138 = .ok (.getfield 28, 3) := by decide +kernel
theorem dX3_invert_141 : decode cX3_invert 141 = .ok (.aload_n 0, 1) := by decide +kernel
theorem dX3_invert_142 : decode cX3_invert 142 = .ok (.getfield 31, 3) := by decide +kernel
theorem dX3_invert_145 : decode cX3_invert 145 = .ok (.invokevirtual 55, 3) := by decide +kernel
theorem dX3_invert_148 : decode cX3_invert 148 = .ok (.aload_n 0, 1) := by decide +kernel
theorem dX3_invert_149 : decode cX3_invert 149 = .ok (.getfield 31, 3) := by decide +kernel
theorem dX3_invert_152 : decode cX3_invert 152 = .ok (.aload_n 0, 1) := by decide +kernel
theorem dX3_invert_153 : decode cX3_invert 153 = .ok (.getfield 9, 3) := by decide +kernel
theorem dX3_invert_156 : decode cX3_invert 156 = .ok (.getfield 88, 3) := by decide +kernel
theorem dX3_invert_159 : decode cX3_invert 159 = .ok (.invokevirtual 55, 3) := by decide +kernel
theorem dX3_invert_162 : decode cX3_invert 162 = .ok (.iinc 3 1, 3) := by decide +kernel
theorem dX3_invert_165 : decode cX3_invert 165 = .ok (.goto (-115), 3) := by decide +kernel
theorem dX3_invert_168 : decode cX3_invert 168 = .ok (.aload_n 0, 1) := by decide +kernel
theorem dX3_invert_169 : decode cX3_invert 169 = .ok (.getfield 28, 3) := by decide +kernel
theorem dX3_invert_172 : decode cX3_invert 172 = .ok (.invokevirtual 108, 3) := by decide +kernel
theorem dX3_invert_175 : decode cX3_invert 175 = .ok (.ifCond .ne 5, 3) := by decide +kernel
theorem dX3_invert_178 : decode cX3_invert 178 = .ok (.iconst 0, 1) := by decide +kernel
theorem dX3_invert_179 : decode cX3_invert 179 = .ok (.ireturn, 1) := by decide +kernel
theorem dX3_invert_180 : decode cX3_invert 180 = .ok (.aload_n 0, 1) := by decide +kernel
theorem dX3_invert_181 : decode cX3_invert 181 = .ok (.getfield 9, 3) := by decide +kernel
theorem dX3_invert_184 : decode cX3_invert 184 = .ok (.iconst 2, 1) := by decide +kernel
theorem dX3_invert_185 : decode cX3_invert 185 = .ok (.aload_n 0, 1) := by decide +kernel
theorem dX3_invert_186 : decode cX3_invert 186 = .ok (.getfield 34, 3) := by decide +kernel
theorem dX3_invert_189 : decode cX3_invert 189 = .ok (.aload_n 2, 1) := by decide +kernel
theorem dX3_invert_190 : decode cX3_invert 190 = .ok (.invokevirtual 82, 3) := by decide +kernel
theorem dX3_invert_193 : decode cX3_invert 193 = .ok (.aload_n 0, 1) := by decide +kernel
theorem dX3_invert_194 : decode cX3_invert 194 = .ok (.getfield 18, 3) := by decide +kernel
theorem dX3_invert_197 : decode cX3_invert 197 = .ok (.aload_n 0, 1) := by decide +kernel
theorem dX3_invert_198 : decode cX3_invert 198 = .ok (.getfield 9, 3) := by decide +kernel
theorem dX3_invert_201 : decode cX3_invert 201 = .ok (.getfield 88, 3) := by decide +kernel
theorem dX3_invert_204 : decode cX3_invert 204 = .ok (.invokevirtual 55, 3) := by decide +kernel
theorem dX3_invert_207 : decode cX3_invert 207 = .ok (.iconst 1, 1) := by decide +kernel
theorem dX3_invert_208 : decode cX3_invert 208 = .ok (.ireturn, 1) := by decide +kernel
def zb_X3_invert_50 (w0 : Nat) (w2 : Nat) (g18 : AH) (w3 : Int32) : Option ((AH × Int32) ⊕ (AH)) :=
  (if (2000 : Int32) ≤ w3 then some (Sum.inr g18) else (gR g18 w0 3 5).bind fun x20 => (chk g18 x20 8).bind fun _ => (zs_X8_isZero g18 x20).bind fun x22 => (if x22 = 0 then (gR g18 w0 3 1).bind fun x24 => (gR g18 w0 3 4).bind fun x25 => (gR g18 w0 3 5).bind fun x26 => (chk g18 x24 0).bind fun _ => (zs_X0_divideSizes g18 x24 x25 x26).bind fun g28 => (gR g28 w0 3 1).bind fun x29 => (gR g28 x29 0 0).bind fun x30 => (gR g28 w0 3 7).bind fun x31 => (gR g28 w0 3 2).bind fun x32 => (zs_X8_product g28 x30 x31 x32).bind fun g33 => (gR g33 w0 3 6).bind fun x34 => (gR g33 w0 3 2).bind fun x35 => (gR g33 w0 3 2).bind fun x36 => (zs_X8_difference g33 x34 x35 x36).bind fun g37 => (gR g37 w0 3 6).bind fun x38 => (gR g37 w0 3 7).bind fun x39 => (chk g37 x38 8).bind fun _ => (zs_X8_copy g37 x38 x39).bind fun g41 => (gR g41 w0 3 7).bind fun x42 => (gR g41 w0 3 2).bind fun x43 => (chk g41 x42 8).bind fun _ => (zs_X8_copy g41 x42 x43).bind fun g45 => (gR g45 w0 3 4).bind fun x46 => (gR g45 w0 3 5).bind fun x47 => (chk g45 x46 8).bind fun _ => (zs_X8_copy g45 x46 x47).bind fun g49 => (gR g49 w0 3 5).bind fun x50 => (gR g49 w0 3 1).bind fun x51 => (gR g49 x51 0 1).bind fun x52 => (chk g49 x50 8).bind fun _ => (zs_X8_copy g49 x50 x52).bind fun g54 => some (Sum.inl ((g54, w3 + (1 : Int32)))) else some (Sum.inr g18)))
def zs_X3_invert (h : AH) (u0 : Nat) (u1 : Nat) (u2 : Nat) : Option (Int32 × AH) :=
  (gR h u0 3 1).bind fun x1 => (chk h x1 0).bind fun _ => (zs_X0_divide h x1 ((2 : Int32)) u1 u2).bind fun g3 => (gR g3 u0 3 4).bind fun x4 => (chk g3 x4 8).bind fun _ => (zs_X8_copy g3 x4 u2).bind fun g6 => (gR g6 u0 3 5).bind fun x7 => (gR g6 u0 3 1).bind fun x8 => (gR g6 x8 0 1).bind fun x9 => (chk g6 x7 8).bind fun _ => (zs_X8_copy g6 x7 x9).bind fun g11 => (gR g11 u0 3 6).bind fun x12 => (chk g11 x12 8).bind fun _ => (zs_X8_become g11 x12 ((0 : Int64))).bind fun g14 => (gR g14 u0 3 7).bind fun x15 => (chk g14 x15 8).bind fun _ => (zs_X8_become g14 x15 ((1 : Int64))).bind fun g17 => (iter (fun q : AH × Int32 => zb_X3_invert_50 u0 u2 q.1 q.2) FU ((g17, (0 : Int32)))).bind fun r55 => (gR r55 u0 3 4).bind fun x56 => (chk r55 x56 8).bind fun _ => (zs_X8_isOne r55 x56).bind fun x58 => (if x58 = 0 then some ((0 : Int32), r55) else (gR r55 u0 3 1).bind fun x60 => (gR r55 u0 3 6).bind fun x61 => (chk r55 x60 0).bind fun _ => (zs_X0_divide r55 x60 ((2 : Int32)) x61 u2).bind fun g63 => (gR g63 u0 3 0).bind fun x64 => (gR g63 u0 3 1).bind fun x65 => (gR g63 x65 0 1).bind fun x66 => (chk g63 x64 8).bind fun _ => (zs_X8_copy g63 x64 x66).bind fun g68 => some ((1 : Int32), g68))
set_option maxRecDepth 100000 in
set_option maxHeartbeats 4000000 in
theorem zm_X3_invert (l : Launch) (D : hG) (z : Nat) {h : AH} {u0 : Nat} {u1 : Nat} {u2 : Nat} {r : Int32} {h' : AH} (hs : zs_X3_invert h u0 u1 u2 = some (r, h')) : hC l D z yX3_invert cX3_invert 4 (Option.some Jvm.ClassFile.FieldType.boolean) 5 136 0 0 [.ref u0, .ref u1, .ref u2] h h' (some (.int r)) := by
  refine hC_of (by decide) (Nat.le_of_ble_eq_true rfl) ?_
  intro p e s m below meth c hx hb hml hrt hlk hown hnm hts hk hr hz ls hl
  replace hown : s.vm.findClass RX3 = some m.cls := hown
  replace hl : lv_has ls 4 [(0, .ref u0), (1, .ref u1), (2, .ref u2)] := hl
  have hS : va_S (hA z) s.heap s.heap [] := va_S.rf
  suffices hgo : ∀ (H : Heap) (locs : List Loc), hR D z h H → va_S (hA z) s.heap H locs → W p l e ({ frames := 5, cells := 0, slots := 0, locals := 136 } : Room) s m ([.ref u0, .ref u1, .ref u2] : List Value).toArray below meth c H locs 0 0 (MQ below (hQ D z h' (some (.int r))) ([.ref u0, .ref u1, .ref u2] : List Value).toArray s 0 0 (hA z)) (F0 m 0 ls []) from hgo _ _ hr hS
  clear hr hS
  intro H locs hr hS
  unfold zs_X3_invert at hs
  refine lv_aload_n hx hb dX3_invert_0 rfl (lv_at hl 0 rfl) ?_
  obtain ⟨x1, ex1, hs⟩ := bi_inv hs
  refine hv_gR (C := RX3) (T := TX3) (N := 8) (ci := 3) hx hb hts inX3 hown hk hr rfl 1 (by decide) (hts _ tw_169) ex1 dX3_invert_1 ?_
  refine lv_iconst (v := 2) hx hb dX3_invert_4 (by decide) ?_
  refine lv_aload_n hx hb dX3_invert_5 rfl (lv_at hl 1 rfl) ?_
  refine lv_aload_n hx hb dX3_invert_6 rfl (lv_at hl 2 rfl) ?_
  obtain ⟨_, ex2, hs⟩ := bi_inv hs
  obtain ⟨g3, eg3, hs⟩ := bi_inv hs
  refine hv_V0 (n := 3) [.int ((2 : Int32)), .ref u1, .ref u2] [] hx hb hml hown hts hk hr hz hS (zm_X0_divide l D z eg3) ex2 rfl tw_588 tw_480 tw_481 tw_6 tw_482 (by decide +kernel) (by decide) ⟨(Nat.zero_le _), (Nat.zero_le _)⟩ rfl hl.1 (Nat.le_of_ble_eq_true rfl) dX3_invert_7 rfl (fun H locs hr hS => ?_)
  refine lv_aload_n hx hb dX3_invert_10 rfl (lv_at hl 0 rfl) ?_
  obtain ⟨x4, ex4, hs⟩ := bi_inv hs
  refine hv_gR (C := RX3) (T := TX3) (N := 8) (ci := 3) hx hb hts inX3 hown hk hr rfl 4 (by decide) (hts _ tw_172) ex4 dX3_invert_11 ?_
  refine lv_aload_n hx hb dX3_invert_14 rfl (lv_at hl 2 rfl) ?_
  obtain ⟨_, ex5, hs⟩ := bi_inv hs
  obtain ⟨g6, eg6, hs⟩ := bi_inv hs
  refine hv_V0 (n := 1) [.ref u2] [] hx hb hml hown hts hk hr hz hS (zm_X8_copy l D z eg6) ex5 rfl tw_536 tw_373 tw_374 tw_2 tw_375 (by decide +kernel) (by decide) ⟨(Nat.zero_le _), (Nat.zero_le _)⟩ rfl hl.1 (Nat.le_of_ble_eq_true rfl) dX3_invert_15 rfl (fun H locs hr hS => ?_)
  refine lv_aload_n hx hb dX3_invert_18 rfl (lv_at hl 0 rfl) ?_
  obtain ⟨x7, ex7, hs⟩ := bi_inv hs
  refine hv_gR (C := RX3) (T := TX3) (N := 8) (ci := 3) hx hb hts inX3 hown hk hr rfl 5 (by decide) (hts _ tw_173) ex7 dX3_invert_19 ?_
  refine lv_aload_n hx hb dX3_invert_22 rfl (lv_at hl 0 rfl) ?_
  obtain ⟨x8, ex8, hs⟩ := bi_inv hs
  refine hv_gR (C := RX3) (T := TX3) (N := 8) (ci := 3) hx hb hts inX3 hown hk hr rfl 1 (by decide) (hts _ tw_169) ex8 dX3_invert_23 ?_
  obtain ⟨x9, ex9, hs⟩ := bi_inv hs
  refine hv_gR (C := RX0) (T := TX0) (N := 5) (ci := 0) hx hb hts inX0 hown hk hr rfl 1 (by decide) (hts _ tw_142) ex9 dX3_invert_26 ?_
  obtain ⟨_, ex10, hs⟩ := bi_inv hs
  obtain ⟨g11, eg11, hs⟩ := bi_inv hs
  refine hv_V0 (n := 1) [.ref x9] [] hx hb hml hown hts hk hr hz hS (zm_X8_copy l D z eg11) ex10 rfl tw_536 tw_373 tw_374 tw_2 tw_375 (by decide +kernel) (by decide) ⟨(Nat.zero_le _), (Nat.zero_le _)⟩ rfl hl.1 (Nat.le_of_ble_eq_true rfl) dX3_invert_29 rfl (fun H locs hr hS => ?_)
  refine lv_aload_n hx hb dX3_invert_32 rfl (lv_at hl 0 rfl) ?_
  obtain ⟨x12, ex12, hs⟩ := bi_inv hs
  refine hv_gR (C := RX3) (T := TX3) (N := 8) (ci := 3) hx hb hts inX3 hown hk hr rfl 6 (by decide) (hts _ tw_174) ex12 dX3_invert_33 ?_
  refine lv_lconst (v := 0) hx hb dX3_invert_36 (by decide) ?_
  obtain ⟨_, ex13, hs⟩ := bi_inv hs
  obtain ⟨g14, eg14, hs⟩ := bi_inv hs
  refine hv_V0 (n := 1) [.long ((0 : Int64))] [] hx hb hml hown hts hk hr hz hS (zm_X8_become l D z eg14) ex13 rfl tw_548 tw_66 tw_67 tw_2 tw_68 (by decide +kernel) (by decide) ⟨(Nat.zero_le _), (Nat.zero_le _)⟩ rfl hl.1 (Nat.le_of_ble_eq_true rfl) dX3_invert_37 rfl (fun H locs hr hS => ?_)
  refine lv_aload_n hx hb dX3_invert_40 rfl (lv_at hl 0 rfl) ?_
  obtain ⟨x15, ex15, hs⟩ := bi_inv hs
  refine hv_gR (C := RX3) (T := TX3) (N := 8) (ci := 3) hx hb hts inX3 hown hk hr rfl 7 (by decide) (hts _ tw_175) ex15 dX3_invert_41 ?_
  refine lv_lconst (v := 1) hx hb dX3_invert_44 (by decide) ?_
  obtain ⟨_, ex16, hs⟩ := bi_inv hs
  obtain ⟨g17, eg17, hs⟩ := bi_inv hs
  refine hv_V0 (n := 1) [.long ((1 : Int64))] [] hx hb hml hown hts hk hr hz hS (zm_X8_become l D z eg17) ex16 rfl tw_548 tw_66 tw_67 tw_2 tw_68 (by decide +kernel) (by decide) ⟨(Nat.zero_le _), (Nat.zero_le _)⟩ rfl hl.1 (Nat.le_of_ble_eq_true rfl) dX3_invert_45 rfl (fun H locs hr hS => ?_)
  refine lv_iconst (v := 0) hx hb dX3_invert_48 (by decide) ?_
  refine lv_istore_n (lv' := [(3, .int ((0 : Int32))), (0, .ref u0), (1, .ref u1), (2, .ref u2)]) hx hb dX3_invert_49 rfl hl (by decide) rfl (fun ls hl => ?_)
  obtain ⟨r55, er55, hs⟩ := bi_inv hs
  refine iter_W (fun (q : AH × Int32) => ∀ (H : Heap) (locs : List Loc) (ls : Array Slot), hR D z q.1 H → va_S (hA z) s.heap H locs → lv_has ls 4 [(0, .ref u0), (2, .ref u2), (3, .int q.2)] → W p l e ({ frames := 5, cells := 0, slots := 0, locals := 136 } : Room) s m ([.ref u0, .ref u1, .ref u2] : List Value).toArray below meth c H locs 0 0 (MQ below (hQ D z h' (some (.int r))) ([.ref u0, .ref u1, .ref u2] : List Value).toArray s 0 0 (hA z)) (F0 m 50 ls [])) (fun (x : AH) => ∀ (H : Heap) (locs : List Loc) (ls : Array Slot), hR D z x H → va_S (hA z) s.heap H locs → lv_has ls 4 [(0, .ref u0), (2, .ref u2)] → W p l e ({ frames := 5, cells := 0, slots := 0, locals := 136 } : Room) s m ([.ref u0, .ref u1, .ref u2] : List Value).toArray below meth c H locs 0 0 (MQ below (hQ D z h' (some (.int r))) ([.ref u0, .ref u1, .ref u2] : List Value).toArray s 0 0 (hA z)) (F0 m 168 ls [])) ?_ FU _ r55 er55 ?_ H locs ls hr hS (lv_sub hl [1, 3, 0] rfl)
  · intro q o hs hcont hexit
    obtain ⟨g18, w3⟩ := q
    replace hs : zb_X3_invert_50 u0 u2 g18 w3 = some o := hs
    intro H locs ls hr hS hl
    unfold zb_X3_invert_50 at hs
    refine lv_iload_n hx hb dX3_invert_50 rfl (lv_at hl 2 rfl) ?_
    refine lv_sipush (v := 2000) hx hb dX3_invert_51 (by decide) ?_
    refine lv_icmp_ge (tgt := 168) hx hb dX3_invert_54 (by decide) (fun c19 => ?_) (fun c19 => ?_)
    · rw [if_pos c19] at hs
      obtain rfl := Option.some.inj hs
      exact hexit _ rfl H locs ls hr hS (lv_sub hl [0, 1] rfl)
    · rw [if_neg c19] at hs
      refine lv_aload_n hx hb dX3_invert_57 rfl (lv_at hl 0 rfl) ?_
      obtain ⟨x20, ex20, hs⟩ := bi_inv hs
      refine hv_gR (C := RX3) (T := TX3) (N := 8) (ci := 3) hx hb hts inX3 hown hk hr rfl 5 (by decide) (hts _ tw_173) ex20 dX3_invert_58 ?_
      obtain ⟨_, ex21, hs⟩ := bi_inv hs
      obtain ⟨x22, ex22, hs⟩ := bi_inv hs
      refine hv_V1 (n := 0) [] [] hx hb hml hown hts hk hr hz hS (zm_X8_isZero l D z ex22) ex21 rfl tw_538 tw_400 tw_401 tw_2 tw_402 (by decide +kernel) (by decide) ⟨(Nat.zero_le _), (Nat.zero_le _)⟩ rfl hl.1 (Nat.le_of_ble_eq_true rfl) dX3_invert_61 rfl (fun H locs hr hS => ?_)
      refine lv_if_ne (tgt := 168) hx hb dX3_invert_64 (by decide) (fun c23 => ?_) (fun c23 => ?_)
      · rw [if_neg c23] at hs
        obtain rfl := Option.some.inj hs
        exact hexit _ rfl H locs ls hr hS (lv_sub hl [0, 1] rfl)
      · rw [if_pos c23] at hs
        refine lv_aload_n hx hb dX3_invert_67 rfl (lv_at hl 0 rfl) ?_
        obtain ⟨x24, ex24, hs⟩ := bi_inv hs
        refine hv_gR (C := RX3) (T := TX3) (N := 8) (ci := 3) hx hb hts inX3 hown hk hr rfl 1 (by decide) (hts _ tw_169) ex24 dX3_invert_68 ?_
        refine lv_aload_n hx hb dX3_invert_71 rfl (lv_at hl 0 rfl) ?_
        obtain ⟨x25, ex25, hs⟩ := bi_inv hs
        refine hv_gR (C := RX3) (T := TX3) (N := 8) (ci := 3) hx hb hts inX3 hown hk hr rfl 4 (by decide) (hts _ tw_172) ex25 dX3_invert_72 ?_
        refine lv_aload_n hx hb dX3_invert_75 rfl (lv_at hl 0 rfl) ?_
        obtain ⟨x26, ex26, hs⟩ := bi_inv hs
        refine hv_gR (C := RX3) (T := TX3) (N := 8) (ci := 3) hx hb hts inX3 hown hk hr rfl 5 (by decide) (hts _ tw_173) ex26 dX3_invert_76 ?_
        obtain ⟨_, ex27, hs⟩ := bi_inv hs
        obtain ⟨g28, eg28, hs⟩ := bi_inv hs
        refine hv_V0 (n := 2) [.ref x25, .ref x26] [] hx hb hml hown hts hk hr hz hS (zm_X0_divideSizes l D z eg28) ex27 rfl tw_539 tw_484 tw_485 tw_6 tw_486 (by decide +kernel) (by decide) ⟨(Nat.zero_le _), (Nat.zero_le _)⟩ rfl hl.1 (Nat.le_of_ble_eq_true rfl) dX3_invert_79 rfl (fun H locs hr hS => ?_)
        refine lv_aload_n hx hb dX3_invert_82 rfl (lv_at hl 0 rfl) ?_
        obtain ⟨x29, ex29, hs⟩ := bi_inv hs
        refine hv_gR (C := RX3) (T := TX3) (N := 8) (ci := 3) hx hb hts inX3 hown hk hr rfl 1 (by decide) (hts _ tw_169) ex29 dX3_invert_83 ?_
        obtain ⟨x30, ex30, hs⟩ := bi_inv hs
        refine hv_gR (C := RX0) (T := TX0) (N := 5) (ci := 0) hx hb hts inX0 hown hk hr rfl 0 (by decide) (hts _ tw_138) ex30 dX3_invert_86 ?_
        refine lv_aload_n hx hb dX3_invert_89 rfl (lv_at hl 0 rfl) ?_
        obtain ⟨x31, ex31, hs⟩ := bi_inv hs
        refine hv_gR (C := RX3) (T := TX3) (N := 8) (ci := 3) hx hb hts inX3 hown hk hr rfl 7 (by decide) (hts _ tw_175) ex31 dX3_invert_90 ?_
        refine lv_aload_n hx hb dX3_invert_93 rfl (lv_at hl 0 rfl) ?_
        obtain ⟨x32, ex32, hs⟩ := bi_inv hs
        refine hv_gR (C := RX3) (T := TX3) (N := 8) (ci := 3) hx hb hts inX3 hown hk hr rfl 2 (by decide) (hts _ tw_170) ex32 dX3_invert_94 ?_
        obtain ⟨g33, eg33, hs⟩ := bi_inv hs
        refine hv_S0 (n := 3) [.ref x30, .ref x31, .ref x32] [] hx hb hml hown hts hk hr hz hS (zm_X8_product l D z eg33) tw_554 tw_472 tw_2 tw_473 (by decide +kernel) (by decide) ⟨(Nat.zero_le _), (Nat.zero_le _)⟩ rfl hl.1 (Nat.le_of_ble_eq_true rfl) dX3_invert_97 rfl (fun H locs hr hS => ?_)
        refine lv_aload_n hx hb dX3_invert_100 rfl (lv_at hl 0 rfl) ?_
        obtain ⟨x34, ex34, hs⟩ := bi_inv hs
        refine hv_gR (C := RX3) (T := TX3) (N := 8) (ci := 3) hx hb hts inX3 hown hk hr rfl 6 (by decide) (hts _ tw_174) ex34 dX3_invert_101 ?_
        refine lv_aload_n hx hb dX3_invert_104 rfl (lv_at hl 0 rfl) ?_
        obtain ⟨x35, ex35, hs⟩ := bi_inv hs
        refine hv_gR (C := RX3) (T := TX3) (N := 8) (ci := 3) hx hb hts inX3 hown hk hr rfl 2 (by decide) (hts _ tw_170) ex35 dX3_invert_105 ?_
        refine lv_aload_n hx hb dX3_invert_108 rfl (lv_at hl 0 rfl) ?_
        obtain ⟨x36, ex36, hs⟩ := bi_inv hs
        refine hv_gR (C := RX3) (T := TX3) (N := 8) (ci := 3) hx hb hts inX3 hown hk hr rfl 2 (by decide) (hts _ tw_170) ex36 dX3_invert_109 ?_
        obtain ⟨g37, eg37, hs⟩ := bi_inv hs
        refine hv_S0 (n := 3) [.ref x34, .ref x35, .ref x36] [] hx hb hml hown hts hk hr hz hS (zm_X8_difference l D z eg37) tw_601 tw_469 tw_2 tw_470 (by decide +kernel) (by decide) ⟨(Nat.zero_le _), (Nat.zero_le _)⟩ rfl hl.1 (Nat.le_of_ble_eq_true rfl) dX3_invert_112 rfl (fun H locs hr hS => ?_)
        refine lv_aload_n hx hb dX3_invert_115 rfl (lv_at hl 0 rfl) ?_
        obtain ⟨x38, ex38, hs⟩ := bi_inv hs
        refine hv_gR (C := RX3) (T := TX3) (N := 8) (ci := 3) hx hb hts inX3 hown hk hr rfl 6 (by decide) (hts _ tw_174) ex38 dX3_invert_116 ?_
        refine lv_aload_n hx hb dX3_invert_119 rfl (lv_at hl 0 rfl) ?_
        obtain ⟨x39, ex39, hs⟩ := bi_inv hs
        refine hv_gR (C := RX3) (T := TX3) (N := 8) (ci := 3) hx hb hts inX3 hown hk hr rfl 7 (by decide) (hts _ tw_175) ex39 dX3_invert_120 ?_
        obtain ⟨_, ex40, hs⟩ := bi_inv hs
        obtain ⟨g41, eg41, hs⟩ := bi_inv hs
        refine hv_V0 (n := 1) [.ref x39] [] hx hb hml hown hts hk hr hz hS (zm_X8_copy l D z eg41) ex40 rfl tw_536 tw_373 tw_374 tw_2 tw_375 (by decide +kernel) (by decide) ⟨(Nat.zero_le _), (Nat.zero_le _)⟩ rfl hl.1 (Nat.le_of_ble_eq_true rfl) dX3_invert_123 rfl (fun H locs hr hS => ?_)
        refine lv_aload_n hx hb dX3_invert_126 rfl (lv_at hl 0 rfl) ?_
        obtain ⟨x42, ex42, hs⟩ := bi_inv hs
        refine hv_gR (C := RX3) (T := TX3) (N := 8) (ci := 3) hx hb hts inX3 hown hk hr rfl 7 (by decide) (hts _ tw_175) ex42 dX3_invert_127 ?_
        refine lv_aload_n hx hb dX3_invert_130 rfl (lv_at hl 0 rfl) ?_
        obtain ⟨x43, ex43, hs⟩ := bi_inv hs
        refine hv_gR (C := RX3) (T := TX3) (N := 8) (ci := 3) hx hb hts inX3 hown hk hr rfl 2 (by decide) (hts _ tw_170) ex43 dX3_invert_131 ?_
        obtain ⟨_, ex44, hs⟩ := bi_inv hs
        obtain ⟨g45, eg45, hs⟩ := bi_inv hs
        refine hv_V0 (n := 1) [.ref x43] [] hx hb hml hown hts hk hr hz hS (zm_X8_copy l D z eg45) ex44 rfl tw_536 tw_373 tw_374 tw_2 tw_375 (by decide +kernel) (by decide) ⟨(Nat.zero_le _), (Nat.zero_le _)⟩ rfl hl.1 (Nat.le_of_ble_eq_true rfl) dX3_invert_134 rfl (fun H locs hr hS => ?_)
        refine lv_aload_n hx hb dX3_invert_137 rfl (lv_at hl 0 rfl) ?_
        obtain ⟨x46, ex46, hs⟩ := bi_inv hs
        refine hv_gR (C := RX3) (T := TX3) (N := 8) (ci := 3) hx hb hts inX3 hown hk hr rfl 4 (by decide) (hts _ tw_172) ex46 dX3_invert_138 ?_
        refine lv_aload_n hx hb dX3_invert_141 rfl (lv_at hl 0 rfl) ?_
        obtain ⟨x47, ex47, hs⟩ := bi_inv hs
        refine hv_gR (C := RX3) (T := TX3) (N := 8) (ci := 3) hx hb hts inX3 hown hk hr rfl 5 (by decide) (hts _ tw_173) ex47 dX3_invert_142 ?_
        obtain ⟨_, ex48, hs⟩ := bi_inv hs
        obtain ⟨g49, eg49, hs⟩ := bi_inv hs
        refine hv_V0 (n := 1) [.ref x47] [] hx hb hml hown hts hk hr hz hS (zm_X8_copy l D z eg49) ex48 rfl tw_536 tw_373 tw_374 tw_2 tw_375 (by decide +kernel) (by decide) ⟨(Nat.zero_le _), (Nat.zero_le _)⟩ rfl hl.1 (Nat.le_of_ble_eq_true rfl) dX3_invert_145 rfl (fun H locs hr hS => ?_)
        refine lv_aload_n hx hb dX3_invert_148 rfl (lv_at hl 0 rfl) ?_
        obtain ⟨x50, ex50, hs⟩ := bi_inv hs
        refine hv_gR (C := RX3) (T := TX3) (N := 8) (ci := 3) hx hb hts inX3 hown hk hr rfl 5 (by decide) (hts _ tw_173) ex50 dX3_invert_149 ?_
        refine lv_aload_n hx hb dX3_invert_152 rfl (lv_at hl 0 rfl) ?_
        obtain ⟨x51, ex51, hs⟩ := bi_inv hs
        refine hv_gR (C := RX3) (T := TX3) (N := 8) (ci := 3) hx hb hts inX3 hown hk hr rfl 1 (by decide) (hts _ tw_169) ex51 dX3_invert_153 ?_
        obtain ⟨x52, ex52, hs⟩ := bi_inv hs
        refine hv_gR (C := RX0) (T := TX0) (N := 5) (ci := 0) hx hb hts inX0 hown hk hr rfl 1 (by decide) (hts _ tw_142) ex52 dX3_invert_156 ?_
        obtain ⟨_, ex53, hs⟩ := bi_inv hs
        obtain ⟨g54, eg54, hs⟩ := bi_inv hs
        refine hv_V0 (n := 1) [.ref x52] [] hx hb hml hown hts hk hr hz hS (zm_X8_copy l D z eg54) ex53 rfl tw_536 tw_373 tw_374 tw_2 tw_375 (by decide +kernel) (by decide) ⟨(Nat.zero_le _), (Nat.zero_le _)⟩ rfl hl.1 (Nat.le_of_ble_eq_true rfl) dX3_invert_159 rfl (fun H locs hr hS => ?_)
        refine lv_iinc (v := w3 + (1 : Int32)) (lv' := [(3, .int (w3 + (1 : Int32))), (0, .ref u0), (2, .ref u2)]) hx hb dX3_invert_162 hl (k := 2) rfl (ii_v _ (by decide)) (by decide) rfl (fun ls hl => ?_)
        refine lv_goto (tgt := 50) hx hb dX3_invert_165 (by decide) ?_
        obtain rfl := Option.some.inj hs
        exact hcont _ rfl H locs ls hr hS (lv_sub hl [1, 2, 0] rfl)
  · intro H locs ls hr hS hl
    refine lv_aload_n hx hb dX3_invert_168 rfl (lv_at hl 0 rfl) ?_
    obtain ⟨x56, ex56, hs⟩ := bi_inv hs
    refine hv_gR (C := RX3) (T := TX3) (N := 8) (ci := 3) hx hb hts inX3 hown hk hr rfl 4 (by decide) (hts _ tw_172) ex56 dX3_invert_169 ?_
    obtain ⟨_, ex57, hs⟩ := bi_inv hs
    obtain ⟨x58, ex58, hs⟩ := bi_inv hs
    refine hv_V1 (n := 0) [] [] hx hb hml hown hts hk hr hz hS (zm_X8_isOne l D z ex58) ex57 rfl tw_602 tw_603 tw_604 tw_2 tw_605 (by decide +kernel) (by decide) ⟨(Nat.zero_le _), (Nat.zero_le _)⟩ rfl hl.1 (Nat.le_of_ble_eq_true rfl) dX3_invert_172 rfl (fun H locs hr hS => ?_)
    refine lv_if_ne (tgt := 180) hx hb dX3_invert_175 (by decide) (fun c59 => ?_) (fun c59 => ?_)
    · rw [if_neg c59] at hs
      refine lv_aload_n hx hb dX3_invert_180 rfl (lv_at hl 0 rfl) ?_
      obtain ⟨x60, ex60, hs⟩ := bi_inv hs
      refine hv_gR (C := RX3) (T := TX3) (N := 8) (ci := 3) hx hb hts inX3 hown hk hr rfl 1 (by decide) (hts _ tw_169) ex60 dX3_invert_181 ?_
      refine lv_iconst (v := 2) hx hb dX3_invert_184 (by decide) ?_
      refine lv_aload_n hx hb dX3_invert_185 rfl (lv_at hl 0 rfl) ?_
      obtain ⟨x61, ex61, hs⟩ := bi_inv hs
      refine hv_gR (C := RX3) (T := TX3) (N := 8) (ci := 3) hx hb hts inX3 hown hk hr rfl 6 (by decide) (hts _ tw_174) ex61 dX3_invert_186 ?_
      refine lv_aload_n hx hb dX3_invert_189 rfl (lv_at hl 1 rfl) ?_
      obtain ⟨_, ex62, hs⟩ := bi_inv hs
      obtain ⟨g63, eg63, hs⟩ := bi_inv hs
      refine hv_V0 (n := 3) [.int ((2 : Int32)), .ref x61, .ref u2] [] hx hb hml hown hts hk hr hz hS (zm_X0_divide l D z eg63) ex62 rfl tw_588 tw_480 tw_481 tw_6 tw_482 (by decide +kernel) (by decide) ⟨(Nat.zero_le _), (Nat.zero_le _)⟩ rfl hl.1 (Nat.le_of_ble_eq_true rfl) dX3_invert_190 rfl (fun H locs hr hS => ?_)
      refine lv_aload_n hx hb dX3_invert_193 rfl (lv_at hl 0 rfl) ?_
      obtain ⟨x64, ex64, hs⟩ := bi_inv hs
      refine hv_gR (C := RX3) (T := TX3) (N := 8) (ci := 3) hx hb hts inX3 hown hk hr rfl 0 (by decide) (hts _ tw_167) ex64 dX3_invert_194 ?_
      refine lv_aload_n hx hb dX3_invert_197 rfl (lv_at hl 0 rfl) ?_
      obtain ⟨x65, ex65, hs⟩ := bi_inv hs
      refine hv_gR (C := RX3) (T := TX3) (N := 8) (ci := 3) hx hb hts inX3 hown hk hr rfl 1 (by decide) (hts _ tw_169) ex65 dX3_invert_198 ?_
      obtain ⟨x66, ex66, hs⟩ := bi_inv hs
      refine hv_gR (C := RX0) (T := TX0) (N := 5) (ci := 0) hx hb hts inX0 hown hk hr rfl 1 (by decide) (hts _ tw_142) ex66 dX3_invert_201 ?_
      obtain ⟨_, ex67, hs⟩ := bi_inv hs
      obtain ⟨g68, eg68, hs⟩ := bi_inv hs
      refine hv_V0 (n := 1) [.ref x66] [] hx hb hml hown hts hk hr hz hS (zm_X8_copy l D z eg68) ex67 rfl tw_536 tw_373 tw_374 tw_2 tw_375 (by decide +kernel) (by decide) ⟨(Nat.zero_le _), (Nat.zero_le _)⟩ rfl hl.1 (Nat.le_of_ble_eq_true rfl) dX3_invert_204 rfl (fun H locs hr hS => ?_)
      refine lv_iconst (v := 1) hx hb dX3_invert_207 (by decide) ?_
      obtain ⟨rfl, rfl⟩ := Prod.mk.inj (Option.some.inj hs)
      exact hv_zret hx hb hrt hlk hr hS (by decide) dX3_invert_208
    · rw [if_pos c59] at hs
      refine lv_iconst (v := 0) hx hb dX3_invert_178 (by decide) ?_
      obtain ⟨rfl, rfl⟩ := Prod.mk.inj (Option.some.inj hs)
      exact hv_zret hx hb hrt hlk hr hS (by decide) dX3_invert_179
theorem dX3_multiplyLeft_0 : decode cX3_multiplyLeft 0 = .ok (.aload_n 0, 1) := by decide +kernel
theorem dX3_multiplyLeft_1 : decode cX3_multiplyLeft 1 = .ok (.getfield 18, 3) := by decide +kernel
theorem dX3_multiplyLeft_4 : decode cX3_multiplyLeft 4 = .ok (.aload_n 1, 1) := by decide +kernel
theorem dX3_multiplyLeft_5 : decode cX3_multiplyLeft 5 = .ok (.aload_n 0, 1) := by decide +kernel
theorem dX3_multiplyLeft_6 : decode cX3_multiplyLeft 6 = .ok (.getfield 22, 3) := by decide +kernel
theorem dX3_multiplyLeft_9 : decode cX3_multiplyLeft 9 = .ok (.invokestatic 52, 3) := by decide +kernel
theorem dX3_multiplyLeft_12 : decode cX3_multiplyLeft 12 = .ok (.aload_n 0, 1) := by decide +kernel
theorem dX3_multiplyLeft_13 : decode cX3_multiplyLeft 13 = .ok (.getfield 9, 3) := by decide +kernel
theorem dX3_multiplyLeft_16 : decode cX3_multiplyLeft 16 = .ok (.aload_n 0, 1) := by decide +kernel
theorem dX3_multiplyLeft_17 : decode cX3_multiplyLeft 17 = .ok (.getfield 22, 3) := by decide +kernel
theorem dX3_multiplyLeft_20 : decode cX3_multiplyLeft 20 = .ok (.aload_n 2, 1) := by decide +kernel
theorem dX3_multiplyLeft_21 : decode cX3_multiplyLeft 21 = .ok (.invokevirtual 95, 3) := by decide +kernel
theorem dX3_multiplyLeft_24 : decode cX3_multiplyLeft 24 = .ok (.aload_n 0, 1) := by decide +kernel
theorem dX3_multiplyLeft_25 : decode cX3_multiplyLeft 25 = .ok (.getfield 18, 3) := by decide +kernel
theorem dX3_multiplyLeft_28 : decode cX3_multiplyLeft 28 = .ok (.aload_n 0, 1) := by decide +kernel
theorem dX3_multiplyLeft_29 : decode cX3_multiplyLeft 29 = .ok (.getfield 9, 3) := by decide +kernel
theorem dX3_multiplyLeft_32 : decode cX3_multiplyLeft 32 = .ok (.getfield 88, 3) := by decide +kernel
theorem dX3_multiplyLeft_35 : decode cX3_multiplyLeft 35 = .ok (.invokevirtual 55, 3) := by decide +kernel
theorem dX3_multiplyLeft_38 : decode cX3_multiplyLeft 38 = .ok (.return_, 1) := by decide +kernel
def zs_X3_multiplyLeft (h : AH) (u0 : Nat) (u1 : Nat) (u2 : Nat) : Option AH :=
  (gR h u0 3 0).bind fun x1 => (gR h u0 3 2).bind fun x2 => (zs_X8_product h x1 u1 x2).bind fun g3 => (gR g3 u0 3 1).bind fun x4 => (gR g3 u0 3 2).bind fun x5 => (chk g3 x4 0).bind fun _ => (zs_X0_divideSizes g3 x4 x5 u2).bind fun g7 => (gR g7 u0 3 0).bind fun x8 => (gR g7 u0 3 1).bind fun x9 => (gR g7 x9 0 1).bind fun x10 => (chk g7 x8 8).bind fun _ => (zs_X8_copy g7 x8 x10).bind fun g12 => some g12
set_option maxRecDepth 100000 in
set_option maxHeartbeats 4000000 in
theorem zm_X3_multiplyLeft (l : Launch) (D : hG) (z : Nat) {h : AH} {u0 : Nat} {u1 : Nat} {u2 : Nat} {h' : AH} (hs : zs_X3_multiplyLeft h u0 u1 u2 = some h') : hC l D z yX3_multiplyLeft cX3_multiplyLeft 3 (Option.none : Option Jvm.ClassFile.FieldType) 4 110 0 0 [.ref u0, .ref u1, .ref u2] h h' none := by
  refine hC_of (by decide) (Nat.le_of_ble_eq_true rfl) ?_
  intro p e s m below meth c hx hb hml hrt hlk hown hnm hts hk hr hz ls hl
  replace hown : s.vm.findClass RX3 = some m.cls := hown
  replace hl : lv_has ls 3 [(0, .ref u0), (1, .ref u1), (2, .ref u2)] := hl
  have hS : va_S (hA z) s.heap s.heap [] := va_S.rf
  suffices hgo : ∀ (H : Heap) (locs : List Loc), hR D z h H → va_S (hA z) s.heap H locs → W p l e ({ frames := 4, cells := 0, slots := 0, locals := 110 } : Room) s m ([.ref u0, .ref u1, .ref u2] : List Value).toArray below meth c H locs 0 0 (MQ below (hQ D z h' none) ([.ref u0, .ref u1, .ref u2] : List Value).toArray s 0 0 (hA z)) (F0 m 0 ls []) from hgo _ _ hr hS
  clear hr hS
  intro H locs hr hS
  unfold zs_X3_multiplyLeft at hs
  refine lv_aload_n hx hb dX3_multiplyLeft_0 rfl (lv_at hl 0 rfl) ?_
  obtain ⟨x1, ex1, hs⟩ := bi_inv hs
  refine hv_gR (C := RX3) (T := TX3) (N := 8) (ci := 3) hx hb hts inX3 hown hk hr rfl 0 (by decide) (hts _ tw_167) ex1 dX3_multiplyLeft_1 ?_
  refine lv_aload_n hx hb dX3_multiplyLeft_4 rfl (lv_at hl 1 rfl) ?_
  refine lv_aload_n hx hb dX3_multiplyLeft_5 rfl (lv_at hl 0 rfl) ?_
  obtain ⟨x2, ex2, hs⟩ := bi_inv hs
  refine hv_gR (C := RX3) (T := TX3) (N := 8) (ci := 3) hx hb hts inX3 hown hk hr rfl 2 (by decide) (hts _ tw_170) ex2 dX3_multiplyLeft_6 ?_
  obtain ⟨g3, eg3, hs⟩ := bi_inv hs
  refine hv_S0 (n := 3) [.ref x1, .ref u1, .ref x2] [] hx hb hml hown hts hk hr hz hS (zm_X8_product l D z eg3) tw_554 tw_472 tw_2 tw_473 (by decide +kernel) (by decide) ⟨(Nat.zero_le _), (Nat.zero_le _)⟩ rfl hl.1 (Nat.le_of_ble_eq_true rfl) dX3_multiplyLeft_9 rfl (fun H locs hr hS => ?_)
  refine lv_aload_n hx hb dX3_multiplyLeft_12 rfl (lv_at hl 0 rfl) ?_
  obtain ⟨x4, ex4, hs⟩ := bi_inv hs
  refine hv_gR (C := RX3) (T := TX3) (N := 8) (ci := 3) hx hb hts inX3 hown hk hr rfl 1 (by decide) (hts _ tw_169) ex4 dX3_multiplyLeft_13 ?_
  refine lv_aload_n hx hb dX3_multiplyLeft_16 rfl (lv_at hl 0 rfl) ?_
  obtain ⟨x5, ex5, hs⟩ := bi_inv hs
  refine hv_gR (C := RX3) (T := TX3) (N := 8) (ci := 3) hx hb hts inX3 hown hk hr rfl 2 (by decide) (hts _ tw_170) ex5 dX3_multiplyLeft_17 ?_
  refine lv_aload_n hx hb dX3_multiplyLeft_20 rfl (lv_at hl 2 rfl) ?_
  obtain ⟨_, ex6, hs⟩ := bi_inv hs
  obtain ⟨g7, eg7, hs⟩ := bi_inv hs
  refine hv_V0 (n := 2) [.ref x5, .ref u2] [] hx hb hml hown hts hk hr hz hS (zm_X0_divideSizes l D z eg7) ex6 rfl tw_539 tw_484 tw_485 tw_6 tw_486 (by decide +kernel) (by decide) ⟨(Nat.zero_le _), (Nat.zero_le _)⟩ rfl hl.1 (Nat.le_of_ble_eq_true rfl) dX3_multiplyLeft_21 rfl (fun H locs hr hS => ?_)
  refine lv_aload_n hx hb dX3_multiplyLeft_24 rfl (lv_at hl 0 rfl) ?_
  obtain ⟨x8, ex8, hs⟩ := bi_inv hs
  refine hv_gR (C := RX3) (T := TX3) (N := 8) (ci := 3) hx hb hts inX3 hown hk hr rfl 0 (by decide) (hts _ tw_167) ex8 dX3_multiplyLeft_25 ?_
  refine lv_aload_n hx hb dX3_multiplyLeft_28 rfl (lv_at hl 0 rfl) ?_
  obtain ⟨x9, ex9, hs⟩ := bi_inv hs
  refine hv_gR (C := RX3) (T := TX3) (N := 8) (ci := 3) hx hb hts inX3 hown hk hr rfl 1 (by decide) (hts _ tw_169) ex9 dX3_multiplyLeft_29 ?_
  obtain ⟨x10, ex10, hs⟩ := bi_inv hs
  refine hv_gR (C := RX0) (T := TX0) (N := 5) (ci := 0) hx hb hts inX0 hown hk hr rfl 1 (by decide) (hts _ tw_142) ex10 dX3_multiplyLeft_32 ?_
  obtain ⟨_, ex11, hs⟩ := bi_inv hs
  obtain ⟨g12, eg12, hs⟩ := bi_inv hs
  refine hv_V0 (n := 1) [.ref x10] [] hx hb hml hown hts hk hr hz hS (zm_X8_copy l D z eg12) ex11 rfl tw_536 tw_373 tw_374 tw_2 tw_375 (by decide +kernel) (by decide) ⟨(Nat.zero_le _), (Nat.zero_le _)⟩ rfl hl.1 (Nat.le_of_ble_eq_true rfl) dX3_multiplyLeft_35 rfl (fun H locs hr hS => ?_)
  obtain rfl := Option.some.inj hs
  exact hv_vret hx hb hrt hlk hr hS dX3_multiplyLeft_38
theorem dX3_raiseBy_0 : decode cX3_raiseBy 0 = .ok (.aload_n 0, 1) := by decide +kernel
theorem dX3_raiseBy_1 : decode cX3_raiseBy 1 = .ok (.getfield 9, 3) := by decide +kernel
theorem dX3_raiseBy_4 : decode cX3_raiseBy 4 = .ok (.iconst 2, 1) := by decide +kernel
theorem dX3_raiseBy_5 : decode cX3_raiseBy 5 = .ok (.aload_n 1, 1) := by decide +kernel
theorem dX3_raiseBy_6 : decode cX3_raiseBy 6 = .ok (.aload_n 3, 1) := by decide +kernel
theorem dX3_raiseBy_7 : decode cX3_raiseBy 7 = .ok (.invokevirtual 82, 3) := by decide +kernel
theorem dX3_raiseBy_10 : decode cX3_raiseBy 10 = .ok (.aload_n 0, 1) := by decide +kernel
theorem dX3_raiseBy_11 : decode cX3_raiseBy 11 = .ok (.getfield 25, 3) := by decide +kernel
theorem dX3_raiseBy_14 : decode cX3_raiseBy 14 = .ok (.aload_n 0, 1) := by decide +kernel
theorem dX3_raiseBy_15 : decode cX3_raiseBy 15 = .ok (.getfield 9, 3) := by decide +kernel
theorem dX3_raiseBy_18 : decode cX3_raiseBy 18 = .ok (.getfield 88, 3) := by decide +kernel
theorem dX3_raiseBy_21 : decode cX3_raiseBy 21 = .ok (.invokevirtual 55, 3) := by decide +kernel
theorem dX3_raiseBy_24 : decode cX3_raiseBy 24 = .ok (.aload_n 0, 1) := by decide +kernel
theorem dX3_raiseBy_25 : decode cX3_raiseBy 25 = .ok (.getfield 18, 3) := by decide +kernel
theorem dX3_raiseBy_28 : decode cX3_raiseBy 28 = .ok (.lconst 1, 1) := by decide +kernel
theorem dX3_raiseBy_29 : decode cX3_raiseBy 29 = .ok (.invokevirtual 40, 3) := by decide +kernel
theorem dX3_raiseBy_32 : decode cX3_raiseBy 32 = .ok (.bipush 19, 2) := by decide +kernel
theorem dX3_raiseBy_34 : decode cX3_raiseBy 34 = .ok (.istore 4, 2) := by decide +kernel
theorem dX3_raiseBy_36 : decode cX3_raiseBy 36 = .ok (.iload 4, 2) := by decide +kernel
theorem dX3_raiseBy_38 : decode cX3_raiseBy 38 = .ok (.ifCond .lt 37, 3) := by decide +kernel
theorem dX3_raiseBy_41 : decode cX3_raiseBy 41 = .ok (.aload_n 0, 1) := by decide +kernel
theorem dX3_raiseBy_42 : decode cX3_raiseBy 42 = .ok (.aload_n 0, 1) := by decide +kernel
theorem dX3_raiseBy_43 : decode cX3_raiseBy 43 = .ok (.getfield 18, 3) := by decide +kernel
theorem dX3_raiseBy_46 : decode cX3_raiseBy 46 = .ok (.aload_n 3, 1) := by decide +kernel
theorem dX3_raiseBy_47 : decode cX3_raiseBy 47 = .ok (.invokevirtual 91, 3) := by decide +kernel
theorem dX3_raiseBy_50 : decode cX3_raiseBy 50 = .ok (.iload_n 2, 1) := by decide +kernel
theorem dX3_raiseBy_51 : decode cX3_raiseBy 51 = .ok (.iload 4, 2) := by decide +kernel
theorem dX3_raiseBy_53 : decode cX3_raiseBy 53 = .ok (.ishr, 1) := by decide +kernel
theorem dX3_raiseBy_54 : decode cX3_raiseBy 54 = .ok (.iconst 1, 1) := by decide +kernel
theorem dX3_raiseBy_55 : decode cX3_raiseBy 55 = .ok (.iand, 1) := by decide +kernel
theorem dX3_raiseBy_56 : decode cX3_raiseBy 56 = .ok (.iconst 1, 1) := by decide +kernel
theorem dX3_raiseBy_57 : decode cX3_raiseBy 57 = .ok (.if_icmp .ne 12, 3) := by decide +kernel
theorem dX3_raiseBy_60 : decode cX3_raiseBy 60 = .ok (.aload_n 0, 1) := by decide +kernel
theorem dX3_raiseBy_61 : decode cX3_raiseBy 61 = .ok (.aload_n 0, 1) := by decide +kernel
theorem dX3_raiseBy_62 : decode cX3_raiseBy 62 = .ok (.getfield 25, 3) := by decide +kernel
theorem dX3_raiseBy_65 : decode cX3_raiseBy 65 = .ok (.aload_n 3, 1) := by decide +kernel
theorem dX3_raiseBy_66 : decode cX3_raiseBy 66 = .ok (.invokevirtual 91, 3) := by decide +kernel
theorem dX3_raiseBy_69 : decode cX3_raiseBy 69 = .ok (.iinc 4 (-1), 3) := by decide +kernel
theorem dX3_raiseBy_72 : decode cX3_raiseBy 72 = .ok (.goto (-36), 3) := by decide +kernel
theorem dX3_raiseBy_75 : decode cX3_raiseBy 75 = .ok (.return_, 1) := by decide +kernel
def zb_X3_raiseBy_36 (w0 : Nat) (w2 : Int32) (w3 : Nat) (g12 : AH) (w4 : Int32) : Option ((AH × Int32) ⊕ (AH)) :=
  (if w4 < 0 then some (Sum.inr g12) else (gR g12 w0 3 0).bind fun x14 => (chk g12 w0 3).bind fun _ => (zs_X3_multiplyLeft g12 w0 x14 w3).bind fun g16 => (if (w2 >>> (w4 &&& 31)) &&& ((1 : Int32)) = (1 : Int32) then (gR g16 w0 3 3).bind fun x18 => (chk g16 w0 3).bind fun _ => (zs_X3_multiplyLeft g16 w0 x18 w3).bind fun g20 => some (Sum.inl ((g20, w4 + (-1 : Int32)))) else some (Sum.inl ((g16, w4 + (-1 : Int32))))))
def zs_X3_raiseBy (h : AH) (u0 : Nat) (u1 : Nat) (u2 : Int32) (u3 : Nat) : Option AH :=
  (gR h u0 3 1).bind fun x1 => (chk h x1 0).bind fun _ => (zs_X0_divide h x1 ((2 : Int32)) u1 u3).bind fun g3 => (gR g3 u0 3 3).bind fun x4 => (gR g3 u0 3 1).bind fun x5 => (gR g3 x5 0 1).bind fun x6 => (chk g3 x4 8).bind fun _ => (zs_X8_copy g3 x4 x6).bind fun g8 => (gR g8 u0 3 0).bind fun x9 => (chk g8 x9 8).bind fun _ => (zs_X8_become g8 x9 ((1 : Int64))).bind fun g11 => (iter (fun q : AH × Int32 => zb_X3_raiseBy_36 u0 u2 u3 q.1 q.2) FU ((g11, (19 : Int32)))).bind fun r21 => some r21
set_option maxRecDepth 100000 in
set_option maxHeartbeats 4000000 in
theorem zm_X3_raiseBy (l : Launch) (D : hG) (z : Nat) {h : AH} {u0 : Nat} {u1 : Nat} {u2 : Int32} {u3 : Nat} {h' : AH} (hs : zs_X3_raiseBy h u0 u1 u2 u3 = some h') : hC l D z yX3_raiseBy cX3_raiseBy 5 (Option.none : Option Jvm.ClassFile.FieldType) 5 136 0 0 [.ref u0, .ref u1, .int u2, .ref u3] h h' none := by
  refine hC_of (by decide) (Nat.le_of_ble_eq_true rfl) ?_
  intro p e s m below meth c hx hb hml hrt hlk hown hnm hts hk hr hz ls hl
  replace hown : s.vm.findClass RX3 = some m.cls := hown
  replace hl : lv_has ls 5 [(0, .ref u0), (1, .ref u1), (2, .int u2), (3, .ref u3)] := hl
  have hS : va_S (hA z) s.heap s.heap [] := va_S.rf
  suffices hgo : ∀ (H : Heap) (locs : List Loc), hR D z h H → va_S (hA z) s.heap H locs → W p l e ({ frames := 5, cells := 0, slots := 0, locals := 136 } : Room) s m ([.ref u0, .ref u1, .int u2, .ref u3] : List Value).toArray below meth c H locs 0 0 (MQ below (hQ D z h' none) ([.ref u0, .ref u1, .int u2, .ref u3] : List Value).toArray s 0 0 (hA z)) (F0 m 0 ls []) from hgo _ _ hr hS
  clear hr hS
  intro H locs hr hS
  unfold zs_X3_raiseBy at hs
  refine lv_aload_n hx hb dX3_raiseBy_0 rfl (lv_at hl 0 rfl) ?_
  obtain ⟨x1, ex1, hs⟩ := bi_inv hs
  refine hv_gR (C := RX3) (T := TX3) (N := 8) (ci := 3) hx hb hts inX3 hown hk hr rfl 1 (by decide) (hts _ tw_169) ex1 dX3_raiseBy_1 ?_
  refine lv_iconst (v := 2) hx hb dX3_raiseBy_4 (by decide) ?_
  refine lv_aload_n hx hb dX3_raiseBy_5 rfl (lv_at hl 1 rfl) ?_
  refine lv_aload_n hx hb dX3_raiseBy_6 rfl (lv_at hl 3 rfl) ?_
  obtain ⟨_, ex2, hs⟩ := bi_inv hs
  obtain ⟨g3, eg3, hs⟩ := bi_inv hs
  refine hv_V0 (n := 3) [.int ((2 : Int32)), .ref u1, .ref u3] [] hx hb hml hown hts hk hr hz hS (zm_X0_divide l D z eg3) ex2 rfl tw_588 tw_480 tw_481 tw_6 tw_482 (by decide +kernel) (by decide) ⟨(Nat.zero_le _), (Nat.zero_le _)⟩ rfl hl.1 (Nat.le_of_ble_eq_true rfl) dX3_raiseBy_7 rfl (fun H locs hr hS => ?_)
  refine lv_aload_n hx hb dX3_raiseBy_10 rfl (lv_at hl 0 rfl) ?_
  obtain ⟨x4, ex4, hs⟩ := bi_inv hs
  refine hv_gR (C := RX3) (T := TX3) (N := 8) (ci := 3) hx hb hts inX3 hown hk hr rfl 3 (by decide) (hts _ tw_171) ex4 dX3_raiseBy_11 ?_
  refine lv_aload_n hx hb dX3_raiseBy_14 rfl (lv_at hl 0 rfl) ?_
  obtain ⟨x5, ex5, hs⟩ := bi_inv hs
  refine hv_gR (C := RX3) (T := TX3) (N := 8) (ci := 3) hx hb hts inX3 hown hk hr rfl 1 (by decide) (hts _ tw_169) ex5 dX3_raiseBy_15 ?_
  obtain ⟨x6, ex6, hs⟩ := bi_inv hs
  refine hv_gR (C := RX0) (T := TX0) (N := 5) (ci := 0) hx hb hts inX0 hown hk hr rfl 1 (by decide) (hts _ tw_142) ex6 dX3_raiseBy_18 ?_
  obtain ⟨_, ex7, hs⟩ := bi_inv hs
  obtain ⟨g8, eg8, hs⟩ := bi_inv hs
  refine hv_V0 (n := 1) [.ref x6] [] hx hb hml hown hts hk hr hz hS (zm_X8_copy l D z eg8) ex7 rfl tw_536 tw_373 tw_374 tw_2 tw_375 (by decide +kernel) (by decide) ⟨(Nat.zero_le _), (Nat.zero_le _)⟩ rfl hl.1 (Nat.le_of_ble_eq_true rfl) dX3_raiseBy_21 rfl (fun H locs hr hS => ?_)
  refine lv_aload_n hx hb dX3_raiseBy_24 rfl (lv_at hl 0 rfl) ?_
  obtain ⟨x9, ex9, hs⟩ := bi_inv hs
  refine hv_gR (C := RX3) (T := TX3) (N := 8) (ci := 3) hx hb hts inX3 hown hk hr rfl 0 (by decide) (hts _ tw_167) ex9 dX3_raiseBy_25 ?_
  refine lv_lconst (v := 1) hx hb dX3_raiseBy_28 (by decide) ?_
  obtain ⟨_, ex10, hs⟩ := bi_inv hs
  obtain ⟨g11, eg11, hs⟩ := bi_inv hs
  refine hv_V0 (n := 1) [.long ((1 : Int64))] [] hx hb hml hown hts hk hr hz hS (zm_X8_become l D z eg11) ex10 rfl tw_548 tw_66 tw_67 tw_2 tw_68 (by decide +kernel) (by decide) ⟨(Nat.zero_le _), (Nat.zero_le _)⟩ rfl hl.1 (Nat.le_of_ble_eq_true rfl) dX3_raiseBy_29 rfl (fun H locs hr hS => ?_)
  refine lv_bipush (v := 19) hx hb dX3_raiseBy_32 (by decide) ?_
  refine lv_istore (lv' := [(4, .int ((19 : Int32))), (0, .ref u0), (1, .ref u1), (2, .int u2), (3, .ref u3)]) hx hb dX3_raiseBy_34 hl (by decide) rfl (fun ls hl => ?_)
  obtain ⟨r21, er21, hs⟩ := bi_inv hs
  refine iter_W (fun (q : AH × Int32) => ∀ (H : Heap) (locs : List Loc) (ls : Array Slot), hR D z q.1 H → va_S (hA z) s.heap H locs → lv_has ls 5 [(0, .ref u0), (2, .int u2), (3, .ref u3), (4, .int q.2)] → W p l e ({ frames := 5, cells := 0, slots := 0, locals := 136 } : Room) s m ([.ref u0, .ref u1, .int u2, .ref u3] : List Value).toArray below meth c H locs 0 0 (MQ below (hQ D z h' none) ([.ref u0, .ref u1, .int u2, .ref u3] : List Value).toArray s 0 0 (hA z)) (F0 m 36 ls [])) (fun (x : AH) => ∀ (H : Heap) (locs : List Loc) (ls : Array Slot), hR D z x H → va_S (hA z) s.heap H locs → lv_has ls 5 [] → W p l e ({ frames := 5, cells := 0, slots := 0, locals := 136 } : Room) s m ([.ref u0, .ref u1, .int u2, .ref u3] : List Value).toArray below meth c H locs 0 0 (MQ below (hQ D z h' none) ([.ref u0, .ref u1, .int u2, .ref u3] : List Value).toArray s 0 0 (hA z)) (F0 m 75 ls [])) ?_ FU _ r21 er21 ?_ H locs ls hr hS (lv_sub hl [1, 3, 4, 0] rfl)
  · intro q o hs hcont hexit
    obtain ⟨g12, w4⟩ := q
    replace hs : zb_X3_raiseBy_36 u0 u2 u3 g12 w4 = some o := hs
    intro H locs ls hr hS hl
    unfold zb_X3_raiseBy_36 at hs
    refine lv_iload hx hb dX3_raiseBy_36 (lv_at hl 3 rfl) ?_
    refine lv_if_lt (tgt := 75) hx hb dX3_raiseBy_38 (by decide) (fun c13 => ?_) (fun c13 => ?_)
    · rw [if_pos c13] at hs
      obtain rfl := Option.some.inj hs
      exact hexit _ rfl H locs ls hr hS (lv_sub hl [] rfl)
    · rw [if_neg c13] at hs
      refine lv_aload_n hx hb dX3_raiseBy_41 rfl (lv_at hl 0 rfl) ?_
      refine lv_aload_n hx hb dX3_raiseBy_42 rfl (lv_at hl 0 rfl) ?_
      obtain ⟨x14, ex14, hs⟩ := bi_inv hs
      refine hv_gR (C := RX3) (T := TX3) (N := 8) (ci := 3) hx hb hts inX3 hown hk hr rfl 0 (by decide) (hts _ tw_167) ex14 dX3_raiseBy_43 ?_
      refine lv_aload_n hx hb dX3_raiseBy_46 rfl (lv_at hl 2 rfl) ?_
      obtain ⟨_, ex15, hs⟩ := bi_inv hs
      obtain ⟨g16, eg16, hs⟩ := bi_inv hs
      refine hv_V0 (n := 2) [.ref x14, .ref u3] [] hx hb hml hown hts hk hr hz hS (zm_X3_multiplyLeft l D z eg16) ex15 rfl tw_589 tw_591 ts_10 tw_7 tw_592 (by decide +kernel) (by decide) ⟨(Nat.zero_le _), (Nat.zero_le _)⟩ rfl hl.1 (Nat.le_of_ble_eq_true rfl) dX3_raiseBy_47 rfl (fun H locs hr hS => ?_)
      refine lv_iload_n hx hb dX3_raiseBy_50 rfl (lv_at hl 1 rfl) ?_
      refine lv_iload hx hb dX3_raiseBy_51 (lv_at hl 3 rfl) ?_
      refine lv_ishr hx hb dX3_raiseBy_53 ?_
      refine lv_iconst (v := 1) hx hb dX3_raiseBy_54 (by decide) ?_
      refine lv_iand hx hb dX3_raiseBy_55 ?_
      refine lv_iconst (v := 1) hx hb dX3_raiseBy_56 (by decide) ?_
      refine lv_icmp_ne (tgt := 69) hx hb dX3_raiseBy_57 (by decide) (fun c17 => ?_) (fun c17 => ?_)
      · rw [if_neg c17] at hs
        refine lv_iinc (v := w4 + (-1 : Int32)) (lv' := [(4, .int (w4 + (-1 : Int32))), (0, .ref u0), (2, .int u2), (3, .ref u3)]) hx hb dX3_raiseBy_69 hl (k := 3) rfl (ii_v _ (by decide)) (by decide) rfl (fun ls hl => ?_)
        refine lv_goto (tgt := 36) hx hb dX3_raiseBy_72 (by decide) ?_
        obtain rfl := Option.some.inj hs
        exact hcont _ rfl H locs ls hr hS (lv_sub hl [1, 2, 3, 0] rfl)
      · rw [if_pos c17] at hs
        refine lv_aload_n hx hb dX3_raiseBy_60 rfl (lv_at hl 0 rfl) ?_
        refine lv_aload_n hx hb dX3_raiseBy_61 rfl (lv_at hl 0 rfl) ?_
        obtain ⟨x18, ex18, hs⟩ := bi_inv hs
        refine hv_gR (C := RX3) (T := TX3) (N := 8) (ci := 3) hx hb hts inX3 hown hk hr rfl 3 (by decide) (hts _ tw_171) ex18 dX3_raiseBy_62 ?_
        refine lv_aload_n hx hb dX3_raiseBy_65 rfl (lv_at hl 2 rfl) ?_
        obtain ⟨_, ex19, hs⟩ := bi_inv hs
        obtain ⟨g20, eg20, hs⟩ := bi_inv hs
        refine hv_V0 (n := 2) [.ref x18, .ref u3] [] hx hb hml hown hts hk hr hz hS (zm_X3_multiplyLeft l D z eg20) ex19 rfl tw_589 tw_591 ts_10 tw_7 tw_592 (by decide +kernel) (by decide) ⟨(Nat.zero_le _), (Nat.zero_le _)⟩ rfl hl.1 (Nat.le_of_ble_eq_true rfl) dX3_raiseBy_66 rfl (fun H locs hr hS => ?_)
        refine lv_iinc (v := w4 + (-1 : Int32)) (lv' := [(4, .int (w4 + (-1 : Int32))), (0, .ref u0), (2, .int u2), (3, .ref u3)]) hx hb dX3_raiseBy_69 hl (k := 3) rfl (ii_v _ (by decide)) (by decide) rfl (fun ls hl => ?_)
        refine lv_goto (tgt := 36) hx hb dX3_raiseBy_72 (by decide) ?_
        obtain rfl := Option.some.inj hs
        exact hcont _ rfl H locs ls hr hS (lv_sub hl [1, 2, 3, 0] rfl)
  · intro H locs ls hr hS hl
    obtain rfl := Option.some.inj hs
    exact hv_vret hx hb hrt hlk hr hS dX3_raiseBy_75
