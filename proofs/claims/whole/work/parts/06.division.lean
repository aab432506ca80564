theorem dX0_guess_0 : decode cX0_guess 0 = .ok (.aload_n 0, 1) := by decide +kernel
theorem dX0_guess_1 : decode cX0_guess 1 = .ok (.getfield 32, 3) := by decide +kernel
theorem dX0_guess_4 : decode cX0_guess 4 = .ok (.iload_n 2, 1) := by decide +kernel
theorem dX0_guess_5 : decode cX0_guess 5 = .ok (.iconst 1, 1) := by decide +kernel
theorem dX0_guess_6 : decode cX0_guess 6 = .ok (.isub, 1) := by decide +kernel
theorem dX0_guess_7 : decode cX0_guess 7 = .ok (.laload, 1) := by decide +kernel
theorem dX0_guess_8 : decode cX0_guess 8 = .ok (.lstore_n 3, 1) := by decide +kernel
theorem dX0_guess_9 : decode cX0_guess 9 = .ok (.aload_n 0, 1) := by decide +kernel
theorem dX0_guess_10 : decode cX0_guess 10 = .ok (.getfield 32, 3) := by decide +kernel
theorem dX0_guess_13 : decode cX0_guess 13 = .ok (.iload_n 2, 1) := by decide +kernel
theorem dX0_guess_14 : decode cX0_guess 14 = .ok (.iconst 2, 1) := by decide +kernel
theorem dX0_guess_15 : decode cX0_guess 15 = .ok (.isub, 1) := by decide +kernel
theorem dX0_guess_16 : decode cX0_guess 16 = .ok (.laload, 1) := by decide +kernel
theorem dX0_guess_17 : decode cX0_guess 17 = .ok (.lstore 5, 2) := by decide +kernel
theorem dX0_guess_19 : decode cX0_guess 19 = .ok (.aload_n 0, 1) := by decide +kernel
theorem dX0_guess_20 : decode cX0_guess 20 = .ok (.getfield 28, 3) := by decide +kernel
theorem dX0_guess_23 : decode cX0_guess 23 = .ok (.iload_n 1, 1) := by decide +kernel
theorem dX0_guess_24 : decode cX0_guess 24 = .ok (.iload_n 2, 1) := by decide +kernel
theorem dX0_guess_25 : decode cX0_guess 25 = .ok (.iadd, 1) := by decide +kernel
theorem dX0_guess_26 : decode cX0_guess 26 = .ok (.laload, 1) := by decide +kernel
theorem dX0_guess_27 : decode cX0_guess 27 = .ok (.bipush 32, 2) := by decide +kernel
theorem dX0_guess_29 : decode cX0_guess 29 = .ok (.lshl, 1) := by decide +kernel
theorem dX0_guess_30 : decode cX0_guess 30 = .ok (.aload_n 0, 1) := by decide +kernel
theorem dX0_guess_31 : decode cX0_guess 31 = .ok (.getfield 28, 3) := by decide +kernel
theorem dX0_guess_34 : decode cX0_guess 34 = .ok (.iload_n 1, 1) := by decide +kernel
theorem dX0_guess_35 : decode cX0_guess 35 = .ok (.iload_n 2, 1) := by decide +kernel
theorem dX0_guess_36 : decode cX0_guess 36 = .ok (.iadd, 1) := by decide +kernel
theorem dX0_guess_37 : decode cX0_guess 37 = .ok (.iconst 1, 1) := by decide +kernel
theorem dX0_guess_38 : decode cX0_guess 38 = .ok (.isub, 1) := by decide +kernel
theorem dX0_guess_39 : decode cX0_guess 39 = .ok (.laload, 1) := by decide +kernel
theorem dX0_guess_40 : decode cX0_guess 40 = .ok (.lor, 1) := by decide +kernel
theorem dX0_guess_41 : decode cX0_guess 41 = .ok (.lstore 7, 2) := by decide +kernel
theorem dX0_guess_43 : decode cX0_guess 43 = .ok (.lload 7, 2) := by decide +kernel
theorem dX0_guess_45 : decode cX0_guess 45 = .ok (.lload_n 3, 1) := by decide +kernel
theorem dX0_guess_46 : decode cX0_guess 46 = .ok (.invokestatic 105, 3) := by decide +kernel
theorem dX0_guess_49 : decode cX0_guess 49 = .ok (.lstore 9, 2) := by decide +kernel
theorem dX0_guess_51 : decode cX0_guess 51 = .ok (.lload 7, 2) := by decide +kernel
theorem dX0_guess_53 : decode cX0_guess 53 = .ok (.lload 9, 2) := by decide +kernel
theorem dX0_guess_55 : decode cX0_guess 55 = .ok (.lload_n 3, 1) := by decide +kernel
theorem dX0_guess_56 : decode cX0_guess 56 = .ok (.lmul, 1) := by decide +kernel
theorem dX0_guess_57 : decode cX0_guess 57 = .ok (.lsub, 1) := by decide +kernel
theorem dX0_guess_58 : decode cX0_guess 58 = .ok (.lstore 11, 2) := by decide +kernel
theorem dX0_guess_60 : decode cX0_guess 60 = .ok (.iconst 0, 1) := by decide +kernel
theorem dX0_guess_61 : decode cX0_guess 61 = .ok (.istore 13, 2) := by decide +kernel
theorem dX0_guess_63 : decode cX0_guess 63 = .ok (.iload 13, 2) := by decide +kernel
theorem dX0_guess_65 : decode cX0_guess 65 = .ok (.iconst 2, 1) := by decide +kernel
theorem dX0_guess_66 : decode cX0_guess 66 = .ok (.if_icmp .ge 83, 3) := by decide +kernel
theorem dX0_guess_69 : decode cX0_guess 69 = .ok (.lload 11, 2) := by decide +kernel
theorem dX0_guess_71 : decode cX0_guess 71 = .ok (.ldc2_w 103, 3) := by decide +kernel
theorem dX0_guess_74 : decode cX0_guess 74 = .ok (.lcmp, 1) := by decide +kernel
theorem dX0_guess_75 : decode cX0_guess 75 = .ok (.ifCond .gt 74, 3) := by decide +kernel
theorem dX0_guess_78 : decode cX0_guess 78 = .ok (.lload 9, 2) := by decide +kernel
theorem dX0_guess_80 : decode cX0_guess 80 = .ok (.lload 5, 2) := by decide +kernel
theorem dX0_guess_82 : decode cX0_guess 82 = .ok (.lmul, 1) := by decide +kernel
theorem dX0_guess_83 : decode cX0_guess 83 = .ok (.ldc2_w 109, 3) := by decide +kernel
theorem dX0_guess_86 : decode cX0_guess 86 = .ok (.ladd, 1) := by decide +kernel
theorem dX0_guess_87 : decode cX0_guess 87 = .ok (.lstore 14, 2) := by decide +kernel
theorem dX0_guess_89 : decode cX0_guess 89 = .ok (.lload 11, 2) := by decide +kernel
theorem dX0_guess_91 : decode cX0_guess 91 = .ok (.bipush 32, 2) := by decide +kernel
theorem dX0_guess_93 : decode cX0_guess 93 = .ok (.lshl, 1) := by decide +kernel
theorem dX0_guess_94 : decode cX0_guess 94 = .ok (.aload_n 0, 1) := by decide +kernel
theorem dX0_guess_95 : decode cX0_guess 95 = .ok (.getfield 28, 3) := by decide +kernel
theorem dX0_guess_98 : decode cX0_guess 98 = .ok (.iload_n 1, 1) := by decide +kernel
theorem dX0_guess_99 : decode cX0_guess 99 = .ok (.iload_n 2, 1) := by decide +kernel
theorem dX0_guess_100 : decode cX0_guess 100 = .ok (.iadd, 1) := by decide +kernel
theorem dX0_guess_101 : decode cX0_guess 101 = .ok (.iconst 2, 1) := by decide +kernel
theorem dX0_guess_102 : decode cX0_guess 102 = .ok (.isub, 1) := by decide +kernel
theorem dX0_guess_103 : decode cX0_guess 103 = .ok (.laload, 1) := by decide +kernel
theorem dX0_guess_104 : decode cX0_guess 104 = .ok (.lor, 1) := by decide +kernel
theorem dX0_guess_105 : decode cX0_guess 105 = .ok (.ldc2_w 109, 3) := by decide +kernel
theorem dX0_guess_108 : decode cX0_guess 108 = .ok (.ladd, 1) := by decide +kernel
theorem dX0_guess_109 : decode cX0_guess 109 = .ok (.lstore 16, 2) := by decide +kernel
theorem dX0_guess_111 : decode cX0_guess 111 = .ok (.lload 9, 2) := by decide +kernel
theorem dX0_guess_113 : decode cX0_guess 113 = .ok (.ldc2_w 103, 3) := by decide +kernel
theorem dX0_guess_116 : decode cX0_guess 116 = .ok (.lcmp, 1) := by decide +kernel
theorem dX0_guess_117 : decode cX0_guess 117 = .ok (.ifCond .gt 14, 3) := by decide +kernel
theorem dX0_guess_120 : decode cX0_guess 120 = .ok (.lload 14, 2) := by decide +kernel
theorem dX0_guess_122 : decode cX0_guess 122 = .ok (.lload 16, 2) := by decide +kernel
theorem dX0_guess_124 : decode cX0_guess 124 = .ok (.lcmp, 1) := by decide +kernel
theorem dX0_guess_125 : decode cX0_guess 125 = .ok (.ifCond .gt 6, 3) := by decide +kernel
theorem dX0_guess_128 : decode cX0_guess 128 = .ok (.goto 21, 3) := by decide +kernel
theorem dX0_guess_131 : decode cX0_guess 131 = .ok (.lload 9, 2) := by decide +kernel
theorem dX0_guess_133 : decode cX0_guess 133 = .ok (.lconst 1, 1) := by decide +kernel
theorem dX0_guess_134 : decode cX0_guess 134 = .ok (.lsub, 1) := by decide +kernel
theorem dX0_guess_135 : decode cX0_guess 135 = .ok (.lstore 9, 2) := by decide +kernel
theorem dX0_guess_137 : decode cX0_guess 137 = .ok (.lload 11, 2) := by decide +kernel
theorem dX0_guess_139 : decode cX0_guess 139 = .ok (.lload_n 3, 1) := by decide +kernel
theorem dX0_guess_140 : decode cX0_guess 140 = .ok (.ladd, 1) := by decide +kernel
theorem dX0_guess_141 : decode cX0_guess 141 = .ok (.lstore 11, 2) := by decide +kernel
theorem dX0_guess_143 : decode cX0_guess 143 = .ok (.iinc 13 1, 3) := by decide +kernel
theorem dX0_guess_146 : decode cX0_guess 146 = .ok (.goto (-83), 3) := by decide +kernel
theorem dX0_guess_149 : decode cX0_guess 149 = .ok (.lload 9, 2) := by decide +kernel
theorem dX0_guess_151 : decode cX0_guess 151 = .ok (.lreturn, 1) := by decide +kernel
def zj_X0_guess_131 (h : AH) (w0 : Nat) (w1 : Int32) (w2 : Int32) (w3 : Int64) (w5 : Int64) (y9_131 : Int64) (y11_131 : Int64) (y13_131 : Int32) : Option ((Int64 × Int64 × Int32) ⊕ (Int64 ⊕ Int64)) :=
  lt_ (y9_131 - ((1 : Int64))) fun x19 => lt_ (y11_131 + w3) fun x20 => some (Sum.inl ((x19, x20, y13_131 + (1 : Int32))))
def zb_X0_guess_63 (h : AH) (w0 : Nat) (w1 : Int32) (w2 : Int32) (w3 : Int64) (w5 : Int64) (w9 : Int64) (w11 : Int64) (w13 : Int32) : Option ((Int64 × Int64 × Int32) ⊕ (Int64 ⊕ Int64)) :=
  (if (2 : Int32) ≤ w13 then some (Sum.inr ((Sum.inr (w9)))) else (if (4294967295 : Int64) < w11 then some (Sum.inr ((Sum.inr (w9)))) else lt_ ((w9 * w5) + ((-9223372036854775808 : Int64))) fun x14 => (gR h w0 0 3).bind fun x15 => (aJ h x15 1 ((w1 + w2) - ((2 : Int32)))).bind fun x16 => lt_ (((w11 <<< (((32 : Int32)).toInt64 &&& 63)) ||| x16) + ((-9223372036854775808 : Int64))) fun x17 => (if (4294967295 : Int64) < w9 then zj_X0_guess_131 h w0 w1 w2 w3 w5 w9 w11 w13 else (if x17 < x14 then zj_X0_guess_131 h w0 w1 w2 w3 w5 w9 w11 w13 else some (Sum.inr ((Sum.inl w9)))))))
def zs_X0_guess (h : AH) (u0 : Nat) (u1 : Int32) (u2 : Int32) : Option Int64 :=
  (gR h u0 0 4).bind fun x1 => (aJ h x1 1 (u2 - ((1 : Int32)))).bind fun x2 => (gR h u0 0 4).bind fun x3 => (aJ h x3 1 (u2 - ((2 : Int32)))).bind fun x4 => (gR h u0 0 3).bind fun x5 => (aJ h x5 1 (u1 + u2)).bind fun x6 => (gR h u0 0 3).bind fun x7 => (aJ h x7 1 ((u1 + u2) - ((1 : Int32)))).bind fun x8 => lt_ ((x6 <<< (((32 : Int32)).toInt64 &&& 63)) ||| x8) fun x9 => (zs_X8_quotientOfBits h x9 x2).bind fun x10 => lt_ (x9 - (x10 * x2)) fun x11 => (iter (fun q : Int64 × Int64 × Int32 => zb_X0_guess_63 h u0 u1 u2 x2 x4 q.1 q.2.1 q.2.2) FU ((x10, x11, (0 : Int32)))).bind fun r22 => (match r22 with | .inl r23 => some r23 | .inr r24 => some r24)
set_option maxRecDepth 100000 in
set_option maxHeartbeats 4000000 in
theorem zm_X0_guess (l : Launch) (D : hG) (z : Nat) {h : AH} {u0 : Nat} {u1 : Int32} {u2 : Int32} {r : Int64} (hs : zs_X0_guess h u0 u1 u2 = some r) : hC l D z yX0_guess cX0_guess 18 (Option.some Jvm.ClassFile.FieldType.long) 1 25 0 0 [.ref u0, .int u1, .int u2] h h (some (.long r)) := by
  refine hC_of (by decide) (Nat.le_of_ble_eq_true rfl) ?_
  intro p e s m below meth c hx hb hml hrt hlk hown hnm hts hk hr hz ls hl
  replace hown : s.vm.findClass RX0 = some m.cls := hown
  replace hl : lv_has ls 18 [(0, .ref u0), (1, .int u1), (2, .int u2)] := hl
  have hS : va_S (hA z) s.heap s.heap [] := va_S.rf
  suffices hgo : ∀ (H : Heap) (locs : List Loc), hR D z h H → va_S (hA z) s.heap H locs → W p l e ({ frames := 1, cells := 0, slots := 0, locals := 25 } : Room) s m ([.ref u0, .int u1, .int u2] : List Value).toArray below meth c H locs 0 0 (MQ below (hQ D z h (some (.long r))) ([.ref u0, .int u1, .int u2] : List Value).toArray s 0 0 (hA z)) (F0 m 0 ls []) from hgo _ _ hr hS
  clear hr hS
  intro H locs hr hS
  unfold zs_X0_guess at hs
  refine lv_aload_n hx hb dX0_guess_0 rfl (lv_at hl 0 rfl) ?_
  obtain ⟨x1, ex1, hs⟩ := bi_inv hs
  refine hv_gR (C := RX0) (T := TX0) (N := 5) (ci := 0) hx hb hts inX0 hown hk hr rfl 4 (by decide) (hts _ tw_147) ex1 dX0_guess_1 ?_
  refine lv_iload_n hx hb dX0_guess_4 rfl (lv_at hl 2 rfl) ?_
  refine lv_iconst (v := 1) hx hb dX0_guess_5 (by decide) ?_
  refine lv_isub hx hb dX0_guess_6 ?_
  obtain ⟨x2, ex2, hs⟩ := bi_inv hs
  refine hv_aJ hx hb hk hr ex2 dX0_guess_7 ?_
  refine lv_lstore_n (lv' := [(3, .long x2), (0, .ref u0), (1, .int u1), (2, .int u2)]) hx hb dX0_guess_8 rfl hl (by decide) rfl (fun ls hl => ?_)
  refine lv_aload_n hx hb dX0_guess_9 rfl (lv_at hl 1 rfl) ?_
  obtain ⟨x3, ex3, hs⟩ := bi_inv hs
  refine hv_gR (C := RX0) (T := TX0) (N := 5) (ci := 0) hx hb hts inX0 hown hk hr rfl 4 (by decide) (hts _ tw_147) ex3 dX0_guess_10 ?_
  refine lv_iload_n hx hb dX0_guess_13 rfl (lv_at hl 3 rfl) ?_
  refine lv_iconst (v := 2) hx hb dX0_guess_14 (by decide) ?_
  refine lv_isub hx hb dX0_guess_15 ?_
  obtain ⟨x4, ex4, hs⟩ := bi_inv hs
  refine hv_aJ hx hb hk hr ex4 dX0_guess_16 ?_
  refine lv_lstore (lv' := [(5, .long x4), (3, .long x2), (0, .ref u0), (1, .int u1), (2, .int u2)]) hx hb dX0_guess_17 hl (by decide) rfl (fun ls hl => ?_)
  refine lv_aload_n hx hb dX0_guess_19 rfl (lv_at hl 2 rfl) ?_
  obtain ⟨x5, ex5, hs⟩ := bi_inv hs
  refine hv_gR (C := RX0) (T := TX0) (N := 5) (ci := 0) hx hb hts inX0 hown hk hr rfl 3 (by decide) (hts _ tw_146) ex5 dX0_guess_20 ?_
  refine lv_iload_n hx hb dX0_guess_23 rfl (lv_at hl 3 rfl) ?_
  refine lv_iload_n hx hb dX0_guess_24 rfl (lv_at hl 4 rfl) ?_
  refine lv_iadd hx hb dX0_guess_25 ?_
  obtain ⟨x6, ex6, hs⟩ := bi_inv hs
  refine hv_aJ hx hb hk hr ex6 dX0_guess_26 ?_
  refine lv_bipush (v := 32) hx hb dX0_guess_27 (by decide) ?_
  refine lv_lshl hx hb dX0_guess_29 rfl ?_
  refine lv_aload_n hx hb dX0_guess_30 rfl (lv_at hl 2 rfl) ?_
  obtain ⟨x7, ex7, hs⟩ := bi_inv hs
  refine hv_gR (C := RX0) (T := TX0) (N := 5) (ci := 0) hx hb hts inX0 hown hk hr rfl 3 (by decide) (hts _ tw_146) ex7 dX0_guess_31 ?_
  refine lv_iload_n hx hb dX0_guess_34 rfl (lv_at hl 3 rfl) ?_
  refine lv_iload_n hx hb dX0_guess_35 rfl (lv_at hl 4 rfl) ?_
  refine lv_iadd hx hb dX0_guess_36 ?_
  refine lv_iconst (v := 1) hx hb dX0_guess_37 (by decide) ?_
  refine lv_isub hx hb dX0_guess_38 ?_
  obtain ⟨x8, ex8, hs⟩ := bi_inv hs
  refine hv_aJ hx hb hk hr ex8 dX0_guess_39 ?_
  refine lv_lor hx hb dX0_guess_40 ?_
  refine lv_topl (fun x9 ex9 => ?_)
  replace hs := lt_inv hs x9 ex9
  refine lv_lstore (lv' := [(7, .long x9), (5, .long x4), (3, .long x2), (0, .ref u0), (1, .int u1), (2, .int u2)]) hx hb dX0_guess_41 hl (by decide) rfl (fun ls hl => ?_)
  refine lv_lload hx hb dX0_guess_43 (lv_at hl 0 rfl) ?_
  refine lv_lload_n hx hb dX0_guess_45 rfl (lv_at hl 2 rfl) ?_
  obtain ⟨x10, ex10, hs⟩ := bi_inv hs
  refine hv_S1 (n := 2) [.long x9, .long x2] [] hx hb hml hown hts hk hr hz hS (zm_X8_quotientOfBits l D z ex10) tw_513 tw_390 tw_2 tw_391 (by decide +kernel) (by decide) ⟨(Nat.zero_le _), (Nat.zero_le _)⟩ rfl hl.1 (Nat.le_of_ble_eq_true rfl) dX0_guess_46 rfl (fun H locs hr hS => ?_)
  refine lv_lstore (lv' := [(9, .long x10), (7, .long x9), (5, .long x4), (3, .long x2), (0, .ref u0), (1, .int u1), (2, .int u2)]) hx hb dX0_guess_49 hl (by decide) rfl (fun ls hl => ?_)
  refine lv_lload hx hb dX0_guess_51 (lv_at hl 1 rfl) ?_
  refine lv_lload hx hb dX0_guess_53 (lv_at hl 0 rfl) ?_
  refine lv_lload_n hx hb dX0_guess_55 rfl (lv_at hl 3 rfl) ?_
  refine lv_lmul hx hb dX0_guess_56 ?_
  refine lv_lsub hx hb dX0_guess_57 ?_
  refine lv_topl (fun x11 ex11 => ?_)
  replace hs := lt_inv hs x11 ex11
  refine lv_lstore (lv' := [(11, .long x11), (9, .long x10), (7, .long x9), (5, .long x4), (3, .long x2), (0, .ref u0), (1, .int u1), (2, .int u2)]) hx hb dX0_guess_58 hl (by decide) rfl (fun ls hl => ?_)
  refine lv_iconst (v := 0) hx hb dX0_guess_60 (by decide) ?_
  refine lv_istore (lv' := [(13, .int ((0 : Int32))), (11, .long x11), (9, .long x10), (7, .long x9), (5, .long x4), (3, .long x2), (0, .ref u0), (1, .int u1), (2, .int u2)]) hx hb dX0_guess_61 hl (by decide) rfl (fun ls hl => ?_)
  obtain ⟨r22, er22, hs⟩ := bi_inv hs
  refine iter_W (fun (q : Int64 × Int64 × Int32) => ∀ (H : Heap) (locs : List Loc) (ls : Array Slot), hR D z h H → va_S (hA z) s.heap H locs → lv_has ls 18 [(0, .ref u0), (1, .int u1), (2, .int u2), (3, .long x2), (5, .long x4), (9, .long q.1), (11, .long q.2.1), (13, .int q.2.2)] → W p l e ({ frames := 1, cells := 0, slots := 0, locals := 25 } : Room) s m ([.ref u0, .int u1, .int u2] : List Value).toArray below meth c H locs 0 0 (MQ below (hQ D z h (some (.long r))) ([.ref u0, .int u1, .int u2] : List Value).toArray s 0 0 (hA z)) (F0 m 63 ls [])) (fun (x : Int64 ⊕ Int64) => (Sum.elim (fun x => ∀ (H : Heap) (locs : List Loc) (ls : Array Slot), hR D z h H → va_S (hA z) s.heap H locs → lv_has ls 18 [(9, .long x)] → W p l e ({ frames := 1, cells := 0, slots := 0, locals := 25 } : Room) s m ([.ref u0, .int u1, .int u2] : List Value).toArray below meth c H locs 0 0 (MQ below (hQ D z h (some (.long r))) ([.ref u0, .int u1, .int u2] : List Value).toArray s 0 0 (hA z)) (F0 m 128 ls [])) (fun x => ∀ (H : Heap) (locs : List Loc) (ls : Array Slot), hR D z h H → va_S (hA z) s.heap H locs → lv_has ls 18 [(9, .long x)] → W p l e ({ frames := 1, cells := 0, slots := 0, locals := 25 } : Room) s m ([.ref u0, .int u1, .int u2] : List Value).toArray below meth c H locs 0 0 (MQ below (hQ D z h (some (.long r))) ([.ref u0, .int u1, .int u2] : List Value).toArray s 0 0 (hA z)) (F0 m 149 ls []))) x) ?_ FU _ r22 er22 ?_ H locs ls hr hS (lv_sub hl [6, 7, 8, 5, 4, 2, 1, 0] rfl)
  · intro q o hs hcont hexit
    obtain ⟨w9, w11, w13⟩ := q
    replace hs : zb_X0_guess_63 h u0 u1 u2 x2 x4 w9 w11 w13 = some o := hs
    intro H locs ls hr hS hl
    have hJ131 : ∀ (y9_131 : Int64) (y11_131 : Int64) (y13_131 : Int32) (H : Heap) (locs : List Loc) (ls : Array Slot), zj_X0_guess_131 h u0 u1 u2 x2 x4 y9_131 y11_131 y13_131 = some o → hR D z h H → va_S (hA z) s.heap H locs → lv_has ls 18 [(0, .ref u0), (1, .int u1), (2, .int u2), (3, .long x2), (5, .long x4), (9, .long y9_131), (11, .long y11_131), (13, .int y13_131)] → W p l e ({ frames := 1, cells := 0, slots := 0, locals := 25 } : Room) s m ([.ref u0, .int u1, .int u2] : List Value).toArray below meth c H locs 0 0 (MQ below (hQ D z h (some (.long r))) ([.ref u0, .int u1, .int u2] : List Value).toArray s 0 0 (hA z)) (F0 m 131 ls []) := by
      intro y9_131 y11_131 y13_131 H locs ls hs hr hS hl
      unfold zj_X0_guess_131 at hs
      refine lv_lload hx hb dX0_guess_131 (lv_at hl 5 rfl) ?_
      refine lv_lconst (v := 1) hx hb dX0_guess_133 (by decide) ?_
      refine lv_lsub hx hb dX0_guess_134 ?_
      refine lv_topl (fun x19 ex19 => ?_)
      replace hs := lt_inv hs x19 ex19
      refine lv_lstore (lv' := [(9, .long x19), (0, .ref u0), (1, .int u1), (2, .int u2), (3, .long x2), (5, .long x4), (11, .long y11_131), (13, .int y13_131)]) hx hb dX0_guess_135 hl (by decide) rfl (fun ls hl => ?_)
      refine lv_lload hx hb dX0_guess_137 (lv_at hl 6 rfl) ?_
      refine lv_lload_n hx hb dX0_guess_139 rfl (lv_at hl 4 rfl) ?_
      refine lv_ladd hx hb dX0_guess_140 ?_
      refine lv_topl (fun x20 ex20 => ?_)
      replace hs := lt_inv hs x20 ex20
      refine lv_lstore (lv' := [(11, .long x20), (9, .long x19), (0, .ref u0), (1, .int u1), (2, .int u2), (3, .long x2), (5, .long x4), (13, .int y13_131)]) hx hb dX0_guess_141 hl (by decide) rfl (fun ls hl => ?_)
      refine lv_iinc (v := y13_131 + (1 : Int32)) (lv' := [(13, .int (y13_131 + (1 : Int32))), (11, .long x20), (9, .long x19), (0, .ref u0), (1, .int u1), (2, .int u2), (3, .long x2), (5, .long x4)]) hx hb dX0_guess_143 hl (k := 7) rfl (ii_v _ (by decide)) (by decide) rfl (fun ls hl => ?_)
      refine lv_goto (tgt := 63) hx hb dX0_guess_146 (by decide) ?_
      obtain rfl := Option.some.inj hs
      exact hcont _ rfl H locs ls hr hS (lv_sub hl [3, 4, 5, 6, 7, 2, 1, 0] rfl)
    unfold zb_X0_guess_63 at hs
    refine lv_iload hx hb dX0_guess_63 (lv_at hl 7 rfl) ?_
    refine lv_iconst (v := 2) hx hb dX0_guess_65 (by decide) ?_
    refine lv_icmp_ge (tgt := 149) hx hb dX0_guess_66 (by decide) (fun c12 => ?_) (fun c12 => ?_)
    · rw [if_pos c12] at hs
      obtain rfl := Option.some.inj hs
      exact hexit _ rfl H locs ls hr hS (lv_sub hl [5] rfl)
    · rw [if_neg c12] at hs
      refine lv_lload hx hb dX0_guess_69 (lv_at hl 6 rfl) ?_
      refine lv_ldc2 hx hb hown (hts _ tw_514) dX0_guess_71 ?_
      refine hv_lc_gt (tgt := 149) hx hb dX0_guess_74 dX0_guess_75 (by decide) (fun c13 => ?_) (fun c13 => ?_)
      · rw [if_pos c13] at hs
        obtain rfl := Option.some.inj hs
        exact hexit _ rfl H locs ls hr hS (lv_sub hl [5] rfl)
      · rw [if_neg c13] at hs
        refine lv_lload hx hb dX0_guess_78 (lv_at hl 5 rfl) ?_
        refine lv_lload hx hb dX0_guess_80 (lv_at hl 4 rfl) ?_
        refine lv_lmul hx hb dX0_guess_82 ?_
        refine lv_ldc2 hx hb hown (hts _ tw_515) dX0_guess_83 ?_
        refine lv_ladd hx hb dX0_guess_86 ?_
        refine lv_topl (fun x14 ex14 => ?_)
        replace hs := lt_inv hs x14 ex14
        refine lv_lstore (lv' := [(14, .long x14), (0, .ref u0), (1, .int u1), (2, .int u2), (3, .long x2), (5, .long x4), (9, .long w9), (11, .long w11), (13, .int w13)]) hx hb dX0_guess_87 hl (by decide) rfl (fun ls hl => ?_)
        refine lv_lload hx hb dX0_guess_89 (lv_at hl 7 rfl) ?_
        refine lv_bipush (v := 32) hx hb dX0_guess_91 (by decide) ?_
        refine lv_lshl hx hb dX0_guess_93 rfl ?_
        refine lv_aload_n hx hb dX0_guess_94 rfl (lv_at hl 1 rfl) ?_
        obtain ⟨x15, ex15, hs⟩ := bi_inv hs
        refine hv_gR (C := RX0) (T := TX0) (N := 5) (ci := 0) hx hb hts inX0 hown hk hr rfl 3 (by decide) (hts _ tw_146) ex15 dX0_guess_95 ?_
        refine lv_iload_n hx hb dX0_guess_98 rfl (lv_at hl 2 rfl) ?_
        refine lv_iload_n hx hb dX0_guess_99 rfl (lv_at hl 3 rfl) ?_
        refine lv_iadd hx hb dX0_guess_100 ?_
        refine lv_iconst (v := 2) hx hb dX0_guess_101 (by decide) ?_
        refine lv_isub hx hb dX0_guess_102 ?_
        obtain ⟨x16, ex16, hs⟩ := bi_inv hs
        refine hv_aJ hx hb hk hr ex16 dX0_guess_103 ?_
        refine lv_lor hx hb dX0_guess_104 ?_
        refine lv_ldc2 hx hb hown (hts _ tw_515) dX0_guess_105 ?_
        refine lv_ladd hx hb dX0_guess_108 ?_
        refine lv_topl (fun x17 ex17 => ?_)
        replace hs := lt_inv hs x17 ex17
        refine lv_lstore (lv' := [(16, .long x17), (14, .long x14), (0, .ref u0), (1, .int u1), (2, .int u2), (3, .long x2), (5, .long x4), (9, .long w9), (11, .long w11), (13, .int w13)]) hx hb dX0_guess_109 hl (by decide) rfl (fun ls hl => ?_)
        refine lv_lload hx hb dX0_guess_111 (lv_at hl 7 rfl) ?_
        refine lv_ldc2 hx hb hown (hts _ tw_514) dX0_guess_113 ?_
        refine hv_lc_gt (tgt := 131) hx hb dX0_guess_116 dX0_guess_117 (by decide) (fun c18 => ?_) (fun c18 => ?_)
        · rw [if_pos c18] at hs
          exact hJ131 w9 w11 w13 H locs ls hs hr hS (lv_sub hl [2, 3, 4, 5, 6, 7, 8, 9] rfl)
        · rw [if_neg c18] at hs
          refine lv_lload hx hb dX0_guess_120 (lv_at hl 1 rfl) ?_
          refine lv_lload hx hb dX0_guess_122 (lv_at hl 0 rfl) ?_
          refine hv_lc_gt (tgt := 131) hx hb dX0_guess_124 dX0_guess_125 (by decide) (fun c21 => ?_) (fun c21 => ?_)
          · rw [if_pos c21] at hs
            exact hJ131 w9 w11 w13 H locs ls hs hr hS (lv_sub hl [2, 3, 4, 5, 6, 7, 8, 9] rfl)
          · rw [if_neg c21] at hs
            obtain rfl := Option.some.inj hs
            exact hexit _ rfl H locs ls hr hS (lv_sub hl [7] rfl)
  · cases r22 with
    | inl r23 =>
      intro H locs ls hr hS hl
      replace hs := hs
      dsimp only at hs
      refine lv_goto (tgt := 149) hx hb dX0_guess_128 (by decide) ?_
      refine lv_lload hx hb dX0_guess_149 (lv_at hl 0 rfl) ?_
      obtain rfl := Option.some.inj hs
      exact hv_lret hx hb hrt hlk hr hS dX0_guess_151
    | inr r24 =>
      dsimp only at hs
      intro H locs ls hr hS hl
      refine lv_lload hx hb dX0_guess_149 (lv_at hl 0 rfl) ?_
      obtain rfl := Option.some.inj hs
      exact hv_lret hx hb hrt hlk hr hS dX0_guess_151
theorem dX0_giveBack_0 : decode cX0_giveBack 0 = .ok (.lconst 0, 1) := by decide +kernel
theorem dX0_giveBack_1 : decode cX0_giveBack 1 = .ok (.lstore_n 3, 1) := by decide +kernel
theorem dX0_giveBack_2 : decode cX0_giveBack 2 = .ok (.iconst 0, 1) := by decide +kernel
theorem dX0_giveBack_3 : decode cX0_giveBack 3 = .ok (.istore 5, 2) := by decide +kernel
theorem dX0_giveBack_5 : decode cX0_giveBack 5 = .ok (.iload 5, 2) := by decide +kernel
theorem dX0_giveBack_7 : decode cX0_giveBack 7 = .ok (.iload_n 2, 1) := by decide +kernel
theorem dX0_giveBack_8 : decode cX0_giveBack 8 = .ok (.if_icmp .ge 51, 3) := by decide +kernel
theorem dX0_giveBack_11 : decode cX0_giveBack 11 = .ok (.aload_n 0, 1) := by decide +kernel
theorem dX0_giveBack_12 : decode cX0_giveBack 12 = .ok (.getfield 28, 3) := by decide +kernel
theorem dX0_giveBack_15 : decode cX0_giveBack 15 = .ok (.iload 5, 2) := by decide +kernel
theorem dX0_giveBack_17 : decode cX0_giveBack 17 = .ok (.iload_n 1, 1) := by decide +kernel
theorem dX0_giveBack_18 : decode cX0_giveBack 18 = .ok (.iadd, 1) := by decide +kernel
theorem dX0_giveBack_19 : decode cX0_giveBack 19 = .ok (.laload, 1) := by decide +kernel
theorem dX0_giveBack_20 : decode cX0_giveBack 20 = .ok (.aload_n 0, 1) := by decide +kernel
theorem dX0_giveBack_21 : decode cX0_giveBack 21 = .ok (.getfield 32, 3) := by decide +kernel
theorem dX0_giveBack_24 : decode cX0_giveBack 24 = .ok (.iload 5, 2) := by decide +kernel
theorem dX0_giveBack_26 : decode cX0_giveBack 26 = .ok (.laload, 1) := by decide +kernel
theorem dX0_giveBack_27 : decode cX0_giveBack 27 = .ok (.ladd, 1) := by decide +kernel
theorem dX0_giveBack_28 : decode cX0_giveBack 28 = .ok (.lload_n 3, 1) := by decide +kernel
theorem dX0_giveBack_29 : decode cX0_giveBack 29 = .ok (.ladd, 1) := by decide +kernel
theorem dX0_giveBack_30 : decode cX0_giveBack 30 = .ok (.lstore 6, 2) := by decide +kernel
theorem dX0_giveBack_32 : decode cX0_giveBack 32 = .ok (.aload_n 0, 1) := by decide +kernel
theorem dX0_giveBack_33 : decode cX0_giveBack 33 = .ok (.getfield 28, 3) := by decide +kernel
theorem dX0_giveBack_36 : decode cX0_giveBack 36 = .ok (.iload 5, 2) := by decide +kernel
theorem dX0_giveBack_38 : decode cX0_giveBack 38 = .ok (.iload_n 1, 1) := by decide +kernel
theorem dX0_giveBack_39 : decode cX0_giveBack 39 = .ok (.iadd, 1) := by decide +kernel
theorem dX0_giveBack_40 : decode cX0_giveBack 40 = .ok (.lload 6, 2) := by decide +kernel
theorem dX0_giveBack_42 : decode cX0_giveBack 42 = .ok (.ldc2_w 103, 3) := by decide +kernel
theorem dX0_giveBack_45 : decode cX0_giveBack 45 = .ok (.land, 1) := by decide +kernel
theorem dX0_giveBack_46 : decode cX0_giveBack 46 = .ok (.lastore, 1) := by decide +kernel
theorem dX0_giveBack_47 : decode cX0_giveBack 47 = .ok (.lload 6, 2) := by decide +kernel
theorem dX0_giveBack_49 : decode cX0_giveBack 49 = .ok (.bipush 32, 2) := by decide +kernel
theorem dX0_giveBack_51 : decode cX0_giveBack 51 = .ok (.lushr, 1) := by decide +kernel
theorem dX0_giveBack_52 : decode cX0_giveBack 52 = .ok (.lstore_n 3, 1) := by decide +kernel
theorem dX0_giveBack_53 : decode cX0_giveBack 53 = .ok (.iinc 5 1, 3) := by decide +kernel
theorem dX0_giveBack_56 : decode cX0_giveBack 56 = .ok (.goto (-51), 3) := by decide +kernel
theorem dX0_giveBack_59 : decode cX0_giveBack 59 = .ok (.aload_n 0, 1) := by decide +kernel
theorem dX0_giveBack_60 : decode cX0_giveBack 60 = .ok (.getfield 28, 3) := by decide +kernel
theorem dX0_giveBack_63 : decode cX0_giveBack 63 = .ok (.iload_n 1, 1) := by decide +kernel
theorem dX0_giveBack_64 : decode cX0_giveBack 64 = .ok (.iload_n 2, 1) := by decide +kernel
theorem dX0_giveBack_65 : decode cX0_giveBack 65 = .ok (.iadd, 1) := by decide +kernel
theorem dX0_giveBack_66 : decode cX0_giveBack 66 = .ok (.aload_n 0, 1) := by decide +kernel
theorem dX0_giveBack_67 : decode cX0_giveBack 67 = .ok (.getfield 28, 3) := by decide +kernel
theorem dX0_giveBack_70 : decode cX0_giveBack 70 = .ok (.iload_n 1, 1) := by decide +kernel
theorem dX0_giveBack_71 : decode cX0_giveBack 71 = .ok (.iload_n 2, 1) := by decide +kernel
theorem dX0_giveBack_72 : decode cX0_giveBack 72 = .ok (.iadd, 1) := by decide +kernel
theorem dX0_giveBack_73 : decode cX0_giveBack 73 = .ok (.laload, 1) := by decide +kernel
theorem dX0_giveBack_74 : decode cX0_giveBack 74 = .ok (.lload_n 3, 1) := by decide +kernel
theorem dX0_giveBack_75 : decode cX0_giveBack 75 = .ok (.ladd, 1) := by decide +kernel
theorem dX0_giveBack_76 : decode cX0_giveBack 76 = .ok (.ldc2_w 103, 3) := by decide +kernel
theorem dX0_giveBack_79 : decode cX0_giveBack 79 = .ok (.land, 1) := by decide +kernel
theorem dX0_giveBack_80 : decode cX0_giveBack 80 = .ok (.lastore, 1) := by decide +kernel
theorem dX0_giveBack_81 : decode cX0_giveBack 81 = .ok (.return_, 1) := by decide +kernel
def zb_X0_giveBack_5 (w0 : Nat) (w1 : Int32) (w2 : Int32) (g1 : AH) (w3 : Int64) (w5 : Int32) : Option ((AH × Int64 × Int32) ⊕ ((AH × Int64))) :=
  (if w2 ≤ w5 then some (Sum.inr ((g1, w3))) else (gR g1 w0 0 3).bind fun x3 => (aJ g1 x3 1 (w5 + w1)).bind fun x4 => (gR g1 w0 0 4).bind fun x5 => (aJ g1 x5 1 w5).bind fun x6 => lt_ ((x4 + x6) + w3) fun x7 => (gR g1 w0 0 3).bind fun x8 => (sJ g1 x8 1 (w5 + w1) (x7 &&& ((4294967295 : Int64)))).bind fun g9 => lt_ ((x7.toUInt64 >>> (((32 : Int32)).toInt64.toUInt64 &&& Int64.toUInt64 63)).toInt64) fun x10 => some (Sum.inl ((g9, x10, w5 + (1 : Int32)))))
def zs_X0_giveBack (h : AH) (u0 : Nat) (u1 : Int32) (u2 : Int32) : Option AH :=
  (iter (fun q : AH × Int64 × Int32 => zb_X0_giveBack_5 u0 u1 u2 q.1 q.2.1 q.2.2) FU ((h, (0 : Int64), (0 : Int32)))).bind fun r11 => (gR r11.1 u0 0 3).bind fun x12 => (gR r11.1 u0 0 3).bind fun x13 => (aJ r11.1 x13 1 (u1 + u2)).bind fun x14 => (sJ r11.1 x12 1 (u1 + u2) ((x14 + r11.2) &&& ((4294967295 : Int64)))).bind fun g15 => some g15
set_option maxRecDepth 100000 in
set_option maxHeartbeats 4000000 in
theorem zm_X0_giveBack (l : Launch) (D : hG) (z : Nat) {h : AH} {u0 : Nat} {u1 : Int32} {u2 : Int32} {h' : AH} (hs : zs_X0_giveBack h u0 u1 u2 = some h') : hC l D z yX0_giveBack cX0_giveBack 8 (Option.none : Option Jvm.ClassFile.FieldType) 0 0 0 0 [.ref u0, .int u1, .int u2] h h' none := by
  refine hC_of (by decide) (Nat.le_of_ble_eq_true rfl) ?_
  intro p e s m below meth c hx hb hml hrt hlk hown hnm hts hk hr hz ls hl
  replace hown : s.vm.findClass RX0 = some m.cls := hown
  replace hl : lv_has ls 8 [(0, .ref u0), (1, .int u1), (2, .int u2)] := hl
  have hS : va_S (hA z) s.heap s.heap [] := va_S.rf
  suffices hgo : ∀ (H : Heap) (locs : List Loc), hR D z h H → va_S (hA z) s.heap H locs → W p l e ({ frames := 0, cells := 0, slots := 0, locals := 0 } : Room) s m ([.ref u0, .int u1, .int u2] : List Value).toArray below meth c H locs 0 0 (MQ below (hQ D z h' none) ([.ref u0, .int u1, .int u2] : List Value).toArray s 0 0 (hA z)) (F0 m 0 ls []) from hgo _ _ hr hS
  clear hr hS
  intro H locs hr hS
  unfold zs_X0_giveBack at hs
  refine lv_lconst (v := 0) hx hb dX0_giveBack_0 (by decide) ?_
  refine lv_lstore_n (lv' := [(3, .long ((0 : Int64))), (0, .ref u0), (1, .int u1), (2, .int u2)]) hx hb dX0_giveBack_1 rfl hl (by decide) rfl (fun ls hl => ?_)
  refine lv_iconst (v := 0) hx hb dX0_giveBack_2 (by decide) ?_
  refine lv_istore (lv' := [(5, .int ((0 : Int32))), (3, .long ((0 : Int64))), (0, .ref u0), (1, .int u1), (2, .int u2)]) hx hb dX0_giveBack_3 hl (by decide) rfl (fun ls hl => ?_)
  obtain ⟨r11, er11, hs⟩ := bi_inv hs
  refine iter_W (fun (q : AH × Int64 × Int32) => ∀ (H : Heap) (locs : List Loc) (ls : Array Slot), hR D z q.1 H → va_S (hA z) s.heap H locs → lv_has ls 8 [(0, .ref u0), (1, .int u1), (2, .int u2), (3, .long q.2.1), (5, .int q.2.2)] → W p l e ({ frames := 0, cells := 0, slots := 0, locals := 0 } : Room) s m ([.ref u0, .int u1, .int u2] : List Value).toArray below meth c H locs 0 0 (MQ below (hQ D z h' none) ([.ref u0, .int u1, .int u2] : List Value).toArray s 0 0 (hA z)) (F0 m 5 ls [])) (fun (x : (AH × Int64)) => ∀ (H : Heap) (locs : List Loc) (ls : Array Slot), hR D z x.1 H → va_S (hA z) s.heap H locs → lv_has ls 8 [(0, .ref u0), (1, .int u1), (2, .int u2), (3, .long x.2)] → W p l e ({ frames := 0, cells := 0, slots := 0, locals := 0 } : Room) s m ([.ref u0, .int u1, .int u2] : List Value).toArray below meth c H locs 0 0 (MQ below (hQ D z h' none) ([.ref u0, .int u1, .int u2] : List Value).toArray s 0 0 (hA z)) (F0 m 59 ls [])) ?_ FU _ r11 er11 ?_ H locs ls hr hS (lv_sub hl [2, 3, 4, 1, 0] rfl)
  · intro q o hs hcont hexit
    obtain ⟨g1, w3, w5⟩ := q
    replace hs : zb_X0_giveBack_5 u0 u1 u2 g1 w3 w5 = some o := hs
    intro H locs ls hr hS hl
    unfold zb_X0_giveBack_5 at hs
    refine lv_iload hx hb dX0_giveBack_5 (lv_at hl 4 rfl) ?_
    refine lv_iload_n hx hb dX0_giveBack_7 rfl (lv_at hl 2 rfl) ?_
    refine lv_icmp_ge (tgt := 59) hx hb dX0_giveBack_8 (by decide) (fun c2 => ?_) (fun c2 => ?_)
    · rw [if_pos c2] at hs
      obtain rfl := Option.some.inj hs
      exact hexit _ rfl H locs ls hr hS (lv_sub hl [0, 1, 2, 3] rfl)
    · rw [if_neg c2] at hs
      refine lv_aload_n hx hb dX0_giveBack_11 rfl (lv_at hl 0 rfl) ?_
      obtain ⟨x3, ex3, hs⟩ := bi_inv hs
      refine hv_gR (C := RX0) (T := TX0) (N := 5) (ci := 0) hx hb hts inX0 hown hk hr rfl 3 (by decide) (hts _ tw_146) ex3 dX0_giveBack_12 ?_
      refine lv_iload hx hb dX0_giveBack_15 (lv_at hl 4 rfl) ?_
      refine lv_iload_n hx hb dX0_giveBack_17 rfl (lv_at hl 1 rfl) ?_
      refine lv_iadd hx hb dX0_giveBack_18 ?_
      obtain ⟨x4, ex4, hs⟩ := bi_inv hs
      refine hv_aJ hx hb hk hr ex4 dX0_giveBack_19 ?_
      refine lv_aload_n hx hb dX0_giveBack_20 rfl (lv_at hl 0 rfl) ?_
      obtain ⟨x5, ex5, hs⟩ := bi_inv hs
      refine hv_gR (C := RX0) (T := TX0) (N := 5) (ci := 0) hx hb hts inX0 hown hk hr rfl 4 (by decide) (hts _ tw_147) ex5 dX0_giveBack_21 ?_
      refine lv_iload hx hb dX0_giveBack_24 (lv_at hl 4 rfl) ?_
      obtain ⟨x6, ex6, hs⟩ := bi_inv hs
      refine hv_aJ hx hb hk hr ex6 dX0_giveBack_26 ?_
      refine lv_ladd hx hb dX0_giveBack_27 ?_
      refine lv_lload_n hx hb dX0_giveBack_28 rfl (lv_at hl 3 rfl) ?_
      refine lv_ladd hx hb dX0_giveBack_29 ?_
      refine lv_topl (fun x7 ex7 => ?_)
      replace hs := lt_inv hs x7 ex7
      refine lv_lstore (lv' := [(6, .long x7), (0, .ref u0), (1, .int u1), (2, .int u2), (3, .long w3), (5, .int w5)]) hx hb dX0_giveBack_30 hl (by decide) rfl (fun ls hl => ?_)
      refine lv_aload_n hx hb dX0_giveBack_32 rfl (lv_at hl 1 rfl) ?_
      obtain ⟨x8, ex8, hs⟩ := bi_inv hs
      refine hv_gR (C := RX0) (T := TX0) (N := 5) (ci := 0) hx hb hts inX0 hown hk hr rfl 3 (by decide) (hts _ tw_146) ex8 dX0_giveBack_33 ?_
      refine lv_iload hx hb dX0_giveBack_36 (lv_at hl 5 rfl) ?_
      refine lv_iload_n hx hb dX0_giveBack_38 rfl (lv_at hl 2 rfl) ?_
      refine lv_iadd hx hb dX0_giveBack_39 ?_
      refine lv_lload hx hb dX0_giveBack_40 (lv_at hl 0 rfl) ?_
      refine lv_ldc2 hx hb hown (hts _ tw_514) dX0_giveBack_42 ?_
      refine lv_land hx hb dX0_giveBack_45 ?_
      obtain ⟨g9, eg9, hs⟩ := bi_inv hs
      refine hv_sJ hx hb hk hr hS eg9 dX0_giveBack_46 (fun H locs hr hS => ?_)
      refine lv_lload hx hb dX0_giveBack_47 (lv_at hl 0 rfl) ?_
      refine lv_bipush (v := 32) hx hb dX0_giveBack_49 (by decide) ?_
      refine lv_lushr hx hb dX0_giveBack_51 rfl ?_
      refine lv_topl (fun x10 ex10 => ?_)
      replace hs := lt_inv hs x10 ex10
      refine lv_lstore_n (lv' := [(3, .long x10), (6, .long x7), (0, .ref u0), (1, .int u1), (2, .int u2), (5, .int w5)]) hx hb dX0_giveBack_52 rfl hl (by decide) rfl (fun ls hl => ?_)
      refine lv_iinc (v := w5 + (1 : Int32)) (lv' := [(5, .int (w5 + (1 : Int32))), (3, .long x10), (6, .long x7), (0, .ref u0), (1, .int u1), (2, .int u2)]) hx hb dX0_giveBack_53 hl (k := 5) rfl (ii_v _ (by decide)) (by decide) rfl (fun ls hl => ?_)
      refine lv_goto (tgt := 5) hx hb dX0_giveBack_56 (by decide) ?_
      obtain rfl := Option.some.inj hs
      exact hcont _ rfl H locs ls hr hS (lv_sub hl [3, 4, 5, 1, 0] rfl)
  · intro H locs ls hr hS hl
    refine lv_aload_n hx hb dX0_giveBack_59 rfl (lv_at hl 0 rfl) ?_
    obtain ⟨x12, ex12, hs⟩ := bi_inv hs
    refine hv_gR (C := RX0) (T := TX0) (N := 5) (ci := 0) hx hb hts inX0 hown hk hr rfl 3 (by decide) (hts _ tw_146) ex12 dX0_giveBack_60 ?_
    refine lv_iload_n hx hb dX0_giveBack_63 rfl (lv_at hl 1 rfl) ?_
    refine lv_iload_n hx hb dX0_giveBack_64 rfl (lv_at hl 2 rfl) ?_
    refine lv_iadd hx hb dX0_giveBack_65 ?_
    refine lv_aload_n hx hb dX0_giveBack_66 rfl (lv_at hl 0 rfl) ?_
    obtain ⟨x13, ex13, hs⟩ := bi_inv hs
    refine hv_gR (C := RX0) (T := TX0) (N := 5) (ci := 0) hx hb hts inX0 hown hk hr rfl 3 (by decide) (hts _ tw_146) ex13 dX0_giveBack_67 ?_
    refine lv_iload_n hx hb dX0_giveBack_70 rfl (lv_at hl 1 rfl) ?_
    refine lv_iload_n hx hb dX0_giveBack_71 rfl (lv_at hl 2 rfl) ?_
    refine lv_iadd hx hb dX0_giveBack_72 ?_
    obtain ⟨x14, ex14, hs⟩ := bi_inv hs
    refine hv_aJ hx hb hk hr ex14 dX0_giveBack_73 ?_
    refine lv_lload_n hx hb dX0_giveBack_74 rfl (lv_at hl 3 rfl) ?_
    refine lv_ladd hx hb dX0_giveBack_75 ?_
    refine lv_ldc2 hx hb hown (hts _ tw_514) dX0_giveBack_76 ?_
    refine lv_land hx hb dX0_giveBack_79 ?_
    obtain ⟨g15, eg15, hs⟩ := bi_inv hs
    refine hv_sJ hx hb hk hr hS eg15 dX0_giveBack_80 (fun H locs hr hS => ?_)
    obtain rfl := Option.some.inj hs
    exact hv_vret hx hb hrt hlk hr hS dX0_giveBack_81
theorem dX0_takeAway_0 : decode cX0_takeAway 0 = .ok (.lconst 0, 1) := by decide +kernel
theorem dX0_takeAway_1 : decode cX0_takeAway 1 = .ok (.lstore 5, 2) := by decide +kernel
theorem dX0_takeAway_3 : decode cX0_takeAway 3 = .ok (.lconst 0, 1) := by decide +kernel
theorem dX0_takeAway_4 : decode cX0_takeAway 4 = .ok (.lstore 7, 2) := by decide +kernel
theorem dX0_takeAway_6 : decode cX0_takeAway 6 = .ok (.iconst 0, 1) := by decide +kernel
theorem dX0_takeAway_7 : decode cX0_takeAway 7 = .ok (.istore 9, 2) := by decide +kernel
theorem dX0_takeAway_9 : decode cX0_takeAway 9 = .ok (.iload 9, 2) := by decide +kernel
theorem dX0_takeAway_11 : decode cX0_takeAway 11 = .ok (.iload_n 2, 1) := by decide +kernel
theorem dX0_takeAway_12 : decode cX0_takeAway 12 = .ok (.if_icmp .ge 80, 3) := by decide +kernel
theorem dX0_takeAway_15 : decode cX0_takeAway 15 = .ok (.lload_n 3, 1) := by decide +kernel
theorem dX0_takeAway_16 : decode cX0_takeAway 16 = .ok (.aload_n 0, 1) := by decide +kernel
theorem dX0_takeAway_17 : decode cX0_takeAway 17 = .ok (.getfield 32, 3) := by decide +kernel
theorem dX0_takeAway_20 : decode cX0_takeAway 20 = .ok (.iload 9, 2) := by decide +kernel
theorem dX0_takeAway_22 : decode cX0_takeAway 22 = .ok (.laload, 1) := by decide +kernel
theorem dX0_takeAway_23 : decode cX0_takeAway 23 = .ok (.lmul, 1) := by decide +kernel
theorem dX0_takeAway_24 : decode cX0_takeAway 24 = .ok (.lload 5, 2) := by decide +kernel
theorem dX0_takeAway_26 : decode cX0_takeAway 26 = .ok (.ladd, 1) := by decide +kernel
theorem dX0_takeAway_27 : decode cX0_takeAway 27 = .ok (.lstore 10, 2) := by decide +kernel
theorem dX0_takeAway_29 : decode cX0_takeAway 29 = .ok (.lload 10, 2) := by decide +kernel
theorem dX0_takeAway_31 : decode cX0_takeAway 31 = .ok (.bipush 32, 2) := by decide +kernel
theorem dX0_takeAway_33 : decode cX0_takeAway 33 = .ok (.lushr, 1) := by decide +kernel
theorem dX0_takeAway_34 : decode cX0_takeAway 34 = .ok (.lstore 5, 2) := by decide +kernel
theorem dX0_takeAway_36 : decode cX0_takeAway 36 = .ok (.aload_n 0, 1) := by decide +kernel
theorem dX0_takeAway_37 : decode cX0_takeAway 37 = .ok (.getfield 28, 3) := by decide +kernel
theorem dX0_takeAway_40 : decode cX0_takeAway 40 = .ok (.iload 9, 2) := by decide +kernel
theorem dX0_takeAway_42 : decode cX0_takeAway 42 = .ok (.iload_n 1, 1) := by decide +kernel
theorem dX0_takeAway_43 : decode cX0_takeAway 43 = .ok (.iadd, 1) := by decide +kernel
theorem dX0_takeAway_44 : decode cX0_takeAway 44 = .ok (.laload, 1) := by decide +kernel
theorem dX0_takeAway_45 : decode cX0_takeAway 45 = .ok (.lload 10, 2) := by decide +kernel
theorem dX0_takeAway_47 : decode cX0_takeAway 47 = .ok (.ldc2_w 103, 3) := by decide +kernel
theorem dX0_takeAway_50 : decode cX0_takeAway 50 = .ok (.land, 1) := by decide +kernel
theorem dX0_takeAway_51 : decode cX0_takeAway 51 = .ok (.lsub, 1) := by decide +kernel
theorem dX0_takeAway_52 : decode cX0_takeAway 52 = .ok (.lload 7, 2) := by decide +kernel
theorem dX0_takeAway_54 : decode cX0_takeAway 54 = .ok (.lsub, 1) := by decide +kernel
theorem dX0_takeAway_55 : decode cX0_takeAway 55 = .ok (.lstore 12, 2) := by decide +kernel
theorem dX0_takeAway_57 : decode cX0_takeAway 57 = .ok (.aload_n 0, 1) := by decide +kernel
theorem dX0_takeAway_58 : decode cX0_takeAway 58 = .ok (.getfield 28, 3) := by decide +kernel
theorem dX0_takeAway_61 : decode cX0_takeAway 61 = .ok (.iload 9, 2) := by decide +kernel
theorem dX0_takeAway_63 : decode cX0_takeAway 63 = .ok (.iload_n 1, 1) := by decide +kernel
theorem dX0_takeAway_64 : decode cX0_takeAway 64 = .ok (.iadd, 1) := by decide +kernel
theorem dX0_takeAway_65 : decode cX0_takeAway 65 = .ok (.lload 12, 2) := by decide +kernel
theorem dX0_takeAway_67 : decode cX0_takeAway 67 = .ok (.ldc2_w 103, 3) := by decide +kernel
theorem dX0_takeAway_70 : decode cX0_takeAway 70 = .ok (.land, 1) := by decide +kernel
theorem dX0_takeAway_71 : decode cX0_takeAway 71 = .ok (.lastore, 1) := by decide +kernel
theorem dX0_takeAway_72 : decode cX0_takeAway 72 = .ok (.lload 12, 2) := by decide +kernel
theorem dX0_takeAway_74 : decode cX0_takeAway 74 = .ok (.lconst 0, 1) := by decide +kernel
theorem dX0_takeAway_75 : decode cX0_takeAway 75 = .ok (.lcmp, 1) := by decide +kernel
theorem dX0_takeAway_76 : decode cX0_takeAway 76 = .ok (.ifCond .ge 7, 3) := by decide +kernel
theorem dX0_takeAway_79 : decode cX0_takeAway 79 = .ok (.lconst 1, 1) := by decide +kernel
theorem dX0_takeAway_80 : decode cX0_takeAway 80 = .ok (.goto 4, 3) := by decide +kernel
theorem dX0_takeAway_83 : decode cX0_takeAway 83 = .ok (.lconst 0, 1) := by decide +kernel
theorem dX0_takeAway_84 : decode cX0_takeAway 84 = .ok (.lstore 7, 2) := by decide +kernel
theorem dX0_takeAway_86 : decode cX0_takeAway 86 = .ok (.iinc 9 1, 3) := by decide +kernel
theorem dX0_takeAway_89 : decode cX0_takeAway 89 = .ok (.goto (-80), 3) := by decide +kernel
theorem dX0_takeAway_92 : decode cX0_takeAway 92 = .ok (.aload_n 0, 1) := by decide +kernel
theorem dX0_takeAway_93 : decode cX0_takeAway 93 = .ok (.getfield 28, 3) := by decide +kernel
theorem dX0_takeAway_96 : decode cX0_takeAway 96 = .ok (.iload_n 1, 1) := by decide +kernel
theorem dX0_takeAway_97 : decode cX0_takeAway 97 = .ok (.iload_n 2, 1) := by decide +kernel
theorem dX0_takeAway_98 : decode cX0_takeAway 98 = .ok (.iadd, 1) := by decide +kernel
theorem dX0_takeAway_99 : decode cX0_takeAway 99 = .ok (.laload, 1) := by decide +kernel
theorem dX0_takeAway_100 : decode cX0_takeAway 100 = .ok (.lload 5, 2) := by decide +kernel
theorem dX0_takeAway_102 : decode cX0_takeAway 102 = .ok (.lsub, 1) := by decide +kernel
theorem dX0_takeAway_103 : decode cX0_takeAway 103 = .ok (.lload 7, 2) := by decide +kernel
theorem dX0_takeAway_105 : decode cX0_takeAway 105 = .ok (.lsub, 1) := by decide +kernel
theorem dX0_takeAway_106 : decode cX0_takeAway 106 = .ok (.lstore 9, 2) := by decide +kernel
theorem dX0_takeAway_108 : decode cX0_takeAway 108 = .ok (.aload_n 0, 1) := by decide +kernel
theorem dX0_takeAway_109 : decode cX0_takeAway 109 = .ok (.getfield 28, 3) := by decide +kernel
theorem dX0_takeAway_112 : decode cX0_takeAway 112 = .ok (.iload_n 1, 1) := by decide +kernel
theorem dX0_takeAway_113 : decode cX0_takeAway 113 = .ok (.iload_n 2, 1) := by decide +kernel
theorem dX0_takeAway_114 : decode cX0_takeAway 114 = .ok (.iadd, 1) := by decide +kernel
theorem dX0_takeAway_115 : decode cX0_takeAway 115 = .ok (.lload 9, 2) := by decide +kernel
theorem dX0_takeAway_117 : decode cX0_takeAway 117 = .ok (.ldc2_w 103, 3) := by decide +kernel
theorem dX0_takeAway_120 : decode cX0_takeAway 120 = .ok (.land, 1) := by decide +kernel
theorem dX0_takeAway_121 : decode cX0_takeAway 121 = .ok (.lastore, 1) := by decide +kernel
theorem dX0_takeAway_122 : decode cX0_takeAway 122 = .ok (.lload 9, 2) := by decide +kernel
theorem dX0_takeAway_124 : decode cX0_takeAway 124 = .ok (.lconst 0, 1) := by decide +kernel
theorem dX0_takeAway_125 : decode cX0_takeAway 125 = .ok (.lcmp, 1) := by decide +kernel
theorem dX0_takeAway_126 : decode cX0_takeAway 126 = .ok (.ifCond .lt 5, 3) := by decide +kernel
theorem dX0_takeAway_129 : decode cX0_takeAway 129 = .ok (.lload_n 3, 1) := by decide +kernel
theorem dX0_takeAway_130 : decode cX0_takeAway 130 = .ok (.lreturn, 1) := by decide +kernel
theorem dX0_takeAway_131 : decode cX0_takeAway 131 = .ok (.aload_n 0, 1) := by decide +kernel
theorem dX0_takeAway_132 : decode cX0_takeAway 132 = .ok (.iload_n 1, 1) := by decide +kernel
theorem dX0_takeAway_133 : decode cX0_takeAway 133 = .ok (.iload_n 2, 1) := by decide +kernel
theorem dX0_takeAway_134 : decode cX0_takeAway 134 = .ok (.invokevirtual 111, 3) := by decide +kernel
theorem dX0_takeAway_137 : decode cX0_takeAway 137 = .ok (.lload_n 3, 1) := by decide +kernel
theorem dX0_takeAway_138 : decode cX0_takeAway 138 = .ok (.lconst 1, 1) := by decide +kernel
theorem dX0_takeAway_139 : decode cX0_takeAway 139 = .ok (.lsub, 1) := by decide +kernel
theorem dX0_takeAway_140 : decode cX0_takeAway 140 = .ok (.lreturn, 1) := by decide +kernel
def zb_X0_takeAway_9 (w0 : Nat) (w1 : Int32) (w2 : Int32) (w3 : Int64) (g1 : AH) (w5 : Int64) (w7 : Int64) (w9 : Int32) : Option ((AH × Int64 × Int64 × Int32) ⊕ ((AH × Int64 × Int64))) :=
  (if w2 ≤ w9 then some (Sum.inr ((g1, w5, w7))) else (gR g1 w0 0 4).bind fun x3 => (aJ g1 x3 1 w9).bind fun x4 => lt_ ((w3 * x4) + w5) fun x5 => lt_ ((x5.toUInt64 >>> (((32 : Int32)).toInt64.toUInt64 &&& Int64.toUInt64 63)).toInt64) fun x6 => (gR g1 w0 0 3).bind fun x7 => (aJ g1 x7 1 (w9 + w1)).bind fun x8 => lt_ ((x8 - (x5 &&& ((4294967295 : Int64)))) - w7) fun x9 => (gR g1 w0 0 3).bind fun x10 => (sJ g1 x10 1 (w9 + w1) (x9 &&& ((4294967295 : Int64)))).bind fun g11 => (if (0 : Int64) ≤ x9 then some (Sum.inl ((g11, x6, (0 : Int64), w9 + (1 : Int32)))) else some (Sum.inl ((g11, x6, (1 : Int64), w9 + (1 : Int32))))))
def zs_X0_takeAway (h : AH) (u0 : Nat) (u1 : Int32) (u2 : Int32) (u3 : Int64) : Option (Int64 × AH) :=
  (iter (fun q : AH × Int64 × Int64 × Int32 => zb_X0_takeAway_9 u0 u1 u2 u3 q.1 q.2.1 q.2.2.1 q.2.2.2) FU ((h, (0 : Int64), (0 : Int64), (0 : Int32)))).bind fun r13 => (gR r13.1 u0 0 3).bind fun x14 => (aJ r13.1 x14 1 (u1 + u2)).bind fun x15 => lt_ ((x15 - r13.2.1) - r13.2.2) fun x16 => (gR r13.1 u0 0 3).bind fun x17 => (sJ r13.1 x17 1 (u1 + u2) (x16 &&& ((4294967295 : Int64)))).bind fun g18 => (if x16 < (0 : Int64) then (chk g18 u0 0).bind fun _ => (zs_X0_giveBack g18 u0 u1 u2).bind fun g21 => some (u3 - ((1 : Int64)), g21) else some (u3, g18))
set_option maxRecDepth 100000 in
set_option maxHeartbeats 4000000 in
theorem zm_X0_takeAway (l : Launch) (D : hG) (z : Nat) {h : AH} {u0 : Nat} {u1 : Int32} {u2 : Int32} {u3 : Int64} {r : Int64} {h' : AH} (hs : zs_X0_takeAway h u0 u1 u2 u3 = some (r, h')) : hC l D z yX0_takeAway cX0_takeAway 14 (Option.some Jvm.ClassFile.FieldType.long) 1 27 0 0 [.ref u0, .int u1, .int u2, .long u3] h h' (some (.long r)) := by
  refine hC_of (by decide) (Nat.le_of_ble_eq_true rfl) ?_
  intro p e s m below meth c hx hb hml hrt hlk hown hnm hts hk hr hz ls hl
  replace hown : s.vm.findClass RX0 = some m.cls := hown
  replace hl : lv_has ls 14 [(0, .ref u0), (1, .int u1), (2, .int u2), (3, .long u3)] := hl
  have hS : va_S (hA z) s.heap s.heap [] := va_S.rf
  suffices hgo : ∀ (H : Heap) (locs : List Loc), hR D z h H → va_S (hA z) s.heap H locs → W p l e ({ frames := 1, cells := 0, slots := 0, locals := 27 } : Room) s m ([.ref u0, .int u1, .int u2, .long u3] : List Value).toArray below meth c H locs 0 0 (MQ below (hQ D z h' (some (.long r))) ([.ref u0, .int u1, .int u2, .long u3] : List Value).toArray s 0 0 (hA z)) (F0 m 0 ls []) from hgo _ _ hr hS
  clear hr hS
  intro H locs hr hS
  unfold zs_X0_takeAway at hs
  refine lv_lconst (v := 0) hx hb dX0_takeAway_0 (by decide) ?_
  refine lv_lstore (lv' := [(5, .long ((0 : Int64))), (0, .ref u0), (1, .int u1), (2, .int u2), (3, .long u3)]) hx hb dX0_takeAway_1 hl (by decide) rfl (fun ls hl => ?_)
  refine lv_lconst (v := 0) hx hb dX0_takeAway_3 (by decide) ?_
  refine lv_lstore (lv' := [(7, .long ((0 : Int64))), (5, .long ((0 : Int64))), (0, .ref u0), (1, .int u1), (2, .int u2), (3, .long u3)]) hx hb dX0_takeAway_4 hl (by decide) rfl (fun ls hl => ?_)
  refine lv_iconst (v := 0) hx hb dX0_takeAway_6 (by decide) ?_
  refine lv_istore (lv' := [(9, .int ((0 : Int32))), (7, .long ((0 : Int64))), (5, .long ((0 : Int64))), (0, .ref u0), (1, .int u1), (2, .int u2), (3, .long u3)]) hx hb dX0_takeAway_7 hl (by decide) rfl (fun ls hl => ?_)
  obtain ⟨r13, er13, hs⟩ := bi_inv hs
  refine iter_W (fun (q : AH × Int64 × Int64 × Int32) => ∀ (H : Heap) (locs : List Loc) (ls : Array Slot), hR D z q.1 H → va_S (hA z) s.heap H locs → lv_has ls 14 [(0, .ref u0), (1, .int u1), (2, .int u2), (3, .long u3), (5, .long q.2.1), (7, .long q.2.2.1), (9, .int q.2.2.2)] → W p l e ({ frames := 1, cells := 0, slots := 0, locals := 27 } : Room) s m ([.ref u0, .int u1, .int u2, .long u3] : List Value).toArray below meth c H locs 0 0 (MQ below (hQ D z h' (some (.long r))) ([.ref u0, .int u1, .int u2, .long u3] : List Value).toArray s 0 0 (hA z)) (F0 m 9 ls [])) (fun (x : (AH × Int64 × Int64)) => ∀ (H : Heap) (locs : List Loc) (ls : Array Slot), hR D z x.1 H → va_S (hA z) s.heap H locs → lv_has ls 14 [(0, .ref u0), (1, .int u1), (2, .int u2), (3, .long u3), (5, .long x.2.1), (7, .long x.2.2)] → W p l e ({ frames := 1, cells := 0, slots := 0, locals := 27 } : Room) s m ([.ref u0, .int u1, .int u2, .long u3] : List Value).toArray below meth c H locs 0 0 (MQ below (hQ D z h' (some (.long r))) ([.ref u0, .int u1, .int u2, .long u3] : List Value).toArray s 0 0 (hA z)) (F0 m 92 ls [])) ?_ FU _ r13 er13 ?_ H locs ls hr hS (lv_sub hl [3, 4, 5, 6, 2, 1, 0] rfl)
  · intro q o hs hcont hexit
    obtain ⟨g1, w5, w7, w9⟩ := q
    replace hs : zb_X0_takeAway_9 u0 u1 u2 u3 g1 w5 w7 w9 = some o := hs
    intro H locs ls hr hS hl
    unfold zb_X0_takeAway_9 at hs
    refine lv_iload hx hb dX0_takeAway_9 (lv_at hl 6 rfl) ?_
    refine lv_iload_n hx hb dX0_takeAway_11 rfl (lv_at hl 2 rfl) ?_
    refine lv_icmp_ge (tgt := 92) hx hb dX0_takeAway_12 (by decide) (fun c2 => ?_) (fun c2 => ?_)
    · rw [if_pos c2] at hs
      obtain rfl := Option.some.inj hs
      exact hexit _ rfl H locs ls hr hS (lv_sub hl [0, 1, 2, 3, 4, 5] rfl)
    · rw [if_neg c2] at hs
      refine lv_lload_n hx hb dX0_takeAway_15 rfl (lv_at hl 3 rfl) ?_
      refine lv_aload_n hx hb dX0_takeAway_16 rfl (lv_at hl 0 rfl) ?_
      obtain ⟨x3, ex3, hs⟩ := bi_inv hs
      refine hv_gR (C := RX0) (T := TX0) (N := 5) (ci := 0) hx hb hts inX0 hown hk hr rfl 4 (by decide) (hts _ tw_147) ex3 dX0_takeAway_17 ?_
      refine lv_iload hx hb dX0_takeAway_20 (lv_at hl 6 rfl) ?_
      obtain ⟨x4, ex4, hs⟩ := bi_inv hs
      refine hv_aJ hx hb hk hr ex4 dX0_takeAway_22 ?_
      refine lv_lmul hx hb dX0_takeAway_23 ?_
      refine lv_lload hx hb dX0_takeAway_24 (lv_at hl 4 rfl) ?_
      refine lv_ladd hx hb dX0_takeAway_26 ?_
      refine lv_topl (fun x5 ex5 => ?_)
      replace hs := lt_inv hs x5 ex5
      refine lv_lstore (lv' := [(10, .long x5), (0, .ref u0), (1, .int u1), (2, .int u2), (3, .long u3), (5, .long w5), (7, .long w7), (9, .int w9)]) hx hb dX0_takeAway_27 hl (by decide) rfl (fun ls hl => ?_)
      refine lv_lload hx hb dX0_takeAway_29 (lv_at hl 0 rfl) ?_
      refine lv_bipush (v := 32) hx hb dX0_takeAway_31 (by decide) ?_
      refine lv_lushr hx hb dX0_takeAway_33 rfl ?_
      refine lv_topl (fun x6 ex6 => ?_)
      replace hs := lt_inv hs x6 ex6
      refine lv_lstore (lv' := [(5, .long x6), (10, .long x5), (0, .ref u0), (1, .int u1), (2, .int u2), (3, .long u3), (7, .long w7), (9, .int w9)]) hx hb dX0_takeAway_34 hl (by decide) rfl (fun ls hl => ?_)
      refine lv_aload_n hx hb dX0_takeAway_36 rfl (lv_at hl 2 rfl) ?_
      obtain ⟨x7, ex7, hs⟩ := bi_inv hs
      refine hv_gR (C := RX0) (T := TX0) (N := 5) (ci := 0) hx hb hts inX0 hown hk hr rfl 3 (by decide) (hts _ tw_146) ex7 dX0_takeAway_37 ?_
      refine lv_iload hx hb dX0_takeAway_40 (lv_at hl 7 rfl) ?_
      refine lv_iload_n hx hb dX0_takeAway_42 rfl (lv_at hl 3 rfl) ?_
      refine lv_iadd hx hb dX0_takeAway_43 ?_
      obtain ⟨x8, ex8, hs⟩ := bi_inv hs
      refine hv_aJ hx hb hk hr ex8 dX0_takeAway_44 ?_
      refine lv_lload hx hb dX0_takeAway_45 (lv_at hl 1 rfl) ?_
      refine lv_ldc2 hx hb hown (hts _ tw_514) dX0_takeAway_47 ?_
      refine lv_land hx hb dX0_takeAway_50 ?_
      refine lv_lsub hx hb dX0_takeAway_51 ?_
      refine lv_lload hx hb dX0_takeAway_52 (lv_at hl 6 rfl) ?_
      refine lv_lsub hx hb dX0_takeAway_54 ?_
      refine lv_topl (fun x9 ex9 => ?_)
      replace hs := lt_inv hs x9 ex9
      refine lv_lstore (lv' := [(12, .long x9), (5, .long x6), (10, .long x5), (0, .ref u0), (1, .int u1), (2, .int u2), (3, .long u3), (7, .long w7), (9, .int w9)]) hx hb dX0_takeAway_55 hl (by decide) rfl (fun ls hl => ?_)
      refine lv_aload_n hx hb dX0_takeAway_57 rfl (lv_at hl 3 rfl) ?_
      obtain ⟨x10, ex10, hs⟩ := bi_inv hs
      refine hv_gR (C := RX0) (T := TX0) (N := 5) (ci := 0) hx hb hts inX0 hown hk hr rfl 3 (by decide) (hts _ tw_146) ex10 dX0_takeAway_58 ?_
      refine lv_iload hx hb dX0_takeAway_61 (lv_at hl 8 rfl) ?_
      refine lv_iload_n hx hb dX0_takeAway_63 rfl (lv_at hl 4 rfl) ?_
      refine lv_iadd hx hb dX0_takeAway_64 ?_
      refine lv_lload hx hb dX0_takeAway_65 (lv_at hl 0 rfl) ?_
      refine lv_ldc2 hx hb hown (hts _ tw_514) dX0_takeAway_67 ?_
      refine lv_land hx hb dX0_takeAway_70 ?_
      obtain ⟨g11, eg11, hs⟩ := bi_inv hs
      refine hv_sJ hx hb hk hr hS eg11 dX0_takeAway_71 (fun H locs hr hS => ?_)
      refine lv_lload hx hb dX0_takeAway_72 (lv_at hl 0 rfl) ?_
      refine lv_lconst (v := 0) hx hb dX0_takeAway_74 (by decide) ?_
      refine hv_lc_ge (tgt := 83) hx hb dX0_takeAway_75 dX0_takeAway_76 (by decide) (fun c12 => ?_) (fun c12 => ?_)
      · rw [if_pos c12] at hs
        refine lv_lconst (v := 0) hx hb dX0_takeAway_83 (by decide) ?_
        refine lv_lstore (lv' := [(7, .long ((0 : Int64))), (12, .long x9), (5, .long x6), (10, .long x5), (0, .ref u0), (1, .int u1), (2, .int u2), (3, .long u3), (9, .int w9)]) hx hb dX0_takeAway_84 hl (by decide) rfl (fun ls hl => ?_)
        refine lv_iinc (v := w9 + (1 : Int32)) (lv' := [(9, .int (w9 + (1 : Int32))), (7, .long ((0 : Int64))), (12, .long x9), (5, .long x6), (10, .long x5), (0, .ref u0), (1, .int u1), (2, .int u2), (3, .long u3)]) hx hb dX0_takeAway_86 hl (k := 8) rfl (ii_v _ (by decide)) (by decide) rfl (fun ls hl => ?_)
        refine lv_goto (tgt := 9) hx hb dX0_takeAway_89 (by decide) ?_
        obtain rfl := Option.some.inj hs
        exact hcont _ rfl H locs ls hr hS (lv_sub hl [5, 6, 7, 8, 3, 1, 0] rfl)
      · rw [if_neg c12] at hs
        refine lv_lconst (v := 1) hx hb dX0_takeAway_79 (by decide) ?_
        refine lv_goto (tgt := 84) hx hb dX0_takeAway_80 (by decide) ?_
        refine lv_lstore (lv' := [(7, .long ((1 : Int64))), (12, .long x9), (5, .long x6), (10, .long x5), (0, .ref u0), (1, .int u1), (2, .int u2), (3, .long u3), (9, .int w9)]) hx hb dX0_takeAway_84 hl (by decide) rfl (fun ls hl => ?_)
        refine lv_iinc (v := w9 + (1 : Int32)) (lv' := [(9, .int (w9 + (1 : Int32))), (7, .long ((1 : Int64))), (12, .long x9), (5, .long x6), (10, .long x5), (0, .ref u0), (1, .int u1), (2, .int u2), (3, .long u3)]) hx hb dX0_takeAway_86 hl (k := 8) rfl (ii_v _ (by decide)) (by decide) rfl (fun ls hl => ?_)
        refine lv_goto (tgt := 9) hx hb dX0_takeAway_89 (by decide) ?_
        obtain rfl := Option.some.inj hs
        exact hcont _ rfl H locs ls hr hS (lv_sub hl [5, 6, 7, 8, 3, 1, 0] rfl)
  · intro H locs ls hr hS hl
    refine lv_aload_n hx hb dX0_takeAway_92 rfl (lv_at hl 0 rfl) ?_
    obtain ⟨x14, ex14, hs⟩ := bi_inv hs
    refine hv_gR (C := RX0) (T := TX0) (N := 5) (ci := 0) hx hb hts inX0 hown hk hr rfl 3 (by decide) (hts _ tw_146) ex14 dX0_takeAway_93 ?_
    refine lv_iload_n hx hb dX0_takeAway_96 rfl (lv_at hl 1 rfl) ?_
    refine lv_iload_n hx hb dX0_takeAway_97 rfl (lv_at hl 2 rfl) ?_
    refine lv_iadd hx hb dX0_takeAway_98 ?_
    obtain ⟨x15, ex15, hs⟩ := bi_inv hs
    refine hv_aJ hx hb hk hr ex15 dX0_takeAway_99 ?_
    refine lv_lload hx hb dX0_takeAway_100 (lv_at hl 4 rfl) ?_
    refine lv_lsub hx hb dX0_takeAway_102 ?_
    refine lv_lload hx hb dX0_takeAway_103 (lv_at hl 5 rfl) ?_
    refine lv_lsub hx hb dX0_takeAway_105 ?_
    refine lv_topl (fun x16 ex16 => ?_)
    replace hs := lt_inv hs x16 ex16
    refine lv_lstore (lv' := [(9, .long x16), (0, .ref u0), (1, .int u1), (2, .int u2), (3, .long u3), (5, .long r13.2.1), (7, .long r13.2.2)]) hx hb dX0_takeAway_106 hl (by decide) rfl (fun ls hl => ?_)
    refine lv_aload_n hx hb dX0_takeAway_108 rfl (lv_at hl 1 rfl) ?_
    obtain ⟨x17, ex17, hs⟩ := bi_inv hs
    refine hv_gR (C := RX0) (T := TX0) (N := 5) (ci := 0) hx hb hts inX0 hown hk hr rfl 3 (by decide) (hts _ tw_146) ex17 dX0_takeAway_109 ?_
    refine lv_iload_n hx hb dX0_takeAway_112 rfl (lv_at hl 2 rfl) ?_
    refine lv_iload_n hx hb dX0_takeAway_113 rfl (lv_at hl 3 rfl) ?_
    refine lv_iadd hx hb dX0_takeAway_114 ?_
    refine lv_lload hx hb dX0_takeAway_115 (lv_at hl 0 rfl) ?_
    refine lv_ldc2 hx hb hown (hts _ tw_514) dX0_takeAway_117 ?_
    refine lv_land hx hb dX0_takeAway_120 ?_
    obtain ⟨g18, eg18, hs⟩ := bi_inv hs
    refine hv_sJ hx hb hk hr hS eg18 dX0_takeAway_121 (fun H locs hr hS => ?_)
    refine lv_lload hx hb dX0_takeAway_122 (lv_at hl 0 rfl) ?_
    refine lv_lconst (v := 0) hx hb dX0_takeAway_124 (by decide) ?_
    refine hv_lc_lt (tgt := 131) hx hb dX0_takeAway_125 dX0_takeAway_126 (by decide) (fun c19 => ?_) (fun c19 => ?_)
    · rw [if_pos c19] at hs
      refine lv_aload_n hx hb dX0_takeAway_131 rfl (lv_at hl 1 rfl) ?_
      refine lv_iload_n hx hb dX0_takeAway_132 rfl (lv_at hl 2 rfl) ?_
      refine lv_iload_n hx hb dX0_takeAway_133 rfl (lv_at hl 3 rfl) ?_
      obtain ⟨_, ex20, hs⟩ := bi_inv hs
      obtain ⟨g21, eg21, hs⟩ := bi_inv hs
      refine hv_V0 (n := 2) [.int u1, .int u2] [] hx hb hml hown hts hk hr hz hS (zm_X0_giveBack l D z eg21) ex20 rfl tw_520 tw_522 ts_8 tw_6 tw_523 (by decide +kernel) (by decide) ⟨(Nat.zero_le _), (Nat.zero_le _)⟩ rfl hl.1 (Nat.le_of_ble_eq_true rfl) dX0_takeAway_134 rfl (fun H locs hr hS => ?_)
      refine lv_lload_n hx hb dX0_takeAway_137 rfl (lv_at hl 4 rfl) ?_
      refine lv_lconst (v := 1) hx hb dX0_takeAway_138 (by decide) ?_
      refine lv_lsub hx hb dX0_takeAway_139 ?_
      obtain ⟨rfl, rfl⟩ := Prod.mk.inj (Option.some.inj hs)
      exact hv_lret hx hb hrt hlk hr hS dX0_takeAway_140
    · rw [if_neg c19] at hs
      refine lv_lload_n hx hb dX0_takeAway_129 rfl (lv_at hl 4 rfl) ?_
      obtain ⟨rfl, rfl⟩ := Prod.mk.inj (Option.some.inj hs)
      exact hv_lret hx hb hrt hlk hr hS dX0_takeAway_130
theorem dX0_divideLong_0 : decode cX0_divideLong 0 = .ok (.aload_n 2, 1) := by decide +kernel
theorem dX0_divideLong_1 : decode cX0_divideLong 1 = .ok (.getfield 66, 3) := by decide +kernel
theorem dX0_divideLong_4 : decode cX0_divideLong 4 = .ok (.istore_n 3, 1) := by decide +kernel
theorem dX0_divideLong_5 : decode cX0_divideLong 5 = .ok (.bipush 32, 2) := by decide +kernel
theorem dX0_divideLong_7 : decode cX0_divideLong 7 = .ok (.aload_n 2, 1) := by decide +kernel
theorem dX0_divideLong_8 : decode cX0_divideLong 8 = .ok (.iload_n 3, 1) := by decide +kernel
theorem dX0_divideLong_9 : decode cX0_divideLong 9 = .ok (.iconst 1, 1) := by decide +kernel
theorem dX0_divideLong_10 : decode cX0_divideLong 10 = .ok (.isub, 1) := by decide +kernel
theorem dX0_divideLong_11 : decode cX0_divideLong 11 = .ok (.invokevirtual 70, 3) := by decide +kernel
theorem dX0_divideLong_14 : decode cX0_divideLong 14 = .ok (.invokestatic 81, 3) := by decide +kernel
theorem dX0_divideLong_17 : decode cX0_divideLong 17 = .ok (.isub, 1) := by decide +kernel
theorem dX0_divideLong_18 : decode cX0_divideLong 18 = .ok (.istore 4, 2) := by decide +kernel
theorem dX0_divideLong_20 : decode cX0_divideLong 20 = .ok (.iconst 0, 1) := by decide +kernel
theorem dX0_divideLong_21 : decode cX0_divideLong 21 = .ok (.istore 5, 2) := by decide +kernel
theorem dX0_divideLong_23 : decode cX0_divideLong 23 = .ok (.iload 5, 2) := by decide +kernel
theorem dX0_divideLong_25 : decode cX0_divideLong 25 = .ok (.aload_n 1, 1) := by decide +kernel
theorem dX0_divideLong_26 : decode cX0_divideLong 26 = .ok (.getfield 66, 3) := by decide +kernel
theorem dX0_divideLong_29 : decode cX0_divideLong 29 = .ok (.if_icmp .gt 24, 3) := by decide +kernel
theorem dX0_divideLong_32 : decode cX0_divideLong 32 = .ok (.aload_n 0, 1) := by decide +kernel
theorem dX0_divideLong_33 : decode cX0_divideLong 33 = .ok (.getfield 28, 3) := by decide +kernel
theorem dX0_divideLong_36 : decode cX0_divideLong 36 = .ok (.iload 5, 2) := by decide +kernel
theorem dX0_divideLong_38 : decode cX0_divideLong 38 = .ok (.aload_n 1, 1) := by decide +kernel
theorem dX0_divideLong_39 : decode cX0_divideLong 39 = .ok (.iload 5, 2) := by decide +kernel
theorem dX0_divideLong_41 : decode cX0_divideLong 41 = .ok (.iload 4, 2) := by decide +kernel
theorem dX0_divideLong_43 : decode cX0_divideLong 43 = .ok (.invokevirtual 85, 3) := by decide +kernel
theorem dX0_divideLong_46 : decode cX0_divideLong 46 = .ok (.lastore, 1) := by decide +kernel
theorem dX0_divideLong_47 : decode cX0_divideLong 47 = .ok (.iinc 5 1, 3) := by decide +kernel
theorem dX0_divideLong_50 : decode cX0_divideLong 50 = .ok (.goto (-27), 3) := by decide +kernel
theorem dX0_divideLong_53 : decode cX0_divideLong 53 = .ok (.iconst 0, 1) := by decide +kernel
theorem dX0_divideLong_54 : decode cX0_divideLong 54 = .ok (.istore 5, 2) := by decide +kernel
theorem dX0_divideLong_56 : decode cX0_divideLong 56 = .ok (.iload 5, 2) := by decide +kernel
theorem dX0_divideLong_58 : decode cX0_divideLong 58 = .ok (.iload_n 3, 1) := by decide +kernel
theorem dX0_divideLong_59 : decode cX0_divideLong 59 = .ok (.if_icmp .ge 24, 3) := by decide +kernel
theorem dX0_divideLong_62 : decode cX0_divideLong 62 = .ok (.aload_n 0, 1) := by decide +kernel
theorem dX0_divideLong_63 : decode cX0_divideLong 63 = .ok (.getfield 32, 3) := by decide +kernel
theorem dX0_divideLong_66 : decode cX0_divideLong 66 = .ok (.iload 5, 2) := by decide +kernel
theorem dX0_divideLong_68 : decode cX0_divideLong 68 = .ok (.aload_n 2, 1) := by decide +kernel
theorem dX0_divideLong_69 : decode cX0_divideLong 69 = .ok (.iload 5, 2) := by decide +kernel
theorem dX0_divideLong_71 : decode cX0_divideLong 71 = .ok (.iload 4, 2) := by decide +kernel
theorem dX0_divideLong_73 : decode cX0_divideLong 73 = .ok (.invokevirtual 85, 3) := by decide +kernel
theorem dX0_divideLong_76 : decode cX0_divideLong 76 = .ok (.lastore, 1) := by decide +kernel
theorem dX0_divideLong_77 : decode cX0_divideLong 77 = .ok (.iinc 5 1, 3) := by decide +kernel
theorem dX0_divideLong_80 : decode cX0_divideLong 80 = .ok (.goto (-24), 3) := by decide +kernel
theorem dX0_divideLong_83 : decode cX0_divideLong 83 = .ok (.aload_n 1, 1) := by decide +kernel
theorem dX0_divideLong_84 : decode cX0_divideLong 84 = .ok (.getfield 66, 3) := by decide +kernel
theorem dX0_divideLong_87 : decode cX0_divideLong 87 = .ok (.iload_n 3, 1) := by decide +kernel
theorem dX0_divideLong_88 : decode cX0_divideLong 88 = .ok (.isub, 1) := by decide +kernel
theorem dX0_divideLong_89 : decode cX0_divideLong 89 = .ok (.istore 5, 2) := by decide +kernel
theorem dX0_divideLong_91 : decode cX0_divideLong 91 = .ok (.iload 5, 2) := by decide +kernel
theorem dX0_divideLong_93 : decode cX0_divideLong 93 = .ok (.istore 6, 2) := by decide +kernel
theorem dX0_divideLong_95 : decode cX0_divideLong 95 = .ok (.iload 6, 2) := by decide +kernel
theorem dX0_divideLong_97 : decode cX0_divideLong 97 = .ok (.ifCond .lt 33, 3) := by decide +kernel
theorem dX0_divideLong_100 : decode cX0_divideLong 100 = .ok (.aload_n 0, 1) := by decide +kernel
theorem dX0_divideLong_101 : decode cX0_divideLong 101 = .ok (.getfield 12, 3) := by decide +kernel
theorem dX0_divideLong_104 : decode cX0_divideLong 104 = .ok (.getfield 89, 3) := by decide +kernel
theorem dX0_divideLong_107 : decode cX0_divideLong 107 = .ok (.iload 6, 2) := by decide +kernel
theorem dX0_divideLong_109 : decode cX0_divideLong 109 = .ok (.aload_n 0, 1) := by decide +kernel
theorem dX0_divideLong_110 : decode cX0_divideLong 110 = .ok (.iload 6, 2) := by decide +kernel
theorem dX0_divideLong_112 : decode cX0_divideLong 112 = .ok (.iload_n 3, 1) := by decide +kernel
theorem dX0_divideLong_113 : decode cX0_divideLong 113 = .ok (.aload_n 0, 1) := by decide +kernel
theorem dX0_divideLong_114 : decode cX0_divideLong 114 = .ok (.iload 6, 2) := by decide +kernel
theorem dX0_divideLong_116 : decode cX0_divideLong 116 = .ok (.iload_n 3, 1) := by decide +kernel
theorem dX0_divideLong_117 : decode cX0_divideLong 117 = .ok (.invokevirtual 92, 3) := by decide +kernel
theorem dX0_divideLong_120 : decode cX0_divideLong 120 = .ok (.invokevirtual 95, 3) := by decide +kernel
theorem dX0_divideLong_123 : decode cX0_divideLong 123 = .ok (.lastore, 1) := by decide +kernel
theorem dX0_divideLong_124 : decode cX0_divideLong 124 = .ok (.iinc 6 (-1), 3) := by decide +kernel
theorem dX0_divideLong_127 : decode cX0_divideLong 127 = .ok (.goto (-32), 3) := by decide +kernel
theorem dX0_divideLong_130 : decode cX0_divideLong 130 = .ok (.aload_n 0, 1) := by decide +kernel
theorem dX0_divideLong_131 : decode cX0_divideLong 131 = .ok (.getfield 12, 3) := by decide +kernel
theorem dX0_divideLong_134 : decode cX0_divideLong 134 = .ok (.iload 5, 2) := by decide +kernel
theorem dX0_divideLong_136 : decode cX0_divideLong 136 = .ok (.iconst 1, 1) := by decide +kernel
theorem dX0_divideLong_137 : decode cX0_divideLong 137 = .ok (.iadd, 1) := by decide +kernel
theorem dX0_divideLong_138 : decode cX0_divideLong 138 = .ok (.invokevirtual 99, 3) := by decide +kernel
theorem dX0_divideLong_141 : decode cX0_divideLong 141 = .ok (.iconst 0, 1) := by decide +kernel
theorem dX0_divideLong_142 : decode cX0_divideLong 142 = .ok (.istore 6, 2) := by decide +kernel
theorem dX0_divideLong_144 : decode cX0_divideLong 144 = .ok (.iload 6, 2) := by decide +kernel
theorem dX0_divideLong_146 : decode cX0_divideLong 146 = .ok (.iload_n 3, 1) := by decide +kernel
theorem dX0_divideLong_147 : decode cX0_divideLong 147 = .ok (.if_icmp .ge 49, 3) := by decide +kernel
theorem dX0_divideLong_150 : decode cX0_divideLong 150 = .ok (.aload_n 0, 1) := by decide +kernel
theorem dX0_divideLong_151 : decode cX0_divideLong 151 = .ok (.getfield 18, 3) := by decide +kernel
theorem dX0_divideLong_154 : decode cX0_divideLong 154 = .ok (.getfield 89, 3) := by decide +kernel
theorem dX0_divideLong_157 : decode cX0_divideLong 157 = .ok (.iload 6, 2) := by decide +kernel
theorem dX0_divideLong_159 : decode cX0_divideLong 159 = .ok (.aload_n 0, 1) := by decide +kernel
theorem dX0_divideLong_160 : decode cX0_divideLong 160 = .ok (.getfield 28, 3) := by decide +kernel
theorem dX0_divideLong_163 : decode cX0_divideLong 163 = .ok (.iload 6, 2) := by decide +kernel
theorem dX0_divideLong_165 : decode cX0_divideLong 165 = .ok (.laload, 1) := by decide +kernel
theorem dX0_divideLong_166 : decode cX0_divideLong 166 = .ok (.iload 4, 2) := by decide +kernel
theorem dX0_divideLong_168 : decode cX0_divideLong 168 = .ok (.lushr, 1) := by decide +kernel
theorem dX0_divideLong_169 : decode cX0_divideLong 169 = .ok (.aload_n 0, 1) := by decide +kernel
theorem dX0_divideLong_170 : decode cX0_divideLong 170 = .ok (.getfield 28, 3) := by decide +kernel
theorem dX0_divideLong_173 : decode cX0_divideLong 173 = .ok (.iload 6, 2) := by decide +kernel
theorem dX0_divideLong_175 : decode cX0_divideLong 175 = .ok (.iconst 1, 1) := by decide +kernel
theorem dX0_divideLong_176 : decode cX0_divideLong 176 = .ok (.iadd, 1) := by decide +kernel
theorem dX0_divideLong_177 : decode cX0_divideLong 177 = .ok (.laload, 1) := by decide +kernel
theorem dX0_divideLong_178 : decode cX0_divideLong 178 = .ok (.bipush 32, 2) := by decide +kernel
theorem dX0_divideLong_180 : decode cX0_divideLong 180 = .ok (.iload 4, 2) := by decide +kernel
theorem dX0_divideLong_182 : decode cX0_divideLong 182 = .ok (.isub, 1) := by decide +kernel
theorem dX0_divideLong_183 : decode cX0_divideLong 183 = .ok (.lshl, 1) := by decide +kernel
theorem dX0_divideLong_184 : decode cX0_divideLong 184 = .ok (.lor, 1) := by decide +kernel
theorem dX0_divideLong_185 : decode cX0_divideLong 185 = .ok (.ldc2_w 103, 3) := by decide +kernel
theorem dX0_divideLong_188 : decode cX0_divideLong 188 = .ok (.land, 1) := by decide +kernel
theorem dX0_divideLong_189 : decode cX0_divideLong 189 = .ok (.lastore, 1) := by decide +kernel
theorem dX0_divideLong_190 : decode cX0_divideLong 190 = .ok (.iinc 6 1, 3) := by decide +kernel
theorem dX0_divideLong_193 : decode cX0_divideLong 193 = .ok (.goto (-49), 3) := by decide +kernel
theorem dX0_divideLong_196 : decode cX0_divideLong 196 = .ok (.aload_n 0, 1) := by decide +kernel
theorem dX0_divideLong_197 : decode cX0_divideLong 197 = .ok (.getfield 18, 3) := by decide +kernel
theorem dX0_divideLong_200 : decode cX0_divideLong 200 = .ok (.iload_n 3, 1) := by decide +kernel
theorem dX0_divideLong_201 : decode cX0_divideLong 201 = .ok (.invokevirtual 99, 3) := by decide +kernel
theorem dX0_divideLong_204 : decode cX0_divideLong 204 = .ok (.return_, 1) := by decide +kernel
def zb_X0_divideLong_23 (w0 : Nat) (w1 : Nat) (w2 : Nat) (w3 : Int32) (w4 : Int32) (g6 : AH) (w5 : Int32) : Option ((AH × Int32) ⊕ (AH)) :=
  (gI g6 w1 8 1).bind fun x7 => (if x7 < w5 then some (Sum.inr g6) else (gR g6 w0 0 3).bind fun x9 => (chk g6 w1 8).bind fun _ => (zs_X8_movedPart g6 w1 w5 w4).bind fun x11 => (sJ g6 x9 1 w5 x11).bind fun g12 => some (Sum.inl ((g12, w5 + (1 : Int32)))))
def zb_X0_divideLong_56 (w0 : Nat) (w1 : Nat) (w2 : Nat) (w3 : Int32) (w4 : Int32) (g14 : AH) (w5 : Int32) : Option ((AH × Int32) ⊕ (AH)) :=
  (if w3 ≤ w5 then some (Sum.inr g14) else (gR g14 w0 0 4).bind fun x16 => (chk g14 w2 8).bind fun _ => (zs_X8_movedPart g14 w2 w5 w4).bind fun x18 => (sJ g14 x16 1 w5 x18).bind fun g19 => some (Sum.inl ((g19, w5 + (1 : Int32)))))
def zb_X0_divideLong_95 (w0 : Nat) (w3 : Int32) (w4 : Int32) (w5 : Int32) (g23 : AH) (w6 : Int32) : Option ((AH × Int32) ⊕ (AH)) :=
  (if w6 < 0 then some (Sum.inr g23) else (gR g23 w0 0 0).bind fun x25 => (gR g23 x25 8 0).bind fun x26 => (chk g23 w0 0).bind fun _ => (zs_X0_guess g23 w0 w6 w3).bind fun x28 => (chk g23 w0 0).bind fun _ => (zs_X0_takeAway g23 w0 w6 w3 x28).bind fun x30 => (sJ x30.2 x26 1 w6 x30.1).bind fun g31 => some (Sum.inl ((g31, w6 + (-1 : Int32)))))
def zb_X0_divideLong_144 (w0 : Nat) (w3 : Int32) (w4 : Int32) (g36 : AH) (w6 : Int32) : Option ((AH × Int32) ⊕ (AH)) :=
  (if w3 ≤ w6 then some (Sum.inr g36) else (gR g36 w0 0 1).bind fun x38 => (gR g36 x38 8 0).bind fun x39 => (gR g36 w0 0 3).bind fun x40 => (aJ g36 x40 1 w6).bind fun x41 => (gR g36 w0 0 3).bind fun x42 => (aJ g36 x42 1 (w6 + ((1 : Int32)))).bind fun x43 => (sJ g36 x39 1 w6 ((((x41.toUInt64 >>> (w4.toInt64.toUInt64 &&& Int64.toUInt64 63)).toInt64) ||| (x43 <<< ((((32 : Int32)) - w4).toInt64 &&& 63))) &&& ((4294967295 : Int64)))).bind fun g44 => some (Sum.inl ((g44, w6 + (1 : Int32)))))
def zs_X0_divideLong (h : AH) (u0 : Nat) (u1 : Nat) (u2 : Nat) : Option AH :=
  (gI h u2 8 1).bind fun x1 => (chk h u2 8).bind fun _ => (zs_X8_partAt h u2 (x1 - ((1 : Int32)))).bind fun x3 => (zs_X8_bitsOf h x3).bind fun x4 => lt_ (((32 : Int32)) - x4) fun x5 => (iter (fun q : AH × Int32 => zb_X0_divideLong_23 u0 u1 u2 x1 x5 q.1 q.2) FU ((h, (0 : Int32)))).bind fun r13 => (iter (fun q : AH × Int32 => zb_X0_divideLong_56 u0 u1 u2 x1 x5 q.1 q.2) FU ((r13, (0 : Int32)))).bind fun r20 => (gI r20 u1 8 1).bind fun x21 => lt_ (x21 - x1) fun x22 => (iter (fun q : AH × Int32 => zb_X0_divideLong_95 u0 x1 x5 x22 q.1 q.2) FU ((r20, x22))).bind fun r32 => (gR r32 u0 0 0).bind fun x33 => (chk r32 x33 8).bind fun _ => (zs_X8_trim r32 x33 (x22 + ((1 : Int32)))).bind fun g35 => (iter (fun q : AH × Int32 => zb_X0_divideLong_144 u0 x1 x5 q.1 q.2) FU ((g35, (0 : Int32)))).bind fun r45 => (gR r45 u0 0 1).bind fun x46 => (chk r45 x46 8).bind fun _ => (zs_X8_trim r45 x46 x1).bind fun g48 => some g48
set_option maxRecDepth 100000 in
set_option maxHeartbeats 4000000 in
theorem zm_X0_divideLong (l : Launch) (D : hG) (z : Nat) {h : AH} {u0 : Nat} {u1 : Nat} {u2 : Nat} {h' : AH} (hs : zs_X0_divideLong h u0 u1 u2 = some h') : hC l D z yX0_divideLong cX0_divideLong 7 (Option.none : Option Jvm.ClassFile.FieldType) 2 62 0 0 [.ref u0, .ref u1, .ref u2] h h' none := by
  refine hC_of (by decide) (Nat.le_of_ble_eq_true rfl) ?_
  intro p e s m below meth c hx hb hml hrt hlk hown hnm hts hk hr hz ls hl
  replace hown : s.vm.findClass RX0 = some m.cls := hown
  replace hl : lv_has ls 7 [(0, .ref u0), (1, .ref u1), (2, .ref u2)] := hl
  have hS : va_S (hA z) s.heap s.heap [] := va_S.rf
  suffices hgo : ∀ (H : Heap) (locs : List Loc), hR D z h H → va_S (hA z) s.heap H locs → W p l e ({ frames := 2, cells := 0, slots := 0, locals := 62 } : Room) s m ([.ref u0, .ref u1, .ref u2] : List Value).toArray below meth c H locs 0 0 (MQ below (hQ D z h' none) ([.ref u0, .ref u1, .ref u2] : List Value).toArray s 0 0 (hA z)) (F0 m 0 ls []) from hgo _ _ hr hS
  clear hr hS
  intro H locs hr hS
  unfold zs_X0_divideLong at hs
  refine lv_aload_n hx hb dX0_divideLong_0 rfl (lv_at hl 2 rfl) ?_
  obtain ⟨x1, ex1, hs⟩ := bi_inv hs
  refine hv_gI (C := RX8) (T := TX8) (N := 3) (ci := 8) hx hb hts inX8 hown hk hr rfl 1 (by decide) (hts _ tw_40) ex1 dX0_divideLong_1 ?_
  refine lv_istore_n (lv' := [(3, .int x1), (0, .ref u0), (1, .ref u1), (2, .ref u2)]) hx hb dX0_divideLong_4 rfl hl (by decide) rfl (fun ls hl => ?_)
  refine lv_bipush (v := 32) hx hb dX0_divideLong_5 (by decide) ?_
  refine lv_aload_n hx hb dX0_divideLong_7 rfl (lv_at hl 3 rfl) ?_
  refine lv_iload_n hx hb dX0_divideLong_8 rfl (lv_at hl 0 rfl) ?_
  refine lv_iconst (v := 1) hx hb dX0_divideLong_9 (by decide) ?_
  refine lv_isub hx hb dX0_divideLong_10 ?_
  obtain ⟨_, ex2, hs⟩ := bi_inv hs
  obtain ⟨x3, ex3, hs⟩ := bi_inv hs
  refine hv_V1 (n := 1) [.int (x1 - ((1 : Int32)))] [.int ((32 : Int32))] hx hb hml hown hts hk hr hz hS (zm_X8_partAt l D z ex3) ex2 rfl tw_490 tw_416 tw_417 tw_2 tw_418 (by decide +kernel) (by decide) ⟨(Nat.zero_le _), (Nat.zero_le _)⟩ rfl hl.1 (Nat.le_of_ble_eq_true rfl) dX0_divideLong_11 rfl (fun H locs hr hS => ?_)
  obtain ⟨x4, ex4, hs⟩ := bi_inv hs
  refine hv_S1 (n := 1) [.long x3] [.int ((32 : Int32))] hx hb hml hown hts hk hr hz hS (zm_X8_bitsOf l D z ex4) tw_496 tw_497 tw_2 tw_498 (by decide +kernel) (by decide) ⟨(Nat.zero_le _), (Nat.zero_le _)⟩ rfl hl.1 (Nat.le_of_ble_eq_true rfl) dX0_divideLong_14 rfl (fun H locs hr hS => ?_)
  refine lv_isub hx hb dX0_divideLong_17 ?_
  refine lv_topi (fun x5 ex5 => ?_)
  replace hs := lt_inv hs x5 ex5
  refine lv_istore (lv' := [(4, .int x5), (3, .int x1), (0, .ref u0), (1, .ref u1), (2, .ref u2)]) hx hb dX0_divideLong_18 hl (by decide) rfl (fun ls hl => ?_)
  refine lv_iconst (v := 0) hx hb dX0_divideLong_20 (by decide) ?_
  refine lv_istore (lv' := [(5, .int ((0 : Int32))), (4, .int x5), (3, .int x1), (0, .ref u0), (1, .ref u1), (2, .ref u2)]) hx hb dX0_divideLong_21 hl (by decide) rfl (fun ls hl => ?_)
  obtain ⟨r13, er13, hs⟩ := bi_inv hs
  refine iter_W (fun (q : AH × Int32) => ∀ (H : Heap) (locs : List Loc) (ls : Array Slot), hR D z q.1 H → va_S (hA z) s.heap H locs → lv_has ls 7 [(0, .ref u0), (1, .ref u1), (2, .ref u2), (3, .int x1), (4, .int x5), (5, .int q.2)] → W p l e ({ frames := 2, cells := 0, slots := 0, locals := 62 } : Room) s m ([.ref u0, .ref u1, .ref u2] : List Value).toArray below meth c H locs 0 0 (MQ below (hQ D z h' none) ([.ref u0, .ref u1, .ref u2] : List Value).toArray s 0 0 (hA z)) (F0 m 23 ls [])) (fun (x : AH) => ∀ (H : Heap) (locs : List Loc) (ls : Array Slot), hR D z x H → va_S (hA z) s.heap H locs → lv_has ls 7 [(0, .ref u0), (1, .ref u1), (2, .ref u2), (3, .int x1), (4, .int x5)] → W p l e ({ frames := 2, cells := 0, slots := 0, locals := 62 } : Room) s m ([.ref u0, .ref u1, .ref u2] : List Value).toArray below meth c H locs 0 0 (MQ below (hQ D z h' none) ([.ref u0, .ref u1, .ref u2] : List Value).toArray s 0 0 (hA z)) (F0 m 53 ls [])) ?_ FU _ r13 er13 ?_ H locs ls hr hS (lv_sub hl [3, 4, 5, 2, 1, 0] rfl)
  · intro q o hs hcont hexit
    obtain ⟨g6, w5⟩ := q
    replace hs : zb_X0_divideLong_23 u0 u1 u2 x1 x5 g6 w5 = some o := hs
    intro H locs ls hr hS hl
    unfold zb_X0_divideLong_23 at hs
    refine lv_iload hx hb dX0_divideLong_23 (lv_at hl 5 rfl) ?_
    refine lv_aload_n hx hb dX0_divideLong_25 rfl (lv_at hl 1 rfl) ?_
    obtain ⟨x7, ex7, hs⟩ := bi_inv hs
    refine hv_gI (C := RX8) (T := TX8) (N := 3) (ci := 8) hx hb hts inX8 hown hk hr rfl 1 (by decide) (hts _ tw_40) ex7 dX0_divideLong_26 ?_
    refine lv_icmp_gt (tgt := 53) hx hb dX0_divideLong_29 (by decide) (fun c8 => ?_) (fun c8 => ?_)
    · rw [if_pos c8] at hs
      obtain rfl := Option.some.inj hs
      exact hexit _ rfl H locs ls hr hS (lv_sub hl [0, 1, 2, 3, 4] rfl)
    · rw [if_neg c8] at hs
      refine lv_aload_n hx hb dX0_divideLong_32 rfl (lv_at hl 0 rfl) ?_
      obtain ⟨x9, ex9, hs⟩ := bi_inv hs
      refine hv_gR (C := RX0) (T := TX0) (N := 5) (ci := 0) hx hb hts inX0 hown hk hr rfl 3 (by decide) (hts _ tw_146) ex9 dX0_divideLong_33 ?_
      refine lv_iload hx hb dX0_divideLong_36 (lv_at hl 5 rfl) ?_
      refine lv_aload_n hx hb dX0_divideLong_38 rfl (lv_at hl 1 rfl) ?_
      refine lv_iload hx hb dX0_divideLong_39 (lv_at hl 5 rfl) ?_
      refine lv_iload hx hb dX0_divideLong_41 (lv_at hl 4 rfl) ?_
      obtain ⟨_, ex10, hs⟩ := bi_inv hs
      obtain ⟨x11, ex11, hs⟩ := bi_inv hs
      refine hv_V1 (n := 2) [.int w5, .int x5] [.int w5, .ref x9] hx hb hml hown hts hk hr hz hS (zm_X8_movedPart l D z ex11) ex10 rfl tw_505 tw_506 tw_507 tw_2 tw_508 (by decide +kernel) (by decide) ⟨(Nat.zero_le _), (Nat.zero_le _)⟩ rfl hl.1 (Nat.le_of_ble_eq_true rfl) dX0_divideLong_43 rfl (fun H locs hr hS => ?_)
      obtain ⟨g12, eg12, hs⟩ := bi_inv hs
      refine hv_sJ hx hb hk hr hS eg12 dX0_divideLong_46 (fun H locs hr hS => ?_)
      refine lv_iinc (v := w5 + (1 : Int32)) (lv' := [(5, .int (w5 + (1 : Int32))), (0, .ref u0), (1, .ref u1), (2, .ref u2), (3, .int x1), (4, .int x5)]) hx hb dX0_divideLong_47 hl (k := 5) rfl (ii_v _ (by decide)) (by decide) rfl (fun ls hl => ?_)
      refine lv_goto (tgt := 23) hx hb dX0_divideLong_50 (by decide) ?_
      obtain rfl := Option.some.inj hs
      exact hcont _ rfl H locs ls hr hS (lv_sub hl [1, 2, 3, 4, 5, 0] rfl)
  · intro H locs ls hr hS hl
    refine lv_iconst (v := 0) hx hb dX0_divideLong_53 (by decide) ?_
    refine lv_istore (lv' := [(5, .int ((0 : Int32))), (0, .ref u0), (1, .ref u1), (2, .ref u2), (3, .int x1), (4, .int x5)]) hx hb dX0_divideLong_54 hl (by decide) rfl (fun ls hl => ?_)
    obtain ⟨r20, er20, hs⟩ := bi_inv hs
    refine iter_W (fun (q : AH × Int32) => ∀ (H : Heap) (locs : List Loc) (ls : Array Slot), hR D z q.1 H → va_S (hA z) s.heap H locs → lv_has ls 7 [(0, .ref u0), (1, .ref u1), (2, .ref u2), (3, .int x1), (4, .int x5), (5, .int q.2)] → W p l e ({ frames := 2, cells := 0, slots := 0, locals := 62 } : Room) s m ([.ref u0, .ref u1, .ref u2] : List Value).toArray below meth c H locs 0 0 (MQ below (hQ D z h' none) ([.ref u0, .ref u1, .ref u2] : List Value).toArray s 0 0 (hA z)) (F0 m 56 ls [])) (fun (x : AH) => ∀ (H : Heap) (locs : List Loc) (ls : Array Slot), hR D z x H → va_S (hA z) s.heap H locs → lv_has ls 7 [(0, .ref u0), (1, .ref u1), (3, .int x1), (4, .int x5)] → W p l e ({ frames := 2, cells := 0, slots := 0, locals := 62 } : Room) s m ([.ref u0, .ref u1, .ref u2] : List Value).toArray below meth c H locs 0 0 (MQ below (hQ D z h' none) ([.ref u0, .ref u1, .ref u2] : List Value).toArray s 0 0 (hA z)) (F0 m 83 ls [])) ?_ FU _ r20 er20 ?_ H locs ls hr hS (lv_sub hl [1, 2, 3, 4, 5, 0] rfl)
    · intro q o hs hcont hexit
      obtain ⟨g14, w5⟩ := q
      replace hs : zb_X0_divideLong_56 u0 u1 u2 x1 x5 g14 w5 = some o := hs
      intro H locs ls hr hS hl
      unfold zb_X0_divideLong_56 at hs
      refine lv_iload hx hb dX0_divideLong_56 (lv_at hl 5 rfl) ?_
      refine lv_iload_n hx hb dX0_divideLong_58 rfl (lv_at hl 3 rfl) ?_
      refine lv_icmp_ge (tgt := 83) hx hb dX0_divideLong_59 (by decide) (fun c15 => ?_) (fun c15 => ?_)
      · rw [if_pos c15] at hs
        obtain rfl := Option.some.inj hs
        exact hexit _ rfl H locs ls hr hS (lv_sub hl [0, 1, 3, 4] rfl)
      · rw [if_neg c15] at hs
        refine lv_aload_n hx hb dX0_divideLong_62 rfl (lv_at hl 0 rfl) ?_
        obtain ⟨x16, ex16, hs⟩ := bi_inv hs
        refine hv_gR (C := RX0) (T := TX0) (N := 5) (ci := 0) hx hb hts inX0 hown hk hr rfl 4 (by decide) (hts _ tw_147) ex16 dX0_divideLong_63 ?_
        refine lv_iload hx hb dX0_divideLong_66 (lv_at hl 5 rfl) ?_
        refine lv_aload_n hx hb dX0_divideLong_68 rfl (lv_at hl 2 rfl) ?_
        refine lv_iload hx hb dX0_divideLong_69 (lv_at hl 5 rfl) ?_
        refine lv_iload hx hb dX0_divideLong_71 (lv_at hl 4 rfl) ?_
        obtain ⟨_, ex17, hs⟩ := bi_inv hs
        obtain ⟨x18, ex18, hs⟩ := bi_inv hs
        refine hv_V1 (n := 2) [.int w5, .int x5] [.int w5, .ref x16] hx hb hml hown hts hk hr hz hS (zm_X8_movedPart l D z ex18) ex17 rfl tw_505 tw_506 tw_507 tw_2 tw_508 (by decide +kernel) (by decide) ⟨(Nat.zero_le _), (Nat.zero_le _)⟩ rfl hl.1 (Nat.le_of_ble_eq_true rfl) dX0_divideLong_73 rfl (fun H locs hr hS => ?_)
        obtain ⟨g19, eg19, hs⟩ := bi_inv hs
        refine hv_sJ hx hb hk hr hS eg19 dX0_divideLong_76 (fun H locs hr hS => ?_)
        refine lv_iinc (v := w5 + (1 : Int32)) (lv' := [(5, .int (w5 + (1 : Int32))), (0, .ref u0), (1, .ref u1), (2, .ref u2), (3, .int x1), (4, .int x5)]) hx hb dX0_divideLong_77 hl (k := 5) rfl (ii_v _ (by decide)) (by decide) rfl (fun ls hl => ?_)
        refine lv_goto (tgt := 56) hx hb dX0_divideLong_80 (by decide) ?_
        obtain rfl := Option.some.inj hs
        exact hcont _ rfl H locs ls hr hS (lv_sub hl [1, 2, 3, 4, 5, 0] rfl)
    · intro H locs ls hr hS hl
      refine lv_aload_n hx hb dX0_divideLong_83 rfl (lv_at hl 1 rfl) ?_
      obtain ⟨x21, ex21, hs⟩ := bi_inv hs
      refine hv_gI (C := RX8) (T := TX8) (N := 3) (ci := 8) hx hb hts inX8 hown hk hr rfl 1 (by decide) (hts _ tw_40) ex21 dX0_divideLong_84 ?_
      refine lv_iload_n hx hb dX0_divideLong_87 rfl (lv_at hl 2 rfl) ?_
      refine lv_isub hx hb dX0_divideLong_88 ?_
      refine lv_topi (fun x22 ex22 => ?_)
      replace hs := lt_inv hs x22 ex22
      refine lv_istore (lv' := [(5, .int x22), (0, .ref u0), (1, .ref u1), (3, .int x1), (4, .int x5)]) hx hb dX0_divideLong_89 hl (by decide) rfl (fun ls hl => ?_)
      refine lv_iload hx hb dX0_divideLong_91 (lv_at hl 0 rfl) ?_
      refine lv_istore (lv' := [(6, .int x22), (5, .int x22), (0, .ref u0), (1, .ref u1), (3, .int x1), (4, .int x5)]) hx hb dX0_divideLong_93 hl (by decide) rfl (fun ls hl => ?_)
      obtain ⟨r32, er32, hs⟩ := bi_inv hs
      refine iter_W (fun (q : AH × Int32) => ∀ (H : Heap) (locs : List Loc) (ls : Array Slot), hR D z q.1 H → va_S (hA z) s.heap H locs → lv_has ls 7 [(0, .ref u0), (3, .int x1), (4, .int x5), (5, .int x22), (6, .int q.2)] → W p l e ({ frames := 2, cells := 0, slots := 0, locals := 62 } : Room) s m ([.ref u0, .ref u1, .ref u2] : List Value).toArray below meth c H locs 0 0 (MQ below (hQ D z h' none) ([.ref u0, .ref u1, .ref u2] : List Value).toArray s 0 0 (hA z)) (F0 m 95 ls [])) (fun (x : AH) => ∀ (H : Heap) (locs : List Loc) (ls : Array Slot), hR D z x H → va_S (hA z) s.heap H locs → lv_has ls 7 [(0, .ref u0), (3, .int x1), (4, .int x5), (5, .int x22)] → W p l e ({ frames := 2, cells := 0, slots := 0, locals := 62 } : Room) s m ([.ref u0, .ref u1, .ref u2] : List Value).toArray below meth c H locs 0 0 (MQ below (hQ D z h' none) ([.ref u0, .ref u1, .ref u2] : List Value).toArray s 0 0 (hA z)) (F0 m 130 ls [])) ?_ FU _ r32 er32 ?_ H locs ls hr hS (lv_sub hl [2, 4, 5, 1, 0] rfl)
      · intro q o hs hcont hexit
        obtain ⟨g23, w6⟩ := q
        replace hs : zb_X0_divideLong_95 u0 x1 x5 x22 g23 w6 = some o := hs
        intro H locs ls hr hS hl
        unfold zb_X0_divideLong_95 at hs
        refine lv_iload hx hb dX0_divideLong_95 (lv_at hl 4 rfl) ?_
        refine lv_if_lt (tgt := 130) hx hb dX0_divideLong_97 (by decide) (fun c24 => ?_) (fun c24 => ?_)
        · rw [if_pos c24] at hs
          obtain rfl := Option.some.inj hs
          exact hexit _ rfl H locs ls hr hS (lv_sub hl [0, 1, 2, 3] rfl)
        · rw [if_neg c24] at hs
          refine lv_aload_n hx hb dX0_divideLong_100 rfl (lv_at hl 0 rfl) ?_
          obtain ⟨x25, ex25, hs⟩ := bi_inv hs
          refine hv_gR (C := RX0) (T := TX0) (N := 5) (ci := 0) hx hb hts inX0 hown hk hr rfl 0 (by decide) (hts _ tw_135) ex25 dX0_divideLong_101 ?_
          obtain ⟨x26, ex26, hs⟩ := bi_inv hs
          refine hv_gR (C := RX8) (T := TX8) (N := 3) (ci := 8) hx hb hts inX8 hown hk hr rfl 0 (by decide) (hts _ tw_38) ex26 dX0_divideLong_104 ?_
          refine lv_iload hx hb dX0_divideLong_107 (lv_at hl 4 rfl) ?_
          refine lv_aload_n hx hb dX0_divideLong_109 rfl (lv_at hl 0 rfl) ?_
          refine lv_iload hx hb dX0_divideLong_110 (lv_at hl 4 rfl) ?_
          refine lv_iload_n hx hb dX0_divideLong_112 rfl (lv_at hl 1 rfl) ?_
          refine lv_aload_n hx hb dX0_divideLong_113 rfl (lv_at hl 0 rfl) ?_
          refine lv_iload hx hb dX0_divideLong_114 (lv_at hl 4 rfl) ?_
          refine lv_iload_n hx hb dX0_divideLong_116 rfl (lv_at hl 1 rfl) ?_
          obtain ⟨_, ex27, hs⟩ := bi_inv hs
          obtain ⟨x28, ex28, hs⟩ := bi_inv hs
          refine hv_V1 (n := 2) [.int w6, .int x1] [.int x1, .int w6, .ref u0, .int w6, .ref x26] hx hb hml hown hts hk hr hz hS (zm_X0_guess l D z ex28) ex27 rfl tw_509 tw_511 ts_6 tw_6 tw_512 (by decide +kernel) (by decide) ⟨(Nat.zero_le _), (Nat.zero_le _)⟩ rfl hl.1 (Nat.le_of_ble_eq_true rfl) dX0_divideLong_117 rfl (fun H locs hr hS => ?_)
          obtain ⟨_, ex29, hs⟩ := bi_inv hs
          obtain ⟨x30, ex30, hs⟩ := bi_inv hs
          refine hv_V1 (n := 3) [.int w6, .int x1, .long x28] [.int w6, .ref x26] hx hb hml hown hts hk hr hz hS (zm_X0_takeAway l D z ex30) ex29 rfl tw_516 tw_518 ts_7 tw_6 tw_519 (by decide +kernel) (by decide) ⟨(Nat.zero_le _), (Nat.zero_le _)⟩ rfl hl.1 (Nat.le_of_ble_eq_true rfl) dX0_divideLong_120 rfl (fun H locs hr hS => ?_)
          obtain ⟨g31, eg31, hs⟩ := bi_inv hs
          refine hv_sJ hx hb hk hr hS eg31 dX0_divideLong_123 (fun H locs hr hS => ?_)
          refine lv_iinc (v := w6 + (-1 : Int32)) (lv' := [(6, .int (w6 + (-1 : Int32))), (0, .ref u0), (3, .int x1), (4, .int x5), (5, .int x22)]) hx hb dX0_divideLong_124 hl (k := 4) rfl (ii_v _ (by decide)) (by decide) rfl (fun ls hl => ?_)
          refine lv_goto (tgt := 95) hx hb dX0_divideLong_127 (by decide) ?_
          obtain rfl := Option.some.inj hs
          exact hcont _ rfl H locs ls hr hS (lv_sub hl [1, 2, 3, 4, 0] rfl)
      · intro H locs ls hr hS hl
        refine lv_aload_n hx hb dX0_divideLong_130 rfl (lv_at hl 0 rfl) ?_
        obtain ⟨x33, ex33, hs⟩ := bi_inv hs
        refine hv_gR (C := RX0) (T := TX0) (N := 5) (ci := 0) hx hb hts inX0 hown hk hr rfl 0 (by decide) (hts _ tw_135) ex33 dX0_divideLong_131 ?_
        refine lv_iload hx hb dX0_divideLong_134 (lv_at hl 3 rfl) ?_
        refine lv_iconst (v := 1) hx hb dX0_divideLong_136 (by decide) ?_
        refine lv_iadd hx hb dX0_divideLong_137 ?_
        obtain ⟨_, ex34, hs⟩ := bi_inv hs
        obtain ⟨g35, eg35, hs⟩ := bi_inv hs
        refine hv_V0 (n := 1) [.int (x22 + ((1 : Int32)))] [] hx hb hml hown hts hk hr hz hS (zm_X8_trim l D z eg35) ex34 rfl tw_524 tw_71 tw_72 tw_2 tw_73 (by decide +kernel) (by decide) ⟨(Nat.zero_le _), (Nat.zero_le _)⟩ rfl hl.1 (Nat.le_of_ble_eq_true rfl) dX0_divideLong_138 rfl (fun H locs hr hS => ?_)
        refine lv_iconst (v := 0) hx hb dX0_divideLong_141 (by decide) ?_
        refine lv_istore (lv' := [(6, .int ((0 : Int32))), (0, .ref u0), (3, .int x1), (4, .int x5), (5, .int x22)]) hx hb dX0_divideLong_142 hl (by decide) rfl (fun ls hl => ?_)
        obtain ⟨r45, er45, hs⟩ := bi_inv hs
        refine iter_W (fun (q : AH × Int32) => ∀ (H : Heap) (locs : List Loc) (ls : Array Slot), hR D z q.1 H → va_S (hA z) s.heap H locs → lv_has ls 7 [(0, .ref u0), (3, .int x1), (4, .int x5), (6, .int q.2)] → W p l e ({ frames := 2, cells := 0, slots := 0, locals := 62 } : Room) s m ([.ref u0, .ref u1, .ref u2] : List Value).toArray below meth c H locs 0 0 (MQ below (hQ D z h' none) ([.ref u0, .ref u1, .ref u2] : List Value).toArray s 0 0 (hA z)) (F0 m 144 ls [])) (fun (x : AH) => ∀ (H : Heap) (locs : List Loc) (ls : Array Slot), hR D z x H → va_S (hA z) s.heap H locs → lv_has ls 7 [(0, .ref u0), (3, .int x1)] → W p l e ({ frames := 2, cells := 0, slots := 0, locals := 62 } : Room) s m ([.ref u0, .ref u1, .ref u2] : List Value).toArray below meth c H locs 0 0 (MQ below (hQ D z h' none) ([.ref u0, .ref u1, .ref u2] : List Value).toArray s 0 0 (hA z)) (F0 m 196 ls [])) ?_ FU _ r45 er45 ?_ H locs ls hr hS (lv_sub hl [1, 2, 3, 0] rfl)
        · intro q o hs hcont hexit
          obtain ⟨g36, w6⟩ := q
          replace hs : zb_X0_divideLong_144 u0 x1 x5 g36 w6 = some o := hs
          intro H locs ls hr hS hl
          unfold zb_X0_divideLong_144 at hs
          refine lv_iload hx hb dX0_divideLong_144 (lv_at hl 3 rfl) ?_
          refine lv_iload_n hx hb dX0_divideLong_146 rfl (lv_at hl 1 rfl) ?_
          refine lv_icmp_ge (tgt := 196) hx hb dX0_divideLong_147 (by decide) (fun c37 => ?_) (fun c37 => ?_)
          · rw [if_pos c37] at hs
            obtain rfl := Option.some.inj hs
            exact hexit _ rfl H locs ls hr hS (lv_sub hl [0, 1] rfl)
          · rw [if_neg c37] at hs
            refine lv_aload_n hx hb dX0_divideLong_150 rfl (lv_at hl 0 rfl) ?_
            obtain ⟨x38, ex38, hs⟩ := bi_inv hs
            refine hv_gR (C := RX0) (T := TX0) (N := 5) (ci := 0) hx hb hts inX0 hown hk hr rfl 1 (by decide) (hts _ tw_140) ex38 dX0_divideLong_151 ?_
            obtain ⟨x39, ex39, hs⟩ := bi_inv hs
            refine hv_gR (C := RX8) (T := TX8) (N := 3) (ci := 8) hx hb hts inX8 hown hk hr rfl 0 (by decide) (hts _ tw_38) ex39 dX0_divideLong_154 ?_
            refine lv_iload hx hb dX0_divideLong_157 (lv_at hl 3 rfl) ?_
            refine lv_aload_n hx hb dX0_divideLong_159 rfl (lv_at hl 0 rfl) ?_
            obtain ⟨x40, ex40, hs⟩ := bi_inv hs
            refine hv_gR (C := RX0) (T := TX0) (N := 5) (ci := 0) hx hb hts inX0 hown hk hr rfl 3 (by decide) (hts _ tw_146) ex40 dX0_divideLong_160 ?_
            refine lv_iload hx hb dX0_divideLong_163 (lv_at hl 3 rfl) ?_
            obtain ⟨x41, ex41, hs⟩ := bi_inv hs
            refine hv_aJ hx hb hk hr ex41 dX0_divideLong_165 ?_
            refine lv_iload hx hb dX0_divideLong_166 (lv_at hl 2 rfl) ?_
            refine lv_lushr hx hb dX0_divideLong_168 rfl ?_
            refine lv_aload_n hx hb dX0_divideLong_169 rfl (lv_at hl 0 rfl) ?_
            obtain ⟨x42, ex42, hs⟩ := bi_inv hs
            refine hv_gR (C := RX0) (T := TX0) (N := 5) (ci := 0) hx hb hts inX0 hown hk hr rfl 3 (by decide) (hts _ tw_146) ex42 dX0_divideLong_170 ?_
            refine lv_iload hx hb dX0_divideLong_173 (lv_at hl 3 rfl) ?_
            refine lv_iconst (v := 1) hx hb dX0_divideLong_175 (by decide) ?_
            refine lv_iadd hx hb dX0_divideLong_176 ?_
            obtain ⟨x43, ex43, hs⟩ := bi_inv hs
            refine hv_aJ hx hb hk hr ex43 dX0_divideLong_177 ?_
            refine lv_bipush (v := 32) hx hb dX0_divideLong_178 (by decide) ?_
            refine lv_iload hx hb dX0_divideLong_180 (lv_at hl 2 rfl) ?_
            refine lv_isub hx hb dX0_divideLong_182 ?_
            refine lv_lshl hx hb dX0_divideLong_183 rfl ?_
            refine lv_lor hx hb dX0_divideLong_184 ?_
            refine lv_ldc2 hx hb hown (hts _ tw_514) dX0_divideLong_185 ?_
            refine lv_land hx hb dX0_divideLong_188 ?_
            obtain ⟨g44, eg44, hs⟩ := bi_inv hs
            refine hv_sJ hx hb hk hr hS eg44 dX0_divideLong_189 (fun H locs hr hS => ?_)
            refine lv_iinc (v := w6 + (1 : Int32)) (lv' := [(6, .int (w6 + (1 : Int32))), (0, .ref u0), (3, .int x1), (4, .int x5)]) hx hb dX0_divideLong_190 hl (k := 3) rfl (ii_v _ (by decide)) (by decide) rfl (fun ls hl => ?_)
            refine lv_goto (tgt := 144) hx hb dX0_divideLong_193 (by decide) ?_
            obtain rfl := Option.some.inj hs
            exact hcont _ rfl H locs ls hr hS (lv_sub hl [1, 2, 3, 0] rfl)
        · intro H locs ls hr hS hl
          refine lv_aload_n hx hb dX0_divideLong_196 rfl (lv_at hl 0 rfl) ?_
          obtain ⟨x46, ex46, hs⟩ := bi_inv hs
          refine hv_gR (C := RX0) (T := TX0) (N := 5) (ci := 0) hx hb hts inX0 hown hk hr rfl 1 (by decide) (hts _ tw_140) ex46 dX0_divideLong_197 ?_
          refine lv_iload_n hx hb dX0_divideLong_200 rfl (lv_at hl 1 rfl) ?_
          obtain ⟨_, ex47, hs⟩ := bi_inv hs
          obtain ⟨g48, eg48, hs⟩ := bi_inv hs
          refine hv_V0 (n := 1) [.int x1] [] hx hb hml hown hts hk hr hz hS (zm_X8_trim l D z eg48) ex47 rfl tw_524 tw_71 tw_72 tw_2 tw_73 (by decide +kernel) (by decide) ⟨(Nat.zero_le _), (Nat.zero_le _)⟩ rfl hl.1 (Nat.le_of_ble_eq_true rfl) dX0_divideLong_201 rfl (fun H locs hr hS => ?_)
          obtain rfl := Option.some.inj hs
          exact hv_vret hx hb hrt hlk hr hS dX0_divideLong_204
theorem dX0_divideSizes_0 : decode cX0_divideSizes 0 = .ok (.aload_n 2, 1) := by decide +kernel
theorem dX0_divideSizes_1 : decode cX0_divideSizes 1 = .ok (.invokevirtual 47, 3) := by decide +kernel
theorem dX0_divideSizes_4 : decode cX0_divideSizes 4 = .ok (.ifCond .ne 11, 3) := by decide +kernel
theorem dX0_divideSizes_7 : decode cX0_divideSizes 7 = .ok (.aload_n 1, 1) := by decide +kernel
theorem dX0_divideSizes_8 : decode cX0_divideSizes 8 = .ok (.aload_n 2, 1) := by decide +kernel
theorem dX0_divideSizes_9 : decode cX0_divideSizes 9 = .ok (.invokestatic 58, 3) := by decide +kernel
theorem dX0_divideSizes_12 : decode cX0_divideSizes 12 = .ok (.ifCond .ge 22, 3) := by decide +kernel
theorem dX0_divideSizes_15 : decode cX0_divideSizes 15 = .ok (.aload_n 0, 1) := by decide +kernel
theorem dX0_divideSizes_16 : decode cX0_divideSizes 16 = .ok (.getfield 12, 3) := by decide +kernel
theorem dX0_divideSizes_19 : decode cX0_divideSizes 19 = .ok (.lconst 0, 1) := by decide +kernel
theorem dX0_divideSizes_20 : decode cX0_divideSizes 20 = .ok (.invokevirtual 24, 3) := by decide +kernel
theorem dX0_divideSizes_23 : decode cX0_divideSizes 23 = .ok (.aload_n 0, 1) := by decide +kernel
theorem dX0_divideSizes_24 : decode cX0_divideSizes 24 = .ok (.getfield 18, 3) := by decide +kernel
theorem dX0_divideSizes_27 : decode cX0_divideSizes 27 = .ok (.aload_n 1, 1) := by decide +kernel
theorem dX0_divideSizes_28 : decode cX0_divideSizes 28 = .ok (.invokevirtual 62, 3) := by decide +kernel
theorem dX0_divideSizes_31 : decode cX0_divideSizes 31 = .ok (.goto 47, 3) := by decide +kernel
theorem dX0_divideSizes_34 : decode cX0_divideSizes 34 = .ok (.aload_n 2, 1) := by decide +kernel
theorem dX0_divideSizes_35 : decode cX0_divideSizes 35 = .ok (.getfield 66, 3) := by decide +kernel
theorem dX0_divideSizes_38 : decode cX0_divideSizes 38 = .ok (.iconst 1, 1) := by decide +kernel
theorem dX0_divideSizes_39 : decode cX0_divideSizes 39 = .ok (.if_icmp .ne 33, 3) := by decide +kernel
theorem dX0_divideSizes_42 : decode cX0_divideSizes 42 = .ok (.aload_n 0, 1) := by decide +kernel
theorem dX0_divideSizes_43 : decode cX0_divideSizes 43 = .ok (.getfield 12, 3) := by decide +kernel
theorem dX0_divideSizes_46 : decode cX0_divideSizes 46 = .ok (.aload_n 1, 1) := by decide +kernel
theorem dX0_divideSizes_47 : decode cX0_divideSizes 47 = .ok (.invokevirtual 62, 3) := by decide +kernel
theorem dX0_divideSizes_50 : decode cX0_divideSizes 50 = .ok (.aload_n 0, 1) := by decide +kernel
theorem dX0_divideSizes_51 : decode cX0_divideSizes 51 = .ok (.getfield 18, 3) := by decide +kernel
theorem dX0_divideSizes_54 : decode cX0_divideSizes 54 = .ok (.aload_n 0, 1) := by decide +kernel
theorem dX0_divideSizes_55 : decode cX0_divideSizes 55 = .ok (.getfield 12, 3) := by decide +kernel
theorem dX0_divideSizes_58 : decode cX0_divideSizes 58 = .ok (.aload_n 2, 1) := by decide +kernel
theorem dX0_divideSizes_59 : decode cX0_divideSizes 59 = .ok (.iconst 0, 1) := by decide +kernel
theorem dX0_divideSizes_60 : decode cX0_divideSizes 60 = .ok (.invokevirtual 70, 3) := by decide +kernel
theorem dX0_divideSizes_63 : decode cX0_divideSizes 63 = .ok (.invokevirtual 74, 3) := by decide +kernel
theorem dX0_divideSizes_66 : decode cX0_divideSizes 66 = .ok (.invokevirtual 24, 3) := by decide +kernel
theorem dX0_divideSizes_69 : decode cX0_divideSizes 69 = .ok (.goto 9, 3) := by decide +kernel
theorem dX0_divideSizes_72 : decode cX0_divideSizes 72 = .ok (.aload_n 0, 1) := by decide +kernel
theorem dX0_divideSizes_73 : decode cX0_divideSizes 73 = .ok (.aload_n 1, 1) := by decide +kernel
theorem dX0_divideSizes_74 : decode cX0_divideSizes 74 = .ok (.aload_n 2, 1) := by decide +kernel
theorem dX0_divideSizes_75 : decode cX0_divideSizes 75 = .ok (.invokevirtual 78, 3) := by decide +kernel
theorem dX0_divideSizes_78 : decode cX0_divideSizes 78 = .ok (.aload_n 0, 1) := by decide +kernel
theorem dX0_divideSizes_79 : decode cX0_divideSizes 79 = .ok (.getfield 12, 3) := by decide +kernel
theorem dX0_divideSizes_82 : decode cX0_divideSizes 82 = .ok (.iconst 0, 1) := by decide +kernel
theorem dX0_divideSizes_83 : decode cX0_divideSizes 83 = .ok (.invokevirtual 43, 3) := by decide +kernel
theorem dX0_divideSizes_86 : decode cX0_divideSizes 86 = .ok (.aload_n 0, 1) := by decide +kernel
theorem dX0_divideSizes_87 : decode cX0_divideSizes 87 = .ok (.getfield 18, 3) := by decide +kernel
theorem dX0_divideSizes_90 : decode cX0_divideSizes 90 = .ok (.iconst 0, 1) := by decide +kernel
theorem dX0_divideSizes_91 : decode cX0_divideSizes 91 = .ok (.invokevirtual 43, 3) := by decide +kernel
theorem dX0_divideSizes_94 : decode cX0_divideSizes 94 = .ok (.return_, 1) := by decide +kernel
def zj_X0_divideSizes_78 (g11 : AH) (y0_78 : Nat) : Option AH :=
  (gR g11 y0_78 0 0).bind fun x12 => (chk g11 x12 8).bind fun _ => (zs_X8_takeSign g11 x12 ((0 : Int32))).bind fun g14 => (gR g14 y0_78 0 1).bind fun x15 => (chk g14 x15 8).bind fun _ => (zs_X8_takeSign g14 x15 ((0 : Int32))).bind fun g17 => some g17
def zj_X0_divideSizes_15 (g4 : AH) (y0_15 : Nat) (y1_15 : Nat) : Option AH :=
  (gR g4 y0_15 0 0).bind fun x5 => (chk g4 x5 8).bind fun _ => (zs_X8_become g4 x5 ((0 : Int64))).bind fun g7 => (gR g7 y0_15 0 1).bind fun x8 => (chk g7 x8 8).bind fun _ => (zs_X8_copy g7 x8 y1_15).bind fun g10 => zj_X0_divideSizes_78 g10 y0_15
def zs_X0_divideSizes (h : AH) (u0 : Nat) (u1 : Nat) (u2 : Nat) : Option AH :=
  (chk h u2 8).bind fun _ => (zs_X8_isZero h u2).bind fun x2 => (if x2 = 0 then (zs_X8_orderSizes h u1 u2).bind fun x18 => (if 0 ≤ x18 then (gI h u2 8 1).bind fun x20 => (if x20 = (1 : Int32) then (gR h u0 0 0).bind fun x24 => (chk h x24 8).bind fun _ => (zs_X8_copy h x24 u1).bind fun g26 => (gR g26 u0 0 1).bind fun x27 => (gR g26 u0 0 0).bind fun x28 => (chk g26 u2 8).bind fun _ => (zs_X8_partAt g26 u2 ((0 : Int32))).bind fun x30 => (chk g26 x28 8).bind fun _ => (zs_X8_shrink g26 x28 x30).bind fun x32 => (chk x32.2 x27 8).bind fun _ => (zs_X8_become x32.2 x27 x32.1).bind fun g34 => zj_X0_divideSizes_78 g34 u0 else (chk h u0 0).bind fun _ => (zs_X0_divideLong h u0 u1 u2).bind fun g23 => zj_X0_divideSizes_78 g23 u0) else zj_X0_divideSizes_15 h u0 u1) else zj_X0_divideSizes_15 h u0 u1)
set_option maxRecDepth 100000 in
set_option maxHeartbeats 4000000 in
theorem zm_X0_divideSizes (l : Launch) (D : hG) (z : Nat) {h : AH} {u0 : Nat} {u1 : Nat} {u2 : Nat} {h' : AH} (hs : zs_X0_divideSizes h u0 u1 u2 = some h') : hC l D z yX0_divideSizes cX0_divideSizes 3 (Option.none : Option Jvm.ClassFile.FieldType) 3 88 0 0 [.ref u0, .ref u1, .ref u2] h h' none := by
  refine hC_of (by decide) (Nat.le_of_ble_eq_true rfl) ?_
  intro p e s m below meth c hx hb hml hrt hlk hown hnm hts hk hr hz ls hl
  replace hown : s.vm.findClass RX0 = some m.cls := hown
  replace hl : lv_has ls 3 [(0, .ref u0), (1, .ref u1), (2, .ref u2)] := hl
  have hS : va_S (hA z) s.heap s.heap [] := va_S.rf
  suffices hgo : ∀ (H : Heap) (locs : List Loc), hR D z h H → va_S (hA z) s.heap H locs → W p l e ({ frames := 3, cells := 0, slots := 0, locals := 88 } : Room) s m ([.ref u0, .ref u1, .ref u2] : List Value).toArray below meth c H locs 0 0 (MQ below (hQ D z h' none) ([.ref u0, .ref u1, .ref u2] : List Value).toArray s 0 0 (hA z)) (F0 m 0 ls []) from hgo _ _ hr hS
  clear hr hS
  intro H locs hr hS
  have hJ78 : ∀ (g11 : AH) (y0_78 : Nat) (H : Heap) (locs : List Loc) (ls : Array Slot), zj_X0_divideSizes_78 g11 y0_78 = some h' → hR D z g11 H → va_S (hA z) s.heap H locs → lv_has ls 3 [(0, .ref y0_78)] → W p l e ({ frames := 3, cells := 0, slots := 0, locals := 88 } : Room) s m ([.ref u0, .ref u1, .ref u2] : List Value).toArray below meth c H locs 0 0 (MQ below (hQ D z h' none) ([.ref u0, .ref u1, .ref u2] : List Value).toArray s 0 0 (hA z)) (F0 m 78 ls []) := by
    intro g11 y0_78 H locs ls hs hr hS hl
    unfold zj_X0_divideSizes_78 at hs
    refine lv_aload_n hx hb dX0_divideSizes_78 rfl (lv_at hl 0 rfl) ?_
    obtain ⟨x12, ex12, hs⟩ := bi_inv hs
    refine hv_gR (C := RX0) (T := TX0) (N := 5) (ci := 0) hx hb hts inX0 hown hk hr rfl 0 (by decide) (hts _ tw_135) ex12 dX0_divideSizes_79 ?_
    refine lv_iconst (v := 0) hx hb dX0_divideSizes_82 (by decide) ?_
    obtain ⟨_, ex13, hs⟩ := bi_inv hs
    obtain ⟨g14, eg14, hs⟩ := bi_inv hs
    refine hv_V0 (n := 1) [.int ((0 : Int32))] [] hx hb hml hown hts hk hr hz hS (zm_X8_takeSign l D z eg14) ex13 rfl tw_525 tw_75 tw_76 tw_2 tw_77 (by decide +kernel) (by decide) ⟨(Nat.zero_le _), (Nat.zero_le _)⟩ rfl hl.1 (Nat.le_of_ble_eq_true rfl) dX0_divideSizes_83 rfl (fun H locs hr hS => ?_)
    refine lv_aload_n hx hb dX0_divideSizes_86 rfl (lv_at hl 0 rfl) ?_
    obtain ⟨x15, ex15, hs⟩ := bi_inv hs
    refine hv_gR (C := RX0) (T := TX0) (N := 5) (ci := 0) hx hb hts inX0 hown hk hr rfl 1 (by decide) (hts _ tw_140) ex15 dX0_divideSizes_87 ?_
    refine lv_iconst (v := 0) hx hb dX0_divideSizes_90 (by decide) ?_
    obtain ⟨_, ex16, hs⟩ := bi_inv hs
    obtain ⟨g17, eg17, hs⟩ := bi_inv hs
    refine hv_V0 (n := 1) [.int ((0 : Int32))] [] hx hb hml hown hts hk hr hz hS (zm_X8_takeSign l D z eg17) ex16 rfl tw_525 tw_75 tw_76 tw_2 tw_77 (by decide +kernel) (by decide) ⟨(Nat.zero_le _), (Nat.zero_le _)⟩ rfl hl.1 (Nat.le_of_ble_eq_true rfl) dX0_divideSizes_91 rfl (fun H locs hr hS => ?_)
    obtain rfl := Option.some.inj hs
    exact hv_vret hx hb hrt hlk hr hS dX0_divideSizes_94
  have hJ15 : ∀ (g4 : AH) (y0_15 : Nat) (y1_15 : Nat) (H : Heap) (locs : List Loc) (ls : Array Slot), zj_X0_divideSizes_15 g4 y0_15 y1_15 = some h' → hR D z g4 H → va_S (hA z) s.heap H locs → lv_has ls 3 [(0, .ref y0_15), (1, .ref y1_15)] → W p l e ({ frames := 3, cells := 0, slots := 0, locals := 88 } : Room) s m ([.ref u0, .ref u1, .ref u2] : List Value).toArray below meth c H locs 0 0 (MQ below (hQ D z h' none) ([.ref u0, .ref u1, .ref u2] : List Value).toArray s 0 0 (hA z)) (F0 m 15 ls []) := by
    intro g4 y0_15 y1_15 H locs ls hs hr hS hl
    unfold zj_X0_divideSizes_15 at hs
    refine lv_aload_n hx hb dX0_divideSizes_15 rfl (lv_at hl 0 rfl) ?_
    obtain ⟨x5, ex5, hs⟩ := bi_inv hs
    refine hv_gR (C := RX0) (T := TX0) (N := 5) (ci := 0) hx hb hts inX0 hown hk hr rfl 0 (by decide) (hts _ tw_135) ex5 dX0_divideSizes_16 ?_
    refine lv_lconst (v := 0) hx hb dX0_divideSizes_19 (by decide) ?_
    obtain ⟨_, ex6, hs⟩ := bi_inv hs
    obtain ⟨g7, eg7, hs⟩ := bi_inv hs
    refine hv_V0 (n := 1) [.long ((0 : Int64))] [] hx hb hml hown hts hk hr hz hS (zm_X8_become l D z eg7) ex6 rfl tw_134 tw_66 tw_67 tw_2 tw_68 (by decide +kernel) (by decide) ⟨(Nat.zero_le _), (Nat.zero_le _)⟩ rfl hl.1 (Nat.le_of_ble_eq_true rfl) dX0_divideSizes_20 rfl (fun H locs hr hS => ?_)
    refine lv_aload_n hx hb dX0_divideSizes_23 rfl (lv_at hl 0 rfl) ?_
    obtain ⟨x8, ex8, hs⟩ := bi_inv hs
    refine hv_gR (C := RX0) (T := TX0) (N := 5) (ci := 0) hx hb hts inX0 hown hk hr rfl 1 (by decide) (hts _ tw_140) ex8 dX0_divideSizes_24 ?_
    refine lv_aload_n hx hb dX0_divideSizes_27 rfl (lv_at hl 1 rfl) ?_
    obtain ⟨_, ex9, hs⟩ := bi_inv hs
    obtain ⟨g10, eg10, hs⟩ := bi_inv hs
    refine hv_V0 (n := 1) [.ref y1_15] [] hx hb hml hown hts hk hr hz hS (zm_X8_copy l D z eg10) ex9 rfl tw_489 tw_373 tw_374 tw_2 tw_375 (by decide +kernel) (by decide) ⟨(Nat.zero_le _), (Nat.zero_le _)⟩ rfl hl.1 (Nat.le_of_ble_eq_true rfl) dX0_divideSizes_28 rfl (fun H locs hr hS => ?_)
    refine lv_goto (tgt := 78) hx hb dX0_divideSizes_31 (by decide) ?_
    exact hJ78 g10 y0_15 H locs ls hs hr hS (lv_sub hl [0] rfl)
  unfold zs_X0_divideSizes at hs
  refine lv_aload_n hx hb dX0_divideSizes_0 rfl (lv_at hl 2 rfl) ?_
  obtain ⟨_, ex1, hs⟩ := bi_inv hs
  obtain ⟨x2, ex2, hs⟩ := bi_inv hs
  refine hv_V1 (n := 0) [] [] hx hb hml hown hts hk hr hz hS (zm_X8_isZero l D z ex2) ex1 rfl tw_487 tw_400 tw_401 tw_2 tw_402 (by decide +kernel) (by decide) ⟨(Nat.zero_le _), (Nat.zero_le _)⟩ rfl hl.1 (Nat.le_of_ble_eq_true rfl) dX0_divideSizes_1 rfl (fun H locs hr hS => ?_)
  refine lv_if_ne (tgt := 15) hx hb dX0_divideSizes_4 (by decide) (fun c3 => ?_) (fun c3 => ?_)
  · rw [if_neg c3] at hs
    exact hJ15 h u0 u1 H locs ls hs hr hS (lv_sub hl [0, 1] rfl)
  · rw [if_pos c3] at hs
    refine lv_aload_n hx hb dX0_divideSizes_7 rfl (lv_at hl 1 rfl) ?_
    refine lv_aload_n hx hb dX0_divideSizes_8 rfl (lv_at hl 2 rfl) ?_
    obtain ⟨x18, ex18, hs⟩ := bi_inv hs
    refine hv_S1 (n := 2) [.ref u1, .ref u2] [] hx hb hml hown hts hk hr hz hS (zm_X8_orderSizes l D z ex18) tw_488 tw_441 tw_2 tw_442 (by decide +kernel) (by decide) ⟨(Nat.zero_le _), (Nat.zero_le _)⟩ rfl hl.1 (Nat.le_of_ble_eq_true rfl) dX0_divideSizes_9 rfl (fun H locs hr hS => ?_)
    refine lv_if_ge (tgt := 34) hx hb dX0_divideSizes_12 (by decide) (fun c19 => ?_) (fun c19 => ?_)
    · rw [if_pos c19] at hs
      refine lv_aload_n hx hb dX0_divideSizes_34 rfl (lv_at hl 2 rfl) ?_
      obtain ⟨x20, ex20, hs⟩ := bi_inv hs
      refine hv_gI (C := RX8) (T := TX8) (N := 3) (ci := 8) hx hb hts inX8 hown hk hr rfl 1 (by decide) (hts _ tw_40) ex20 dX0_divideSizes_35 ?_
      refine lv_iconst (v := 1) hx hb dX0_divideSizes_38 (by decide) ?_
      refine lv_icmp_ne (tgt := 72) hx hb dX0_divideSizes_39 (by decide) (fun c21 => ?_) (fun c21 => ?_)
      · rw [if_neg c21] at hs
        refine lv_aload_n hx hb dX0_divideSizes_72 rfl (lv_at hl 0 rfl) ?_
        refine lv_aload_n hx hb dX0_divideSizes_73 rfl (lv_at hl 1 rfl) ?_
        refine lv_aload_n hx hb dX0_divideSizes_74 rfl (lv_at hl 2 rfl) ?_
        obtain ⟨_, ex22, hs⟩ := bi_inv hs
        obtain ⟨g23, eg23, hs⟩ := bi_inv hs
        refine hv_V0 (n := 2) [.ref u1, .ref u2] [] hx hb hml hown hts hk hr hz hS (zm_X0_divideLong l D z eg23) ex22 rfl tw_492 tw_494 ts_5 tw_6 tw_495 (by decide +kernel) (by decide) ⟨(Nat.zero_le _), (Nat.zero_le _)⟩ rfl hl.1 (Nat.le_of_ble_eq_true rfl) dX0_divideSizes_75 rfl (fun H locs hr hS => ?_)
        exact hJ78 g23 u0 H locs ls hs hr hS (lv_sub hl [0] rfl)
      · rw [if_pos c21] at hs
        refine lv_aload_n hx hb dX0_divideSizes_42 rfl (lv_at hl 0 rfl) ?_
        obtain ⟨x24, ex24, hs⟩ := bi_inv hs
        refine hv_gR (C := RX0) (T := TX0) (N := 5) (ci := 0) hx hb hts inX0 hown hk hr rfl 0 (by decide) (hts _ tw_135) ex24 dX0_divideSizes_43 ?_
        refine lv_aload_n hx hb dX0_divideSizes_46 rfl (lv_at hl 1 rfl) ?_
        obtain ⟨_, ex25, hs⟩ := bi_inv hs
        obtain ⟨g26, eg26, hs⟩ := bi_inv hs
        refine hv_V0 (n := 1) [.ref u1] [] hx hb hml hown hts hk hr hz hS (zm_X8_copy l D z eg26) ex25 rfl tw_489 tw_373 tw_374 tw_2 tw_375 (by decide +kernel) (by decide) ⟨(Nat.zero_le _), (Nat.zero_le _)⟩ rfl hl.1 (Nat.le_of_ble_eq_true rfl) dX0_divideSizes_47 rfl (fun H locs hr hS => ?_)
        refine lv_aload_n hx hb dX0_divideSizes_50 rfl (lv_at hl 0 rfl) ?_
        obtain ⟨x27, ex27, hs⟩ := bi_inv hs
        refine hv_gR (C := RX0) (T := TX0) (N := 5) (ci := 0) hx hb hts inX0 hown hk hr rfl 1 (by decide) (hts _ tw_140) ex27 dX0_divideSizes_51 ?_
        refine lv_aload_n hx hb dX0_divideSizes_54 rfl (lv_at hl 0 rfl) ?_
        obtain ⟨x28, ex28, hs⟩ := bi_inv hs
        refine hv_gR (C := RX0) (T := TX0) (N := 5) (ci := 0) hx hb hts inX0 hown hk hr rfl 0 (by decide) (hts _ tw_135) ex28 dX0_divideSizes_55 ?_
        refine lv_aload_n hx hb dX0_divideSizes_58 rfl (lv_at hl 2 rfl) ?_
        refine lv_iconst (v := 0) hx hb dX0_divideSizes_59 (by decide) ?_
        obtain ⟨_, ex29, hs⟩ := bi_inv hs
        obtain ⟨x30, ex30, hs⟩ := bi_inv hs
        refine hv_V1 (n := 1) [.int ((0 : Int32))] [.ref x28, .ref x27] hx hb hml hown hts hk hr hz hS (zm_X8_partAt l D z ex30) ex29 rfl tw_490 tw_416 tw_417 tw_2 tw_418 (by decide +kernel) (by decide) ⟨(Nat.zero_le _), (Nat.zero_le _)⟩ rfl hl.1 (Nat.le_of_ble_eq_true rfl) dX0_divideSizes_60 rfl (fun H locs hr hS => ?_)
        obtain ⟨_, ex31, hs⟩ := bi_inv hs
        obtain ⟨x32, ex32, hs⟩ := bi_inv hs
        refine hv_V1 (n := 1) [.long x30] [.ref x27] hx hb hml hown hts hk hr hz hS (zm_X8_shrink l D z ex32) ex31 rfl tw_491 tw_386 tw_387 tw_2 tw_388 (by decide +kernel) (by decide) ⟨(Nat.zero_le _), (Nat.zero_le _)⟩ rfl hl.1 (Nat.le_of_ble_eq_true rfl) dX0_divideSizes_63 rfl (fun H locs hr hS => ?_)
        obtain ⟨_, ex33, hs⟩ := bi_inv hs
        obtain ⟨g34, eg34, hs⟩ := bi_inv hs
        refine hv_V0 (n := 1) [.long x32.1] [] hx hb hml hown hts hk hr hz hS (zm_X8_become l D z eg34) ex33 rfl tw_134 tw_66 tw_67 tw_2 tw_68 (by decide +kernel) (by decide) ⟨(Nat.zero_le _), (Nat.zero_le _)⟩ rfl hl.1 (Nat.le_of_ble_eq_true rfl) dX0_divideSizes_66 rfl (fun H locs hr hS => ?_)
        refine lv_goto (tgt := 78) hx hb dX0_divideSizes_69 (by decide) ?_
        exact hJ78 g34 u0 H locs ls hs hr hS (lv_sub hl [0] rfl)
    · rw [if_neg c19] at hs
      exact hJ15 h u0 u1 H locs ls hs hr hS (lv_sub hl [0, 1] rfl)
theorem dX0_divide_0 : decode cX0_divide 0 = .ok (.aload_n 0, 1) := by decide +kernel
theorem dX0_divide_1 : decode cX0_divide 1 = .ok (.aload_n 2, 1) := by decide +kernel
theorem dX0_divide_2 : decode cX0_divide 2 = .ok (.aload_n 3, 1) := by decide +kernel
theorem dX0_divide_3 : decode cX0_divide 3 = .ok (.invokevirtual 35, 3) := by decide +kernel
theorem dX0_divide_6 : decode cX0_divide 6 = .ok (.aload_n 0, 1) := by decide +kernel
theorem dX0_divide_7 : decode cX0_divide 7 = .ok (.getfield 12, 3) := by decide +kernel
theorem dX0_divide_10 : decode cX0_divide 10 = .ok (.aload_n 2, 1) := by decide +kernel
theorem dX0_divide_11 : decode cX0_divide 11 = .ok (.getfield 39, 3) := by decide +kernel
theorem dX0_divide_14 : decode cX0_divide 14 = .ok (.aload_n 3, 1) := by decide +kernel
theorem dX0_divide_15 : decode cX0_divide 15 = .ok (.getfield 39, 3) := by decide +kernel
theorem dX0_divide_18 : decode cX0_divide 18 = .ok (.if_icmp .eq 7, 3) := by decide +kernel
theorem dX0_divide_21 : decode cX0_divide 21 = .ok (.iconst 1, 1) := by decide +kernel
theorem dX0_divide_22 : decode cX0_divide 22 = .ok (.goto 4, 3) := by decide +kernel
theorem dX0_divide_25 : decode cX0_divide 25 = .ok (.iconst 0, 1) := by decide +kernel
theorem dX0_divide_26 : decode cX0_divide 26 = .ok (.invokevirtual 43, 3) := by decide +kernel
theorem dX0_divide_29 : decode cX0_divide 29 = .ok (.aload_n 0, 1) := by decide +kernel
theorem dX0_divide_30 : decode cX0_divide 30 = .ok (.getfield 18, 3) := by decide +kernel
theorem dX0_divide_33 : decode cX0_divide 33 = .ok (.aload_n 2, 1) := by decide +kernel
theorem dX0_divide_34 : decode cX0_divide 34 = .ok (.getfield 39, 3) := by decide +kernel
theorem dX0_divide_37 : decode cX0_divide 37 = .ok (.invokevirtual 43, 3) := by decide +kernel
theorem dX0_divide_40 : decode cX0_divide 40 = .ok (.aload_n 0, 1) := by decide +kernel
theorem dX0_divide_41 : decode cX0_divide 41 = .ok (.getfield 18, 3) := by decide +kernel
theorem dX0_divide_44 : decode cX0_divide 44 = .ok (.invokevirtual 47, 3) := by decide +kernel
theorem dX0_divide_47 : decode cX0_divide 47 = .ok (.ifCond .ne 21, 3) := by decide +kernel
theorem dX0_divide_50 : decode cX0_divide 50 = .ok (.aload_n 0, 1) := by decide +kernel
theorem dX0_divide_51 : decode cX0_divide 51 = .ok (.getfield 18, 3) := by decide +kernel
theorem dX0_divide_54 : decode cX0_divide 54 = .ok (.getfield 39, 3) := by decide +kernel
theorem dX0_divide_57 : decode cX0_divide 57 = .ok (.aload_n 3, 1) := by decide +kernel
theorem dX0_divide_58 : decode cX0_divide 58 = .ok (.getfield 39, 3) := by decide +kernel
theorem dX0_divide_61 : decode cX0_divide 61 = .ok (.if_icmp .eq 7, 3) := by decide +kernel
theorem dX0_divide_64 : decode cX0_divide 64 = .ok (.iconst 1, 1) := by decide +kernel
theorem dX0_divide_65 : decode cX0_divide 65 = .ok (.goto 4, 3) := by decide +kernel
theorem dX0_divide_68 : decode cX0_divide 68 = .ok (.iconst 0, 1) := by decide +kernel
theorem dX0_divide_69 : decode cX0_divide 69 = .ok (.istore 4, 2) := by decide +kernel
theorem dX0_divide_71 : decode cX0_divide 71 = .ok (.iload_n 1, 1) := by decide +kernel
theorem dX0_divide_72 : decode cX0_divide 72 = .ok (.iconst 1, 1) := by decide +kernel
theorem dX0_divide_73 : decode cX0_divide 73 = .ok (.if_icmp .ne 8, 3) := by decide +kernel
theorem dX0_divide_76 : decode cX0_divide 76 = .ok (.iload 4, 2) := by decide +kernel
theorem dX0_divide_78 : decode cX0_divide 78 = .ok (.ifCond .ne 25, 3) := by decide +kernel
theorem dX0_divide_81 : decode cX0_divide 81 = .ok (.iload_n 1, 1) := by decide +kernel
theorem dX0_divide_82 : decode cX0_divide 82 = .ok (.iconst 2, 1) := by decide +kernel
theorem dX0_divide_83 : decode cX0_divide 83 = .ok (.if_icmp .ne 24, 3) := by decide +kernel
theorem dX0_divide_86 : decode cX0_divide 86 = .ok (.aload_n 0, 1) := by decide +kernel
theorem dX0_divide_87 : decode cX0_divide 87 = .ok (.getfield 18, 3) := by decide +kernel
theorem dX0_divide_90 : decode cX0_divide 90 = .ok (.getfield 39, 3) := by decide +kernel
theorem dX0_divide_93 : decode cX0_divide 93 = .ok (.ifCond .eq 14, 3) := by decide +kernel
theorem dX0_divide_96 : decode cX0_divide 96 = .ok (.aload_n 3, 1) := by decide +kernel
theorem dX0_divide_97 : decode cX0_divide 97 = .ok (.getfield 39, 3) := by decide +kernel
theorem dX0_divide_100 : decode cX0_divide 100 = .ok (.ifCond .ne 7, 3) := by decide +kernel
theorem dX0_divide_103 : decode cX0_divide 103 = .ok (.iconst 1, 1) := by decide +kernel
theorem dX0_divide_104 : decode cX0_divide 104 = .ok (.goto 4, 3) := by decide +kernel
theorem dX0_divide_107 : decode cX0_divide 107 = .ok (.iconst 0, 1) := by decide +kernel
theorem dX0_divide_108 : decode cX0_divide 108 = .ok (.istore 5, 2) := by decide +kernel
theorem dX0_divide_110 : decode cX0_divide 110 = .ok (.iload_n 1, 1) := by decide +kernel
theorem dX0_divide_111 : decode cX0_divide 111 = .ok (.iconst 2, 1) := by decide +kernel
theorem dX0_divide_112 : decode cX0_divide 112 = .ok (.if_icmp .ne 24, 3) := by decide +kernel
theorem dX0_divide_115 : decode cX0_divide 115 = .ok (.aload_n 0, 1) := by decide +kernel
theorem dX0_divide_116 : decode cX0_divide 116 = .ok (.getfield 18, 3) := by decide +kernel
theorem dX0_divide_119 : decode cX0_divide 119 = .ok (.getfield 39, 3) := by decide +kernel
theorem dX0_divide_122 : decode cX0_divide 122 = .ok (.ifCond .eq 14, 3) := by decide +kernel
theorem dX0_divide_125 : decode cX0_divide 125 = .ok (.aload_n 3, 1) := by decide +kernel
theorem dX0_divide_126 : decode cX0_divide 126 = .ok (.getfield 39, 3) := by decide +kernel
theorem dX0_divide_129 : decode cX0_divide 129 = .ok (.ifCond .eq 7, 3) := by decide +kernel
theorem dX0_divide_132 : decode cX0_divide 132 = .ok (.iconst 1, 1) := by decide +kernel
theorem dX0_divide_133 : decode cX0_divide 133 = .ok (.goto 4, 3) := by decide +kernel
theorem dX0_divide_136 : decode cX0_divide 136 = .ok (.iconst 0, 1) := by decide +kernel
theorem dX0_divide_137 : decode cX0_divide 137 = .ok (.istore 6, 2) := by decide +kernel
theorem dX0_divide_139 : decode cX0_divide 139 = .ok (.iload 5, 2) := by decide +kernel
theorem dX0_divide_141 : decode cX0_divide 141 = .ok (.ifCond .eq 33, 3) := by decide +kernel
theorem dX0_divide_144 : decode cX0_divide 144 = .ok (.aload_n 0, 1) := by decide +kernel
theorem dX0_divide_145 : decode cX0_divide 145 = .ok (.getfield 12, 3) := by decide +kernel
theorem dX0_divide_148 : decode cX0_divide 148 = .ok (.aload_n 0, 1) := by decide +kernel
theorem dX0_divide_149 : decode cX0_divide 149 = .ok (.getfield 21, 3) := by decide +kernel
theorem dX0_divide_152 : decode cX0_divide 152 = .ok (.aload_n 0, 1) := by decide +kernel
theorem dX0_divide_153 : decode cX0_divide 153 = .ok (.getfield 12, 3) := by decide +kernel
theorem dX0_divide_156 : decode cX0_divide 156 = .ok (.invokestatic 51, 3) := by decide +kernel
theorem dX0_divide_159 : decode cX0_divide 159 = .ok (.aload_n 0, 1) := by decide +kernel
theorem dX0_divide_160 : decode cX0_divide 160 = .ok (.getfield 18, 3) := by decide +kernel
theorem dX0_divide_163 : decode cX0_divide 163 = .ok (.aload_n 3, 1) := by decide +kernel
theorem dX0_divide_164 : decode cX0_divide 164 = .ok (.aload_n 0, 1) := by decide +kernel
theorem dX0_divide_165 : decode cX0_divide 165 = .ok (.getfield 18, 3) := by decide +kernel
theorem dX0_divide_168 : decode cX0_divide 168 = .ok (.invokestatic 55, 3) := by decide +kernel
theorem dX0_divide_171 : decode cX0_divide 171 = .ok (.goto 35, 3) := by decide +kernel
theorem dX0_divide_174 : decode cX0_divide 174 = .ok (.iload 6, 2) := by decide +kernel
theorem dX0_divide_176 : decode cX0_divide 176 = .ok (.ifCond .eq 30, 3) := by decide +kernel
theorem dX0_divide_179 : decode cX0_divide 179 = .ok (.aload_n 0, 1) := by decide +kernel
theorem dX0_divide_180 : decode cX0_divide 180 = .ok (.getfield 12, 3) := by decide +kernel
theorem dX0_divide_183 : decode cX0_divide 183 = .ok (.aload_n 0, 1) := by decide +kernel
theorem dX0_divide_184 : decode cX0_divide 184 = .ok (.getfield 21, 3) := by decide +kernel
theorem dX0_divide_187 : decode cX0_divide 187 = .ok (.aload_n 0, 1) := by decide +kernel
theorem dX0_divide_188 : decode cX0_divide 188 = .ok (.getfield 12, 3) := by decide +kernel
theorem dX0_divide_191 : decode cX0_divide 191 = .ok (.invokestatic 55, 3) := by decide +kernel
theorem dX0_divide_194 : decode cX0_divide 194 = .ok (.aload_n 0, 1) := by decide +kernel
theorem dX0_divide_195 : decode cX0_divide 195 = .ok (.getfield 18, 3) := by decide +kernel
theorem dX0_divide_198 : decode cX0_divide 198 = .ok (.aload_n 3, 1) := by decide +kernel
theorem dX0_divide_199 : decode cX0_divide 199 = .ok (.aload_n 0, 1) := by decide +kernel
theorem dX0_divide_200 : decode cX0_divide 200 = .ok (.getfield 18, 3) := by decide +kernel
theorem dX0_divide_203 : decode cX0_divide 203 = .ok (.invokestatic 51, 3) := by decide +kernel
theorem dX0_divide_206 : decode cX0_divide 206 = .ok (.return_, 1) := by decide +kernel
def zj_X0_divide_137 (g24 : AH) (y0_137 : Nat) (y3_137 : Nat) (y5_137 : Int32) (t0_137 : Int32) : Option AH :=
  (if y5_137 = 0 then (if t0_137 = 0 then some g24 else (gR g24 y0_137 0 0).bind fun x27 => (gR g24 y0_137 0 2).bind fun x28 => (gR g24 y0_137 0 0).bind fun x29 => (zs_X8_sum g24 x27 x28 x29).bind fun g30 => (gR g30 y0_137 0 1).bind fun x31 => (gR g30 y0_137 0 1).bind fun x32 => (zs_X8_difference g30 x31 y3_137 x32).bind fun g33 => some g33) else (gR g24 y0_137 0 0).bind fun x34 => (gR g24 y0_137 0 2).bind fun x35 => (gR g24 y0_137 0 0).bind fun x36 => (zs_X8_difference g24 x34 x35 x36).bind fun g37 => (gR g37 y0_137 0 1).bind fun x38 => (gR g37 y0_137 0 1).bind fun x39 => (zs_X8_sum g37 x38 y3_137 x39).bind fun g40 => some g40)
def zj_X0_divide_108 (g22 : AH) (y0_108 : Nat) (y1_108 : Int32) (y3_108 : Nat) (t0_108 : Int32) : Option AH :=
  (if y1_108 = (2 : Int32) then (gR g22 y0_108 0 1).bind fun x41 => (gI g22 x41 8 2).bind fun x42 => (if x42 = 0 then zj_X0_divide_137 g22 y0_108 y3_108 t0_108 ((0 : Int32)) else (gI g22 y3_108 8 2).bind fun x44 => (if x44 = 0 then zj_X0_divide_137 g22 y0_108 y3_108 t0_108 ((0 : Int32)) else zj_X0_divide_137 g22 y0_108 y3_108 t0_108 ((1 : Int32)))) else zj_X0_divide_137 g22 y0_108 y3_108 t0_108 ((0 : Int32)))
def zj_X0_divide_81 (g20 : AH) (y0_81 : Nat) (y1_81 : Int32) (y3_81 : Nat) : Option AH :=
  (if y1_81 = (2 : Int32) then (gR g20 y0_81 0 1).bind fun x46 => (gI g20 x46 8 2).bind fun x47 => (if x47 = 0 then zj_X0_divide_108 g20 y0_81 y1_81 y3_81 ((0 : Int32)) else (gI g20 y3_81 8 2).bind fun x49 => (if x49 = 0 then zj_X0_divide_108 g20 y0_81 y1_81 y3_81 ((1 : Int32)) else zj_X0_divide_108 g20 y0_81 y1_81 y3_81 ((0 : Int32)))) else zj_X0_divide_108 g20 y0_81 y1_81 y3_81 ((0 : Int32)))
def zj_X0_divide_69 (g18 : AH) (y0_69 : Nat) (y1_69 : Int32) (y3_69 : Nat) (t0_69 : Int32) : Option AH :=
  (if y1_69 = (1 : Int32) then (if t0_69 = 0 then zj_X0_divide_81 g18 y0_69 y1_69 y3_69 else zj_X0_divide_108 g18 y0_69 y1_69 y3_69 ((1 : Int32))) else zj_X0_divide_81 g18 y0_69 y1_69 y3_69)
def zj_X0_divide_26 (g7 : AH) (y0_26 : Nat) (y1_26 : Int32) (y2_26 : Nat) (y3_26 : Nat) (t0_26 : Int32) (t1_26 : Nat) : Option AH :=
  (chk g7 t1_26 8).bind fun _ => (zs_X8_takeSign g7 t1_26 t0_26).bind fun g9 => (gR g9 y0_26 0 1).bind fun x10 => (gI g9 y2_26 8 2).bind fun x11 => (chk g9 x10 8).bind fun _ => (zs_X8_takeSign g9 x10 x11).bind fun g13 => (gR g13 y0_26 0 1).bind fun x14 => (chk g13 x14 8).bind fun _ => (zs_X8_isZero g13 x14).bind fun x16 => (if x16 = 0 then (gR g13 y0_26 0 1).bind fun x52 => (gI g13 x52 8 2).bind fun x53 => (gI g13 y3_26 8 2).bind fun x54 => (if x53 = x54 then zj_X0_divide_69 g13 y0_26 y1_26 y3_26 ((0 : Int32)) else zj_X0_divide_69 g13 y0_26 y1_26 y3_26 ((1 : Int32))) else zj_X0_divide_69 g13 y0_26 y1_26 y3_26 ((0 : Int32)))
def zs_X0_divide (h : AH) (u0 : Nat) (u1 : Int32) (u2 : Nat) (u3 : Nat) : Option AH :=
  (chk h u0 0).bind fun _ => (zs_X0_divideSizes h u0 u2 u3).bind fun g2 => (gR g2 u0 0 0).bind fun x3 => (gI g2 u2 8 2).bind fun x4 => (gI g2 u3 8 2).bind fun x5 => (if x4 = x5 then zj_X0_divide_26 g2 u0 u1 u2 u3 ((0 : Int32)) x3 else zj_X0_divide_26 g2 u0 u1 u2 u3 ((1 : Int32)) x3)
set_option maxRecDepth 100000 in
set_option maxHeartbeats 4000000 in
theorem zm_X0_divide (l : Launch) (D : hG) (z : Nat) {h : AH} {u0 : Nat} {u1 : Int32} {u2 : Nat} {u3 : Nat} {h' : AH} (hs : zs_X0_divide h u0 u1 u2 u3 = some h') : hC l D z yX0_divide cX0_divide 7 (Option.none : Option Jvm.ClassFile.FieldType) 4 110 0 0 [.ref u0, .int u1, .ref u2, .ref u3] h h' none := by
  refine hC_of (by decide) (Nat.le_of_ble_eq_true rfl) ?_
  intro p e s m below meth c hx hb hml hrt hlk hown hnm hts hk hr hz ls hl
  replace hown : s.vm.findClass RX0 = some m.cls := hown
  replace hl : lv_has ls 7 [(0, .ref u0), (1, .int u1), (2, .ref u2), (3, .ref u3)] := hl
  have hS : va_S (hA z) s.heap s.heap [] := va_S.rf
  suffices hgo : ∀ (H : Heap) (locs : List Loc), hR D z h H → va_S (hA z) s.heap H locs → W p l e ({ frames := 4, cells := 0, slots := 0, locals := 110 } : Room) s m ([.ref u0, .int u1, .ref u2, .ref u3] : List Value).toArray below meth c H locs 0 0 (MQ below (hQ D z h' none) ([.ref u0, .int u1, .ref u2, .ref u3] : List Value).toArray s 0 0 (hA z)) (F0 m 0 ls []) from hgo _ _ hr hS
  clear hr hS
  intro H locs hr hS
  have hJ137 : ∀ (g24 : AH) (y0_137 : Nat) (y3_137 : Nat) (y5_137 : Int32) (t0_137 : Int32) (H : Heap) (locs : List Loc) (ls : Array Slot), zj_X0_divide_137 g24 y0_137 y3_137 y5_137 t0_137 = some h' → hR D z g24 H → va_S (hA z) s.heap H locs → lv_has ls 7 [(0, .ref y0_137), (3, .ref y3_137), (5, .int y5_137)] → W p l e ({ frames := 4, cells := 0, slots := 0, locals := 110 } : Room) s m ([.ref u0, .int u1, .ref u2, .ref u3] : List Value).toArray below meth c H locs 0 0 (MQ below (hQ D z h' none) ([.ref u0, .int u1, .ref u2, .ref u3] : List Value).toArray s 0 0 (hA z)) (F0 m 137 ls [.int t0_137]) := by
    intro g24 y0_137 y3_137 y5_137 t0_137 H locs ls hs hr hS hl
    unfold zj_X0_divide_137 at hs
    refine lv_istore (lv' := [(6, .int t0_137), (0, .ref y0_137), (3, .ref y3_137), (5, .int y5_137)]) hx hb dX0_divide_137 hl (by decide) rfl (fun ls hl => ?_)
    refine lv_iload hx hb dX0_divide_139 (lv_at hl 3 rfl) ?_
    refine lv_if_eq (tgt := 174) hx hb dX0_divide_141 (by decide) (fun c25 => ?_) (fun c25 => ?_)
    · rw [if_pos c25] at hs
      refine lv_iload hx hb dX0_divide_174 (lv_at hl 0 rfl) ?_
      refine lv_if_eq (tgt := 206) hx hb dX0_divide_176 (by decide) (fun c26 => ?_) (fun c26 => ?_)
      · rw [if_pos c26] at hs
        obtain rfl := Option.some.inj hs
        exact hv_vret hx hb hrt hlk hr hS dX0_divide_206
      · rw [if_neg c26] at hs
        refine lv_aload_n hx hb dX0_divide_179 rfl (lv_at hl 1 rfl) ?_
        obtain ⟨x27, ex27, hs⟩ := bi_inv hs
        refine hv_gR (C := RX0) (T := TX0) (N := 5) (ci := 0) hx hb hts inX0 hown hk hr rfl 0 (by decide) (hts _ tw_135) ex27 dX0_divide_180 ?_
        refine lv_aload_n hx hb dX0_divide_183 rfl (lv_at hl 1 rfl) ?_
        obtain ⟨x28, ex28, hs⟩ := bi_inv hs
        refine hv_gR (C := RX0) (T := TX0) (N := 5) (ci := 0) hx hb hts inX0 hown hk hr rfl 2 (by decide) (hts _ tw_145) ex28 dX0_divide_184 ?_
        refine lv_aload_n hx hb dX0_divide_187 rfl (lv_at hl 1 rfl) ?_
        obtain ⟨x29, ex29, hs⟩ := bi_inv hs
        refine hv_gR (C := RX0) (T := TX0) (N := 5) (ci := 0) hx hb hts inX0 hown hk hr rfl 0 (by decide) (hts _ tw_135) ex29 dX0_divide_188 ?_
        obtain ⟨g30, eg30, hs⟩ := bi_inv hs
        refine hv_S0 (n := 3) [.ref x27, .ref x28, .ref x29] [] hx hb hml hown hts hk hr hz hS (zm_X8_sum l D z eg30) tw_527 tw_451 tw_2 tw_452 (by decide +kernel) (by decide) ⟨(Nat.zero_le _), (Nat.zero_le _)⟩ rfl hl.1 (Nat.le_of_ble_eq_true rfl) dX0_divide_191 rfl (fun H locs hr hS => ?_)
        refine lv_aload_n hx hb dX0_divide_194 rfl (lv_at hl 1 rfl) ?_
        obtain ⟨x31, ex31, hs⟩ := bi_inv hs
        refine hv_gR (C := RX0) (T := TX0) (N := 5) (ci := 0) hx hb hts inX0 hown hk hr rfl 1 (by decide) (hts _ tw_140) ex31 dX0_divide_195 ?_
        refine lv_aload_n hx hb dX0_divide_198 rfl (lv_at hl 2 rfl) ?_
        refine lv_aload_n hx hb dX0_divide_199 rfl (lv_at hl 1 rfl) ?_
        obtain ⟨x32, ex32, hs⟩ := bi_inv hs
        refine hv_gR (C := RX0) (T := TX0) (N := 5) (ci := 0) hx hb hts inX0 hown hk hr rfl 1 (by decide) (hts _ tw_140) ex32 dX0_divide_200 ?_
        obtain ⟨g33, eg33, hs⟩ := bi_inv hs
        refine hv_S0 (n := 3) [.ref x31, .ref y3_137, .ref x32] [] hx hb hml hown hts hk hr hz hS (zm_X8_difference l D z eg33) tw_526 tw_469 tw_2 tw_470 (by decide +kernel) (by decide) ⟨(Nat.zero_le _), (Nat.zero_le _)⟩ rfl hl.1 (Nat.le_of_ble_eq_true rfl) dX0_divide_203 rfl (fun H locs hr hS => ?_)
        obtain rfl := Option.some.inj hs
        exact hv_vret hx hb hrt hlk hr hS dX0_divide_206
    · rw [if_neg c25] at hs
      refine lv_aload_n hx hb dX0_divide_144 rfl (lv_at hl 1 rfl) ?_
      obtain ⟨x34, ex34, hs⟩ := bi_inv hs
      refine hv_gR (C := RX0) (T := TX0) (N := 5) (ci := 0) hx hb hts inX0 hown hk hr rfl 0 (by decide) (hts _ tw_135) ex34 dX0_divide_145 ?_
      refine lv_aload_n hx hb dX0_divide_148 rfl (lv_at hl 1 rfl) ?_
      obtain ⟨x35, ex35, hs⟩ := bi_inv hs
      refine hv_gR (C := RX0) (T := TX0) (N := 5) (ci := 0) hx hb hts inX0 hown hk hr rfl 2 (by decide) (hts _ tw_145) ex35 dX0_divide_149 ?_
      refine lv_aload_n hx hb dX0_divide_152 rfl (lv_at hl 1 rfl) ?_
      obtain ⟨x36, ex36, hs⟩ := bi_inv hs
      refine hv_gR (C := RX0) (T := TX0) (N := 5) (ci := 0) hx hb hts inX0 hown hk hr rfl 0 (by decide) (hts _ tw_135) ex36 dX0_divide_153 ?_
      obtain ⟨g37, eg37, hs⟩ := bi_inv hs
      refine hv_S0 (n := 3) [.ref x34, .ref x35, .ref x36] [] hx hb hml hown hts hk hr hz hS (zm_X8_difference l D z eg37) tw_526 tw_469 tw_2 tw_470 (by decide +kernel) (by decide) ⟨(Nat.zero_le _), (Nat.zero_le _)⟩ rfl hl.1 (Nat.le_of_ble_eq_true rfl) dX0_divide_156 rfl (fun H locs hr hS => ?_)
      refine lv_aload_n hx hb dX0_divide_159 rfl (lv_at hl 1 rfl) ?_
      obtain ⟨x38, ex38, hs⟩ := bi_inv hs
      refine hv_gR (C := RX0) (T := TX0) (N := 5) (ci := 0) hx hb hts inX0 hown hk hr rfl 1 (by decide) (hts _ tw_140) ex38 dX0_divide_160 ?_
      refine lv_aload_n hx hb dX0_divide_163 rfl (lv_at hl 2 rfl) ?_
      refine lv_aload_n hx hb dX0_divide_164 rfl (lv_at hl 1 rfl) ?_
      obtain ⟨x39, ex39, hs⟩ := bi_inv hs
      refine hv_gR (C := RX0) (T := TX0) (N := 5) (ci := 0) hx hb hts inX0 hown hk hr rfl 1 (by decide) (hts _ tw_140) ex39 dX0_divide_165 ?_
      obtain ⟨g40, eg40, hs⟩ := bi_inv hs
      refine hv_S0 (n := 3) [.ref x38, .ref y3_137, .ref x39] [] hx hb hml hown hts hk hr hz hS (zm_X8_sum l D z eg40) tw_527 tw_451 tw_2 tw_452 (by decide +kernel) (by decide) ⟨(Nat.zero_le _), (Nat.zero_le _)⟩ rfl hl.1 (Nat.le_of_ble_eq_true rfl) dX0_divide_168 rfl (fun H locs hr hS => ?_)
      refine lv_goto (tgt := 206) hx hb dX0_divide_171 (by decide) ?_
      obtain rfl := Option.some.inj hs
      exact hv_vret hx hb hrt hlk hr hS dX0_divide_206
  have hJ108 : ∀ (g22 : AH) (y0_108 : Nat) (y1_108 : Int32) (y3_108 : Nat) (t0_108 : Int32) (H : Heap) (locs : List Loc) (ls : Array Slot), zj_X0_divide_108 g22 y0_108 y1_108 y3_108 t0_108 = some h' → hR D z g22 H → va_S (hA z) s.heap H locs → lv_has ls 7 [(0, .ref y0_108), (1, .int y1_108), (3, .ref y3_108)] → W p l e ({ frames := 4, cells := 0, slots := 0, locals := 110 } : Room) s m ([.ref u0, .int u1, .ref u2, .ref u3] : List Value).toArray below meth c H locs 0 0 (MQ below (hQ D z h' none) ([.ref u0, .int u1, .ref u2, .ref u3] : List Value).toArray s 0 0 (hA z)) (F0 m 108 ls [.int t0_108]) := by
    intro g22 y0_108 y1_108 y3_108 t0_108 H locs ls hs hr hS hl
    unfold zj_X0_divide_108 at hs
    refine lv_istore (lv' := [(5, .int t0_108), (0, .ref y0_108), (1, .int y1_108), (3, .ref y3_108)]) hx hb dX0_divide_108 hl (by decide) rfl (fun ls hl => ?_)
    refine lv_iload_n hx hb dX0_divide_110 rfl (lv_at hl 2 rfl) ?_
    refine lv_iconst (v := 2) hx hb dX0_divide_111 (by decide) ?_
    refine lv_icmp_ne (tgt := 136) hx hb dX0_divide_112 (by decide) (fun c23 => ?_) (fun c23 => ?_)
    · rw [if_neg c23] at hs
      refine lv_iconst (v := 0) hx hb dX0_divide_136 (by decide) ?_
      exact hJ137 g22 y0_108 y3_108 t0_108 ((0 : Int32)) H locs ls hs hr hS (lv_sub hl [1, 3, 0] rfl)
    · rw [if_pos c23] at hs
      refine lv_aload_n hx hb dX0_divide_115 rfl (lv_at hl 1 rfl) ?_
      obtain ⟨x41, ex41, hs⟩ := bi_inv hs
      refine hv_gR (C := RX0) (T := TX0) (N := 5) (ci := 0) hx hb hts inX0 hown hk hr rfl 1 (by decide) (hts _ tw_140) ex41 dX0_divide_116 ?_
      obtain ⟨x42, ex42, hs⟩ := bi_inv hs
      refine hv_gI (C := RX8) (T := TX8) (N := 3) (ci := 8) hx hb hts inX8 hown hk hr rfl 2 (by decide) (hts _ tw_43) ex42 dX0_divide_119 ?_
      refine lv_if_eq (tgt := 136) hx hb dX0_divide_122 (by decide) (fun c43 => ?_) (fun c43 => ?_)
      · rw [if_pos c43] at hs
        refine lv_iconst (v := 0) hx hb dX0_divide_136 (by decide) ?_
        exact hJ137 g22 y0_108 y3_108 t0_108 ((0 : Int32)) H locs ls hs hr hS (lv_sub hl [1, 3, 0] rfl)
      · rw [if_neg c43] at hs
        refine lv_aload_n hx hb dX0_divide_125 rfl (lv_at hl 3 rfl) ?_
        obtain ⟨x44, ex44, hs⟩ := bi_inv hs
        refine hv_gI (C := RX8) (T := TX8) (N := 3) (ci := 8) hx hb hts inX8 hown hk hr rfl 2 (by decide) (hts _ tw_43) ex44 dX0_divide_126 ?_
        refine lv_if_eq (tgt := 136) hx hb dX0_divide_129 (by decide) (fun c45 => ?_) (fun c45 => ?_)
        · rw [if_pos c45] at hs
          refine lv_iconst (v := 0) hx hb dX0_divide_136 (by decide) ?_
          exact hJ137 g22 y0_108 y3_108 t0_108 ((0 : Int32)) H locs ls hs hr hS (lv_sub hl [1, 3, 0] rfl)
        · rw [if_neg c45] at hs
          refine lv_iconst (v := 1) hx hb dX0_divide_132 (by decide) ?_
          refine lv_goto (tgt := 137) hx hb dX0_divide_133 (by decide) ?_
          exact hJ137 g22 y0_108 y3_108 t0_108 ((1 : Int32)) H locs ls hs hr hS (lv_sub hl [1, 3, 0] rfl)
  have hJ81 : ∀ (g20 : AH) (y0_81 : Nat) (y1_81 : Int32) (y3_81 : Nat) (H : Heap) (locs : List Loc) (ls : Array Slot), zj_X0_divide_81 g20 y0_81 y1_81 y3_81 = some h' → hR D z g20 H → va_S (hA z) s.heap H locs → lv_has ls 7 [(0, .ref y0_81), (1, .int y1_81), (3, .ref y3_81)] → W p l e ({ frames := 4, cells := 0, slots := 0, locals := 110 } : Room) s m ([.ref u0, .int u1, .ref u2, .ref u3] : List Value).toArray below meth c H locs 0 0 (MQ below (hQ D z h' none) ([.ref u0, .int u1, .ref u2, .ref u3] : List Value).toArray s 0 0 (hA z)) (F0 m 81 ls []) := by
    intro g20 y0_81 y1_81 y3_81 H locs ls hs hr hS hl
    unfold zj_X0_divide_81 at hs
    refine lv_iload_n hx hb dX0_divide_81 rfl (lv_at hl 1 rfl) ?_
    refine lv_iconst (v := 2) hx hb dX0_divide_82 (by decide) ?_
    refine lv_icmp_ne (tgt := 107) hx hb dX0_divide_83 (by decide) (fun c21 => ?_) (fun c21 => ?_)
    · rw [if_neg c21] at hs
      refine lv_iconst (v := 0) hx hb dX0_divide_107 (by decide) ?_
      exact hJ108 g20 y0_81 y1_81 y3_81 ((0 : Int32)) H locs ls hs hr hS (lv_sub hl [0, 1, 2] rfl)
    · rw [if_pos c21] at hs
      refine lv_aload_n hx hb dX0_divide_86 rfl (lv_at hl 0 rfl) ?_
      obtain ⟨x46, ex46, hs⟩ := bi_inv hs
      refine hv_gR (C := RX0) (T := TX0) (N := 5) (ci := 0) hx hb hts inX0 hown hk hr rfl 1 (by decide) (hts _ tw_140) ex46 dX0_divide_87 ?_
      obtain ⟨x47, ex47, hs⟩ := bi_inv hs
      refine hv_gI (C := RX8) (T := TX8) (N := 3) (ci := 8) hx hb hts inX8 hown hk hr rfl 2 (by decide) (hts _ tw_43) ex47 dX0_divide_90 ?_
      refine lv_if_eq (tgt := 107) hx hb dX0_divide_93 (by decide) (fun c48 => ?_) (fun c48 => ?_)
      · rw [if_pos c48] at hs
        refine lv_iconst (v := 0) hx hb dX0_divide_107 (by decide) ?_
        exact hJ108 g20 y0_81 y1_81 y3_81 ((0 : Int32)) H locs ls hs hr hS (lv_sub hl [0, 1, 2] rfl)
      · rw [if_neg c48] at hs
        refine lv_aload_n hx hb dX0_divide_96 rfl (lv_at hl 2 rfl) ?_
        obtain ⟨x49, ex49, hs⟩ := bi_inv hs
        refine hv_gI (C := RX8) (T := TX8) (N := 3) (ci := 8) hx hb hts inX8 hown hk hr rfl 2 (by decide) (hts _ tw_43) ex49 dX0_divide_97 ?_
        refine lv_if_ne (tgt := 107) hx hb dX0_divide_100 (by decide) (fun c50 => ?_) (fun c50 => ?_)
        · rw [if_neg c50] at hs
          refine lv_iconst (v := 0) hx hb dX0_divide_107 (by decide) ?_
          exact hJ108 g20 y0_81 y1_81 y3_81 ((0 : Int32)) H locs ls hs hr hS (lv_sub hl [0, 1, 2] rfl)
        · rw [if_pos c50] at hs
          refine lv_iconst (v := 1) hx hb dX0_divide_103 (by decide) ?_
          refine lv_goto (tgt := 108) hx hb dX0_divide_104 (by decide) ?_
          exact hJ108 g20 y0_81 y1_81 y3_81 ((1 : Int32)) H locs ls hs hr hS (lv_sub hl [0, 1, 2] rfl)
  have hJ69 : ∀ (g18 : AH) (y0_69 : Nat) (y1_69 : Int32) (y3_69 : Nat) (t0_69 : Int32) (H : Heap) (locs : List Loc) (ls : Array Slot), zj_X0_divide_69 g18 y0_69 y1_69 y3_69 t0_69 = some h' → hR D z g18 H → va_S (hA z) s.heap H locs → lv_has ls 7 [(0, .ref y0_69), (1, .int y1_69), (3, .ref y3_69)] → W p l e ({ frames := 4, cells := 0, slots := 0, locals := 110 } : Room) s m ([.ref u0, .int u1, .ref u2, .ref u3] : List Value).toArray below meth c H locs 0 0 (MQ below (hQ D z h' none) ([.ref u0, .int u1, .ref u2, .ref u3] : List Value).toArray s 0 0 (hA z)) (F0 m 69 ls [.int t0_69]) := by
    intro g18 y0_69 y1_69 y3_69 t0_69 H locs ls hs hr hS hl
    unfold zj_X0_divide_69 at hs
    refine lv_istore (lv' := [(4, .int t0_69), (0, .ref y0_69), (1, .int y1_69), (3, .ref y3_69)]) hx hb dX0_divide_69 hl (by decide) rfl (fun ls hl => ?_)
    refine lv_iload_n hx hb dX0_divide_71 rfl (lv_at hl 2 rfl) ?_
    refine lv_iconst (v := 1) hx hb dX0_divide_72 (by decide) ?_
    refine lv_icmp_ne (tgt := 81) hx hb dX0_divide_73 (by decide) (fun c19 => ?_) (fun c19 => ?_)
    · rw [if_neg c19] at hs
      exact hJ81 g18 y0_69 y1_69 y3_69 H locs ls hs hr hS (lv_sub hl [1, 2, 3] rfl)
    · rw [if_pos c19] at hs
      refine lv_iload hx hb dX0_divide_76 (lv_at hl 0 rfl) ?_
      refine lv_if_ne (tgt := 103) hx hb dX0_divide_78 (by decide) (fun c51 => ?_) (fun c51 => ?_)
      · rw [if_neg c51] at hs
        refine lv_iconst (v := 1) hx hb dX0_divide_103 (by decide) ?_
        refine lv_goto (tgt := 108) hx hb dX0_divide_104 (by decide) ?_
        exact hJ108 g18 y0_69 y1_69 y3_69 ((1 : Int32)) H locs ls hs hr hS (lv_sub hl [1, 2, 3] rfl)
      · rw [if_pos c51] at hs
        exact hJ81 g18 y0_69 y1_69 y3_69 H locs ls hs hr hS (lv_sub hl [1, 2, 3] rfl)
  have hJ26 : ∀ (g7 : AH) (y0_26 : Nat) (y1_26 : Int32) (y2_26 : Nat) (y3_26 : Nat) (t0_26 : Int32) (t1_26 : Nat) (H : Heap) (locs : List Loc) (ls : Array Slot), zj_X0_divide_26 g7 y0_26 y1_26 y2_26 y3_26 t0_26 t1_26 = some h' → hR D z g7 H → va_S (hA z) s.heap H locs → lv_has ls 7 [(0, .ref y0_26), (1, .int y1_26), (2, .ref y2_26), (3, .ref y3_26)] → W p l e ({ frames := 4, cells := 0, slots := 0, locals := 110 } : Room) s m ([.ref u0, .int u1, .ref u2, .ref u3] : List Value).toArray below meth c H locs 0 0 (MQ below (hQ D z h' none) ([.ref u0, .int u1, .ref u2, .ref u3] : List Value).toArray s 0 0 (hA z)) (F0 m 26 ls [.int t0_26, .ref t1_26]) := by
    intro g7 y0_26 y1_26 y2_26 y3_26 t0_26 t1_26 H locs ls hs hr hS hl
    unfold zj_X0_divide_26 at hs
    obtain ⟨_, ex8, hs⟩ := bi_inv hs
    obtain ⟨g9, eg9, hs⟩ := bi_inv hs
    refine hv_V0 (n := 1) [.int t0_26] [] hx hb hml hown hts hk hr hz hS (zm_X8_takeSign l D z eg9) ex8 rfl tw_525 tw_75 tw_76 tw_2 tw_77 (by decide +kernel) (by decide) ⟨(Nat.zero_le _), (Nat.zero_le _)⟩ rfl hl.1 (Nat.le_of_ble_eq_true rfl) dX0_divide_26 rfl (fun H locs hr hS => ?_)
    refine lv_aload_n hx hb dX0_divide_29 rfl (lv_at hl 0 rfl) ?_
    obtain ⟨x10, ex10, hs⟩ := bi_inv hs
    refine hv_gR (C := RX0) (T := TX0) (N := 5) (ci := 0) hx hb hts inX0 hown hk hr rfl 1 (by decide) (hts _ tw_140) ex10 dX0_divide_30 ?_
    refine lv_aload_n hx hb dX0_divide_33 rfl (lv_at hl 2 rfl) ?_
    obtain ⟨x11, ex11, hs⟩ := bi_inv hs
    refine hv_gI (C := RX8) (T := TX8) (N := 3) (ci := 8) hx hb hts inX8 hown hk hr rfl 2 (by decide) (hts _ tw_43) ex11 dX0_divide_34 ?_
    obtain ⟨_, ex12, hs⟩ := bi_inv hs
    obtain ⟨g13, eg13, hs⟩ := bi_inv hs
    refine hv_V0 (n := 1) [.int x11] [] hx hb hml hown hts hk hr hz hS (zm_X8_takeSign l D z eg13) ex12 rfl tw_525 tw_75 tw_76 tw_2 tw_77 (by decide +kernel) (by decide) ⟨(Nat.zero_le _), (Nat.zero_le _)⟩ rfl hl.1 (Nat.le_of_ble_eq_true rfl) dX0_divide_37 rfl (fun H locs hr hS => ?_)
    refine lv_aload_n hx hb dX0_divide_40 rfl (lv_at hl 0 rfl) ?_
    obtain ⟨x14, ex14, hs⟩ := bi_inv hs
    refine hv_gR (C := RX0) (T := TX0) (N := 5) (ci := 0) hx hb hts inX0 hown hk hr rfl 1 (by decide) (hts _ tw_140) ex14 dX0_divide_41 ?_
    obtain ⟨_, ex15, hs⟩ := bi_inv hs
    obtain ⟨x16, ex16, hs⟩ := bi_inv hs
    refine hv_V1 (n := 0) [] [] hx hb hml hown hts hk hr hz hS (zm_X8_isZero l D z ex16) ex15 rfl tw_487 tw_400 tw_401 tw_2 tw_402 (by decide +kernel) (by decide) ⟨(Nat.zero_le _), (Nat.zero_le _)⟩ rfl hl.1 (Nat.le_of_ble_eq_true rfl) dX0_divide_44 rfl (fun H locs hr hS => ?_)
    refine lv_if_ne (tgt := 68) hx hb dX0_divide_47 (by decide) (fun c17 => ?_) (fun c17 => ?_)
    · rw [if_neg c17] at hs
      refine lv_iconst (v := 0) hx hb dX0_divide_68 (by decide) ?_
      exact hJ69 g13 y0_26 y1_26 y3_26 ((0 : Int32)) H locs ls hs hr hS (lv_sub hl [0, 1, 3] rfl)
    · rw [if_pos c17] at hs
      refine lv_aload_n hx hb dX0_divide_50 rfl (lv_at hl 0 rfl) ?_
      obtain ⟨x52, ex52, hs⟩ := bi_inv hs
      refine hv_gR (C := RX0) (T := TX0) (N := 5) (ci := 0) hx hb hts inX0 hown hk hr rfl 1 (by decide) (hts _ tw_140) ex52 dX0_divide_51 ?_
      obtain ⟨x53, ex53, hs⟩ := bi_inv hs
      refine hv_gI (C := RX8) (T := TX8) (N := 3) (ci := 8) hx hb hts inX8 hown hk hr rfl 2 (by decide) (hts _ tw_43) ex53 dX0_divide_54 ?_
      refine lv_aload_n hx hb dX0_divide_57 rfl (lv_at hl 3 rfl) ?_
      obtain ⟨x54, ex54, hs⟩ := bi_inv hs
      refine hv_gI (C := RX8) (T := TX8) (N := 3) (ci := 8) hx hb hts inX8 hown hk hr rfl 2 (by decide) (hts _ tw_43) ex54 dX0_divide_58 ?_
      refine lv_icmp_eq (tgt := 68) hx hb dX0_divide_61 (by decide) (fun c55 => ?_) (fun c55 => ?_)
      · rw [if_pos c55] at hs
        refine lv_iconst (v := 0) hx hb dX0_divide_68 (by decide) ?_
        exact hJ69 g13 y0_26 y1_26 y3_26 ((0 : Int32)) H locs ls hs hr hS (lv_sub hl [0, 1, 3] rfl)
      · rw [if_neg c55] at hs
        refine lv_iconst (v := 1) hx hb dX0_divide_64 (by decide) ?_
        refine lv_goto (tgt := 69) hx hb dX0_divide_65 (by decide) ?_
        exact hJ69 g13 y0_26 y1_26 y3_26 ((1 : Int32)) H locs ls hs hr hS (lv_sub hl [0, 1, 3] rfl)
  unfold zs_X0_divide at hs
  refine lv_aload_n hx hb dX0_divide_0 rfl (lv_at hl 0 rfl) ?_
  refine lv_aload_n hx hb dX0_divide_1 rfl (lv_at hl 2 rfl) ?_
  refine lv_aload_n hx hb dX0_divide_2 rfl (lv_at hl 3 rfl) ?_
  obtain ⟨_, ex1, hs⟩ := bi_inv hs
  obtain ⟨g2, eg2, hs⟩ := bi_inv hs
  refine hv_V0 (n := 2) [.ref u2, .ref u3] [] hx hb hml hown hts hk hr hz hS (zm_X0_divideSizes l D z eg2) ex1 rfl tw_483 tw_484 tw_485 tw_6 tw_486 (by decide +kernel) (by decide) ⟨(Nat.zero_le _), (Nat.zero_le _)⟩ rfl hl.1 (Nat.le_of_ble_eq_true rfl) dX0_divide_3 rfl (fun H locs hr hS => ?_)
  refine lv_aload_n hx hb dX0_divide_6 rfl (lv_at hl 0 rfl) ?_
  obtain ⟨x3, ex3, hs⟩ := bi_inv hs
  refine hv_gR (C := RX0) (T := TX0) (N := 5) (ci := 0) hx hb hts inX0 hown hk hr rfl 0 (by decide) (hts _ tw_135) ex3 dX0_divide_7 ?_
  refine lv_aload_n hx hb dX0_divide_10 rfl (lv_at hl 2 rfl) ?_
  obtain ⟨x4, ex4, hs⟩ := bi_inv hs
  refine hv_gI (C := RX8) (T := TX8) (N := 3) (ci := 8) hx hb hts inX8 hown hk hr rfl 2 (by decide) (hts _ tw_43) ex4 dX0_divide_11 ?_
  refine lv_aload_n hx hb dX0_divide_14 rfl (lv_at hl 3 rfl) ?_
  obtain ⟨x5, ex5, hs⟩ := bi_inv hs
  refine hv_gI (C := RX8) (T := TX8) (N := 3) (ci := 8) hx hb hts inX8 hown hk hr rfl 2 (by decide) (hts _ tw_43) ex5 dX0_divide_15 ?_
  refine lv_icmp_eq (tgt := 25) hx hb dX0_divide_18 (by decide) (fun c6 => ?_) (fun c6 => ?_)
  · rw [if_pos c6] at hs
    refine lv_iconst (v := 0) hx hb dX0_divide_25 (by decide) ?_
    exact hJ26 g2 u0 u1 u2 u3 ((0 : Int32)) x3 H locs ls hs hr hS (lv_sub hl [0, 1, 2, 3] rfl)
  · rw [if_neg c6] at hs
    refine lv_iconst (v := 1) hx hb dX0_divide_21 (by decide) ?_
    refine lv_goto (tgt := 26) hx hb dX0_divide_22 (by decide) ?_
    exact hJ26 g2 u0 u1 u2 u3 ((1 : Int32)) x3 H locs ls hs hr hS (lv_sub hl [0, 1, 2, 3] rfl)
theorem dX0_init_0 : decode cX0_init 0 = .ok (.aload_n 0, 1) := by decide +kernel
theorem dX0_init_1 : decode cX0_init 1 = .ok (.invokespecial 3, 3) := by decide +kernel
theorem dX0_init_4 : decode cX0_init 4 = .ok (.aload_n 0, 1) := by decide +kernel
theorem dX0_init_5 : decode cX0_init 5 = .ok (.new 9, 3) := by decide +kernel
theorem dX0_init_8 : decode cX0_init 8 = .ok (.dup, 1) := by decide +kernel
theorem dX0_init_9 : decode cX0_init 9 = .ok (.invokespecial 11, 3) := by decide +kernel
theorem dX0_init_12 : decode cX0_init 12 = .ok (.putfield 12, 3) := by decide +kernel
theorem dX0_init_15 : decode cX0_init 15 = .ok (.aload_n 0, 1) := by decide +kernel
theorem dX0_init_16 : decode cX0_init 16 = .ok (.new 9, 3) := by decide +kernel
theorem dX0_init_19 : decode cX0_init 19 = .ok (.dup, 1) := by decide +kernel
theorem dX0_init_20 : decode cX0_init 20 = .ok (.invokespecial 11, 3) := by decide +kernel
theorem dX0_init_23 : decode cX0_init 23 = .ok (.putfield 18, 3) := by decide +kernel
theorem dX0_init_26 : decode cX0_init 26 = .ok (.aload_n 0, 1) := by decide +kernel
theorem dX0_init_27 : decode cX0_init 27 = .ok (.new 9, 3) := by decide +kernel
theorem dX0_init_30 : decode cX0_init 30 = .ok (.dup, 1) := by decide +kernel
theorem dX0_init_31 : decode cX0_init 31 = .ok (.invokespecial 11, 3) := by decide +kernel
theorem dX0_init_34 : decode cX0_init 34 = .ok (.putfield 21, 3) := by decide +kernel
theorem dX0_init_37 : decode cX0_init 37 = .ok (.aload_n 0, 1) := by decide +kernel
theorem dX0_init_38 : decode cX0_init 38 = .ok (.getfield 21, 3) := by decide +kernel
theorem dX0_init_41 : decode cX0_init 41 = .ok (.lconst 1, 1) := by decide +kernel
theorem dX0_init_42 : decode cX0_init 42 = .ok (.invokevirtual 24, 3) := by decide +kernel
theorem dX0_init_45 : decode cX0_init 45 = .ok (.aload_n 0, 1) := by decide +kernel
theorem dX0_init_46 : decode cX0_init 46 = .ok (.bipush 27, 2) := by decide +kernel
theorem dX0_init_48 : decode cX0_init 48 = .ok (.newarray .long, 2) := by decide +kernel
theorem dX0_init_50 : decode cX0_init 50 = .ok (.putfield 28, 3) := by decide +kernel
theorem dX0_init_53 : decode cX0_init 53 = .ok (.aload_n 0, 1) := by decide +kernel
theorem dX0_init_54 : decode cX0_init 54 = .ok (.bipush 27, 2) := by decide +kernel
theorem dX0_init_56 : decode cX0_init 56 = .ok (.newarray .long, 2) := by decide +kernel
theorem dX0_init_58 : decode cX0_init 58 = .ok (.putfield 32, 3) := by decide +kernel
theorem dX0_init_61 : decode cX0_init 61 = .ok (.return_, 1) := by decide +kernel
def zs_X0_init (h : AH) (u0 : Nat) : Option AH :=
  lt_ (nO h (.inr (8, [.null, .int 0, .int 0]))) fun g1 => (zs_X8_init g1 h.2).bind fun g2 => (pV g2 u0 0 0 (.ref h.2)).bind fun g3 => lt_ (nO g3 (.inr (8, [.null, .int 0, .int 0]))) fun g4 => (zs_X8_init g4 g3.2).bind fun g5 => (pV g5 u0 0 1 (.ref g3.2)).bind fun g6 => lt_ (nO g6 (.inr (8, [.null, .int 0, .int 0]))) fun g7 => (zs_X8_init g7 g6.2).bind fun g8 => (pV g8 u0 0 2 (.ref g6.2)).bind fun g9 => (gR g9 u0 0 2).bind fun x10 => (chk g9 x10 8).bind fun _ => (zs_X8_become g9 x10 ((1 : Int64))).bind fun g12 => lt_ (nO g12 (.inl (1, (27, .inr (.inl (fun _ => 0)))))) fun g13 => (pV g13 u0 0 3 (.ref g12.2)).bind fun g14 => lt_ (nO g14 (.inl (1, (27, .inr (.inl (fun _ => 0)))))) fun g15 => (pV g15 u0 0 4 (.ref g14.2)).bind fun g16 => some g16
set_option maxRecDepth 100000 in
set_option maxHeartbeats 4000000 in
theorem zm_X0_init (l : Launch) (D : hG) (z : Nat) {h : AH} {u0 : Nat} {h' : AH} (hs : zs_X0_init h u0 = some h') : hC l D z yX0_init cX0_init 1 (Option.none : Option Jvm.ClassFile.FieldType) 2 45 8 141 [.ref u0] h h' none := by
  refine hC_of (by decide) (Nat.le_of_ble_eq_true rfl) ?_
  intro p e s m below meth c hx hb hml hrt hlk hown hnm hts hk hr hz ls hl
  replace hown : s.vm.findClass RX0 = some m.cls := hown
  replace hl : lv_has ls 1 [(0, .ref u0)] := hl
  have hS : va_S (hA z) s.heap s.heap [] := va_S.rf
  suffices hgo : ∀ (H : Heap) (locs : List Loc), hR D z h H → va_S (hA z) s.heap H locs → W p l e ({ frames := 2, cells := 8, slots := 141, locals := 45 } : Room) s m ([.ref u0] : List Value).toArray below meth c H locs 0 0 (MQ below (hQ D z h' none) ([.ref u0] : List Value).toArray s 8 141 (hA z)) (F0 m 0 ls []) from hgo _ _ hr hS
  clear hr hS
  intro H locs hr hS
  unfold zs_X0_init at hs
  refine lv_aload_n hx hb dX0_init_0 rfl (lv_at hl 0 rfl) ?_
  refine W.objInit hx hb hown (hts _ tw_131) (hts _ tw_27) (hts _ tw_28) rfl (by rw [hml]; exact hl.1) rfl dX0_init_1 (by decide) (Nat.le_of_ble_eq_true rfl) ?_
  refine W.eq (g2 := F0 m 4 ls []) rfl ?_
  refine lv_aload_n hx hb dX0_init_4 rfl (lv_at hl 0 rfl) ?_
  refine hv_new (C := RX8) (T := TX8) (N := 3) (ci := 8) hx hb hts inX8 tyX8 tyX8_ok hown tw_132 tw_31 tw_2 hk hr hz hS rfl [.null, .int 0, .int 0] (by decide +kernel) (by show _ ≤ (8 : Nat); omega) (by show _ ≤ (141 : Nat); omega) dX0_init_5 (fun H hr hS => ?_)
  obtain ⟨g1, eg1⟩ : ∃ q, q = nO h (.inr (8, [.null, .int 0, .int 0])) := ⟨_, rfl⟩
  rw [← eg1] at hr
  replace hs := lt_inv hs g1 eg1
  refine lv_dup hx hb dX0_init_8 rfl ?_
  obtain ⟨g2, eg2, hs⟩ := bi_inv hs
  refine hv_I0 (n := 0) [] [.ref h.2, .ref u0] hx hb hml hown hts hk hr hz hS (zm_X8_init l D z eg2) tw_133 tw_33 tw_2 tw_34 rfl (by decide +kernel) (by decide) ⟨(by show _ ≤ (8 : Nat); omega), (by show _ ≤ (141 : Nat); omega)⟩ rfl hl.1 (Nat.le_of_ble_eq_true rfl) dX0_init_9 rfl (fun H locs hr hS => ?_)
  obtain ⟨g3, eg3, hs⟩ := bi_inv hs
  refine hv_pF (C := RX0) (T := TX0) (N := 5) (ci := 0) hx hb hts inX0 tyX0 tyX0_ok nmX0 hown hk hr hS rfl 0 (by decide) (hts _ tw_135) rfl hnm rfl rfl rfl eg3 dX0_init_12 (fun H locs hr hS => ?_)
  refine lv_aload_n hx hb dX0_init_15 rfl (lv_at hl 0 rfl) ?_
  refine hv_new (C := RX8) (T := TX8) (N := 3) (ci := 8) hx hb hts inX8 tyX8 tyX8_ok hown tw_132 tw_31 tw_2 hk hr hz hS rfl [.null, .int 0, .int 0] (by decide +kernel) (by show _ ≤ (8 : Nat); omega) (by show _ ≤ (141 : Nat); omega) dX0_init_16 (fun H hr hS => ?_)
  obtain ⟨g4, eg4⟩ : ∃ q, q = nO g3 (.inr (8, [.null, .int 0, .int 0])) := ⟨_, rfl⟩
  rw [← eg4] at hr
  replace hs := lt_inv hs g4 eg4
  refine lv_dup hx hb dX0_init_19 rfl ?_
  obtain ⟨g5, eg5, hs⟩ := bi_inv hs
  refine hv_I0 (n := 0) [] [.ref g3.2, .ref u0] hx hb hml hown hts hk hr hz hS (zm_X8_init l D z eg5) tw_133 tw_33 tw_2 tw_34 rfl (by decide +kernel) (by decide) ⟨(by show _ ≤ (8 : Nat); omega), (by show _ ≤ (141 : Nat); omega)⟩ rfl hl.1 (Nat.le_of_ble_eq_true rfl) dX0_init_20 rfl (fun H locs hr hS => ?_)
  obtain ⟨g6, eg6, hs⟩ := bi_inv hs
  refine hv_pF (C := RX0) (T := TX0) (N := 5) (ci := 0) hx hb hts inX0 tyX0 tyX0_ok nmX0 hown hk hr hS rfl 1 (by decide) (hts _ tw_140) rfl hnm rfl rfl rfl eg6 dX0_init_23 (fun H locs hr hS => ?_)
  refine lv_aload_n hx hb dX0_init_26 rfl (lv_at hl 0 rfl) ?_
  refine hv_new (C := RX8) (T := TX8) (N := 3) (ci := 8) hx hb hts inX8 tyX8 tyX8_ok hown tw_132 tw_31 tw_2 hk hr hz hS rfl [.null, .int 0, .int 0] (by decide +kernel) (by show _ ≤ (8 : Nat); omega) (by show _ ≤ (141 : Nat); omega) dX0_init_27 (fun H hr hS => ?_)
  obtain ⟨g7, eg7⟩ : ∃ q, q = nO g6 (.inr (8, [.null, .int 0, .int 0])) := ⟨_, rfl⟩
  rw [← eg7] at hr
  replace hs := lt_inv hs g7 eg7
  refine lv_dup hx hb dX0_init_30 rfl ?_
  obtain ⟨g8, eg8, hs⟩ := bi_inv hs
  refine hv_I0 (n := 0) [] [.ref g6.2, .ref u0] hx hb hml hown hts hk hr hz hS (zm_X8_init l D z eg8) tw_133 tw_33 tw_2 tw_34 rfl (by decide +kernel) (by decide) ⟨(by show _ ≤ (8 : Nat); omega), (by show _ ≤ (141 : Nat); omega)⟩ rfl hl.1 (Nat.le_of_ble_eq_true rfl) dX0_init_31 rfl (fun H locs hr hS => ?_)
  obtain ⟨g9, eg9, hs⟩ := bi_inv hs
  refine hv_pF (C := RX0) (T := TX0) (N := 5) (ci := 0) hx hb hts inX0 tyX0 tyX0_ok nmX0 hown hk hr hS rfl 2 (by decide) (hts _ tw_145) rfl hnm rfl rfl rfl eg9 dX0_init_34 (fun H locs hr hS => ?_)
  refine lv_aload_n hx hb dX0_init_37 rfl (lv_at hl 0 rfl) ?_
  obtain ⟨x10, ex10, hs⟩ := bi_inv hs
  refine hv_gR (C := RX0) (T := TX0) (N := 5) (ci := 0) hx hb hts inX0 hown hk hr rfl 2 (by decide) (hts _ tw_145) ex10 dX0_init_38 ?_
  refine lv_lconst (v := 1) hx hb dX0_init_41 (by decide) ?_
  obtain ⟨_, ex11, hs⟩ := bi_inv hs
  obtain ⟨g12, eg12, hs⟩ := bi_inv hs
  refine hv_V0 (n := 1) [.long ((1 : Int64))] [] hx hb hml hown hts hk hr hz hS (zm_X8_become l D z eg12) ex11 rfl tw_134 tw_66 tw_67 tw_2 tw_68 (by decide +kernel) (by decide) ⟨(by show _ ≤ (8 : Nat); omega), (by show _ ≤ (141 : Nat); omega)⟩ rfl hl.1 (Nat.le_of_ble_eq_true rfl) dX0_init_42 rfl (fun H locs hr hS => ?_)
  refine lv_aload_n hx hb dX0_init_45 rfl (lv_at hl 0 rfl) ?_
  refine lv_bipush (v := 27) hx hb dX0_init_46 (by decide) ?_
  refine hv_newa (at_ := .long) hx hb hts 1 rfl rfl tw_55 hk hr hz hS 27 (27, .inr (.inl (fun _ => 0))) (fun _ => rfl) (by decide) (by decide) (by decide) (by show _ ≤ (8 : Nat); omega) (by show _ ≤ (141 : Nat); omega) dX0_init_48 (fun H hr hS => ?_)
  obtain ⟨g13, eg13⟩ : ∃ q, q = nO g12 (.inl (1, (27, .inr (.inl (fun _ => 0))))) := ⟨_, rfl⟩
  rw [← eg13] at hr
  replace hs := lt_inv hs g13 eg13
  obtain ⟨g14, eg14, hs⟩ := bi_inv hs
  refine hv_pF (C := RX0) (T := TX0) (N := 5) (ci := 0) hx hb hts inX0 tyX0 tyX0_ok nmX0 hown hk hr hS rfl 3 (by decide) (hts _ tw_146) rfl hnm rfl rfl rfl eg14 dX0_init_50 (fun H locs hr hS => ?_)
  refine lv_aload_n hx hb dX0_init_53 rfl (lv_at hl 0 rfl) ?_
  refine lv_bipush (v := 27) hx hb dX0_init_54 (by decide) ?_
  refine hv_newa (at_ := .long) hx hb hts 1 rfl rfl tw_55 hk hr hz hS 27 (27, .inr (.inl (fun _ => 0))) (fun _ => rfl) (by decide) (by decide) (by decide) (by show _ ≤ (8 : Nat); omega) (by show _ ≤ (141 : Nat); omega) dX0_init_56 (fun H hr hS => ?_)
  obtain ⟨g15, eg15⟩ : ∃ q, q = nO g14 (.inl (1, (27, .inr (.inl (fun _ => 0))))) := ⟨_, rfl⟩
  rw [← eg15] at hr
  replace hs := lt_inv hs g15 eg15
  obtain ⟨g16, eg16, hs⟩ := bi_inv hs
  refine hv_pF (C := RX0) (T := TX0) (N := 5) (ci := 0) hx hb hts inX0 tyX0 tyX0_ok nmX0 hown hk hr hS rfl 4 (by decide) (hts _ tw_147) rfl hnm rfl rfl rfl eg16 dX0_init_58 (fun H locs hr hS => ?_)
  obtain rfl := Option.some.inj hs
  exact hv_vret hx hb hrt hlk hr hS dX0_init_61
