theorem dJ13_bitCount_95d88_0 : decode cJ13_bitCount_95d88 0 = .ok (.lload_n 0, 1) := by decide +kernel
theorem dJ13_bitCount_95d88_1 : decode cJ13_bitCount_95d88 1 = .ok (.lload_n 0, 1) := by decide +kernel
theorem dJ13_bitCount_95d88_2 : decode cJ13_bitCount_95d88 2 = .ok (.iconst 1, 1) := by decide +kernel
theorem dJ13_bitCount_95d88_3 : decode cJ13_bitCount_95d88 3 = .ok (.lushr, 1) := by decide +kernel
theorem dJ13_bitCount_95d88_4 : decode cJ13_bitCount_95d88 4 = .ok (.ldc2_w 314, 3) := by decide +kernel
theorem dJ13_bitCount_95d88_7 : decode cJ13_bitCount_95d88 7 = .ok (.land, 1) := by decide +kernel
theorem dJ13_bitCount_95d88_8 : decode cJ13_bitCount_95d88 8 = .ok (.lsub, 1) := by decide +kernel
theorem dJ13_bitCount_95d88_9 : decode cJ13_bitCount_95d88 9 = .ok (.lstore_n 0, 1) := by decide +kernel
theorem dJ13_bitCount_95d88_10 : decode cJ13_bitCount_95d88 10 = .ok (.lload_n 0, 1) := by decide +kernel
theorem dJ13_bitCount_95d88_11 : decode cJ13_bitCount_95d88 11 = .ok (.ldc2_w 316, 3) := by decide +kernel
theorem dJ13_bitCount_95d88_14 : decode cJ13_bitCount_95d88 14 = .ok (.land, 1) := by decide +kernel
theorem dJ13_bitCount_95d88_15 : decode cJ13_bitCount_95d88 15 = .ok (.lload_n 0, 1) := by decide +kernel
theorem dJ13_bitCount_95d88_16 : decode cJ13_bitCount_95d88 16 = .ok (.iconst 2, 1) := by decide +kernel
theorem dJ13_bitCount_95d88_17 : decode cJ13_bitCount_95d88 17 = .ok (.lushr, 1) := by decide +kernel
theorem dJ13_bitCount_95d88_18 : decode cJ13_bitCount_95d88 18 = .ok (.ldc2_w 316, 3) := by decide +kernel
theorem dJ13_bitCount_95d88_21 : decode cJ13_bitCount_95d88 21 = .ok (.land, 1) := by decide +kernel
theorem dJ13_bitCount_95d88_22 : decode cJ13_bitCount_95d88 22 = .ok (.ladd, 1) := by decide +kernel
theorem dJ13_bitCount_95d88_23 : decode cJ13_bitCount_95d88 23 = .ok (.lstore_n 0, 1) := by decide +kernel
theorem dJ13_bitCount_95d88_24 : decode cJ13_bitCount_95d88 24 = .ok (.lload_n 0, 1) := by decide +kernel
theorem dJ13_bitCount_95d88_25 : decode cJ13_bitCount_95d88 25 = .ok (.lload_n 0, 1) := by decide +kernel
theorem dJ13_bitCount_95d88_26 : decode cJ13_bitCount_95d88 26 = .ok (.iconst 4, 1) := by decide +kernel
theorem dJ13_bitCount_95d88_27 : decode cJ13_bitCount_95d88 27 = .ok (.lushr, 1) := by decide +kernel
theorem dJ13_bitCount_95d88_28 : decode cJ13_bitCount_95d88 28 = .ok (.ladd, 1) := by decide +kernel
theorem dJ13_bitCount_95d88_29 : decode cJ13_bitCount_95d88 29 = .ok (.ldc2_w 318, 3) := by decide +kernel
theorem dJ13_bitCount_95d88_32 : decode cJ13_bitCount_95d88 32 = .ok (.land, 1) := by decide +kernel
theorem dJ13_bitCount_95d88_33 : decode cJ13_bitCount_95d88 33 = .ok (.lstore_n 0, 1) := by decide +kernel
theorem dJ13_bitCount_95d88_34 : decode cJ13_bitCount_95d88 34 = .ok (.lload_n 0, 1) := by decide +kernel
theorem dJ13_bitCount_95d88_35 : decode cJ13_bitCount_95d88 35 = .ok (.lload_n 0, 1) := by decide +kernel
theorem dJ13_bitCount_95d88_36 : decode cJ13_bitCount_95d88 36 = .ok (.bipush 8, 2) := by decide +kernel
theorem dJ13_bitCount_95d88_38 : decode cJ13_bitCount_95d88 38 = .ok (.lushr, 1) := by decide +kernel
theorem dJ13_bitCount_95d88_39 : decode cJ13_bitCount_95d88 39 = .ok (.ladd, 1) := by decide +kernel
theorem dJ13_bitCount_95d88_40 : decode cJ13_bitCount_95d88 40 = .ok (.lstore_n 0, 1) := by decide +kernel
theorem dJ13_bitCount_95d88_41 : decode cJ13_bitCount_95d88 41 = .ok (.lload_n 0, 1) := by decide +kernel
theorem dJ13_bitCount_95d88_42 : decode cJ13_bitCount_95d88 42 = .ok (.lload_n 0, 1) := by decide +kernel
theorem dJ13_bitCount_95d88_43 : decode cJ13_bitCount_95d88 43 = .ok (.bipush 16, 2) := by decide +kernel
theorem dJ13_bitCount_95d88_45 : decode cJ13_bitCount_95d88 45 = .ok (.lushr, 1) := by decide +kernel
theorem dJ13_bitCount_95d88_46 : decode cJ13_bitCount_95d88 46 = .ok (.ladd, 1) := by decide +kernel
theorem dJ13_bitCount_95d88_47 : decode cJ13_bitCount_95d88 47 = .ok (.lstore_n 0, 1) := by decide +kernel
theorem dJ13_bitCount_95d88_48 : decode cJ13_bitCount_95d88 48 = .ok (.lload_n 0, 1) := by decide +kernel
theorem dJ13_bitCount_95d88_49 : decode cJ13_bitCount_95d88 49 = .ok (.lload_n 0, 1) := by decide +kernel
theorem dJ13_bitCount_95d88_50 : decode cJ13_bitCount_95d88 50 = .ok (.bipush 32, 2) := by decide +kernel
theorem dJ13_bitCount_95d88_52 : decode cJ13_bitCount_95d88 52 = .ok (.lushr, 1) := by decide +kernel
theorem dJ13_bitCount_95d88_53 : decode cJ13_bitCount_95d88 53 = .ok (.ladd, 1) := by decide +kernel
theorem dJ13_bitCount_95d88_54 : decode cJ13_bitCount_95d88 54 = .ok (.lstore_n 0, 1) := by decide +kernel
theorem dJ13_bitCount_95d88_55 : decode cJ13_bitCount_95d88 55 = .ok (.lload_n 0, 1) := by decide +kernel
theorem dJ13_bitCount_95d88_56 : decode cJ13_bitCount_95d88 56 = .ok (.l2i, 1) := by decide +kernel
theorem dJ13_bitCount_95d88_57 : decode cJ13_bitCount_95d88 57 = .ok (.bipush 127, 2) := by decide +kernel
theorem dJ13_bitCount_95d88_59 : decode cJ13_bitCount_95d88 59 = .ok (.iand, 1) := by decide +kernel
theorem dJ13_bitCount_95d88_60 : decode cJ13_bitCount_95d88 60 = .ok (.ireturn, 1) := by decide +kernel
def zs_J13_bitCount_95d88 (h : AH) (u0 : Int64) : Option Int32 :=
  lt_ (u0 - (((u0.toUInt64 >>> (((1 : Int32)).toInt64.toUInt64 &&& Int64.toUInt64 63)).toInt64) &&& ((6148914691236517205 : Int64)))) fun x1 => lt_ ((x1 &&& ((3689348814741910323 : Int64))) + (((x1.toUInt64 >>> (((2 : Int32)).toInt64.toUInt64 &&& Int64.toUInt64 63)).toInt64) &&& ((3689348814741910323 : Int64)))) fun x2 => lt_ ((x2 + ((x2.toUInt64 >>> (((4 : Int32)).toInt64.toUInt64 &&& Int64.toUInt64 63)).toInt64)) &&& ((1085102592571150095 : Int64))) fun x3 => lt_ (x3 + ((x3.toUInt64 >>> (((8 : Int32)).toInt64.toUInt64 &&& Int64.toUInt64 63)).toInt64)) fun x4 => lt_ (x4 + ((x4.toUInt64 >>> (((16 : Int32)).toInt64.toUInt64 &&& Int64.toUInt64 63)).toInt64)) fun x5 => lt_ (x5 + ((x5.toUInt64 >>> (((32 : Int32)).toInt64.toUInt64 &&& Int64.toUInt64 63)).toInt64)) fun x6 => some (x6.toInt32 &&& ((127 : Int32)))
set_option maxRecDepth 100000 in
set_option maxHeartbeats 4000000 in
theorem zm_J13_bitCount_95d88 (l : Launch) (D : hG) (z : Nat) {h : AH} {u0 : Int64} {r : Int32} (hs : zs_J13_bitCount_95d88 h u0 = some r) : hC l D z yJ13_bitCount_95d88 cJ13_bitCount_95d88 2 (Option.some Jvm.ClassFile.FieldType.int) 0 0 0 0 [.long u0] h h (some (.int r)) := by
  refine hC_of (by decide) (Nat.le_of_ble_eq_true rfl) ?_
  intro p e s m below meth c hx hb hml hrt hlk hown hnm hts hk hr hz ls hl
  replace hown : s.vm.findClass RJ13 = some m.cls := hown
  replace hl : lv_has ls 2 [(0, .long u0)] := hl
  have hS : va_S (hA z) s.heap s.heap [] := va_S.rf
  suffices hgo : ∀ (H : Heap) (locs : List Loc), hR D z h H → va_S (hA z) s.heap H locs → W p l e ({ frames := 0, cells := 0, slots := 0, locals := 0 } : Room) s m ([.long u0] : List Value).toArray below meth c H locs 0 0 (MQ below (hQ D z h (some (.int r))) ([.long u0] : List Value).toArray s 0 0 (hA z)) (F0 m 0 ls []) from hgo _ _ hr hS
  clear hr hS
  intro H locs hr hS
  unfold zs_J13_bitCount_95d88 at hs
  refine lv_lload_n hx hb dJ13_bitCount_95d88_0 rfl (lv_at hl 0 rfl) ?_
  refine lv_lload_n hx hb dJ13_bitCount_95d88_1 rfl (lv_at hl 0 rfl) ?_
  refine lv_iconst (v := 1) hx hb dJ13_bitCount_95d88_2 (by decide) ?_
  refine lv_lushr hx hb dJ13_bitCount_95d88_3 rfl ?_
  refine lv_ldc2 hx hb hown (hts _ tw_502) dJ13_bitCount_95d88_4 ?_
  refine lv_land hx hb dJ13_bitCount_95d88_7 ?_
  refine lv_lsub hx hb dJ13_bitCount_95d88_8 ?_
  refine lv_topl (fun x1 ex1 => ?_)
  replace hs := lt_inv hs x1 ex1
  refine lv_lstore_n (lv' := [(0, .long x1)]) hx hb dJ13_bitCount_95d88_9 rfl hl (by decide) rfl (fun ls hl => ?_)
  refine lv_lload_n hx hb dJ13_bitCount_95d88_10 rfl (lv_at hl 0 rfl) ?_
  refine lv_ldc2 hx hb hown (hts _ tw_503) dJ13_bitCount_95d88_11 ?_
  refine lv_land hx hb dJ13_bitCount_95d88_14 ?_
  refine lv_lload_n hx hb dJ13_bitCount_95d88_15 rfl (lv_at hl 0 rfl) ?_
  refine lv_iconst (v := 2) hx hb dJ13_bitCount_95d88_16 (by decide) ?_
  refine lv_lushr hx hb dJ13_bitCount_95d88_17 rfl ?_
  refine lv_ldc2 hx hb hown (hts _ tw_503) dJ13_bitCount_95d88_18 ?_
  refine lv_land hx hb dJ13_bitCount_95d88_21 ?_
  refine lv_ladd hx hb dJ13_bitCount_95d88_22 ?_
  refine lv_topl (fun x2 ex2 => ?_)
  replace hs := lt_inv hs x2 ex2
  refine lv_lstore_n (lv' := [(0, .long x2)]) hx hb dJ13_bitCount_95d88_23 rfl hl (by decide) rfl (fun ls hl => ?_)
  refine lv_lload_n hx hb dJ13_bitCount_95d88_24 rfl (lv_at hl 0 rfl) ?_
  refine lv_lload_n hx hb dJ13_bitCount_95d88_25 rfl (lv_at hl 0 rfl) ?_
  refine lv_iconst (v := 4) hx hb dJ13_bitCount_95d88_26 (by decide) ?_
  refine lv_lushr hx hb dJ13_bitCount_95d88_27 rfl ?_
  refine lv_ladd hx hb dJ13_bitCount_95d88_28 ?_
  refine lv_ldc2 hx hb hown (hts _ tw_504) dJ13_bitCount_95d88_29 ?_
  refine lv_land hx hb dJ13_bitCount_95d88_32 ?_
  refine lv_topl (fun x3 ex3 => ?_)
  replace hs := lt_inv hs x3 ex3
  refine lv_lstore_n (lv' := [(0, .long x3)]) hx hb dJ13_bitCount_95d88_33 rfl hl (by decide) rfl (fun ls hl => ?_)
  refine lv_lload_n hx hb dJ13_bitCount_95d88_34 rfl (lv_at hl 0 rfl) ?_
  refine lv_lload_n hx hb dJ13_bitCount_95d88_35 rfl (lv_at hl 0 rfl) ?_
  refine lv_bipush (v := 8) hx hb dJ13_bitCount_95d88_36 (by decide) ?_
  refine lv_lushr hx hb dJ13_bitCount_95d88_38 rfl ?_
  refine lv_ladd hx hb dJ13_bitCount_95d88_39 ?_
  refine lv_topl (fun x4 ex4 => ?_)
  replace hs := lt_inv hs x4 ex4
  refine lv_lstore_n (lv' := [(0, .long x4)]) hx hb dJ13_bitCount_95d88_40 rfl hl (by decide) rfl (fun ls hl => ?_)
  refine lv_lload_n hx hb dJ13_bitCount_95d88_41 rfl (lv_at hl 0 rfl) ?_
  refine lv_lload_n hx hb dJ13_bitCount_95d88_42 rfl (lv_at hl 0 rfl) ?_
  refine lv_bipush (v := 16) hx hb dJ13_bitCount_95d88_43 (by decide) ?_
  refine lv_lushr hx hb dJ13_bitCount_95d88_45 rfl ?_
  refine lv_ladd hx hb dJ13_bitCount_95d88_46 ?_
  refine lv_topl (fun x5 ex5 => ?_)
  replace hs := lt_inv hs x5 ex5
  refine lv_lstore_n (lv' := [(0, .long x5)]) hx hb dJ13_bitCount_95d88_47 rfl hl (by decide) rfl (fun ls hl => ?_)
  refine lv_lload_n hx hb dJ13_bitCount_95d88_48 rfl (lv_at hl 0 rfl) ?_
  refine lv_lload_n hx hb dJ13_bitCount_95d88_49 rfl (lv_at hl 0 rfl) ?_
  refine lv_bipush (v := 32) hx hb dJ13_bitCount_95d88_50 (by decide) ?_
  refine lv_lushr hx hb dJ13_bitCount_95d88_52 rfl ?_
  refine lv_ladd hx hb dJ13_bitCount_95d88_53 ?_
  refine lv_topl (fun x6 ex6 => ?_)
  replace hs := lt_inv hs x6 ex6
  refine lv_lstore_n (lv' := [(0, .long x6)]) hx hb dJ13_bitCount_95d88_54 rfl hl (by decide) rfl (fun ls hl => ?_)
  refine lv_lload_n hx hb dJ13_bitCount_95d88_55 rfl (lv_at hl 0 rfl) ?_
  refine lv_l2i hx hb dJ13_bitCount_95d88_56 rfl ?_
  refine lv_bipush (v := 127) hx hb dJ13_bitCount_95d88_57 (by decide) ?_
  refine lv_iand hx hb dJ13_bitCount_95d88_59 ?_
  obtain rfl := Option.some.inj hs
  exact hv_iret hx hb hrt hlk hr hS dJ13_bitCount_95d88_60
theorem dJ6_bitCount_0f7a4_0 : decode cJ6_bitCount_0f7a4 0 = .ok (.iload_n 0, 1) := by decide +kernel
theorem dJ6_bitCount_0f7a4_1 : decode cJ6_bitCount_0f7a4 1 = .ok (.iload_n 0, 1) := by decide +kernel
theorem dJ6_bitCount_0f7a4_2 : decode cJ6_bitCount_0f7a4 2 = .ok (.iconst 1, 1) := by decide +kernel
theorem dJ6_bitCount_0f7a4_3 : decode cJ6_bitCount_0f7a4 3 = .ok (.iushr, 1) := by decide +kernel
theorem dJ6_bitCount_0f7a4_4 : decode cJ6_bitCount_0f7a4 4 = .ok (.ldc_w 265, 3) := by decide +kernel
theorem dJ6_bitCount_0f7a4_7 : decode cJ6_bitCount_0f7a4 7 = .ok (.iand, 1) := by decide +kernel
theorem dJ6_bitCount_0f7a4_8 : decode cJ6_bitCount_0f7a4 8 = .ok (.isub, 1) := by decide +kernel
theorem dJ6_bitCount_0f7a4_9 : decode cJ6_bitCount_0f7a4 9 = .ok (.istore_n 0, 1) := by decide +kernel
theorem dJ6_bitCount_0f7a4_10 : decode cJ6_bitCount_0f7a4 10 = .ok (.iload_n 0, 1) := by decide +kernel
theorem dJ6_bitCount_0f7a4_11 : decode cJ6_bitCount_0f7a4 11 = .ok (.ldc_w 266, 3) := by decide +kernel
theorem dJ6_bitCount_0f7a4_14 : decode cJ6_bitCount_0f7a4 14 = .ok (.iand, 1) := by decide +kernel
theorem dJ6_bitCount_0f7a4_15 : decode cJ6_bitCount_0f7a4 15 = .ok (.iload_n 0, 1) := by decide +kernel
theorem dJ6_bitCount_0f7a4_16 : decode cJ6_bitCount_0f7a4 16 = .ok (.iconst 2, 1) := by decide +kernel
theorem dJ6_bitCount_0f7a4_17 : decode cJ6_bitCount_0f7a4 17 = .ok (.iushr, 1) := by decide +kernel
theorem dJ6_bitCount_0f7a4_18 : decode cJ6_bitCount_0f7a4 18 = .ok (.ldc_w 266, 3) := by decide +kernel
theorem dJ6_bitCount_0f7a4_21 : decode cJ6_bitCount_0f7a4 21 = .ok (.iand, 1) := by decide +kernel
theorem dJ6_bitCount_0f7a4_22 : decode cJ6_bitCount_0f7a4 22 = .ok (.iadd, 1) := by decide +kernel
theorem dJ6_bitCount_0f7a4_23 : decode cJ6_bitCount_0f7a4 23 = .ok (.istore_n 0, 1) := by decide +kernel
theorem dJ6_bitCount_0f7a4_24 : decode cJ6_bitCount_0f7a4 24 = .ok (.iload_n 0, 1) := by decide +kernel
theorem dJ6_bitCount_0f7a4_25 : decode cJ6_bitCount_0f7a4 25 = .ok (.iload_n 0, 1) := by decide +kernel
theorem dJ6_bitCount_0f7a4_26 : decode cJ6_bitCount_0f7a4 26 = .ok (.iconst 4, 1) := by decide +kernel
theorem dJ6_bitCount_0f7a4_27 : decode cJ6_bitCount_0f7a4 27 = .ok (.iushr, 1) := by decide +kernel
theorem dJ6_bitCount_0f7a4_28 : decode cJ6_bitCount_0f7a4 28 = .ok (.iadd, 1) := by decide +kernel
theorem dJ6_bitCount_0f7a4_29 : decode cJ6_bitCount_0f7a4 29 = .ok (.ldc_w 267, 3) := by decide +kernel
theorem dJ6_bitCount_0f7a4_32 : decode cJ6_bitCount_0f7a4 32 = .ok (.iand, 1) := by decide +kernel
theorem dJ6_bitCount_0f7a4_33 : decode cJ6_bitCount_0f7a4 33 = .ok (.istore_n 0, 1) := by decide +kernel
theorem dJ6_bitCount_0f7a4_34 : decode cJ6_bitCount_0f7a4 34 = .ok (.iload_n 0, 1) := by decide +kernel
theorem dJ6_bitCount_0f7a4_35 : decode cJ6_bitCount_0f7a4 35 = .ok (.iload_n 0, 1) := by decide +kernel
theorem dJ6_bitCount_0f7a4_36 : decode cJ6_bitCount_0f7a4 36 = .ok (.bipush 8, 2) := by decide +kernel
theorem dJ6_bitCount_0f7a4_38 : decode cJ6_bitCount_0f7a4 38 = .ok (.iushr, 1) := by decide +kernel
theorem dJ6_bitCount_0f7a4_39 : decode cJ6_bitCount_0f7a4 39 = .ok (.iadd, 1) := by decide +kernel
theorem dJ6_bitCount_0f7a4_40 : decode cJ6_bitCount_0f7a4 40 = .ok (.istore_n 0, 1) := by decide +kernel
theorem dJ6_bitCount_0f7a4_41 : decode cJ6_bitCount_0f7a4 41 = .ok (.iload_n 0, 1) := by decide +kernel
theorem dJ6_bitCount_0f7a4_42 : decode cJ6_bitCount_0f7a4 42 = .ok (.iload_n 0, 1) := by decide +kernel
theorem dJ6_bitCount_0f7a4_43 : decode cJ6_bitCount_0f7a4 43 = .ok (.bipush 16, 2) := by decide +kernel
theorem dJ6_bitCount_0f7a4_45 : decode cJ6_bitCount_0f7a4 45 = .ok (.iushr, 1) := by decide +kernel
theorem dJ6_bitCount_0f7a4_46 : decode cJ6_bitCount_0f7a4 46 = .ok (.iadd, 1) := by decide +kernel
theorem dJ6_bitCount_0f7a4_47 : decode cJ6_bitCount_0f7a4 47 = .ok (.istore_n 0, 1) := by decide +kernel
theorem dJ6_bitCount_0f7a4_48 : decode cJ6_bitCount_0f7a4 48 = .ok (.iload_n 0, 1) := by decide +kernel
theorem dJ6_bitCount_0f7a4_49 : decode cJ6_bitCount_0f7a4 49 = .ok (.bipush 63, 2) := by decide +kernel
theorem dJ6_bitCount_0f7a4_51 : decode cJ6_bitCount_0f7a4 51 = .ok (.iand, 1) := by decide +kernel
theorem dJ6_bitCount_0f7a4_52 : decode cJ6_bitCount_0f7a4 52 = .ok (.ireturn, 1) := by decide +kernel
def zs_J6_bitCount_0f7a4 (h : AH) (u0 : Int32) : Option Int32 :=
  lt_ (u0 - (((u0.toUInt32 >>> (((1 : Int32)).toUInt32 &&& Int32.toUInt32 31)).toInt32) &&& ((1431655765 : Int32)))) fun x1 => lt_ ((x1 &&& ((858993459 : Int32))) + (((x1.toUInt32 >>> (((2 : Int32)).toUInt32 &&& Int32.toUInt32 31)).toInt32) &&& ((858993459 : Int32)))) fun x2 => lt_ ((x2 + ((x2.toUInt32 >>> (((4 : Int32)).toUInt32 &&& Int32.toUInt32 31)).toInt32)) &&& ((252645135 : Int32))) fun x3 => lt_ (x3 + ((x3.toUInt32 >>> (((8 : Int32)).toUInt32 &&& Int32.toUInt32 31)).toInt32)) fun x4 => lt_ (x4 + ((x4.toUInt32 >>> (((16 : Int32)).toUInt32 &&& Int32.toUInt32 31)).toInt32)) fun x5 => some (x5 &&& ((63 : Int32)))
set_option maxRecDepth 100000 in
set_option maxHeartbeats 4000000 in
theorem zm_J6_bitCount_0f7a4 (l : Launch) (D : hG) (z : Nat) {h : AH} {u0 : Int32} {r : Int32} (hs : zs_J6_bitCount_0f7a4 h u0 = some r) : hC l D z yJ6_bitCount_0f7a4 cJ6_bitCount_0f7a4 1 (Option.some Jvm.ClassFile.FieldType.int) 0 0 0 0 [.int u0] h h (some (.int r)) := by
  refine hC_of (by decide) (Nat.le_of_ble_eq_true rfl) ?_
  intro p e s m below meth c hx hb hml hrt hlk hown hnm hts hk hr hz ls hl
  replace hown : s.vm.findClass RJ6 = some m.cls := hown
  replace hl : lv_has ls 1 [(0, .int u0)] := hl
  have hS : va_S (hA z) s.heap s.heap [] := va_S.rf
  suffices hgo : ∀ (H : Heap) (locs : List Loc), hR D z h H → va_S (hA z) s.heap H locs → W p l e ({ frames := 0, cells := 0, slots := 0, locals := 0 } : Room) s m ([.int u0] : List Value).toArray below meth c H locs 0 0 (MQ below (hQ D z h (some (.int r))) ([.int u0] : List Value).toArray s 0 0 (hA z)) (F0 m 0 ls []) from hgo _ _ hr hS
  clear hr hS
  intro H locs hr hS
  unfold zs_J6_bitCount_0f7a4 at hs
  refine lv_iload_n hx hb dJ6_bitCount_0f7a4_0 rfl (lv_at hl 0 rfl) ?_
  refine lv_iload_n hx hb dJ6_bitCount_0f7a4_1 rfl (lv_at hl 0 rfl) ?_
  refine lv_iconst (v := 1) hx hb dJ6_bitCount_0f7a4_2 (by decide) ?_
  refine lv_iushr hx hb dJ6_bitCount_0f7a4_3 rfl ?_
  refine lv_ldcw hx hb hown (hts _ tw_1177) dJ6_bitCount_0f7a4_4 ?_
  refine lv_iand hx hb dJ6_bitCount_0f7a4_7 ?_
  refine lv_isub hx hb dJ6_bitCount_0f7a4_8 ?_
  refine lv_topi (fun x1 ex1 => ?_)
  replace hs := lt_inv hs x1 ex1
  refine lv_istore_n (lv' := [(0, .int x1)]) hx hb dJ6_bitCount_0f7a4_9 rfl hl (by decide) rfl (fun ls hl => ?_)
  refine lv_iload_n hx hb dJ6_bitCount_0f7a4_10 rfl (lv_at hl 0 rfl) ?_
  refine lv_ldcw hx hb hown (hts _ tw_1178) dJ6_bitCount_0f7a4_11 ?_
  refine lv_iand hx hb dJ6_bitCount_0f7a4_14 ?_
  refine lv_iload_n hx hb dJ6_bitCount_0f7a4_15 rfl (lv_at hl 0 rfl) ?_
  refine lv_iconst (v := 2) hx hb dJ6_bitCount_0f7a4_16 (by decide) ?_
  refine lv_iushr hx hb dJ6_bitCount_0f7a4_17 rfl ?_
  refine lv_ldcw hx hb hown (hts _ tw_1178) dJ6_bitCount_0f7a4_18 ?_
  refine lv_iand hx hb dJ6_bitCount_0f7a4_21 ?_
  refine lv_iadd hx hb dJ6_bitCount_0f7a4_22 ?_
  refine lv_topi (fun x2 ex2 => ?_)
  replace hs := lt_inv hs x2 ex2
  refine lv_istore_n (lv' := [(0, .int x2)]) hx hb dJ6_bitCount_0f7a4_23 rfl hl (by decide) rfl (fun ls hl => ?_)
  refine lv_iload_n hx hb dJ6_bitCount_0f7a4_24 rfl (lv_at hl 0 rfl) ?_
  refine lv_iload_n hx hb dJ6_bitCount_0f7a4_25 rfl (lv_at hl 0 rfl) ?_
  refine lv_iconst (v := 4) hx hb dJ6_bitCount_0f7a4_26 (by decide) ?_
  refine lv_iushr hx hb dJ6_bitCount_0f7a4_27 rfl ?_
  refine lv_iadd hx hb dJ6_bitCount_0f7a4_28 ?_
  refine lv_ldcw hx hb hown (hts _ tw_1179) dJ6_bitCount_0f7a4_29 ?_
  refine lv_iand hx hb dJ6_bitCount_0f7a4_32 ?_
  refine lv_topi (fun x3 ex3 => ?_)
  replace hs := lt_inv hs x3 ex3
  refine lv_istore_n (lv' := [(0, .int x3)]) hx hb dJ6_bitCount_0f7a4_33 rfl hl (by decide) rfl (fun ls hl => ?_)
  refine lv_iload_n hx hb dJ6_bitCount_0f7a4_34 rfl (lv_at hl 0 rfl) ?_
  refine lv_iload_n hx hb dJ6_bitCount_0f7a4_35 rfl (lv_at hl 0 rfl) ?_
  refine lv_bipush (v := 8) hx hb dJ6_bitCount_0f7a4_36 (by decide) ?_
  refine lv_iushr hx hb dJ6_bitCount_0f7a4_38 rfl ?_
  refine lv_iadd hx hb dJ6_bitCount_0f7a4_39 ?_
  refine lv_topi (fun x4 ex4 => ?_)
  replace hs := lt_inv hs x4 ex4
  refine lv_istore_n (lv' := [(0, .int x4)]) hx hb dJ6_bitCount_0f7a4_40 rfl hl (by decide) rfl (fun ls hl => ?_)
  refine lv_iload_n hx hb dJ6_bitCount_0f7a4_41 rfl (lv_at hl 0 rfl) ?_
  refine lv_iload_n hx hb dJ6_bitCount_0f7a4_42 rfl (lv_at hl 0 rfl) ?_
  refine lv_bipush (v := 16) hx hb dJ6_bitCount_0f7a4_43 (by decide) ?_
  refine lv_iushr hx hb dJ6_bitCount_0f7a4_45 rfl ?_
  refine lv_iadd hx hb dJ6_bitCount_0f7a4_46 ?_
  refine lv_topi (fun x5 ex5 => ?_)
  replace hs := lt_inv hs x5 ex5
  refine lv_istore_n (lv' := [(0, .int x5)]) hx hb dJ6_bitCount_0f7a4_47 rfl hl (by decide) rfl (fun ls hl => ?_)
  refine lv_iload_n hx hb dJ6_bitCount_0f7a4_48 rfl (lv_at hl 0 rfl) ?_
  refine lv_bipush (v := 63) hx hb dJ6_bitCount_0f7a4_49 (by decide) ?_
  refine lv_iand hx hb dJ6_bitCount_0f7a4_51 ?_
  obtain rfl := Option.some.inj hs
  exact hv_iret hx hb hrt hlk hr hS dJ6_bitCount_0f7a4_52
theorem dJ6_numberOfLeadingZeros_0f7a4_0 : decode cJ6_numberOfLeadingZeros_0f7a4 0 = .ok (.iload_n 0, 1) := by decide +kernel
theorem dJ6_numberOfLeadingZeros_0f7a4_1 : decode cJ6_numberOfLeadingZeros_0f7a4 1 = .ok (.ifCond .gt 14, 3) := by decide +kernel
theorem dJ6_numberOfLeadingZeros_0f7a4_4 : decode cJ6_numberOfLeadingZeros_0f7a4 4 = .ok (.iload_n 0, 1) := by decide +kernel
theorem dJ6_numberOfLeadingZeros_0f7a4_5 : decode cJ6_numberOfLeadingZeros_0f7a4 5 = .ok (.ifCond .ne 8, 3) := by decide +kernel
theorem dJ6_numberOfLeadingZeros_0f7a4_8 : decode cJ6_numberOfLeadingZeros_0f7a4 8 = .ok (.bipush 32, 2) := by decide +kernel
theorem dJ6_numberOfLeadingZeros_0f7a4_10 : decode cJ6_numberOfLeadingZeros_0f7a4 10 = .ok (.goto 4, 3) := by decide +kernel
theorem dJ6_numberOfLeadingZeros_0f7a4_13 : decode cJ6_numberOfLeadingZeros_0f7a4 13 = .ok (.iconst 0, 1) := by decide +kernel
theorem dJ6_numberOfLeadingZeros_0f7a4_14 : decode cJ6_numberOfLeadingZeros_0f7a4 14 = .ok (.ireturn, 1) := by decide +kernel
theorem dJ6_numberOfLeadingZeros_0f7a4_15 : decode cJ6_numberOfLeadingZeros_0f7a4 15 = .ok (.bipush 31, 2) := by decide +kernel
theorem dJ6_numberOfLeadingZeros_0f7a4_17 : decode cJ6_numberOfLeadingZeros_0f7a4 17 = .ok (.istore_n 1, 1) := by decide +kernel
theorem dJ6_numberOfLeadingZeros_0f7a4_18 : decode cJ6_numberOfLeadingZeros_0f7a4 18 = .ok (.iload_n 0, 1) := by decide +kernel
theorem dJ6_numberOfLeadingZeros_0f7a4_19 : decode cJ6_numberOfLeadingZeros_0f7a4 19 = .ok (.ldc_w 264, 3) := by decide +kernel
theorem dJ6_numberOfLeadingZeros_0f7a4_22 : decode cJ6_numberOfLeadingZeros_0f7a4 22 = .ok (.if_icmp .lt 11, 3) := by decide +kernel
theorem dJ6_numberOfLeadingZeros_0f7a4_25 : decode cJ6_numberOfLeadingZeros_0f7a4 25 = .ok (.iinc 1 (-16), 3) := by decide +kernel
theorem dJ6_numberOfLeadingZeros_0f7a4_28 : decode cJ6_numberOfLeadingZeros_0f7a4 28 = .ok (.iload_n 0, 1) := by decide +kernel
theorem dJ6_numberOfLeadingZeros_0f7a4_29 : decode cJ6_numberOfLeadingZeros_0f7a4 29 = .ok (.bipush 16, 2) := by decide +kernel
theorem dJ6_numberOfLeadingZeros_0f7a4_31 : decode cJ6_numberOfLeadingZeros_0f7a4 31 = .ok (.iushr, 1) := by decide +kernel
theorem dJ6_numberOfLeadingZeros_0f7a4_32 : decode cJ6_numberOfLeadingZeros_0f7a4 32 = .ok (.istore_n 0, 1) := by decide +kernel
theorem dJ6_numberOfLeadingZeros_0f7a4_33 : decode cJ6_numberOfLeadingZeros_0f7a4 33 = .ok (.iload_n 0, 1) := by decide +kernel
theorem dJ6_numberOfLeadingZeros_0f7a4_34 : decode cJ6_numberOfLeadingZeros_0f7a4 34 = .ok (.sipush 256, 3) := by decide +kernel
theorem dJ6_numberOfLeadingZeros_0f7a4_37 : decode cJ6_numberOfLeadingZeros_0f7a4 37 = .ok (.if_icmp .lt 11, 3) := by decide +kernel
theorem dJ6_numberOfLeadingZeros_0f7a4_40 : decode cJ6_numberOfLeadingZeros_0f7a4 40 = .ok (.iinc 1 (-8), 3) := by decide +kernel
theorem dJ6_numberOfLeadingZeros_0f7a4_43 : decode cJ6_numberOfLeadingZeros_0f7a4 43 = .ok (.iload_n 0, 1) := by decide +kernel
theorem dJ6_numberOfLeadingZeros_0f7a4_44 : decode cJ6_numberOfLeadingZeros_0f7a4 44 = .ok (.bipush 8, 2) := by decide +kernel
theorem dJ6_numberOfLeadingZeros_0f7a4_46 : decode cJ6_numberOfLeadingZeros_0f7a4 46 = .ok (.iushr, 1) := by decide +kernel
theorem dJ6_numberOfLeadingZeros_0f7a4_47 : decode cJ6_numberOfLeadingZeros_0f7a4 47 = .ok (.istore_n 0, 1) := by decide +kernel
theorem dJ6_numberOfLeadingZeros_0f7a4_48 : decode cJ6_numberOfLeadingZeros_0f7a4 48 = .ok (.iload_n 0, 1) := by decide +kernel
theorem dJ6_numberOfLeadingZeros_0f7a4_49 : decode cJ6_numberOfLeadingZeros_0f7a4 49 = .ok (.bipush 16, 2) := by decide +kernel
theorem dJ6_numberOfLeadingZeros_0f7a4_51 : decode cJ6_numberOfLeadingZeros_0f7a4 51 = .ok (.if_icmp .lt 10, 3) := by decide +kernel
theorem dJ6_numberOfLeadingZeros_0f7a4_54 : decode cJ6_numberOfLeadingZeros_0f7a4 54 = .ok (.iinc 1 (-4), 3) := by decide +kernel
theorem dJ6_numberOfLeadingZeros_0f7a4_57 : decode cJ6_numberOfLeadingZeros_0f7a4 57 = .ok (.iload_n 0, 1) := by decide +kernel
theorem dJ6_numberOfLeadingZeros_0f7a4_58 : decode cJ6_numberOfLeadingZeros_0f7a4 58 = .ok (.iconst 4, 1) := by decide +kernel
theorem dJ6_numberOfLeadingZeros_0f7a4_59 : decode cJ6_numberOfLeadingZeros_0f7a4 59 = .ok (.iushr, 1) := by decide +kernel
theorem dJ6_numberOfLeadingZeros_0f7a4_60 : decode cJ6_numberOfLeadingZeros_0f7a4 60 = .ok (.istore_n 0, 1) := by decide +kernel
theorem dJ6_numberOfLeadingZeros_0f7a4_61 : decode cJ6_numberOfLeadingZeros_0f7a4 61 = .ok (.iload_n 0, 1) := by decide +kernel
theorem dJ6_numberOfLeadingZeros_0f7a4_62 : decode cJ6_numberOfLeadingZeros_0f7a4 62 = .ok (.iconst 4, 1) := by decide +kernel
theorem dJ6_numberOfLeadingZeros_0f7a4_63 : decode cJ6_numberOfLeadingZeros_0f7a4 63 = .ok (.if_icmp .lt 10, 3) := by decide +kernel
theorem dJ6_numberOfLeadingZeros_0f7a4_66 : decode cJ6_numberOfLeadingZeros_0f7a4 66 = .ok (.iinc 1 (-2), 3) := by decide +kernel
theorem dJ6_numberOfLeadingZeros_0f7a4_69 : decode cJ6_numberOfLeadingZeros_0f7a4 69 = .ok (.iload_n 0, 1) := by decide +kernel
theorem dJ6_numberOfLeadingZeros_0f7a4_70 : decode cJ6_numberOfLeadingZeros_0f7a4 70 = .ok (.iconst 2, 1) := by decide +kernel
theorem dJ6_numberOfLeadingZeros_0f7a4_71 : decode cJ6_numberOfLeadingZeros_0f7a4 71 = .ok (.iushr, 1) := by decide +kernel
theorem dJ6_numberOfLeadingZeros_0f7a4_72 : decode cJ6_numberOfLeadingZeros_0f7a4 72 = .ok (.istore_n 0, 1) := by decide +kernel
theorem dJ6_numberOfLeadingZeros_0f7a4_73 : decode cJ6_numberOfLeadingZeros_0f7a4 73 = .ok (.iload_n 1, 1) := by decide +kernel
theorem dJ6_numberOfLeadingZeros_0f7a4_74 : decode cJ6_numberOfLeadingZeros_0f7a4 74 = .ok (.iload_n 0, 1) := by decide +kernel
theorem dJ6_numberOfLeadingZeros_0f7a4_75 : decode cJ6_numberOfLeadingZeros_0f7a4 75 = .ok (.iconst 1, 1) := by decide +kernel
theorem dJ6_numberOfLeadingZeros_0f7a4_76 : decode cJ6_numberOfLeadingZeros_0f7a4 76 = .ok (.iushr, 1) := by decide +kernel
theorem dJ6_numberOfLeadingZeros_0f7a4_77 : decode cJ6_numberOfLeadingZeros_0f7a4 77 = .ok (.isub, 1) := by decide +kernel
theorem dJ6_numberOfLeadingZeros_0f7a4_78 : decode cJ6_numberOfLeadingZeros_0f7a4 78 = .ok (.ireturn, 1) := by decide +kernel
def zj_J6_numberOfLeadingZeros_0f7a4_61 (h : AH) (y0_61 : Int32) (y1_61 : Int32) : Option Int32 :=
  (if y0_61 < (4 : Int32) then some (y1_61 - ((y0_61.toUInt32 >>> (((1 : Int32)).toUInt32 &&& Int32.toUInt32 31)).toInt32)) else lt_ ((y0_61.toUInt32 >>> (((2 : Int32)).toUInt32 &&& Int32.toUInt32 31)).toInt32) fun x6 => some ((y1_61 + (-2 : Int32)) - ((x6.toUInt32 >>> (((1 : Int32)).toUInt32 &&& Int32.toUInt32 31)).toInt32)))
def zj_J6_numberOfLeadingZeros_0f7a4_48 (h : AH) (y0_48 : Int32) (y1_48 : Int32) : Option Int32 :=
  (if y0_48 < (16 : Int32) then zj_J6_numberOfLeadingZeros_0f7a4_61 h y0_48 y1_48 else lt_ ((y0_48.toUInt32 >>> (((4 : Int32)).toUInt32 &&& Int32.toUInt32 31)).toInt32) fun x7 => zj_J6_numberOfLeadingZeros_0f7a4_61 h x7 (y1_48 + (-4 : Int32)))
def zj_J6_numberOfLeadingZeros_0f7a4_33 (h : AH) (y0_33 : Int32) (y1_33 : Int32) : Option Int32 :=
  (if y0_33 < (256 : Int32) then zj_J6_numberOfLeadingZeros_0f7a4_48 h y0_33 y1_33 else lt_ ((y0_33.toUInt32 >>> (((8 : Int32)).toUInt32 &&& Int32.toUInt32 31)).toInt32) fun x8 => zj_J6_numberOfLeadingZeros_0f7a4_48 h x8 (y1_33 + (-8 : Int32)))
def zs_J6_numberOfLeadingZeros_0f7a4 (h : AH) (u0 : Int32) : Option Int32 :=
  (if 0 < u0 then (if u0 < (65536 : Int32) then zj_J6_numberOfLeadingZeros_0f7a4_33 h u0 ((31 : Int32)) else lt_ ((u0.toUInt32 >>> (((16 : Int32)).toUInt32 &&& Int32.toUInt32 31)).toInt32) fun x9 => zj_J6_numberOfLeadingZeros_0f7a4_33 h x9 (((31 : Int32)) + (-16 : Int32))) else (if u0 = 0 then some ((32 : Int32)) else some ((0 : Int32))))
set_option maxRecDepth 100000 in
set_option maxHeartbeats 4000000 in
theorem zm_J6_numberOfLeadingZeros_0f7a4 (l : Launch) (D : hG) (z : Nat) {h : AH} {u0 : Int32} {r : Int32} (hs : zs_J6_numberOfLeadingZeros_0f7a4 h u0 = some r) : hC l D z yJ6_numberOfLeadingZeros_0f7a4 cJ6_numberOfLeadingZeros_0f7a4 2 (Option.some Jvm.ClassFile.FieldType.int) 0 0 0 0 [.int u0] h h (some (.int r)) := by
  refine hC_of (by decide) (Nat.le_of_ble_eq_true rfl) ?_
  intro p e s m below meth c hx hb hml hrt hlk hown hnm hts hk hr hz ls hl
  replace hown : s.vm.findClass RJ6 = some m.cls := hown
  replace hl : lv_has ls 2 [(0, .int u0)] := hl
  have hS : va_S (hA z) s.heap s.heap [] := va_S.rf
  suffices hgo : ∀ (H : Heap) (locs : List Loc), hR D z h H → va_S (hA z) s.heap H locs → W p l e ({ frames := 0, cells := 0, slots := 0, locals := 0 } : Room) s m ([.int u0] : List Value).toArray below meth c H locs 0 0 (MQ below (hQ D z h (some (.int r))) ([.int u0] : List Value).toArray s 0 0 (hA z)) (F0 m 0 ls []) from hgo _ _ hr hS
  clear hr hS
  intro H locs hr hS
  have hJ61 : ∀ (y0_61 : Int32) (y1_61 : Int32) (H : Heap) (locs : List Loc) (ls : Array Slot), zj_J6_numberOfLeadingZeros_0f7a4_61 h y0_61 y1_61 = some r → hR D z h H → va_S (hA z) s.heap H locs → lv_has ls 2 [(0, .int y0_61), (1, .int y1_61)] → W p l e ({ frames := 0, cells := 0, slots := 0, locals := 0 } : Room) s m ([.int u0] : List Value).toArray below meth c H locs 0 0 (MQ below (hQ D z h (some (.int r))) ([.int u0] : List Value).toArray s 0 0 (hA z)) (F0 m 61 ls []) := by
    intro y0_61 y1_61 H locs ls hs hr hS hl
    unfold zj_J6_numberOfLeadingZeros_0f7a4_61 at hs
    refine lv_iload_n hx hb dJ6_numberOfLeadingZeros_0f7a4_61 rfl (lv_at hl 0 rfl) ?_
    refine lv_iconst (v := 4) hx hb dJ6_numberOfLeadingZeros_0f7a4_62 (by decide) ?_
    refine lv_icmp_lt (tgt := 73) hx hb dJ6_numberOfLeadingZeros_0f7a4_63 (by decide) (fun c5 => ?_) (fun c5 => ?_)
    · rw [if_pos c5] at hs
      refine lv_iload_n hx hb dJ6_numberOfLeadingZeros_0f7a4_73 rfl (lv_at hl 1 rfl) ?_
      refine lv_iload_n hx hb dJ6_numberOfLeadingZeros_0f7a4_74 rfl (lv_at hl 0 rfl) ?_
      refine lv_iconst (v := 1) hx hb dJ6_numberOfLeadingZeros_0f7a4_75 (by decide) ?_
      refine lv_iushr hx hb dJ6_numberOfLeadingZeros_0f7a4_76 rfl ?_
      refine lv_isub hx hb dJ6_numberOfLeadingZeros_0f7a4_77 ?_
      obtain rfl := Option.some.inj hs
      exact hv_iret hx hb hrt hlk hr hS dJ6_numberOfLeadingZeros_0f7a4_78
    · rw [if_neg c5] at hs
      refine lv_iinc (v := y1_61 + (-2 : Int32)) (lv' := [(1, .int (y1_61 + (-2 : Int32))), (0, .int y0_61)]) hx hb dJ6_numberOfLeadingZeros_0f7a4_66 hl (k := 1) rfl (ii_v _ (by decide)) (by decide) rfl (fun ls hl => ?_)
      refine lv_iload_n hx hb dJ6_numberOfLeadingZeros_0f7a4_69 rfl (lv_at hl 1 rfl) ?_
      refine lv_iconst (v := 2) hx hb dJ6_numberOfLeadingZeros_0f7a4_70 (by decide) ?_
      refine lv_iushr hx hb dJ6_numberOfLeadingZeros_0f7a4_71 rfl ?_
      refine lv_topi (fun x6 ex6 => ?_)
      replace hs := lt_inv hs x6 ex6
      refine lv_istore_n (lv' := [(0, .int x6), (1, .int (y1_61 + (-2 : Int32)))]) hx hb dJ6_numberOfLeadingZeros_0f7a4_72 rfl hl (by decide) rfl (fun ls hl => ?_)
      refine lv_iload_n hx hb dJ6_numberOfLeadingZeros_0f7a4_73 rfl (lv_at hl 1 rfl) ?_
      refine lv_iload_n hx hb dJ6_numberOfLeadingZeros_0f7a4_74 rfl (lv_at hl 0 rfl) ?_
      refine lv_iconst (v := 1) hx hb dJ6_numberOfLeadingZeros_0f7a4_75 (by decide) ?_
      refine lv_iushr hx hb dJ6_numberOfLeadingZeros_0f7a4_76 rfl ?_
      refine lv_isub hx hb dJ6_numberOfLeadingZeros_0f7a4_77 ?_
      obtain rfl := Option.some.inj hs
      exact hv_iret hx hb hrt hlk hr hS dJ6_numberOfLeadingZeros_0f7a4_78
  have hJ48 : ∀ (y0_48 : Int32) (y1_48 : Int32) (H : Heap) (locs : List Loc) (ls : Array Slot), zj_J6_numberOfLeadingZeros_0f7a4_48 h y0_48 y1_48 = some r → hR D z h H → va_S (hA z) s.heap H locs → lv_has ls 2 [(0, .int y0_48), (1, .int y1_48)] → W p l e ({ frames := 0, cells := 0, slots := 0, locals := 0 } : Room) s m ([.int u0] : List Value).toArray below meth c H locs 0 0 (MQ below (hQ D z h (some (.int r))) ([.int u0] : List Value).toArray s 0 0 (hA z)) (F0 m 48 ls []) := by
    intro y0_48 y1_48 H locs ls hs hr hS hl
    unfold zj_J6_numberOfLeadingZeros_0f7a4_48 at hs
    refine lv_iload_n hx hb dJ6_numberOfLeadingZeros_0f7a4_48 rfl (lv_at hl 0 rfl) ?_
    refine lv_bipush (v := 16) hx hb dJ6_numberOfLeadingZeros_0f7a4_49 (by decide) ?_
    refine lv_icmp_lt (tgt := 61) hx hb dJ6_numberOfLeadingZeros_0f7a4_51 (by decide) (fun c4 => ?_) (fun c4 => ?_)
    · rw [if_pos c4] at hs
      exact hJ61 y0_48 y1_48 H locs ls hs hr hS (lv_sub hl [0, 1] rfl)
    · rw [if_neg c4] at hs
      refine lv_iinc (v := y1_48 + (-4 : Int32)) (lv' := [(1, .int (y1_48 + (-4 : Int32))), (0, .int y0_48)]) hx hb dJ6_numberOfLeadingZeros_0f7a4_54 hl (k := 1) rfl (ii_v _ (by decide)) (by decide) rfl (fun ls hl => ?_)
      refine lv_iload_n hx hb dJ6_numberOfLeadingZeros_0f7a4_57 rfl (lv_at hl 1 rfl) ?_
      refine lv_iconst (v := 4) hx hb dJ6_numberOfLeadingZeros_0f7a4_58 (by decide) ?_
      refine lv_iushr hx hb dJ6_numberOfLeadingZeros_0f7a4_59 rfl ?_
      refine lv_topi (fun x7 ex7 => ?_)
      replace hs := lt_inv hs x7 ex7
      refine lv_istore_n (lv' := [(0, .int x7), (1, .int (y1_48 + (-4 : Int32)))]) hx hb dJ6_numberOfLeadingZeros_0f7a4_60 rfl hl (by decide) rfl (fun ls hl => ?_)
      exact hJ61 x7 (y1_48 + (-4 : Int32)) H locs ls hs hr hS (lv_sub hl [0, 1] rfl)
  have hJ33 : ∀ (y0_33 : Int32) (y1_33 : Int32) (H : Heap) (locs : List Loc) (ls : Array Slot), zj_J6_numberOfLeadingZeros_0f7a4_33 h y0_33 y1_33 = some r → hR D z h H → va_S (hA z) s.heap H locs → lv_has ls 2 [(0, .int y0_33), (1, .int y1_33)] → W p l e ({ frames := 0, cells := 0, slots := 0, locals := 0 } : Room) s m ([.int u0] : List Value).toArray below meth c H locs 0 0 (MQ below (hQ D z h (some (.int r))) ([.int u0] : List Value).toArray s 0 0 (hA z)) (F0 m 33 ls []) := by
    intro y0_33 y1_33 H locs ls hs hr hS hl
    unfold zj_J6_numberOfLeadingZeros_0f7a4_33 at hs
    refine lv_iload_n hx hb dJ6_numberOfLeadingZeros_0f7a4_33 rfl (lv_at hl 0 rfl) ?_
    refine lv_sipush (v := 256) hx hb dJ6_numberOfLeadingZeros_0f7a4_34 (by decide) ?_
    refine lv_icmp_lt (tgt := 48) hx hb dJ6_numberOfLeadingZeros_0f7a4_37 (by decide) (fun c3 => ?_) (fun c3 => ?_)
    · rw [if_pos c3] at hs
      exact hJ48 y0_33 y1_33 H locs ls hs hr hS (lv_sub hl [0, 1] rfl)
    · rw [if_neg c3] at hs
      refine lv_iinc (v := y1_33 + (-8 : Int32)) (lv' := [(1, .int (y1_33 + (-8 : Int32))), (0, .int y0_33)]) hx hb dJ6_numberOfLeadingZeros_0f7a4_40 hl (k := 1) rfl (ii_v _ (by decide)) (by decide) rfl (fun ls hl => ?_)
      refine lv_iload_n hx hb dJ6_numberOfLeadingZeros_0f7a4_43 rfl (lv_at hl 1 rfl) ?_
      refine lv_bipush (v := 8) hx hb dJ6_numberOfLeadingZeros_0f7a4_44 (by decide) ?_
      refine lv_iushr hx hb dJ6_numberOfLeadingZeros_0f7a4_46 rfl ?_
      refine lv_topi (fun x8 ex8 => ?_)
      replace hs := lt_inv hs x8 ex8
      refine lv_istore_n (lv' := [(0, .int x8), (1, .int (y1_33 + (-8 : Int32)))]) hx hb dJ6_numberOfLeadingZeros_0f7a4_47 rfl hl (by decide) rfl (fun ls hl => ?_)
      exact hJ48 x8 (y1_33 + (-8 : Int32)) H locs ls hs hr hS (lv_sub hl [0, 1] rfl)
  unfold zs_J6_numberOfLeadingZeros_0f7a4 at hs
  refine lv_iload_n hx hb dJ6_numberOfLeadingZeros_0f7a4_0 rfl (lv_at hl 0 rfl) ?_
  refine lv_if_gt (tgt := 15) hx hb dJ6_numberOfLeadingZeros_0f7a4_1 (by decide) (fun c1 => ?_) (fun c1 => ?_)
  · rw [if_pos c1] at hs
    refine lv_bipush (v := 31) hx hb dJ6_numberOfLeadingZeros_0f7a4_15 (by decide) ?_
    refine lv_istore_n (lv' := [(1, .int ((31 : Int32))), (0, .int u0)]) hx hb dJ6_numberOfLeadingZeros_0f7a4_17 rfl hl (by decide) rfl (fun ls hl => ?_)
    refine lv_iload_n hx hb dJ6_numberOfLeadingZeros_0f7a4_18 rfl (lv_at hl 1 rfl) ?_
    refine lv_ldcw hx hb hown (hts _ tw_987) dJ6_numberOfLeadingZeros_0f7a4_19 ?_
    refine lv_icmp_lt (tgt := 33) hx hb dJ6_numberOfLeadingZeros_0f7a4_22 (by decide) (fun c2 => ?_) (fun c2 => ?_)
    · rw [if_pos c2] at hs
      exact hJ33 u0 ((31 : Int32)) H locs ls hs hr hS (lv_sub hl [1, 0] rfl)
    · rw [if_neg c2] at hs
      refine lv_iinc (v := ((31 : Int32)) + (-16 : Int32)) (lv' := [(1, .int (((31 : Int32)) + (-16 : Int32))), (0, .int u0)]) hx hb dJ6_numberOfLeadingZeros_0f7a4_25 hl (k := 0) rfl (ii_v _ (by decide)) (by decide) rfl (fun ls hl => ?_)
      refine lv_iload_n hx hb dJ6_numberOfLeadingZeros_0f7a4_28 rfl (lv_at hl 1 rfl) ?_
      refine lv_bipush (v := 16) hx hb dJ6_numberOfLeadingZeros_0f7a4_29 (by decide) ?_
      refine lv_iushr hx hb dJ6_numberOfLeadingZeros_0f7a4_31 rfl ?_
      refine lv_topi (fun x9 ex9 => ?_)
      replace hs := lt_inv hs x9 ex9
      refine lv_istore_n (lv' := [(0, .int x9), (1, .int (((31 : Int32)) + (-16 : Int32)))]) hx hb dJ6_numberOfLeadingZeros_0f7a4_32 rfl hl (by decide) rfl (fun ls hl => ?_)
      exact hJ33 x9 (((31 : Int32)) + (-16 : Int32)) H locs ls hs hr hS (lv_sub hl [0, 1] rfl)
  · rw [if_neg c1] at hs
    refine lv_iload_n hx hb dJ6_numberOfLeadingZeros_0f7a4_4 rfl (lv_at hl 0 rfl) ?_
    refine lv_if_ne (tgt := 13) hx hb dJ6_numberOfLeadingZeros_0f7a4_5 (by decide) (fun c10 => ?_) (fun c10 => ?_)
    · rw [if_neg c10] at hs
      refine lv_iconst (v := 0) hx hb dJ6_numberOfLeadingZeros_0f7a4_13 (by decide) ?_
      obtain rfl := Option.some.inj hs
      exact hv_iret hx hb hrt hlk hr hS dJ6_numberOfLeadingZeros_0f7a4_14
    · rw [if_pos c10] at hs
      refine lv_bipush (v := 32) hx hb dJ6_numberOfLeadingZeros_0f7a4_8 (by decide) ?_
      refine lv_goto (tgt := 14) hx hb dJ6_numberOfLeadingZeros_0f7a4_10 (by decide) ?_
      obtain rfl := Option.some.inj hs
      exact hv_iret hx hb hrt hlk hr hS dJ6_numberOfLeadingZeros_0f7a4_14
theorem dX8_quotientOfBits_0 : decode cX8_quotientOfBits 0 = .ok (.lload_n 2, 1) := by decide +kernel
theorem dX8_quotientOfBits_1 : decode cX8_quotientOfBits 1 = .ok (.lconst 0, 1) := by decide +kernel
theorem dX8_quotientOfBits_2 : decode cX8_quotientOfBits 2 = .ok (.lcmp, 1) := by decide +kernel
theorem dX8_quotientOfBits_3 : decode cX8_quotientOfBits 3 = .ok (.ifCond .gt 5, 3) := by decide +kernel
theorem dX8_quotientOfBits_6 : decode cX8_quotientOfBits 6 = .ok (.lconst 0, 1) := by decide +kernel
theorem dX8_quotientOfBits_7 : decode cX8_quotientOfBits 7 = .ok (.lreturn, 1) := by decide +kernel
theorem dX8_quotientOfBits_8 : decode cX8_quotientOfBits 8 = .ok (.lload_n 0, 1) := by decide +kernel
theorem dX8_quotientOfBits_9 : decode cX8_quotientOfBits 9 = .ok (.iconst 1, 1) := by decide +kernel
theorem dX8_quotientOfBits_10 : decode cX8_quotientOfBits 10 = .ok (.lushr, 1) := by decide +kernel
theorem dX8_quotientOfBits_11 : decode cX8_quotientOfBits 11 = .ok (.lload_n 2, 1) := by decide +kernel
theorem dX8_quotientOfBits_12 : decode cX8_quotientOfBits 12 = .ok (.ldiv, 1) := by decide +kernel
theorem dX8_quotientOfBits_13 : decode cX8_quotientOfBits 13 = .ok (.iconst 1, 1) := by decide +kernel
theorem dX8_quotientOfBits_14 : decode cX8_quotientOfBits 14 = .ok (.lshl, 1) := by decide +kernel
theorem dX8_quotientOfBits_15 : decode cX8_quotientOfBits 15 = .ok (.lstore 4, 2) := by decide +kernel
theorem dX8_quotientOfBits_17 : decode cX8_quotientOfBits 17 = .ok (.lload_n 0, 1) := by decide +kernel
theorem dX8_quotientOfBits_18 : decode cX8_quotientOfBits 18 = .ok (.lload 4, 2) := by decide +kernel
theorem dX8_quotientOfBits_20 : decode cX8_quotientOfBits 20 = .ok (.lload_n 2, 1) := by decide +kernel
theorem dX8_quotientOfBits_21 : decode cX8_quotientOfBits 21 = .ok (.lmul, 1) := by decide +kernel
theorem dX8_quotientOfBits_22 : decode cX8_quotientOfBits 22 = .ok (.lsub, 1) := by decide +kernel
theorem dX8_quotientOfBits_23 : decode cX8_quotientOfBits 23 = .ok (.lload_n 2, 1) := by decide +kernel
theorem dX8_quotientOfBits_24 : decode cX8_quotientOfBits 24 = .ok (.lcmp, 1) := by decide +kernel
theorem dX8_quotientOfBits_25 : decode cX8_quotientOfBits 25 = .ok (.ifCond .lt 10, 3) := by decide +kernel
theorem dX8_quotientOfBits_28 : decode cX8_quotientOfBits 28 = .ok (.lload 4, 2) := by decide +kernel
theorem dX8_quotientOfBits_30 : decode cX8_quotientOfBits 30 = .ok (.lconst 1, 1) := by decide +kernel
theorem dX8_quotientOfBits_31 : decode cX8_quotientOfBits 31 = .ok (.ladd, 1) := by decide +kernel
theorem dX8_quotientOfBits_32 : decode cX8_quotientOfBits 32 = .ok (.goto 5, 3) := by decide +kernel
theorem dX8_quotientOfBits_35 : decode cX8_quotientOfBits 35 = .ok (.lload 4, 2) := by decide +kernel
theorem dX8_quotientOfBits_37 : decode cX8_quotientOfBits 37 = .ok (.lreturn, 1) := by decide +kernel
def zs_X8_quotientOfBits (h : AH) (u0 : Int64) (u2 : Int64) : Option Int64 :=
  (if (0 : Int64) < u2 then (nzl u2).bind fun _ => lt_ ((((u0.toUInt64 >>> (((1 : Int32)).toInt64.toUInt64 &&& Int64.toUInt64 63)).toInt64) / u2) <<< (((1 : Int32)).toInt64 &&& 63)) fun x3 => (if u0 - (x3 * u2) < u2 then some x3 else some (x3 + ((1 : Int64)))) else some ((0 : Int64)))
set_option maxRecDepth 100000 in
set_option maxHeartbeats 4000000 in
theorem zm_X8_quotientOfBits (l : Launch) (D : hG) (z : Nat) {h : AH} {u0 : Int64} {u2 : Int64} {r : Int64} (hs : zs_X8_quotientOfBits h u0 u2 = some r) : hC l D z yX8_quotientOfBits cX8_quotientOfBits 6 (Option.some Jvm.ClassFile.FieldType.long) 0 0 0 0 [.long u0, .long u2] h h (some (.long r)) := by
  refine hC_of (by decide) (Nat.le_of_ble_eq_true rfl) ?_
  intro p e s m below meth c hx hb hml hrt hlk hown hnm hts hk hr hz ls hl
  replace hown : s.vm.findClass RX8 = some m.cls := hown
  replace hl : lv_has ls 6 [(0, .long u0), (2, .long u2)] := hl
  have hS : va_S (hA z) s.heap s.heap [] := va_S.rf
  suffices hgo : ∀ (H : Heap) (locs : List Loc), hR D z h H → va_S (hA z) s.heap H locs → W p l e ({ frames := 0, cells := 0, slots := 0, locals := 0 } : Room) s m ([.long u0, .long u2] : List Value).toArray below meth c H locs 0 0 (MQ below (hQ D z h (some (.long r))) ([.long u0, .long u2] : List Value).toArray s 0 0 (hA z)) (F0 m 0 ls []) from hgo _ _ hr hS
  clear hr hS
  intro H locs hr hS
  unfold zs_X8_quotientOfBits at hs
  refine lv_lload_n hx hb dX8_quotientOfBits_0 rfl (lv_at hl 1 rfl) ?_
  refine lv_lconst (v := 0) hx hb dX8_quotientOfBits_1 (by decide) ?_
  refine hv_lc_gt (tgt := 8) hx hb dX8_quotientOfBits_2 dX8_quotientOfBits_3 (by decide) (fun c1 => ?_) (fun c1 => ?_)
  · rw [if_pos c1] at hs
    refine lv_lload_n hx hb dX8_quotientOfBits_8 rfl (lv_at hl 0 rfl) ?_
    refine lv_iconst (v := 1) hx hb dX8_quotientOfBits_9 (by decide) ?_
    refine lv_lushr hx hb dX8_quotientOfBits_10 rfl ?_
    refine lv_lload_n hx hb dX8_quotientOfBits_11 rfl (lv_at hl 1 rfl) ?_
    obtain ⟨_, ex2, hs⟩ := bi_inv hs
    refine lv_ldiv hx hb dX8_quotientOfBits_12 (nzl_inv ex2) ?_
    refine lv_iconst (v := 1) hx hb dX8_quotientOfBits_13 (by decide) ?_
    refine lv_lshl hx hb dX8_quotientOfBits_14 rfl ?_
    refine lv_topl (fun x3 ex3 => ?_)
    replace hs := lt_inv hs x3 ex3
    refine lv_lstore (lv' := [(4, .long x3), (0, .long u0), (2, .long u2)]) hx hb dX8_quotientOfBits_15 hl (by decide) rfl (fun ls hl => ?_)
    refine lv_lload_n hx hb dX8_quotientOfBits_17 rfl (lv_at hl 1 rfl) ?_
    refine lv_lload hx hb dX8_quotientOfBits_18 (lv_at hl 0 rfl) ?_
    refine lv_lload_n hx hb dX8_quotientOfBits_20 rfl (lv_at hl 2 rfl) ?_
    refine lv_lmul hx hb dX8_quotientOfBits_21 ?_
    refine lv_lsub hx hb dX8_quotientOfBits_22 ?_
    refine lv_lload_n hx hb dX8_quotientOfBits_23 rfl (lv_at hl 2 rfl) ?_
    refine hv_lc_lt (tgt := 35) hx hb dX8_quotientOfBits_24 dX8_quotientOfBits_25 (by decide) (fun c4 => ?_) (fun c4 => ?_)
    · rw [if_pos c4] at hs
      refine lv_lload hx hb dX8_quotientOfBits_35 (lv_at hl 0 rfl) ?_
      obtain rfl := Option.some.inj hs
      exact hv_lret hx hb hrt hlk hr hS dX8_quotientOfBits_37
    · rw [if_neg c4] at hs
      refine lv_lload hx hb dX8_quotientOfBits_28 (lv_at hl 0 rfl) ?_
      refine lv_lconst (v := 1) hx hb dX8_quotientOfBits_30 (by decide) ?_
      refine lv_ladd hx hb dX8_quotientOfBits_31 ?_
      refine lv_goto (tgt := 37) hx hb dX8_quotientOfBits_32 (by decide) ?_
      obtain rfl := Option.some.inj hs
      exact hv_lret hx hb hrt hlk hr hS dX8_quotientOfBits_37
  · rw [if_neg c1] at hs
    refine lv_lconst (v := 0) hx hb dX8_quotientOfBits_6 (by decide) ?_
    obtain rfl := Option.some.inj hs
    exact hv_lret hx hb hrt hlk hr hS dX8_quotientOfBits_7
theorem dX8_bitsOf_0 : decode cX8_bitsOf 0 = .ok (.lload_n 0, 1) := by decide +kernel
theorem dX8_bitsOf_1 : decode cX8_bitsOf 1 = .ok (.lload_n 0, 1) := by decide +kernel
theorem dX8_bitsOf_2 : decode cX8_bitsOf 2 = .ok (.iconst 1, 1) := by decide +kernel
theorem dX8_bitsOf_3 : decode cX8_bitsOf 3 = .ok (.lushr, 1) := by decide +kernel
theorem dX8_bitsOf_4 : decode cX8_bitsOf 4 = .ok (.lor, 1) := by decide +kernel
theorem dX8_bitsOf_5 : decode cX8_bitsOf 5 = .ok (.lstore_n 2, 1) := by decide +kernel
theorem dX8_bitsOf_6 : decode cX8_bitsOf 6 = .ok (.lload_n 2, 1) := by decide +kernel
theorem dX8_bitsOf_7 : decode cX8_bitsOf 7 = .ok (.lload_n 2, 1) := by decide +kernel
theorem dX8_bitsOf_8 : decode cX8_bitsOf 8 = .ok (.iconst 2, 1) := by decide +kernel
theorem dX8_bitsOf_9 : decode cX8_bitsOf 9 = .ok (.lushr, 1) := by decide +kernel
theorem dX8_bitsOf_10 : decode cX8_bitsOf 10 = .ok (.lor, 1) := by decide +kernel
theorem dX8_bitsOf_11 : decode cX8_bitsOf 11 = .ok (.lstore_n 2, 1) := by decide +kernel
theorem dX8_bitsOf_12 : decode cX8_bitsOf 12 = .ok (.lload_n 2, 1) := by decide +kernel
theorem dX8_bitsOf_13 : decode cX8_bitsOf 13 = .ok (.lload_n 2, 1) := by decide +kernel
theorem dX8_bitsOf_14 : decode cX8_bitsOf 14 = .ok (.iconst 4, 1) := by decide +kernel
theorem dX8_bitsOf_15 : decode cX8_bitsOf 15 = .ok (.lushr, 1) := by decide +kernel
theorem dX8_bitsOf_16 : decode cX8_bitsOf 16 = .ok (.lor, 1) := by decide +kernel
theorem dX8_bitsOf_17 : decode cX8_bitsOf 17 = .ok (.lstore_n 2, 1) := by decide +kernel
theorem dX8_bitsOf_18 : decode cX8_bitsOf 18 = .ok (.lload_n 2, 1) := by decide +kernel
theorem dX8_bitsOf_19 : decode cX8_bitsOf 19 = .ok (.lload_n 2, 1) := by decide +kernel
theorem dX8_bitsOf_20 : decode cX8_bitsOf 20 = .ok (.bipush 8, 2) := by decide +kernel
theorem dX8_bitsOf_22 : decode cX8_bitsOf 22 = .ok (.lushr, 1) := by decide +kernel
theorem dX8_bitsOf_23 : decode cX8_bitsOf 23 = .ok (.lor, 1) := by decide +kernel
theorem dX8_bitsOf_24 : decode cX8_bitsOf 24 = .ok (.lstore_n 2, 1) := by decide +kernel
theorem dX8_bitsOf_25 : decode cX8_bitsOf 25 = .ok (.lload_n 2, 1) := by decide +kernel
theorem dX8_bitsOf_26 : decode cX8_bitsOf 26 = .ok (.lload_n 2, 1) := by decide +kernel
theorem dX8_bitsOf_27 : decode cX8_bitsOf 27 = .ok (.bipush 16, 2) := by decide +kernel
theorem dX8_bitsOf_29 : decode cX8_bitsOf 29 = .ok (.lushr, 1) := by decide +kernel
theorem dX8_bitsOf_30 : decode cX8_bitsOf 30 = .ok (.lor, 1) := by decide +kernel
theorem dX8_bitsOf_31 : decode cX8_bitsOf 31 = .ok (.lstore_n 2, 1) := by decide +kernel
theorem dX8_bitsOf_32 : decode cX8_bitsOf 32 = .ok (.lload_n 2, 1) := by decide +kernel
theorem dX8_bitsOf_33 : decode cX8_bitsOf 33 = .ok (.invokestatic 47, 3) := by decide +kernel
theorem dX8_bitsOf_36 : decode cX8_bitsOf 36 = .ok (.ireturn, 1) := by decide +kernel
def zs_X8_bitsOf (h : AH) (u0 : Int64) : Option Int32 :=
  lt_ (u0 ||| ((u0.toUInt64 >>> (((1 : Int32)).toInt64.toUInt64 &&& Int64.toUInt64 63)).toInt64)) fun x1 => lt_ (x1 ||| ((x1.toUInt64 >>> (((2 : Int32)).toInt64.toUInt64 &&& Int64.toUInt64 63)).toInt64)) fun x2 => lt_ (x2 ||| ((x2.toUInt64 >>> (((4 : Int32)).toInt64.toUInt64 &&& Int64.toUInt64 63)).toInt64)) fun x3 => lt_ (x3 ||| ((x3.toUInt64 >>> (((8 : Int32)).toInt64.toUInt64 &&& Int64.toUInt64 63)).toInt64)) fun x4 => lt_ (x4 ||| ((x4.toUInt64 >>> (((16 : Int32)).toInt64.toUInt64 &&& Int64.toUInt64 63)).toInt64)) fun x5 => (zs_J13_bitCount_95d88 h x5).bind fun x6 => some x6
set_option maxRecDepth 100000 in
set_option maxHeartbeats 4000000 in
theorem zm_X8_bitsOf (l : Launch) (D : hG) (z : Nat) {h : AH} {u0 : Int64} {r : Int32} (hs : zs_X8_bitsOf h u0 = some r) : hC l D z yX8_bitsOf cX8_bitsOf 4 (Option.some Jvm.ClassFile.FieldType.int) 1 21 0 0 [.long u0] h h (some (.int r)) := by
  refine hC_of (by decide) (Nat.le_of_ble_eq_true rfl) ?_
  intro p e s m below meth c hx hb hml hrt hlk hown hnm hts hk hr hz ls hl
  replace hown : s.vm.findClass RX8 = some m.cls := hown
  replace hl : lv_has ls 4 [(0, .long u0)] := hl
  have hS : va_S (hA z) s.heap s.heap [] := va_S.rf
  suffices hgo : ∀ (H : Heap) (locs : List Loc), hR D z h H → va_S (hA z) s.heap H locs → W p l e ({ frames := 1, cells := 0, slots := 0, locals := 21 } : Room) s m ([.long u0] : List Value).toArray below meth c H locs 0 0 (MQ below (hQ D z h (some (.int r))) ([.long u0] : List Value).toArray s 0 0 (hA z)) (F0 m 0 ls []) from hgo _ _ hr hS
  clear hr hS
  intro H locs hr hS
  unfold zs_X8_bitsOf at hs
  refine lv_lload_n hx hb dX8_bitsOf_0 rfl (lv_at hl 0 rfl) ?_
  refine lv_lload_n hx hb dX8_bitsOf_1 rfl (lv_at hl 0 rfl) ?_
  refine lv_iconst (v := 1) hx hb dX8_bitsOf_2 (by decide) ?_
  refine lv_lushr hx hb dX8_bitsOf_3 rfl ?_
  refine lv_lor hx hb dX8_bitsOf_4 ?_
  refine lv_topl (fun x1 ex1 => ?_)
  replace hs := lt_inv hs x1 ex1
  refine lv_lstore_n (lv' := [(2, .long x1), (0, .long u0)]) hx hb dX8_bitsOf_5 rfl hl (by decide) rfl (fun ls hl => ?_)
  refine lv_lload_n hx hb dX8_bitsOf_6 rfl (lv_at hl 0 rfl) ?_
  refine lv_lload_n hx hb dX8_bitsOf_7 rfl (lv_at hl 0 rfl) ?_
  refine lv_iconst (v := 2) hx hb dX8_bitsOf_8 (by decide) ?_
  refine lv_lushr hx hb dX8_bitsOf_9 rfl ?_
  refine lv_lor hx hb dX8_bitsOf_10 ?_
  refine lv_topl (fun x2 ex2 => ?_)
  replace hs := lt_inv hs x2 ex2
  refine lv_lstore_n (lv' := [(2, .long x2), (0, .long u0)]) hx hb dX8_bitsOf_11 rfl hl (by decide) rfl (fun ls hl => ?_)
  refine lv_lload_n hx hb dX8_bitsOf_12 rfl (lv_at hl 0 rfl) ?_
  refine lv_lload_n hx hb dX8_bitsOf_13 rfl (lv_at hl 0 rfl) ?_
  refine lv_iconst (v := 4) hx hb dX8_bitsOf_14 (by decide) ?_
  refine lv_lushr hx hb dX8_bitsOf_15 rfl ?_
  refine lv_lor hx hb dX8_bitsOf_16 ?_
  refine lv_topl (fun x3 ex3 => ?_)
  replace hs := lt_inv hs x3 ex3
  refine lv_lstore_n (lv' := [(2, .long x3), (0, .long u0)]) hx hb dX8_bitsOf_17 rfl hl (by decide) rfl (fun ls hl => ?_)
  refine lv_lload_n hx hb dX8_bitsOf_18 rfl (lv_at hl 0 rfl) ?_
  refine lv_lload_n hx hb dX8_bitsOf_19 rfl (lv_at hl 0 rfl) ?_
  refine lv_bipush (v := 8) hx hb dX8_bitsOf_20 (by decide) ?_
  refine lv_lushr hx hb dX8_bitsOf_22 rfl ?_
  refine lv_lor hx hb dX8_bitsOf_23 ?_
  refine lv_topl (fun x4 ex4 => ?_)
  replace hs := lt_inv hs x4 ex4
  refine lv_lstore_n (lv' := [(2, .long x4), (0, .long u0)]) hx hb dX8_bitsOf_24 rfl hl (by decide) rfl (fun ls hl => ?_)
  refine lv_lload_n hx hb dX8_bitsOf_25 rfl (lv_at hl 0 rfl) ?_
  refine lv_lload_n hx hb dX8_bitsOf_26 rfl (lv_at hl 0 rfl) ?_
  refine lv_bipush (v := 16) hx hb dX8_bitsOf_27 (by decide) ?_
  refine lv_lushr hx hb dX8_bitsOf_29 rfl ?_
  refine lv_lor hx hb dX8_bitsOf_30 ?_
  refine lv_topl (fun x5 ex5 => ?_)
  replace hs := lt_inv hs x5 ex5
  refine lv_lstore_n (lv' := [(2, .long x5), (0, .long u0)]) hx hb dX8_bitsOf_31 rfl hl (by decide) rfl (fun ls hl => ?_)
  refine lv_lload_n hx hb dX8_bitsOf_32 rfl (lv_at hl 0 rfl) ?_
  obtain ⟨x6, ex6, hs⟩ := bi_inv hs
  refine hv_S1 (n := 1) [.long x5] [] hx hb hml hown hts hk hr hz hS (zm_J13_bitCount_95d88 l D z ex6) tw_499 tw_500 tw_20 tw_501 (by decide +kernel) (by decide) ⟨(Nat.zero_le _), (Nat.zero_le _)⟩ rfl hl.1 (Nat.le_of_ble_eq_true rfl) dX8_bitsOf_33 rfl (fun H locs hr hS => ?_)
  obtain rfl := Option.some.inj hs
  exact hv_iret hx hb hrt hlk hr hS dX8_bitsOf_36
theorem dX8_partAt_0 : decode cX8_partAt 0 = .ok (.iload_n 1, 1) := by decide +kernel
theorem dX8_partAt_1 : decode cX8_partAt 1 = .ok (.ifCond .lt 20, 3) := by decide +kernel
theorem dX8_partAt_4 : decode cX8_partAt 4 = .ok (.iload_n 1, 1) := by decide +kernel
theorem dX8_partAt_5 : decode cX8_partAt 5 = .ok (.aload_n 0, 1) := by decide +kernel
theorem dX8_partAt_6 : decode cX8_partAt 6 = .ok (.getfield 15, 3) := by decide +kernel
theorem dX8_partAt_9 : decode cX8_partAt 9 = .ok (.if_icmp .ge 12, 3) := by decide +kernel
theorem dX8_partAt_12 : decode cX8_partAt 12 = .ok (.aload_n 0, 1) := by decide +kernel
theorem dX8_partAt_13 : decode cX8_partAt 13 = .ok (.getfield 9, 3) := by decide +kernel
theorem dX8_partAt_16 : decode cX8_partAt 16 = .ok (.iload_n 1, 1) := by decide +kernel
theorem dX8_partAt_17 : decode cX8_partAt 17 = .ok (.laload, 1) := by decide +kernel
theorem dX8_partAt_18 : decode cX8_partAt 18 = .ok (.goto 4, 3) := by decide +kernel
theorem dX8_partAt_21 : decode cX8_partAt 21 = .ok (.lconst 0, 1) := by decide +kernel
theorem dX8_partAt_22 : decode cX8_partAt 22 = .ok (.lreturn, 1) := by decide +kernel
def zs_X8_partAt (h : AH) (u0 : Nat) (u1 : Int32) : Option Int64 :=
  (if u1 < 0 then some ((0 : Int64)) else (gI h u0 8 1).bind fun x2 => (if x2 ≤ u1 then some ((0 : Int64)) else (gR h u0 8 0).bind fun x4 => (aJ h x4 1 u1).bind fun x5 => some x5))
set_option maxRecDepth 100000 in
set_option maxHeartbeats 4000000 in
theorem zm_X8_partAt (l : Launch) (D : hG) (z : Nat) {h : AH} {u0 : Nat} {u1 : Int32} {r : Int64} (hs : zs_X8_partAt h u0 u1 = some r) : hC l D z yX8_partAt cX8_partAt 2 (Option.some Jvm.ClassFile.FieldType.long) 0 0 0 0 [.ref u0, .int u1] h h (some (.long r)) := by
  refine hC_of (by decide) (Nat.le_of_ble_eq_true rfl) ?_
  intro p e s m below meth c hx hb hml hrt hlk hown hnm hts hk hr hz ls hl
  replace hown : s.vm.findClass RX8 = some m.cls := hown
  replace hl : lv_has ls 2 [(0, .ref u0), (1, .int u1)] := hl
  have hS : va_S (hA z) s.heap s.heap [] := va_S.rf
  suffices hgo : ∀ (H : Heap) (locs : List Loc), hR D z h H → va_S (hA z) s.heap H locs → W p l e ({ frames := 0, cells := 0, slots := 0, locals := 0 } : Room) s m ([.ref u0, .int u1] : List Value).toArray below meth c H locs 0 0 (MQ below (hQ D z h (some (.long r))) ([.ref u0, .int u1] : List Value).toArray s 0 0 (hA z)) (F0 m 0 ls []) from hgo _ _ hr hS
  clear hr hS
  intro H locs hr hS
  unfold zs_X8_partAt at hs
  refine lv_iload_n hx hb dX8_partAt_0 rfl (lv_at hl 1 rfl) ?_
  refine lv_if_lt (tgt := 21) hx hb dX8_partAt_1 (by decide) (fun c1 => ?_) (fun c1 => ?_)
  · rw [if_pos c1] at hs
    refine lv_lconst (v := 0) hx hb dX8_partAt_21 (by decide) ?_
    obtain rfl := Option.some.inj hs
    exact hv_lret hx hb hrt hlk hr hS dX8_partAt_22
  · rw [if_neg c1] at hs
    refine lv_iload_n hx hb dX8_partAt_4 rfl (lv_at hl 1 rfl) ?_
    refine lv_aload_n hx hb dX8_partAt_5 rfl (lv_at hl 0 rfl) ?_
    obtain ⟨x2, ex2, hs⟩ := bi_inv hs
    refine hv_gI (C := RX8) (T := TX8) (N := 3) (ci := 8) hx hb hts inX8 hown hk hr rfl 1 (by decide) (hts _ tw_39) ex2 dX8_partAt_6 ?_
    refine lv_icmp_ge (tgt := 21) hx hb dX8_partAt_9 (by decide) (fun c3 => ?_) (fun c3 => ?_)
    · rw [if_pos c3] at hs
      refine lv_lconst (v := 0) hx hb dX8_partAt_21 (by decide) ?_
      obtain rfl := Option.some.inj hs
      exact hv_lret hx hb hrt hlk hr hS dX8_partAt_22
    · rw [if_neg c3] at hs
      refine lv_aload_n hx hb dX8_partAt_12 rfl (lv_at hl 0 rfl) ?_
      obtain ⟨x4, ex4, hs⟩ := bi_inv hs
      refine hv_gR (C := RX8) (T := TX8) (N := 3) (ci := 8) hx hb hts inX8 hown hk hr rfl 0 (by decide) (hts _ tw_36) ex4 dX8_partAt_13 ?_
      refine lv_iload_n hx hb dX8_partAt_16 rfl (lv_at hl 1 rfl) ?_
      obtain ⟨x5, ex5, hs⟩ := bi_inv hs
      refine hv_aJ hx hb hk hr ex5 dX8_partAt_17 ?_
      refine lv_goto (tgt := 22) hx hb dX8_partAt_18 (by decide) ?_
      obtain rfl := Option.some.inj hs
      exact hv_lret hx hb hrt hlk hr hS dX8_partAt_22
theorem dX8_movedPart_0 : decode cX8_movedPart 0 = .ok (.iload_n 1, 1) := by decide +kernel
theorem dX8_movedPart_1 : decode cX8_movedPart 1 = .ok (.iload_n 2, 1) := by decide +kernel
theorem dX8_movedPart_2 : decode cX8_movedPart 2 = .ok (.iconst 5, 1) := by decide +kernel
theorem dX8_movedPart_3 : decode cX8_movedPart 3 = .ok (.ishr, 1) := by decide +kernel
theorem dX8_movedPart_4 : decode cX8_movedPart 4 = .ok (.isub, 1) := by decide +kernel
theorem dX8_movedPart_5 : decode cX8_movedPart 5 = .ok (.istore_n 3, 1) := by decide +kernel
theorem dX8_movedPart_6 : decode cX8_movedPart 6 = .ok (.iload_n 2, 1) := by decide +kernel
theorem dX8_movedPart_7 : decode cX8_movedPart 7 = .ok (.bipush 31, 2) := by decide +kernel
theorem dX8_movedPart_9 : decode cX8_movedPart 9 = .ok (.iand, 1) := by decide +kernel
theorem dX8_movedPart_10 : decode cX8_movedPart 10 = .ok (.istore 4, 2) := by decide +kernel
theorem dX8_movedPart_12 : decode cX8_movedPart 12 = .ok (.aload_n 0, 1) := by decide +kernel
theorem dX8_movedPart_13 : decode cX8_movedPart 13 = .ok (.iload_n 3, 1) := by decide +kernel
theorem dX8_movedPart_14 : decode cX8_movedPart 14 = .ok (.invokevirtual 33, 3) := by decide +kernel
theorem dX8_movedPart_17 : decode cX8_movedPart 17 = .ok (.iload 4, 2) := by decide +kernel
theorem dX8_movedPart_19 : decode cX8_movedPart 19 = .ok (.lshl, 1) := by decide +kernel
theorem dX8_movedPart_20 : decode cX8_movedPart 20 = .ok (.aload_n 0, 1) := by decide +kernel
theorem dX8_movedPart_21 : decode cX8_movedPart 21 = .ok (.iload_n 3, 1) := by decide +kernel
theorem dX8_movedPart_22 : decode cX8_movedPart 22 = .ok (.iconst 1, 1) := by decide +kernel
theorem dX8_movedPart_23 : decode cX8_movedPart 23 = .ok (.isub, 1) := by decide +kernel
theorem dX8_movedPart_24 : decode cX8_movedPart 24 = .ok (.invokevirtual 33, 3) := by decide +kernel
theorem dX8_movedPart_27 : decode cX8_movedPart 27 = .ok (.bipush 32, 2) := by decide +kernel
theorem dX8_movedPart_29 : decode cX8_movedPart 29 = .ok (.iload 4, 2) := by decide +kernel
theorem dX8_movedPart_31 : decode cX8_movedPart 31 = .ok (.isub, 1) := by decide +kernel
theorem dX8_movedPart_32 : decode cX8_movedPart 32 = .ok (.lushr, 1) := by decide +kernel
theorem dX8_movedPart_33 : decode cX8_movedPart 33 = .ok (.lor, 1) := by decide +kernel
theorem dX8_movedPart_34 : decode cX8_movedPart 34 = .ok (.ldc2_w 23, 3) := by decide +kernel
theorem dX8_movedPart_37 : decode cX8_movedPart 37 = .ok (.land, 1) := by decide +kernel
theorem dX8_movedPart_38 : decode cX8_movedPart 38 = .ok (.lreturn, 1) := by decide +kernel
def zs_X8_movedPart (h : AH) (u0 : Nat) (u1 : Int32) (u2 : Int32) : Option Int64 :=
  lt_ (u1 - (u2 >>> (((5 : Int32)) &&& 31))) fun x1 => lt_ (u2 &&& ((31 : Int32))) fun x2 => (chk h u0 8).bind fun _ => (zs_X8_partAt h u0 x1).bind fun x4 => (chk h u0 8).bind fun _ => (zs_X8_partAt h u0 (x1 - ((1 : Int32)))).bind fun x6 => some (((x4 <<< (x2.toInt64 &&& 63)) ||| ((x6.toUInt64 >>> ((((32 : Int32)) - x2).toInt64.toUInt64 &&& Int64.toUInt64 63)).toInt64)) &&& ((4294967295 : Int64)))
set_option maxRecDepth 100000 in
set_option maxHeartbeats 4000000 in
theorem zm_X8_movedPart (l : Launch) (D : hG) (z : Nat) {h : AH} {u0 : Nat} {u1 : Int32} {u2 : Int32} {r : Int64} (hs : zs_X8_movedPart h u0 u1 u2 = some r) : hC l D z yX8_movedPart cX8_movedPart 5 (Option.some Jvm.ClassFile.FieldType.long) 1 21 0 0 [.ref u0, .int u1, .int u2] h h (some (.long r)) := by
  refine hC_of (by decide) (Nat.le_of_ble_eq_true rfl) ?_
  intro p e s m below meth c hx hb hml hrt hlk hown hnm hts hk hr hz ls hl
  replace hown : s.vm.findClass RX8 = some m.cls := hown
  replace hl : lv_has ls 5 [(0, .ref u0), (1, .int u1), (2, .int u2)] := hl
  have hS : va_S (hA z) s.heap s.heap [] := va_S.rf
  suffices hgo : ∀ (H : Heap) (locs : List Loc), hR D z h H → va_S (hA z) s.heap H locs → W p l e ({ frames := 1, cells := 0, slots := 0, locals := 21 } : Room) s m ([.ref u0, .int u1, .int u2] : List Value).toArray below meth c H locs 0 0 (MQ below (hQ D z h (some (.long r))) ([.ref u0, .int u1, .int u2] : List Value).toArray s 0 0 (hA z)) (F0 m 0 ls []) from hgo _ _ hr hS
  clear hr hS
  intro H locs hr hS
  unfold zs_X8_movedPart at hs
  refine lv_iload_n hx hb dX8_movedPart_0 rfl (lv_at hl 1 rfl) ?_
  refine lv_iload_n hx hb dX8_movedPart_1 rfl (lv_at hl 2 rfl) ?_
  refine lv_iconst (v := 5) hx hb dX8_movedPart_2 (by decide) ?_
  refine lv_ishr hx hb dX8_movedPart_3 ?_
  refine lv_isub hx hb dX8_movedPart_4 ?_
  refine lv_topi (fun x1 ex1 => ?_)
  replace hs := lt_inv hs x1 ex1
  refine lv_istore_n (lv' := [(3, .int x1), (0, .ref u0), (1, .int u1), (2, .int u2)]) hx hb dX8_movedPart_5 rfl hl (by decide) rfl (fun ls hl => ?_)
  refine lv_iload_n hx hb dX8_movedPart_6 rfl (lv_at hl 3 rfl) ?_
  refine lv_bipush (v := 31) hx hb dX8_movedPart_7 (by decide) ?_
  refine lv_iand hx hb dX8_movedPart_9 ?_
  refine lv_topi (fun x2 ex2 => ?_)
  replace hs := lt_inv hs x2 ex2
  refine lv_istore (lv' := [(4, .int x2), (3, .int x1), (0, .ref u0), (1, .int u1), (2, .int u2)]) hx hb dX8_movedPart_10 hl (by decide) rfl (fun ls hl => ?_)
  refine lv_aload_n hx hb dX8_movedPart_12 rfl (lv_at hl 2 rfl) ?_
  refine lv_iload_n hx hb dX8_movedPart_13 rfl (lv_at hl 1 rfl) ?_
  obtain ⟨_, ex3, hs⟩ := bi_inv hs
  obtain ⟨x4, ex4, hs⟩ := bi_inv hs
  refine hv_V1 (n := 1) [.int x1] [] hx hb hml hown hts hk hr hz hS (zm_X8_partAt l D z ex4) ex3 rfl tw_415 tw_416 tw_417 tw_2 tw_418 (by decide +kernel) (by decide) ⟨(Nat.zero_le _), (Nat.zero_le _)⟩ rfl hl.1 (Nat.le_of_ble_eq_true rfl) dX8_movedPart_14 rfl (fun H locs hr hS => ?_)
  refine lv_iload hx hb dX8_movedPart_17 (lv_at hl 0 rfl) ?_
  refine lv_lshl hx hb dX8_movedPart_19 rfl ?_
  refine lv_aload_n hx hb dX8_movedPart_20 rfl (lv_at hl 2 rfl) ?_
  refine lv_iload_n hx hb dX8_movedPart_21 rfl (lv_at hl 1 rfl) ?_
  refine lv_iconst (v := 1) hx hb dX8_movedPart_22 (by decide) ?_
  refine lv_isub hx hb dX8_movedPart_23 ?_
  obtain ⟨_, ex5, hs⟩ := bi_inv hs
  obtain ⟨x6, ex6, hs⟩ := bi_inv hs
  refine hv_V1 (n := 1) [.int (x1 - ((1 : Int32)))] [.long (x4 <<< (x2.toInt64 &&& 63))] hx hb hml hown hts hk hr hz hS (zm_X8_partAt l D z ex6) ex5 rfl tw_415 tw_416 tw_417 tw_2 tw_418 (by decide +kernel) (by decide) ⟨(Nat.zero_le _), (Nat.zero_le _)⟩ rfl hl.1 (Nat.le_of_ble_eq_true rfl) dX8_movedPart_24 rfl (fun H locs hr hS => ?_)
  refine lv_bipush (v := 32) hx hb dX8_movedPart_27 (by decide) ?_
  refine lv_iload hx hb dX8_movedPart_29 (lv_at hl 0 rfl) ?_
  refine lv_isub hx hb dX8_movedPart_31 ?_
  refine lv_lushr hx hb dX8_movedPart_32 rfl ?_
  refine lv_lor hx hb dX8_movedPart_33 ?_
  refine lv_ldc2 hx hb hown (hts _ tw_69) dX8_movedPart_34 ?_
  refine lv_land hx hb dX8_movedPart_37 ?_
  obtain rfl := Option.some.inj hs
  exact hv_lret hx hb hrt hlk hr hS dX8_movedPart_38
theorem dX8_trim_0 : decode cX8_trim 0 = .ok (.aload_n 0, 1) := by decide +kernel
theorem dX8_trim_1 : decode cX8_trim 1 = .ok (.iload_n 1, 1) := by decide +kernel
theorem dX8_trim_2 : decode cX8_trim 2 = .ok (.putfield 15, 3) := by decide +kernel
theorem dX8_trim_5 : decode cX8_trim 5 = .ok (.aload_n 0, 1) := by decide +kernel
theorem dX8_trim_6 : decode cX8_trim 6 = .ok (.getfield 15, 3) := by decide +kernel
theorem dX8_trim_9 : decode cX8_trim 9 = .ok (.ifCond .le 32, 3) := by decide +kernel
theorem dX8_trim_12 : decode cX8_trim 12 = .ok (.aload_n 0, 1) := by decide +kernel
theorem dX8_trim_13 : decode cX8_trim 13 = .ok (.getfield 9, 3) := by decide +kernel
theorem dX8_trim_16 : decode cX8_trim 16 = .ok (.aload_n 0, 1) := by decide +kernel
theorem dX8_trim_17 : decode cX8_trim 17 = .ok (.getfield 15, 3) := by decide +kernel
theorem dX8_trim_20 : decode cX8_trim 20 = .ok (.iconst 1, 1) := by decide +kernel
theorem dX8_trim_21 : decode cX8_trim 21 = .ok (.isub, 1) := by decide +kernel
theorem dX8_trim_22 : decode cX8_trim 22 = .ok (.laload, 1) := by decide +kernel
theorem dX8_trim_23 : decode cX8_trim 23 = .ok (.lconst 0, 1) := by decide +kernel
theorem dX8_trim_24 : decode cX8_trim 24 = .ok (.lcmp, 1) := by decide +kernel
theorem dX8_trim_25 : decode cX8_trim 25 = .ok (.ifCond .ne 16, 3) := by decide +kernel
theorem dX8_trim_28 : decode cX8_trim 28 = .ok (.aload_n 0, 1) := by decide +kernel
theorem dX8_trim_29 : decode cX8_trim 29 = .ok (.dup, 1) := by decide +kernel
theorem dX8_trim_30 : decode cX8_trim 30 = .ok (.getfield 15, 3) := by decide +kernel
theorem dX8_trim_33 : decode cX8_trim 33 = .ok (.iconst 1, 1) := by decide +kernel
theorem dX8_trim_34 : decode cX8_trim 34 = .ok (.isub, 1) := by decide +kernel
theorem dX8_trim_35 : decode cX8_trim 35 = .ok (.putfield 15, 3) := by decide +kernel
theorem dX8_trim_38 : decode cX8_trim 38 = .ok (.goto (-33), 3) := by decide +kernel
theorem dX8_trim_41 : decode cX8_trim 41 = .ok (.return_, 1) := by decide +kernel
def zb_X8_trim_5 (w0 : Nat) (g2 : AH) : Option ((AH) ⊕ (AH)) :=
  (gI g2 w0 8 1).bind fun x3 => (if x3 ≤ 0 then some (Sum.inr g2) else (gR g2 w0 8 0).bind fun x5 => (gI g2 w0 8 1).bind fun x6 => (aJ g2 x5 1 (x6 - ((1 : Int32)))).bind fun x7 => (if x7 = (0 : Int64) then (gI g2 w0 8 1).bind fun x9 => (pV g2 w0 8 1 (.int (x9 - ((1 : Int32))))).bind fun g10 => some (Sum.inl g10) else some (Sum.inr g2)))
def zs_X8_trim (h : AH) (u0 : Nat) (u1 : Int32) : Option AH :=
  (pV h u0 8 1 (.int u1)).bind fun g1 => (iter (fun q : AH => zb_X8_trim_5 u0 q) FU g1).bind fun r11 => some r11
set_option maxRecDepth 100000 in
set_option maxHeartbeats 4000000 in
theorem zm_X8_trim (l : Launch) (D : hG) (z : Nat) {h : AH} {u0 : Nat} {u1 : Int32} {h' : AH} (hs : zs_X8_trim h u0 u1 = some h') : hC l D z yX8_trim cX8_trim 2 (Option.none : Option Jvm.ClassFile.FieldType) 0 0 0 0 [.ref u0, .int u1] h h' none := by
  refine hC_of (by decide) (Nat.le_of_ble_eq_true rfl) ?_
  intro p e s m below meth c hx hb hml hrt hlk hown hnm hts hk hr hz ls hl
  replace hown : s.vm.findClass RX8 = some m.cls := hown
  replace hl : lv_has ls 2 [(0, .ref u0), (1, .int u1)] := hl
  have hS : va_S (hA z) s.heap s.heap [] := va_S.rf
  suffices hgo : ∀ (H : Heap) (locs : List Loc), hR D z h H → va_S (hA z) s.heap H locs → W p l e ({ frames := 0, cells := 0, slots := 0, locals := 0 } : Room) s m ([.ref u0, .int u1] : List Value).toArray below meth c H locs 0 0 (MQ below (hQ D z h' none) ([.ref u0, .int u1] : List Value).toArray s 0 0 (hA z)) (F0 m 0 ls []) from hgo _ _ hr hS
  clear hr hS
  intro H locs hr hS
  unfold zs_X8_trim at hs
  refine lv_aload_n hx hb dX8_trim_0 rfl (lv_at hl 0 rfl) ?_
  refine lv_iload_n hx hb dX8_trim_1 rfl (lv_at hl 1 rfl) ?_
  obtain ⟨g1, eg1, hs⟩ := bi_inv hs
  refine hv_pV (C := RX8) (T := TX8) (N := 3) (ci := 8) hx hb hts inX8 tyX8 tyX8_ok nmX8 hown hk hr hS rfl 1 (by decide) (hts _ tw_39) rfl rfl rfl eg1 dX8_trim_2 (fun H locs hr hS => ?_)
  obtain ⟨r11, er11, hs⟩ := bi_inv hs
  refine iter_W (fun (q : AH) => ∀ (H : Heap) (locs : List Loc) (ls : Array Slot), hR D z q H → va_S (hA z) s.heap H locs → lv_has ls 2 [(0, .ref u0)] → W p l e ({ frames := 0, cells := 0, slots := 0, locals := 0 } : Room) s m ([.ref u0, .int u1] : List Value).toArray below meth c H locs 0 0 (MQ below (hQ D z h' none) ([.ref u0, .int u1] : List Value).toArray s 0 0 (hA z)) (F0 m 5 ls [])) (fun (x : AH) => ∀ (H : Heap) (locs : List Loc) (ls : Array Slot), hR D z x H → va_S (hA z) s.heap H locs → lv_has ls 2 [] → W p l e ({ frames := 0, cells := 0, slots := 0, locals := 0 } : Room) s m ([.ref u0, .int u1] : List Value).toArray below meth c H locs 0 0 (MQ below (hQ D z h' none) ([.ref u0, .int u1] : List Value).toArray s 0 0 (hA z)) (F0 m 41 ls [])) ?_ FU _ r11 er11 ?_ H locs ls hr hS (lv_sub hl [0] rfl)
  · intro q o hs hcont hexit
    obtain ⟨g2, rfl⟩ : ∃ q2, q2 = q := ⟨_, rfl⟩
    replace hs : zb_X8_trim_5 u0 g2 = some o := hs
    intro H locs ls hr hS hl
    unfold zb_X8_trim_5 at hs
    refine lv_aload_n hx hb dX8_trim_5 rfl (lv_at hl 0 rfl) ?_
    obtain ⟨x3, ex3, hs⟩ := bi_inv hs
    refine hv_gI (C := RX8) (T := TX8) (N := 3) (ci := 8) hx hb hts inX8 hown hk hr rfl 1 (by decide) (hts _ tw_39) ex3 dX8_trim_6 ?_
    refine lv_if_le (tgt := 41) hx hb dX8_trim_9 (by decide) (fun c4 => ?_) (fun c4 => ?_)
    · rw [if_pos c4] at hs
      obtain rfl := Option.some.inj hs
      exact hexit _ rfl H locs ls hr hS (lv_sub hl [] rfl)
    · rw [if_neg c4] at hs
      refine lv_aload_n hx hb dX8_trim_12 rfl (lv_at hl 0 rfl) ?_
      obtain ⟨x5, ex5, hs⟩ := bi_inv hs
      refine hv_gR (C := RX8) (T := TX8) (N := 3) (ci := 8) hx hb hts inX8 hown hk hr rfl 0 (by decide) (hts _ tw_36) ex5 dX8_trim_13 ?_
      refine lv_aload_n hx hb dX8_trim_16 rfl (lv_at hl 0 rfl) ?_
      obtain ⟨x6, ex6, hs⟩ := bi_inv hs
      refine hv_gI (C := RX8) (T := TX8) (N := 3) (ci := 8) hx hb hts inX8 hown hk hr rfl 1 (by decide) (hts _ tw_39) ex6 dX8_trim_17 ?_
      refine lv_iconst (v := 1) hx hb dX8_trim_20 (by decide) ?_
      refine lv_isub hx hb dX8_trim_21 ?_
      obtain ⟨x7, ex7, hs⟩ := bi_inv hs
      refine hv_aJ hx hb hk hr ex7 dX8_trim_22 ?_
      refine lv_lconst (v := 0) hx hb dX8_trim_23 (by decide) ?_
      refine hv_lc_ne (tgt := 41) hx hb dX8_trim_24 dX8_trim_25 (by decide) (fun c8 => ?_) (fun c8 => ?_)
      · rw [if_neg c8] at hs
        obtain rfl := Option.some.inj hs
        exact hexit _ rfl H locs ls hr hS (lv_sub hl [] rfl)
      · rw [if_pos c8] at hs
        refine lv_aload_n hx hb dX8_trim_28 rfl (lv_at hl 0 rfl) ?_
        refine lv_dup hx hb dX8_trim_29 rfl ?_
        obtain ⟨x9, ex9, hs⟩ := bi_inv hs
        refine hv_gI (C := RX8) (T := TX8) (N := 3) (ci := 8) hx hb hts inX8 hown hk hr rfl 1 (by decide) (hts _ tw_39) ex9 dX8_trim_30 ?_
        refine lv_iconst (v := 1) hx hb dX8_trim_33 (by decide) ?_
        refine lv_isub hx hb dX8_trim_34 ?_
        obtain ⟨g10, eg10, hs⟩ := bi_inv hs
        refine hv_pV (C := RX8) (T := TX8) (N := 3) (ci := 8) hx hb hts inX8 tyX8 tyX8_ok nmX8 hown hk hr hS rfl 1 (by decide) (hts _ tw_39) rfl rfl rfl eg10 dX8_trim_35 (fun H locs hr hS => ?_)
        refine lv_goto (tgt := 5) hx hb dX8_trim_38 (by decide) ?_
        obtain rfl := Option.some.inj hs
        exact hcont _ rfl H locs ls hr hS (lv_sub hl [0] rfl)
  · intro H locs ls hr hS hl
    obtain rfl := Option.some.inj hs
    exact hv_vret hx hb hrt hlk hr hS dX8_trim_41
theorem dX8_takeSign_0 : decode cX8_takeSign 0 = .ok (.aload_n 0, 1) := by decide +kernel
theorem dX8_takeSign_1 : decode cX8_takeSign 1 = .ok (.iload_n 1, 1) := by decide +kernel
theorem dX8_takeSign_2 : decode cX8_takeSign 2 = .ok (.ifCond .eq 14, 3) := by decide +kernel
theorem dX8_takeSign_5 : decode cX8_takeSign 5 = .ok (.aload_n 0, 1) := by decide +kernel
theorem dX8_takeSign_6 : decode cX8_takeSign 6 = .ok (.getfield 15, 3) := by decide +kernel
theorem dX8_takeSign_9 : decode cX8_takeSign 9 = .ok (.ifCond .le 7, 3) := by decide +kernel
theorem dX8_takeSign_12 : decode cX8_takeSign 12 = .ok (.iconst 1, 1) := by decide +kernel
theorem dX8_takeSign_13 : decode cX8_takeSign 13 = .ok (.goto 4, 3) := by decide +kernel
theorem dX8_takeSign_16 : decode cX8_takeSign 16 = .ok (.iconst 0, 1) := by decide +kernel
theorem dX8_takeSign_17 : decode cX8_takeSign 17 = .ok (.putfield 19, 3) := by decide +kernel
theorem dX8_takeSign_20 : decode cX8_takeSign 20 = .ok (.return_, 1) := by decide +kernel
def zj_X8_takeSign_17 (g2 : AH) (t0_17 : Int32) (t1_17 : Nat) : Option AH :=
  (zk t0_17).bind fun _ => (pV g2 t1_17 8 2 (.int t0_17)).bind fun g4 => some g4
def zs_X8_takeSign (h : AH) (u0 : Nat) (u1 : Int32) : Option AH :=
  (if u1 = 0 then zj_X8_takeSign_17 h ((0 : Int32)) u0 else (gI h u0 8 1).bind fun x5 => (if x5 ≤ 0 then zj_X8_takeSign_17 h ((0 : Int32)) u0 else zj_X8_takeSign_17 h ((1 : Int32)) u0))
set_option maxRecDepth 100000 in
set_option maxHeartbeats 4000000 in
theorem zm_X8_takeSign (l : Launch) (D : hG) (z : Nat) {h : AH} {u0 : Nat} {u1 : Int32} {h' : AH} (hs : zs_X8_takeSign h u0 u1 = some h') : hC l D z yX8_takeSign cX8_takeSign 2 (Option.none : Option Jvm.ClassFile.FieldType) 0 0 0 0 [.ref u0, .int u1] h h' none := by
  refine hC_of (by decide) (Nat.le_of_ble_eq_true rfl) ?_
  intro p e s m below meth c hx hb hml hrt hlk hown hnm hts hk hr hz ls hl
  replace hown : s.vm.findClass RX8 = some m.cls := hown
  replace hl : lv_has ls 2 [(0, .ref u0), (1, .int u1)] := hl
  have hS : va_S (hA z) s.heap s.heap [] := va_S.rf
  suffices hgo : ∀ (H : Heap) (locs : List Loc), hR D z h H → va_S (hA z) s.heap H locs → W p l e ({ frames := 0, cells := 0, slots := 0, locals := 0 } : Room) s m ([.ref u0, .int u1] : List Value).toArray below meth c H locs 0 0 (MQ below (hQ D z h' none) ([.ref u0, .int u1] : List Value).toArray s 0 0 (hA z)) (F0 m 0 ls []) from hgo _ _ hr hS
  clear hr hS
  intro H locs hr hS
  have hJ17 : ∀ (g2 : AH) (t0_17 : Int32) (t1_17 : Nat) (H : Heap) (locs : List Loc) (ls : Array Slot), zj_X8_takeSign_17 g2 t0_17 t1_17 = some h' → hR D z g2 H → va_S (hA z) s.heap H locs → lv_has ls 2 [] → W p l e ({ frames := 0, cells := 0, slots := 0, locals := 0 } : Room) s m ([.ref u0, .int u1] : List Value).toArray below meth c H locs 0 0 (MQ below (hQ D z h' none) ([.ref u0, .int u1] : List Value).toArray s 0 0 (hA z)) (F0 m 17 ls [.int t0_17, .ref t1_17]) := by
    intro g2 t0_17 t1_17 H locs ls hs hr hS hl
    unfold zj_X8_takeSign_17 at hs
    obtain ⟨_, ex3, hs⟩ := bi_inv hs
    obtain ⟨g4, eg4, hs⟩ := bi_inv hs
    refine hv_pV (C := RX8) (T := TX8) (N := 3) (ci := 8) hx hb hts inX8 tyX8 tyX8_ok nmX8 hown hk hr hS rfl 2 (by decide) (hts _ tw_42) rfl (zk_n (zk_inv ex3)) (zk_f (zk_inv ex3)) eg4 dX8_takeSign_17 (fun H locs hr hS => ?_)
    obtain rfl := Option.some.inj hs
    exact hv_vret hx hb hrt hlk hr hS dX8_takeSign_20
  unfold zs_X8_takeSign at hs
  refine lv_aload_n hx hb dX8_takeSign_0 rfl (lv_at hl 0 rfl) ?_
  refine lv_iload_n hx hb dX8_takeSign_1 rfl (lv_at hl 1 rfl) ?_
  refine lv_if_eq (tgt := 16) hx hb dX8_takeSign_2 (by decide) (fun c1 => ?_) (fun c1 => ?_)
  · rw [if_pos c1] at hs
    refine lv_iconst (v := 0) hx hb dX8_takeSign_16 (by decide) ?_
    exact hJ17 h ((0 : Int32)) u0 H locs ls hs hr hS (lv_sub hl [] rfl)
  · rw [if_neg c1] at hs
    refine lv_aload_n hx hb dX8_takeSign_5 rfl (lv_at hl 0 rfl) ?_
    obtain ⟨x5, ex5, hs⟩ := bi_inv hs
    refine hv_gI (C := RX8) (T := TX8) (N := 3) (ci := 8) hx hb hts inX8 hown hk hr rfl 1 (by decide) (hts _ tw_39) ex5 dX8_takeSign_6 ?_
    refine lv_if_le (tgt := 16) hx hb dX8_takeSign_9 (by decide) (fun c6 => ?_) (fun c6 => ?_)
    · rw [if_pos c6] at hs
      refine lv_iconst (v := 0) hx hb dX8_takeSign_16 (by decide) ?_
      exact hJ17 h ((0 : Int32)) u0 H locs ls hs hr hS (lv_sub hl [] rfl)
    · rw [if_neg c6] at hs
      refine lv_iconst (v := 1) hx hb dX8_takeSign_12 (by decide) ?_
      refine lv_goto (tgt := 17) hx hb dX8_takeSign_13 (by decide) ?_
      exact hJ17 h ((1 : Int32)) u0 H locs ls hs hr hS (lv_sub hl [] rfl)
theorem dX8_become_0 : decode cX8_become 0 = .ok (.lload_n 1, 1) := by decide +kernel
theorem dX8_become_1 : decode cX8_become 1 = .ok (.lconst 0, 1) := by decide +kernel
theorem dX8_become_2 : decode cX8_become 2 = .ok (.lcmp, 1) := by decide +kernel
theorem dX8_become_3 : decode cX8_become 3 = .ok (.ifCond .ge 8, 3) := by decide +kernel
theorem dX8_become_6 : decode cX8_become 6 = .ok (.lload_n 1, 1) := by decide +kernel
theorem dX8_become_7 : decode cX8_become 7 = .ok (.lneg, 1) := by decide +kernel
theorem dX8_become_8 : decode cX8_become 8 = .ok (.goto 4, 3) := by decide +kernel
theorem dX8_become_11 : decode cX8_become 11 = .ok (.lload_n 1, 1) := by decide +kernel
theorem dX8_become_12 : decode cX8_become 12 = .ok (.lstore_n 3, 1) := by decide +kernel
theorem dX8_become_13 : decode cX8_become 13 = .ok (.aload_n 0, 1) := by decide +kernel
theorem dX8_become_14 : decode cX8_become 14 = .ok (.getfield 9, 3) := by decide +kernel
theorem dX8_become_17 : decode cX8_become 17 = .ok (.iconst 0, 1) := by decide +kernel
theorem dX8_become_18 : decode cX8_become 18 = .ok (.lload_n 3, 1) := by decide +kernel
theorem dX8_become_19 : decode cX8_become 19 = .ok (.ldc2_w 23, 3) := by decide +kernel
theorem dX8_become_22 : decode cX8_become 22 = .ok (.land, 1) := by decide +kernel
theorem dX8_become_23 : decode cX8_become 23 = .ok (.lastore, 1) := by decide +kernel
theorem dX8_become_24 : decode cX8_become 24 = .ok (.aload_n 0, 1) := by decide +kernel
theorem dX8_become_25 : decode cX8_become 25 = .ok (.getfield 9, 3) := by decide +kernel
theorem dX8_become_28 : decode cX8_become 28 = .ok (.iconst 1, 1) := by decide +kernel
theorem dX8_become_29 : decode cX8_become 29 = .ok (.lload_n 3, 1) := by decide +kernel
theorem dX8_become_30 : decode cX8_become 30 = .ok (.bipush 32, 2) := by decide +kernel
theorem dX8_become_32 : decode cX8_become 32 = .ok (.lushr, 1) := by decide +kernel
theorem dX8_become_33 : decode cX8_become 33 = .ok (.lastore, 1) := by decide +kernel
theorem dX8_become_34 : decode cX8_become 34 = .ok (.aload_n 0, 1) := by decide +kernel
theorem dX8_become_35 : decode cX8_become 35 = .ok (.iconst 2, 1) := by decide +kernel
theorem dX8_become_36 : decode cX8_become 36 = .ok (.invokevirtual 25, 3) := by decide +kernel
theorem dX8_become_39 : decode cX8_become 39 = .ok (.aload_n 0, 1) := by decide +kernel
theorem dX8_become_40 : decode cX8_become 40 = .ok (.lload_n 1, 1) := by decide +kernel
theorem dX8_become_41 : decode cX8_become 41 = .ok (.lconst 0, 1) := by decide +kernel
theorem dX8_become_42 : decode cX8_become 42 = .ok (.lcmp, 1) := by decide +kernel
theorem dX8_become_43 : decode cX8_become 43 = .ok (.ifCond .ge 7, 3) := by decide +kernel
theorem dX8_become_46 : decode cX8_become 46 = .ok (.iconst 1, 1) := by decide +kernel
theorem dX8_become_47 : decode cX8_become 47 = .ok (.goto 4, 3) := by decide +kernel
theorem dX8_become_50 : decode cX8_become 50 = .ok (.iconst 0, 1) := by decide +kernel
theorem dX8_become_51 : decode cX8_become 51 = .ok (.invokevirtual 29, 3) := by decide +kernel
theorem dX8_become_54 : decode cX8_become 54 = .ok (.return_, 1) := by decide +kernel
def zj_X8_become_51 (g10 : AH) (t0_51 : Int32) (t1_51 : Nat) : Option AH :=
  (chk g10 t1_51 8).bind fun _ => (zs_X8_takeSign g10 t1_51 t0_51).bind fun g12 => some g12
def zj_X8_become_12 (g2 : AH) (y0_12 : Nat) (y1_12 : Int64) (t0_12 : Int64) : Option AH :=
  (gR g2 y0_12 8 0).bind fun x3 => (sJ g2 x3 1 ((0 : Int32)) (t0_12 &&& ((4294967295 : Int64)))).bind fun g4 => (gR g4 y0_12 8 0).bind fun x5 => (sJ g4 x5 1 ((1 : Int32)) ((t0_12.toUInt64 >>> (((32 : Int32)).toInt64.toUInt64 &&& Int64.toUInt64 63)).toInt64)).bind fun g6 => (chk g6 y0_12 8).bind fun _ => (zs_X8_trim g6 y0_12 ((2 : Int32))).bind fun g8 => (if (0 : Int64) ≤ y1_12 then zj_X8_become_51 g8 ((0 : Int32)) y0_12 else zj_X8_become_51 g8 ((1 : Int32)) y0_12)
def zs_X8_become (h : AH) (u0 : Nat) (u1 : Int64) : Option AH :=
  (if (0 : Int64) ≤ u1 then zj_X8_become_12 h u0 u1 u1 else zj_X8_become_12 h u0 u1 (-u1))
set_option maxRecDepth 100000 in
set_option maxHeartbeats 4000000 in
theorem zm_X8_become (l : Launch) (D : hG) (z : Nat) {h : AH} {u0 : Nat} {u1 : Int64} {h' : AH} (hs : zs_X8_become h u0 u1 = some h') : hC l D z yX8_become cX8_become 5 (Option.none : Option Jvm.ClassFile.FieldType) 1 21 0 0 [.ref u0, .long u1] h h' none := by
  refine hC_of (by decide) (Nat.le_of_ble_eq_true rfl) ?_
  intro p e s m below meth c hx hb hml hrt hlk hown hnm hts hk hr hz ls hl
  replace hown : s.vm.findClass RX8 = some m.cls := hown
  replace hl : lv_has ls 5 [(0, .ref u0), (1, .long u1)] := hl
  have hS : va_S (hA z) s.heap s.heap [] := va_S.rf
  suffices hgo : ∀ (H : Heap) (locs : List Loc), hR D z h H → va_S (hA z) s.heap H locs → W p l e ({ frames := 1, cells := 0, slots := 0, locals := 21 } : Room) s m ([.ref u0, .long u1] : List Value).toArray below meth c H locs 0 0 (MQ below (hQ D z h' none) ([.ref u0, .long u1] : List Value).toArray s 0 0 (hA z)) (F0 m 0 ls []) from hgo _ _ hr hS
  clear hr hS
  intro H locs hr hS
  have hJ51 : ∀ (g10 : AH) (t0_51 : Int32) (t1_51 : Nat) (H : Heap) (locs : List Loc) (ls : Array Slot), zj_X8_become_51 g10 t0_51 t1_51 = some h' → hR D z g10 H → va_S (hA z) s.heap H locs → lv_has ls 5 [] → W p l e ({ frames := 1, cells := 0, slots := 0, locals := 21 } : Room) s m ([.ref u0, .long u1] : List Value).toArray below meth c H locs 0 0 (MQ below (hQ D z h' none) ([.ref u0, .long u1] : List Value).toArray s 0 0 (hA z)) (F0 m 51 ls [.int t0_51, .ref t1_51]) := by
    intro g10 t0_51 t1_51 H locs ls hs hr hS hl
    unfold zj_X8_become_51 at hs
    obtain ⟨_, ex11, hs⟩ := bi_inv hs
    obtain ⟨g12, eg12, hs⟩ := bi_inv hs
    refine hv_V0 (n := 1) [.int t0_51] [] hx hb hml hown hts hk hr hz hS (zm_X8_takeSign l D z eg12) ex11 rfl tw_74 tw_75 tw_76 tw_2 tw_77 (by decide +kernel) (by decide) ⟨(Nat.zero_le _), (Nat.zero_le _)⟩ rfl hl.1 (Nat.le_of_ble_eq_true rfl) dX8_become_51 rfl (fun H locs hr hS => ?_)
    obtain rfl := Option.some.inj hs
    exact hv_vret hx hb hrt hlk hr hS dX8_become_54
  have hJ12 : ∀ (g2 : AH) (y0_12 : Nat) (y1_12 : Int64) (t0_12 : Int64) (H : Heap) (locs : List Loc) (ls : Array Slot), zj_X8_become_12 g2 y0_12 y1_12 t0_12 = some h' → hR D z g2 H → va_S (hA z) s.heap H locs → lv_has ls 5 [(0, .ref y0_12), (1, .long y1_12)] → W p l e ({ frames := 1, cells := 0, slots := 0, locals := 21 } : Room) s m ([.ref u0, .long u1] : List Value).toArray below meth c H locs 0 0 (MQ below (hQ D z h' none) ([.ref u0, .long u1] : List Value).toArray s 0 0 (hA z)) (F0 m 12 ls [.long t0_12]) := by
    intro g2 y0_12 y1_12 t0_12 H locs ls hs hr hS hl
    unfold zj_X8_become_12 at hs
    refine lv_lstore_n (lv' := [(3, .long t0_12), (0, .ref y0_12), (1, .long y1_12)]) hx hb dX8_become_12 rfl hl (by decide) rfl (fun ls hl => ?_)
    refine lv_aload_n hx hb dX8_become_13 rfl (lv_at hl 1 rfl) ?_
    obtain ⟨x3, ex3, hs⟩ := bi_inv hs
    refine hv_gR (C := RX8) (T := TX8) (N := 3) (ci := 8) hx hb hts inX8 hown hk hr rfl 0 (by decide) (hts _ tw_36) ex3 dX8_become_14 ?_
    refine lv_iconst (v := 0) hx hb dX8_become_17 (by decide) ?_
    refine lv_lload_n hx hb dX8_become_18 rfl (lv_at hl 0 rfl) ?_
    refine lv_ldc2 hx hb hown (hts _ tw_69) dX8_become_19 ?_
    refine lv_land hx hb dX8_become_22 ?_
    obtain ⟨g4, eg4, hs⟩ := bi_inv hs
    refine hv_sJ hx hb hk hr hS eg4 dX8_become_23 (fun H locs hr hS => ?_)
    refine lv_aload_n hx hb dX8_become_24 rfl (lv_at hl 1 rfl) ?_
    obtain ⟨x5, ex5, hs⟩ := bi_inv hs
    refine hv_gR (C := RX8) (T := TX8) (N := 3) (ci := 8) hx hb hts inX8 hown hk hr rfl 0 (by decide) (hts _ tw_36) ex5 dX8_become_25 ?_
    refine lv_iconst (v := 1) hx hb dX8_become_28 (by decide) ?_
    refine lv_lload_n hx hb dX8_become_29 rfl (lv_at hl 0 rfl) ?_
    refine lv_bipush (v := 32) hx hb dX8_become_30 (by decide) ?_
    refine lv_lushr hx hb dX8_become_32 rfl ?_
    obtain ⟨g6, eg6, hs⟩ := bi_inv hs
    refine hv_sJ hx hb hk hr hS eg6 dX8_become_33 (fun H locs hr hS => ?_)
    refine lv_aload_n hx hb dX8_become_34 rfl (lv_at hl 1 rfl) ?_
    refine lv_iconst (v := 2) hx hb dX8_become_35 (by decide) ?_
    obtain ⟨_, ex7, hs⟩ := bi_inv hs
    obtain ⟨g8, eg8, hs⟩ := bi_inv hs
    refine hv_V0 (n := 1) [.int ((2 : Int32))] [] hx hb hml hown hts hk hr hz hS (zm_X8_trim l D z eg8) ex7 rfl tw_70 tw_71 tw_72 tw_2 tw_73 (by decide +kernel) (by decide) ⟨(Nat.zero_le _), (Nat.zero_le _)⟩ rfl hl.1 (Nat.le_of_ble_eq_true rfl) dX8_become_36 rfl (fun H locs hr hS => ?_)
    refine lv_aload_n hx hb dX8_become_39 rfl (lv_at hl 1 rfl) ?_
    refine lv_lload_n hx hb dX8_become_40 rfl (lv_at hl 2 rfl) ?_
    refine lv_lconst (v := 0) hx hb dX8_become_41 (by decide) ?_
    refine hv_lc_ge (tgt := 50) hx hb dX8_become_42 dX8_become_43 (by decide) (fun c9 => ?_) (fun c9 => ?_)
    · rw [if_pos c9] at hs
      refine lv_iconst (v := 0) hx hb dX8_become_50 (by decide) ?_
      exact hJ51 g8 ((0 : Int32)) y0_12 H locs ls hs hr hS (lv_sub hl [] rfl)
    · rw [if_neg c9] at hs
      refine lv_iconst (v := 1) hx hb dX8_become_46 (by decide) ?_
      refine lv_goto (tgt := 51) hx hb dX8_become_47 (by decide) ?_
      exact hJ51 g8 ((1 : Int32)) y0_12 H locs ls hs hr hS (lv_sub hl [] rfl)
  unfold zs_X8_become at hs
  refine lv_lload_n hx hb dX8_become_0 rfl (lv_at hl 1 rfl) ?_
  refine lv_lconst (v := 0) hx hb dX8_become_1 (by decide) ?_
  refine hv_lc_ge (tgt := 11) hx hb dX8_become_2 dX8_become_3 (by decide) (fun c1 => ?_) (fun c1 => ?_)
  · rw [if_pos c1] at hs
    refine lv_lload_n hx hb dX8_become_11 rfl (lv_at hl 1 rfl) ?_
    exact hJ12 h u0 u1 u1 H locs ls hs hr hS (lv_sub hl [0, 1] rfl)
  · rw [if_neg c1] at hs
    refine lv_lload_n hx hb dX8_become_6 rfl (lv_at hl 1 rfl) ?_
    refine lv_lneg hx hb dX8_become_7 ?_
    refine lv_goto (tgt := 12) hx hb dX8_become_8 (by decide) ?_
    exact hJ12 h u0 u1 (-u1) H locs ls hs hr hS (lv_sub hl [0, 1] rfl)
theorem dX8_copy_0 : decode cX8_copy 0 = .ok (.iconst 0, 1) := by decide +kernel
theorem dX8_copy_1 : decode cX8_copy 1 = .ok (.istore_n 2, 1) := by decide +kernel
theorem dX8_copy_2 : decode cX8_copy 2 = .ok (.iload_n 2, 1) := by decide +kernel
theorem dX8_copy_3 : decode cX8_copy 3 = .ok (.aload_n 1, 1) := by decide +kernel
theorem dX8_copy_4 : decode cX8_copy 4 = .ok (.getfield 15, 3) := by decide +kernel
theorem dX8_copy_7 : decode cX8_copy 7 = .ok (.if_icmp .ge 21, 3) := by decide +kernel
theorem dX8_copy_10 : decode cX8_copy 10 = .ok (.aload_n 0, 1) := by decide +kernel
theorem dX8_copy_11 : decode cX8_copy 11 = .ok (.getfield 9, 3) := by decide +kernel
theorem dX8_copy_14 : decode cX8_copy 14 = .ok (.iload_n 2, 1) := by decide +kernel
theorem dX8_copy_15 : decode cX8_copy 15 = .ok (.aload_n 1, 1) := by decide +kernel
theorem dX8_copy_16 : decode cX8_copy 16 = .ok (.getfield 9, 3) := by decide +kernel
theorem dX8_copy_19 : decode cX8_copy 19 = .ok (.iload_n 2, 1) := by decide +kernel
theorem dX8_copy_20 : decode cX8_copy 20 = .ok (.laload, 1) := by decide +kernel
theorem dX8_copy_21 : decode cX8_copy 21 = .ok (.lastore, 1) := by decide +kernel
theorem dX8_copy_22 : decode cX8_copy 22 = .ok (.iinc 2 1, 3) := by decide +kernel
theorem dX8_copy_25 : decode cX8_copy 25 = .ok (.goto (-23), 3) := by decide +kernel
theorem dX8_copy_28 : decode cX8_copy 28 = .ok (.aload_n 0, 1) := by decide +kernel
theorem dX8_copy_29 : decode cX8_copy 29 = .ok (.aload_n 1, 1) := by decide +kernel
theorem dX8_copy_30 : decode cX8_copy 30 = .ok (.getfield 15, 3) := by decide +kernel
theorem dX8_copy_33 : decode cX8_copy 33 = .ok (.putfield 15, 3) := by decide +kernel
theorem dX8_copy_36 : decode cX8_copy 36 = .ok (.aload_n 0, 1) := by decide +kernel
theorem dX8_copy_37 : decode cX8_copy 37 = .ok (.aload_n 1, 1) := by decide +kernel
theorem dX8_copy_38 : decode cX8_copy 38 = .ok (.getfield 19, 3) := by decide +kernel
theorem dX8_copy_41 : decode cX8_copy 41 = .ok (.putfield 19, 3) := by decide +kernel
theorem dX8_copy_44 : decode cX8_copy 44 = .ok (.return_, 1) := by decide +kernel
def zb_X8_copy_2 (w0 : Nat) (w1 : Nat) (g1 : AH) (w2 : Int32) : Option ((AH × Int32) ⊕ (AH)) :=
  (gI g1 w1 8 1).bind fun x2 => (if x2 ≤ w2 then some (Sum.inr g1) else (gR g1 w0 8 0).bind fun x4 => (gR g1 w1 8 0).bind fun x5 => (aJ g1 x5 1 w2).bind fun x6 => (sJ g1 x4 1 w2 x6).bind fun g7 => some (Sum.inl ((g7, w2 + (1 : Int32)))))
def zs_X8_copy (h : AH) (u0 : Nat) (u1 : Nat) : Option AH :=
  (iter (fun q : AH × Int32 => zb_X8_copy_2 u0 u1 q.1 q.2) FU ((h, (0 : Int32)))).bind fun r8 => (gI r8 u1 8 1).bind fun x9 => (pV r8 u0 8 1 (.int x9)).bind fun g10 => (gI g10 u1 8 2).bind fun x11 => (zk x11).bind fun _ => (pV g10 u0 8 2 (.int x11)).bind fun g13 => some g13
set_option maxRecDepth 100000 in
set_option maxHeartbeats 4000000 in
theorem zm_X8_copy (l : Launch) (D : hG) (z : Nat) {h : AH} {u0 : Nat} {u1 : Nat} {h' : AH} (hs : zs_X8_copy h u0 u1 = some h') : hC l D z yX8_copy cX8_copy 3 (Option.none : Option Jvm.ClassFile.FieldType) 0 0 0 0 [.ref u0, .ref u1] h h' none := by
  refine hC_of (by decide) (Nat.le_of_ble_eq_true rfl) ?_
  intro p e s m below meth c hx hb hml hrt hlk hown hnm hts hk hr hz ls hl
  replace hown : s.vm.findClass RX8 = some m.cls := hown
  replace hl : lv_has ls 3 [(0, .ref u0), (1, .ref u1)] := hl
  have hS : va_S (hA z) s.heap s.heap [] := va_S.rf
  suffices hgo : ∀ (H : Heap) (locs : List Loc), hR D z h H → va_S (hA z) s.heap H locs → W p l e ({ frames := 0, cells := 0, slots := 0, locals := 0 } : Room) s m ([.ref u0, .ref u1] : List Value).toArray below meth c H locs 0 0 (MQ below (hQ D z h' none) ([.ref u0, .ref u1] : List Value).toArray s 0 0 (hA z)) (F0 m 0 ls []) from hgo _ _ hr hS
  clear hr hS
  intro H locs hr hS
  unfold zs_X8_copy at hs
  refine lv_iconst (v := 0) hx hb dX8_copy_0 (by decide) ?_
  refine lv_istore_n (lv' := [(2, .int ((0 : Int32))), (0, .ref u0), (1, .ref u1)]) hx hb dX8_copy_1 rfl hl (by decide) rfl (fun ls hl => ?_)
  obtain ⟨r8, er8, hs⟩ := bi_inv hs
  refine iter_W (fun (q : AH × Int32) => ∀ (H : Heap) (locs : List Loc) (ls : Array Slot), hR D z q.1 H → va_S (hA z) s.heap H locs → lv_has ls 3 [(0, .ref u0), (1, .ref u1), (2, .int q.2)] → W p l e ({ frames := 0, cells := 0, slots := 0, locals := 0 } : Room) s m ([.ref u0, .ref u1] : List Value).toArray below meth c H locs 0 0 (MQ below (hQ D z h' none) ([.ref u0, .ref u1] : List Value).toArray s 0 0 (hA z)) (F0 m 2 ls [])) (fun (x : AH) => ∀ (H : Heap) (locs : List Loc) (ls : Array Slot), hR D z x H → va_S (hA z) s.heap H locs → lv_has ls 3 [(0, .ref u0), (1, .ref u1)] → W p l e ({ frames := 0, cells := 0, slots := 0, locals := 0 } : Room) s m ([.ref u0, .ref u1] : List Value).toArray below meth c H locs 0 0 (MQ below (hQ D z h' none) ([.ref u0, .ref u1] : List Value).toArray s 0 0 (hA z)) (F0 m 28 ls [])) ?_ FU _ r8 er8 ?_ H locs ls hr hS (lv_sub hl [1, 2, 0] rfl)
  · intro q o hs hcont hexit
    obtain ⟨g1, w2⟩ := q
    replace hs : zb_X8_copy_2 u0 u1 g1 w2 = some o := hs
    intro H locs ls hr hS hl
    unfold zb_X8_copy_2 at hs
    refine lv_iload_n hx hb dX8_copy_2 rfl (lv_at hl 2 rfl) ?_
    refine lv_aload_n hx hb dX8_copy_3 rfl (lv_at hl 1 rfl) ?_
    obtain ⟨x2, ex2, hs⟩ := bi_inv hs
    refine hv_gI (C := RX8) (T := TX8) (N := 3) (ci := 8) hx hb hts inX8 hown hk hr rfl 1 (by decide) (hts _ tw_39) ex2 dX8_copy_4 ?_
    refine lv_icmp_ge (tgt := 28) hx hb dX8_copy_7 (by decide) (fun c3 => ?_) (fun c3 => ?_)
    · rw [if_pos c3] at hs
      obtain rfl := Option.some.inj hs
      exact hexit _ rfl H locs ls hr hS (lv_sub hl [0, 1] rfl)
    · rw [if_neg c3] at hs
      refine lv_aload_n hx hb dX8_copy_10 rfl (lv_at hl 0 rfl) ?_
      obtain ⟨x4, ex4, hs⟩ := bi_inv hs
      refine hv_gR (C := RX8) (T := TX8) (N := 3) (ci := 8) hx hb hts inX8 hown hk hr rfl 0 (by decide) (hts _ tw_36) ex4 dX8_copy_11 ?_
      refine lv_iload_n hx hb dX8_copy_14 rfl (lv_at hl 2 rfl) ?_
      refine lv_aload_n hx hb dX8_copy_15 rfl (lv_at hl 1 rfl) ?_
      obtain ⟨x5, ex5, hs⟩ := bi_inv hs
      refine hv_gR (C := RX8) (T := TX8) (N := 3) (ci := 8) hx hb hts inX8 hown hk hr rfl 0 (by decide) (hts _ tw_36) ex5 dX8_copy_16 ?_
      refine lv_iload_n hx hb dX8_copy_19 rfl (lv_at hl 2 rfl) ?_
      obtain ⟨x6, ex6, hs⟩ := bi_inv hs
      refine hv_aJ hx hb hk hr ex6 dX8_copy_20 ?_
      obtain ⟨g7, eg7, hs⟩ := bi_inv hs
      refine hv_sJ hx hb hk hr hS eg7 dX8_copy_21 (fun H locs hr hS => ?_)
      refine lv_iinc (v := w2 + (1 : Int32)) (lv' := [(2, .int (w2 + (1 : Int32))), (0, .ref u0), (1, .ref u1)]) hx hb dX8_copy_22 hl (k := 2) rfl (ii_v _ (by decide)) (by decide) rfl (fun ls hl => ?_)
      refine lv_goto (tgt := 2) hx hb dX8_copy_25 (by decide) ?_
      obtain rfl := Option.some.inj hs
      exact hcont _ rfl H locs ls hr hS (lv_sub hl [1, 2, 0] rfl)
  · intro H locs ls hr hS hl
    refine lv_aload_n hx hb dX8_copy_28 rfl (lv_at hl 0 rfl) ?_
    refine lv_aload_n hx hb dX8_copy_29 rfl (lv_at hl 1 rfl) ?_
    obtain ⟨x9, ex9, hs⟩ := bi_inv hs
    refine hv_gI (C := RX8) (T := TX8) (N := 3) (ci := 8) hx hb hts inX8 hown hk hr rfl 1 (by decide) (hts _ tw_39) ex9 dX8_copy_30 ?_
    obtain ⟨g10, eg10, hs⟩ := bi_inv hs
    refine hv_pV (C := RX8) (T := TX8) (N := 3) (ci := 8) hx hb hts inX8 tyX8 tyX8_ok nmX8 hown hk hr hS rfl 1 (by decide) (hts _ tw_39) rfl rfl rfl eg10 dX8_copy_33 (fun H locs hr hS => ?_)
    refine lv_aload_n hx hb dX8_copy_36 rfl (lv_at hl 0 rfl) ?_
    refine lv_aload_n hx hb dX8_copy_37 rfl (lv_at hl 1 rfl) ?_
    obtain ⟨x11, ex11, hs⟩ := bi_inv hs
    refine hv_gI (C := RX8) (T := TX8) (N := 3) (ci := 8) hx hb hts inX8 hown hk hr rfl 2 (by decide) (hts _ tw_42) ex11 dX8_copy_38 ?_
    obtain ⟨_, ex12, hs⟩ := bi_inv hs
    obtain ⟨g13, eg13, hs⟩ := bi_inv hs
    refine hv_pV (C := RX8) (T := TX8) (N := 3) (ci := 8) hx hb hts inX8 tyX8 tyX8_ok nmX8 hown hk hr hS rfl 2 (by decide) (hts _ tw_42) rfl (zk_n (zk_inv ex12)) (zk_f (zk_inv ex12)) eg13 dX8_copy_41 (fun H locs hr hS => ?_)
    obtain rfl := Option.some.inj hs
    exact hv_vret hx hb hrt hlk hr hS dX8_copy_44
theorem dX8_isZero_0 : decode cX8_isZero 0 = .ok (.aload_n 0, 1) := by decide +kernel
theorem dX8_isZero_1 : decode cX8_isZero 1 = .ok (.getfield 15, 3) := by decide +kernel
theorem dX8_isZero_4 : decode cX8_isZero 4 = .ok (.ifCond .ne 7, 3) := by decide +kernel
theorem dX8_isZero_7 : decode cX8_isZero 7 = .ok (.iconst 1, 1) := by decide +kernel
theorem dX8_isZero_8 : decode cX8_isZero 8 = .ok (.goto 4, 3) := by decide +kernel
theorem dX8_isZero_11 : decode cX8_isZero 11 = .ok (.iconst 0, 1) := by decide +kernel
theorem dX8_isZero_12 : decode cX8_isZero 12 = .ok (.ireturn, 1) := by decide +kernel
def zs_X8_isZero (h : AH) (u0 : Nat) : Option Int32 :=
  (gI h u0 8 1).bind fun x1 => (if x1 = 0 then some ((1 : Int32)) else some ((0 : Int32)))
set_option maxRecDepth 100000 in
set_option maxHeartbeats 4000000 in
theorem zm_X8_isZero (l : Launch) (D : hG) (z : Nat) {h : AH} {u0 : Nat} {r : Int32} (hs : zs_X8_isZero h u0 = some r) : hC l D z yX8_isZero cX8_isZero 1 (Option.some Jvm.ClassFile.FieldType.boolean) 0 0 0 0 [.ref u0] h h (some (.int r)) := by
  refine hC_of (by decide) (Nat.le_of_ble_eq_true rfl) ?_
  intro p e s m below meth c hx hb hml hrt hlk hown hnm hts hk hr hz ls hl
  replace hown : s.vm.findClass RX8 = some m.cls := hown
  replace hl : lv_has ls 1 [(0, .ref u0)] := hl
  have hS : va_S (hA z) s.heap s.heap [] := va_S.rf
  suffices hgo : ∀ (H : Heap) (locs : List Loc), hR D z h H → va_S (hA z) s.heap H locs → W p l e ({ frames := 0, cells := 0, slots := 0, locals := 0 } : Room) s m ([.ref u0] : List Value).toArray below meth c H locs 0 0 (MQ below (hQ D z h (some (.int r))) ([.ref u0] : List Value).toArray s 0 0 (hA z)) (F0 m 0 ls []) from hgo _ _ hr hS
  clear hr hS
  intro H locs hr hS
  unfold zs_X8_isZero at hs
  refine lv_aload_n hx hb dX8_isZero_0 rfl (lv_at hl 0 rfl) ?_
  obtain ⟨x1, ex1, hs⟩ := bi_inv hs
  refine hv_gI (C := RX8) (T := TX8) (N := 3) (ci := 8) hx hb hts inX8 hown hk hr rfl 1 (by decide) (hts _ tw_39) ex1 dX8_isZero_1 ?_
  refine lv_if_ne (tgt := 11) hx hb dX8_isZero_4 (by decide) (fun c2 => ?_) (fun c2 => ?_)
  · rw [if_neg c2] at hs
    refine lv_iconst (v := 0) hx hb dX8_isZero_11 (by decide) ?_
    obtain rfl := Option.some.inj hs
    exact hv_zret hx hb hrt hlk hr hS (by decide) dX8_isZero_12
  · rw [if_pos c2] at hs
    refine lv_iconst (v := 1) hx hb dX8_isZero_7 (by decide) ?_
    refine lv_goto (tgt := 12) hx hb dX8_isZero_8 (by decide) ?_
    obtain rfl := Option.some.inj hs
    exact hv_zret hx hb hrt hlk hr hS (by decide) dX8_isZero_12
theorem dX8_orderSizes_0 : decode cX8_orderSizes 0 = .ok (.aload_n 0, 1) := by decide +kernel
theorem dX8_orderSizes_1 : decode cX8_orderSizes 1 = .ok (.getfield 15, 3) := by decide +kernel
theorem dX8_orderSizes_4 : decode cX8_orderSizes 4 = .ok (.aload_n 1, 1) := by decide +kernel
theorem dX8_orderSizes_5 : decode cX8_orderSizes 5 = .ok (.getfield 15, 3) := by decide +kernel
theorem dX8_orderSizes_8 : decode cX8_orderSizes 8 = .ok (.if_icmp .eq 20, 3) := by decide +kernel
theorem dX8_orderSizes_11 : decode cX8_orderSizes 11 = .ok (.aload_n 0, 1) := by decide +kernel
theorem dX8_orderSizes_12 : decode cX8_orderSizes 12 = .ok (.getfield 15, 3) := by decide +kernel
theorem dX8_orderSizes_15 : decode cX8_orderSizes 15 = .ok (.aload_n 1, 1) := by decide +kernel
theorem dX8_orderSizes_16 : decode cX8_orderSizes 16 = .ok (.getfield 15, 3) := by decide +kernel
theorem dX8_orderSizes_19 : decode cX8_orderSizes 19 = .ok (.if_icmp .ge 7, 3) := by decide +kernel
theorem dX8_orderSizes_22 : decode cX8_orderSizes 22 = .ok (.iconst (-1), 1) := by decide +kernel
theorem dX8_orderSizes_23 : decode cX8_orderSizes 23 = .ok (.goto 4, 3) := by decide +kernel
theorem dX8_orderSizes_26 : decode cX8_orderSizes 26 = .ok (.iconst 1, 1) := by decide +kernel
theorem dX8_orderSizes_27 : decode cX8_orderSizes 27 = .ok (.ireturn, 1) := by decide +kernel
theorem dX8_orderSizes_28 : decode cX8_orderSizes 28 = .ok (.aload_n 0, 1) := by decide +kernel
theorem dX8_orderSizes_29 : decode cX8_orderSizes 29 = .ok (.getfield 15, 3) := by decide +kernel
theorem dX8_orderSizes_32 : decode cX8_orderSizes 32 = .ok (.iconst 1, 1) := by decide +kernel
theorem dX8_orderSizes_33 : decode cX8_orderSizes 33 = .ok (.isub, 1) := by decide +kernel
theorem dX8_orderSizes_34 : decode cX8_orderSizes 34 = .ok (.istore_n 2, 1) := by decide +kernel
theorem dX8_orderSizes_35 : decode cX8_orderSizes 35 = .ok (.iload_n 2, 1) := by decide +kernel
theorem dX8_orderSizes_36 : decode cX8_orderSizes 36 = .ok (.ifCond .lt 47, 3) := by decide +kernel
theorem dX8_orderSizes_39 : decode cX8_orderSizes 39 = .ok (.aload_n 0, 1) := by decide +kernel
theorem dX8_orderSizes_40 : decode cX8_orderSizes 40 = .ok (.getfield 9, 3) := by decide +kernel
theorem dX8_orderSizes_43 : decode cX8_orderSizes 43 = .ok (.iload_n 2, 1) := by decide +kernel
theorem dX8_orderSizes_44 : decode cX8_orderSizes 44 = .ok (.laload, 1) := by decide +kernel
theorem dX8_orderSizes_45 : decode cX8_orderSizes 45 = .ok (.aload_n 1, 1) := by decide +kernel
theorem dX8_orderSizes_46 : decode cX8_orderSizes 46 = .ok (.getfield 9, 3) := by decide +kernel
theorem dX8_orderSizes_49 : decode cX8_orderSizes 49 = .ok (.iload_n 2, 1) := by decide +kernel
theorem dX8_orderSizes_50 : decode cX8_orderSizes 50 = .ok (.laload, 1) := by decide +kernel
theorem dX8_orderSizes_51 : decode cX8_orderSizes 51 = .ok (.lcmp, 1) := by decide +kernel
theorem dX8_orderSizes_52 : decode cX8_orderSizes 52 = .ok (.ifCond .eq 25, 3) := by decide +kernel
theorem dX8_orderSizes_55 : decode cX8_orderSizes 55 = .ok (.aload_n 0, 1) := by decide +kernel
theorem dX8_orderSizes_56 : decode cX8_orderSizes 56 = .ok (.getfield 9, 3) := by decide +kernel
theorem dX8_orderSizes_59 : decode cX8_orderSizes 59 = .ok (.iload_n 2, 1) := by decide +kernel
theorem dX8_orderSizes_60 : decode cX8_orderSizes 60 = .ok (.laload, 1) := by decide +kernel
theorem dX8_orderSizes_61 : decode cX8_orderSizes 61 = .ok (.aload_n 1, 1) := by decide +kernel
theorem dX8_orderSizes_62 : decode cX8_orderSizes 62 = .ok (.getfield 9, 3) := by decide +kernel
theorem dX8_orderSizes_65 : decode cX8_orderSizes 65 = .ok (.iload_n 2, 1) := by decide +kernel
theorem dX8_orderSizes_66 : decode cX8_orderSizes 66 = .ok (.laload, 1) := by decide +kernel
theorem dX8_orderSizes_67 : decode cX8_orderSizes 67 = .ok (.lcmp, 1) := by decide +kernel
theorem dX8_orderSizes_68 : decode cX8_orderSizes 68 = .ok (.ifCond .ge 7, 3) := by decide +kernel
theorem dX8_orderSizes_71 : decode cX8_orderSizes 71 = .ok (.iconst (-1), 1) := by decide +kernel
theorem dX8_orderSizes_72 : decode cX8_orderSizes 72 = .ok (.goto 4, 3) := by decide +kernel
theorem dX8_orderSizes_75 : decode cX8_orderSizes 75 = .ok (.iconst 1, 1) := by decide +kernel
theorem dX8_orderSizes_76 : decode cX8_orderSizes 76 = .ok (.ireturn, 1) := by decide +kernel
theorem dX8_orderSizes_77 : decode cX8_orderSizes 77 = .ok (.iinc 2 (-1), 3) := by decide +kernel
theorem dX8_orderSizes_80 : decode cX8_orderSizes 80 = .ok (.goto (-45), 3) := by decide +kernel
theorem dX8_orderSizes_83 : decode cX8_orderSizes 83 = .ok (.iconst 0, 1) := by decide +kernel
theorem dX8_orderSizes_84 : decode cX8_orderSizes 84 = .ok (.ireturn, 1) := by decide +kernel
def zb_X8_orderSizes_35 (h : AH) (w0 : Nat) (w1 : Nat) (w2 : Int32) : Option ((Int32) ⊕ (Int32 ⊕ Unit)) :=
  (if w2 < 0 then some (Sum.inr ((Sum.inr (())))) else (gR h w0 8 0).bind fun x7 => (aJ h x7 1 w2).bind fun x8 => (gR h w1 8 0).bind fun x9 => (aJ h x9 1 w2).bind fun x10 => (if x8 = x10 then some (Sum.inl (w2 + (-1 : Int32))) else some (Sum.inr ((Sum.inl w2)))))
def zs_X8_orderSizes (h : AH) (u0 : Nat) (u1 : Nat) : Option Int32 :=
  (gI h u0 8 1).bind fun x1 => (gI h u1 8 1).bind fun x2 => (if x1 = x2 then (gI h u0 8 1).bind fun x4 => lt_ (x4 - ((1 : Int32))) fun x5 => (iter (fun q : Int32 => zb_X8_orderSizes_35 h u0 u1 q) FU x5).bind fun r12 => (match r12 with | .inl r13 => (gR h u0 8 0).bind fun x14 => (aJ h x14 1 r13).bind fun x15 => (gR h u1 8 0).bind fun x16 => (aJ h x16 1 r13).bind fun x17 => (if x17 ≤ x15 then some ((1 : Int32)) else some ((-1 : Int32))) | .inr r19 => some ((0 : Int32))) else (gI h u0 8 1).bind fun x20 => (gI h u1 8 1).bind fun x21 => (if x21 ≤ x20 then some ((1 : Int32)) else some ((-1 : Int32))))
set_option maxRecDepth 100000 in
set_option maxHeartbeats 4000000 in
theorem zm_X8_orderSizes (l : Launch) (D : hG) (z : Nat) {h : AH} {u0 : Nat} {u1 : Nat} {r : Int32} (hs : zs_X8_orderSizes h u0 u1 = some r) : hC l D z yX8_orderSizes cX8_orderSizes 3 (Option.some Jvm.ClassFile.FieldType.int) 0 0 0 0 [.ref u0, .ref u1] h h (some (.int r)) := by
  refine hC_of (by decide) (Nat.le_of_ble_eq_true rfl) ?_
  intro p e s m below meth c hx hb hml hrt hlk hown hnm hts hk hr hz ls hl
  replace hown : s.vm.findClass RX8 = some m.cls := hown
  replace hl : lv_has ls 3 [(0, .ref u0), (1, .ref u1)] := hl
  have hS : va_S (hA z) s.heap s.heap [] := va_S.rf
  suffices hgo : ∀ (H : Heap) (locs : List Loc), hR D z h H → va_S (hA z) s.heap H locs → W p l e ({ frames := 0, cells := 0, slots := 0, locals := 0 } : Room) s m ([.ref u0, .ref u1] : List Value).toArray below meth c H locs 0 0 (MQ below (hQ D z h (some (.int r))) ([.ref u0, .ref u1] : List Value).toArray s 0 0 (hA z)) (F0 m 0 ls []) from hgo _ _ hr hS
  clear hr hS
  intro H locs hr hS
  unfold zs_X8_orderSizes at hs
  refine lv_aload_n hx hb dX8_orderSizes_0 rfl (lv_at hl 0 rfl) ?_
  obtain ⟨x1, ex1, hs⟩ := bi_inv hs
  refine hv_gI (C := RX8) (T := TX8) (N := 3) (ci := 8) hx hb hts inX8 hown hk hr rfl 1 (by decide) (hts _ tw_39) ex1 dX8_orderSizes_1 ?_
  refine lv_aload_n hx hb dX8_orderSizes_4 rfl (lv_at hl 1 rfl) ?_
  obtain ⟨x2, ex2, hs⟩ := bi_inv hs
  refine hv_gI (C := RX8) (T := TX8) (N := 3) (ci := 8) hx hb hts inX8 hown hk hr rfl 1 (by decide) (hts _ tw_39) ex2 dX8_orderSizes_5 ?_
  refine lv_icmp_eq (tgt := 28) hx hb dX8_orderSizes_8 (by decide) (fun c3 => ?_) (fun c3 => ?_)
  · rw [if_pos c3] at hs
    refine lv_aload_n hx hb dX8_orderSizes_28 rfl (lv_at hl 0 rfl) ?_
    obtain ⟨x4, ex4, hs⟩ := bi_inv hs
    refine hv_gI (C := RX8) (T := TX8) (N := 3) (ci := 8) hx hb hts inX8 hown hk hr rfl 1 (by decide) (hts _ tw_39) ex4 dX8_orderSizes_29 ?_
    refine lv_iconst (v := 1) hx hb dX8_orderSizes_32 (by decide) ?_
    refine lv_isub hx hb dX8_orderSizes_33 ?_
    refine lv_topi (fun x5 ex5 => ?_)
    replace hs := lt_inv hs x5 ex5
    refine lv_istore_n (lv' := [(2, .int x5), (0, .ref u0), (1, .ref u1)]) hx hb dX8_orderSizes_34 rfl hl (by decide) rfl (fun ls hl => ?_)
    obtain ⟨r12, er12, hs⟩ := bi_inv hs
    refine iter_W (fun (q : Int32) => ∀ (H : Heap) (locs : List Loc) (ls : Array Slot), hR D z h H → va_S (hA z) s.heap H locs → lv_has ls 3 [(0, .ref u0), (1, .ref u1), (2, .int q)] → W p l e ({ frames := 0, cells := 0, slots := 0, locals := 0 } : Room) s m ([.ref u0, .ref u1] : List Value).toArray below meth c H locs 0 0 (MQ below (hQ D z h (some (.int r))) ([.ref u0, .ref u1] : List Value).toArray s 0 0 (hA z)) (F0 m 35 ls [])) (fun (x : Int32 ⊕ Unit) => (Sum.elim (fun x => ∀ (H : Heap) (locs : List Loc) (ls : Array Slot), hR D z h H → va_S (hA z) s.heap H locs → lv_has ls 3 [(0, .ref u0), (1, .ref u1), (2, .int x)] → W p l e ({ frames := 0, cells := 0, slots := 0, locals := 0 } : Room) s m ([.ref u0, .ref u1] : List Value).toArray below meth c H locs 0 0 (MQ below (hQ D z h (some (.int r))) ([.ref u0, .ref u1] : List Value).toArray s 0 0 (hA z)) (F0 m 55 ls [])) (fun x => ∀ (H : Heap) (locs : List Loc) (ls : Array Slot), hR D z h H → va_S (hA z) s.heap H locs → lv_has ls 3 [] → W p l e ({ frames := 0, cells := 0, slots := 0, locals := 0 } : Room) s m ([.ref u0, .ref u1] : List Value).toArray below meth c H locs 0 0 (MQ below (hQ D z h (some (.int r))) ([.ref u0, .ref u1] : List Value).toArray s 0 0 (hA z)) (F0 m 83 ls []))) x) ?_ FU _ r12 er12 ?_ H locs ls hr hS (lv_sub hl [1, 2, 0] rfl)
    · intro q o hs hcont hexit
      obtain ⟨w2, rfl⟩ : ∃ q2, q2 = q := ⟨_, rfl⟩
      replace hs : zb_X8_orderSizes_35 h u0 u1 w2 = some o := hs
      intro H locs ls hr hS hl
      unfold zb_X8_orderSizes_35 at hs
      refine lv_iload_n hx hb dX8_orderSizes_35 rfl (lv_at hl 2 rfl) ?_
      refine lv_if_lt (tgt := 83) hx hb dX8_orderSizes_36 (by decide) (fun c6 => ?_) (fun c6 => ?_)
      · rw [if_pos c6] at hs
        obtain rfl := Option.some.inj hs
        exact hexit _ rfl H locs ls hr hS (lv_sub hl [] rfl)
      · rw [if_neg c6] at hs
        refine lv_aload_n hx hb dX8_orderSizes_39 rfl (lv_at hl 0 rfl) ?_
        obtain ⟨x7, ex7, hs⟩ := bi_inv hs
        refine hv_gR (C := RX8) (T := TX8) (N := 3) (ci := 8) hx hb hts inX8 hown hk hr rfl 0 (by decide) (hts _ tw_36) ex7 dX8_orderSizes_40 ?_
        refine lv_iload_n hx hb dX8_orderSizes_43 rfl (lv_at hl 2 rfl) ?_
        obtain ⟨x8, ex8, hs⟩ := bi_inv hs
        refine hv_aJ hx hb hk hr ex8 dX8_orderSizes_44 ?_
        refine lv_aload_n hx hb dX8_orderSizes_45 rfl (lv_at hl 1 rfl) ?_
        obtain ⟨x9, ex9, hs⟩ := bi_inv hs
        refine hv_gR (C := RX8) (T := TX8) (N := 3) (ci := 8) hx hb hts inX8 hown hk hr rfl 0 (by decide) (hts _ tw_36) ex9 dX8_orderSizes_46 ?_
        refine lv_iload_n hx hb dX8_orderSizes_49 rfl (lv_at hl 2 rfl) ?_
        obtain ⟨x10, ex10, hs⟩ := bi_inv hs
        refine hv_aJ hx hb hk hr ex10 dX8_orderSizes_50 ?_
        refine hv_lc_eq (tgt := 77) hx hb dX8_orderSizes_51 dX8_orderSizes_52 (by decide) (fun c11 => ?_) (fun c11 => ?_)
        · rw [if_pos c11] at hs
          refine lv_iinc (v := w2 + (-1 : Int32)) (lv' := [(2, .int (w2 + (-1 : Int32))), (0, .ref u0), (1, .ref u1)]) hx hb dX8_orderSizes_77 hl (k := 2) rfl (ii_v _ (by decide)) (by decide) rfl (fun ls hl => ?_)
          refine lv_goto (tgt := 35) hx hb dX8_orderSizes_80 (by decide) ?_
          obtain rfl := Option.some.inj hs
          exact hcont _ rfl H locs ls hr hS (lv_sub hl [1, 2, 0] rfl)
        · rw [if_neg c11] at hs
          obtain rfl := Option.some.inj hs
          exact hexit _ rfl H locs ls hr hS (lv_sub hl [0, 1, 2] rfl)
    · cases r12 with
      | inl r13 =>
        intro H locs ls hr hS hl
        replace hs := hs
        dsimp only at hs
        refine lv_aload_n hx hb dX8_orderSizes_55 rfl (lv_at hl 0 rfl) ?_
        obtain ⟨x14, ex14, hs⟩ := bi_inv hs
        refine hv_gR (C := RX8) (T := TX8) (N := 3) (ci := 8) hx hb hts inX8 hown hk hr rfl 0 (by decide) (hts _ tw_36) ex14 dX8_orderSizes_56 ?_
        refine lv_iload_n hx hb dX8_orderSizes_59 rfl (lv_at hl 2 rfl) ?_
        obtain ⟨x15, ex15, hs⟩ := bi_inv hs
        refine hv_aJ hx hb hk hr ex15 dX8_orderSizes_60 ?_
        refine lv_aload_n hx hb dX8_orderSizes_61 rfl (lv_at hl 1 rfl) ?_
        obtain ⟨x16, ex16, hs⟩ := bi_inv hs
        refine hv_gR (C := RX8) (T := TX8) (N := 3) (ci := 8) hx hb hts inX8 hown hk hr rfl 0 (by decide) (hts _ tw_36) ex16 dX8_orderSizes_62 ?_
        refine lv_iload_n hx hb dX8_orderSizes_65 rfl (lv_at hl 2 rfl) ?_
        obtain ⟨x17, ex17, hs⟩ := bi_inv hs
        refine hv_aJ hx hb hk hr ex17 dX8_orderSizes_66 ?_
        refine hv_lc_ge (tgt := 75) hx hb dX8_orderSizes_67 dX8_orderSizes_68 (by decide) (fun c18 => ?_) (fun c18 => ?_)
        · rw [if_pos c18] at hs
          refine lv_iconst (v := 1) hx hb dX8_orderSizes_75 (by decide) ?_
          obtain rfl := Option.some.inj hs
          exact hv_iret hx hb hrt hlk hr hS dX8_orderSizes_76
        · rw [if_neg c18] at hs
          refine lv_iconst (v := (-1)) hx hb dX8_orderSizes_71 (by decide) ?_
          refine lv_goto (tgt := 76) hx hb dX8_orderSizes_72 (by decide) ?_
          obtain rfl := Option.some.inj hs
          exact hv_iret hx hb hrt hlk hr hS dX8_orderSizes_76
      | inr r19 =>
        dsimp only at hs
        intro H locs ls hr hS hl
        refine lv_iconst (v := 0) hx hb dX8_orderSizes_83 (by decide) ?_
        obtain rfl := Option.some.inj hs
        exact hv_iret hx hb hrt hlk hr hS dX8_orderSizes_84
  · rw [if_neg c3] at hs
    refine lv_aload_n hx hb dX8_orderSizes_11 rfl (lv_at hl 0 rfl) ?_
    obtain ⟨x20, ex20, hs⟩ := bi_inv hs
    refine hv_gI (C := RX8) (T := TX8) (N := 3) (ci := 8) hx hb hts inX8 hown hk hr rfl 1 (by decide) (hts _ tw_39) ex20 dX8_orderSizes_12 ?_
    refine lv_aload_n hx hb dX8_orderSizes_15 rfl (lv_at hl 1 rfl) ?_
    obtain ⟨x21, ex21, hs⟩ := bi_inv hs
    refine hv_gI (C := RX8) (T := TX8) (N := 3) (ci := 8) hx hb hts inX8 hown hk hr rfl 1 (by decide) (hts _ tw_39) ex21 dX8_orderSizes_16 ?_
    refine lv_icmp_ge (tgt := 26) hx hb dX8_orderSizes_19 (by decide) (fun c22 => ?_) (fun c22 => ?_)
    · rw [if_pos c22] at hs
      refine lv_iconst (v := 1) hx hb dX8_orderSizes_26 (by decide) ?_
      obtain rfl := Option.some.inj hs
      exact hv_iret hx hb hrt hlk hr hS dX8_orderSizes_27
    · rw [if_neg c22] at hs
      refine lv_iconst (v := (-1)) hx hb dX8_orderSizes_22 (by decide) ?_
      refine lv_goto (tgt := 27) hx hb dX8_orderSizes_23 (by decide) ?_
      obtain rfl := Option.some.inj hs
      exact hv_iret hx hb hrt hlk hr hS dX8_orderSizes_27
theorem dX8_shrink_0 : decode cX8_shrink 0 = .ok (.lconst 0, 1) := by decide +kernel
theorem dX8_shrink_1 : decode cX8_shrink 1 = .ok (.lstore_n 3, 1) := by decide +kernel
theorem dX8_shrink_2 : decode cX8_shrink 2 = .ok (.aload_n 0, 1) := by decide +kernel
theorem dX8_shrink_3 : decode cX8_shrink 3 = .ok (.getfield 15, 3) := by decide +kernel
theorem dX8_shrink_6 : decode cX8_shrink 6 = .ok (.iconst 1, 1) := by decide +kernel
theorem dX8_shrink_7 : decode cX8_shrink 7 = .ok (.isub, 1) := by decide +kernel
theorem dX8_shrink_8 : decode cX8_shrink 8 = .ok (.istore 5, 2) := by decide +kernel
theorem dX8_shrink_10 : decode cX8_shrink 10 = .ok (.iload 5, 2) := by decide +kernel
theorem dX8_shrink_12 : decode cX8_shrink 12 = .ok (.ifCond .lt 48, 3) := by decide +kernel
theorem dX8_shrink_15 : decode cX8_shrink 15 = .ok (.lload_n 3, 1) := by decide +kernel
theorem dX8_shrink_16 : decode cX8_shrink 16 = .ok (.bipush 32, 2) := by decide +kernel
theorem dX8_shrink_18 : decode cX8_shrink 18 = .ok (.lshl, 1) := by decide +kernel
theorem dX8_shrink_19 : decode cX8_shrink 19 = .ok (.aload_n 0, 1) := by decide +kernel
theorem dX8_shrink_20 : decode cX8_shrink 20 = .ok (.getfield 9, 3) := by decide +kernel
theorem dX8_shrink_23 : decode cX8_shrink 23 = .ok (.iload 5, 2) := by decide +kernel
theorem dX8_shrink_25 : decode cX8_shrink 25 = .ok (.laload, 1) := by decide +kernel
theorem dX8_shrink_26 : decode cX8_shrink 26 = .ok (.lor, 1) := by decide +kernel
theorem dX8_shrink_27 : decode cX8_shrink 27 = .ok (.lstore 6, 2) := by decide +kernel
theorem dX8_shrink_29 : decode cX8_shrink 29 = .ok (.lload 6, 2) := by decide +kernel
theorem dX8_shrink_31 : decode cX8_shrink 31 = .ok (.lload_n 1, 1) := by decide +kernel
theorem dX8_shrink_32 : decode cX8_shrink 32 = .ok (.invokestatic 43, 3) := by decide +kernel
theorem dX8_shrink_35 : decode cX8_shrink 35 = .ok (.lstore 8, 2) := by decide +kernel
theorem dX8_shrink_37 : decode cX8_shrink 37 = .ok (.lload 6, 2) := by decide +kernel
theorem dX8_shrink_39 : decode cX8_shrink 39 = .ok (.lload 8, 2) := by decide +kernel
theorem dX8_shrink_41 : decode cX8_shrink 41 = .ok (.lload_n 1, 1) := by decide +kernel
theorem dX8_shrink_42 : decode cX8_shrink 42 = .ok (.lmul, 1) := by decide +kernel
theorem dX8_shrink_43 : decode cX8_shrink 43 = .ok (.lsub, 1) := by decide +kernel
theorem dX8_shrink_44 : decode cX8_shrink 44 = .ok (.lstore_n 3, 1) := by decide +kernel
theorem dX8_shrink_45 : decode cX8_shrink 45 = .ok (.aload_n 0, 1) := by decide +kernel
theorem dX8_shrink_46 : decode cX8_shrink 46 = .ok (.getfield 9, 3) := by decide +kernel
theorem dX8_shrink_49 : decode cX8_shrink 49 = .ok (.iload 5, 2) := by decide +kernel
theorem dX8_shrink_51 : decode cX8_shrink 51 = .ok (.lload 8, 2) := by decide +kernel
theorem dX8_shrink_53 : decode cX8_shrink 53 = .ok (.lastore, 1) := by decide +kernel
theorem dX8_shrink_54 : decode cX8_shrink 54 = .ok (.iinc 5 (-1), 3) := by decide +kernel
theorem dX8_shrink_57 : decode cX8_shrink 57 = .ok (.goto (-47), 3) := by decide +kernel
theorem dX8_shrink_60 : decode cX8_shrink 60 = .ok (.aload_n 0, 1) := by decide +kernel
theorem dX8_shrink_61 : decode cX8_shrink 61 = .ok (.aload_n 0, 1) := by decide +kernel
theorem dX8_shrink_62 : decode cX8_shrink 62 = .ok (.getfield 15, 3) := by decide +kernel
theorem dX8_shrink_65 : decode cX8_shrink 65 = .ok (.invokevirtual 25, 3) := by decide +kernel
theorem dX8_shrink_68 : decode cX8_shrink 68 = .ok (.aload_n 0, 1) := by decide +kernel
theorem dX8_shrink_69 : decode cX8_shrink 69 = .ok (.aload_n 0, 1) := by decide +kernel
theorem dX8_shrink_70 : decode cX8_shrink 70 = .ok (.getfield 19, 3) := by decide +kernel
theorem dX8_shrink_73 : decode cX8_shrink 73 = .ok (.invokevirtual 29, 3) := by decide +kernel
theorem dX8_shrink_76 : decode cX8_shrink 76 = .ok (.lload_n 3, 1) := by decide +kernel
theorem dX8_shrink_77 : decode cX8_shrink 77 = .ok (.lreturn, 1) := by decide +kernel
def zb_X8_shrink_10 (w0 : Nat) (w1 : Int64) (g3 : AH) (w3 : Int64) (w5 : Int32) : Option ((AH × Int64 × Int32) ⊕ ((AH × Int64))) :=
  (if w5 < 0 then some (Sum.inr ((g3, w3))) else (gR g3 w0 8 0).bind fun x5 => (aJ g3 x5 1 w5).bind fun x6 => lt_ ((w3 <<< (((32 : Int32)).toInt64 &&& 63)) ||| x6) fun x7 => (zs_X8_quotientOfBits g3 x7 w1).bind fun x8 => lt_ (x7 - (x8 * w1)) fun x9 => (gR g3 w0 8 0).bind fun x10 => (sJ g3 x10 1 w5 x8).bind fun g11 => some (Sum.inl ((g11, x9, w5 + (-1 : Int32)))))
def zs_X8_shrink (h : AH) (u0 : Nat) (u1 : Int64) : Option (Int64 × AH) :=
  (gI h u0 8 1).bind fun x1 => lt_ (x1 - ((1 : Int32))) fun x2 => (iter (fun q : AH × Int64 × Int32 => zb_X8_shrink_10 u0 u1 q.1 q.2.1 q.2.2) FU ((h, (0 : Int64), x2))).bind fun r12 => (gI r12.1 u0 8 1).bind fun x13 => (chk r12.1 u0 8).bind fun _ => (zs_X8_trim r12.1 u0 x13).bind fun g15 => (gI g15 u0 8 2).bind fun x16 => (chk g15 u0 8).bind fun _ => (zs_X8_takeSign g15 u0 x16).bind fun g18 => some (r12.2, g18)
set_option maxRecDepth 100000 in
set_option maxHeartbeats 4000000 in
theorem zm_X8_shrink (l : Launch) (D : hG) (z : Nat) {h : AH} {u0 : Nat} {u1 : Int64} {r : Int64} {h' : AH} (hs : zs_X8_shrink h u0 u1 = some (r, h')) : hC l D z yX8_shrink cX8_shrink 10 (Option.some Jvm.ClassFile.FieldType.long) 1 25 0 0 [.ref u0, .long u1] h h' (some (.long r)) := by
  refine hC_of (by decide) (Nat.le_of_ble_eq_true rfl) ?_
  intro p e s m below meth c hx hb hml hrt hlk hown hnm hts hk hr hz ls hl
  replace hown : s.vm.findClass RX8 = some m.cls := hown
  replace hl : lv_has ls 10 [(0, .ref u0), (1, .long u1)] := hl
  have hS : va_S (hA z) s.heap s.heap [] := va_S.rf
  suffices hgo : ∀ (H : Heap) (locs : List Loc), hR D z h H → va_S (hA z) s.heap H locs → W p l e ({ frames := 1, cells := 0, slots := 0, locals := 25 } : Room) s m ([.ref u0, .long u1] : List Value).toArray below meth c H locs 0 0 (MQ below (hQ D z h' (some (.long r))) ([.ref u0, .long u1] : List Value).toArray s 0 0 (hA z)) (F0 m 0 ls []) from hgo _ _ hr hS
  clear hr hS
  intro H locs hr hS
  unfold zs_X8_shrink at hs
  refine lv_lconst (v := 0) hx hb dX8_shrink_0 (by decide) ?_
  refine lv_lstore_n (lv' := [(3, .long ((0 : Int64))), (0, .ref u0), (1, .long u1)]) hx hb dX8_shrink_1 rfl hl (by decide) rfl (fun ls hl => ?_)
  refine lv_aload_n hx hb dX8_shrink_2 rfl (lv_at hl 1 rfl) ?_
  obtain ⟨x1, ex1, hs⟩ := bi_inv hs
  refine hv_gI (C := RX8) (T := TX8) (N := 3) (ci := 8) hx hb hts inX8 hown hk hr rfl 1 (by decide) (hts _ tw_39) ex1 dX8_shrink_3 ?_
  refine lv_iconst (v := 1) hx hb dX8_shrink_6 (by decide) ?_
  refine lv_isub hx hb dX8_shrink_7 ?_
  refine lv_topi (fun x2 ex2 => ?_)
  replace hs := lt_inv hs x2 ex2
  refine lv_istore (lv' := [(5, .int x2), (3, .long ((0 : Int64))), (0, .ref u0), (1, .long u1)]) hx hb dX8_shrink_8 hl (by decide) rfl (fun ls hl => ?_)
  obtain ⟨r12, er12, hs⟩ := bi_inv hs
  refine iter_W (fun (q : AH × Int64 × Int32) => ∀ (H : Heap) (locs : List Loc) (ls : Array Slot), hR D z q.1 H → va_S (hA z) s.heap H locs → lv_has ls 10 [(0, .ref u0), (1, .long u1), (3, .long q.2.1), (5, .int q.2.2)] → W p l e ({ frames := 1, cells := 0, slots := 0, locals := 25 } : Room) s m ([.ref u0, .long u1] : List Value).toArray below meth c H locs 0 0 (MQ below (hQ D z h' (some (.long r))) ([.ref u0, .long u1] : List Value).toArray s 0 0 (hA z)) (F0 m 10 ls [])) (fun (x : (AH × Int64)) => ∀ (H : Heap) (locs : List Loc) (ls : Array Slot), hR D z x.1 H → va_S (hA z) s.heap H locs → lv_has ls 10 [(0, .ref u0), (3, .long x.2)] → W p l e ({ frames := 1, cells := 0, slots := 0, locals := 25 } : Room) s m ([.ref u0, .long u1] : List Value).toArray below meth c H locs 0 0 (MQ below (hQ D z h' (some (.long r))) ([.ref u0, .long u1] : List Value).toArray s 0 0 (hA z)) (F0 m 60 ls [])) ?_ FU _ r12 er12 ?_ H locs ls hr hS (lv_sub hl [2, 3, 1, 0] rfl)
  · intro q o hs hcont hexit
    obtain ⟨g3, w3, w5⟩ := q
    replace hs : zb_X8_shrink_10 u0 u1 g3 w3 w5 = some o := hs
    intro H locs ls hr hS hl
    unfold zb_X8_shrink_10 at hs
    refine lv_iload hx hb dX8_shrink_10 (lv_at hl 3 rfl) ?_
    refine lv_if_lt (tgt := 60) hx hb dX8_shrink_12 (by decide) (fun c4 => ?_) (fun c4 => ?_)
    · rw [if_pos c4] at hs
      obtain rfl := Option.some.inj hs
      exact hexit _ rfl H locs ls hr hS (lv_sub hl [0, 2] rfl)
    · rw [if_neg c4] at hs
      refine lv_lload_n hx hb dX8_shrink_15 rfl (lv_at hl 2 rfl) ?_
      refine lv_bipush (v := 32) hx hb dX8_shrink_16 (by decide) ?_
      refine lv_lshl hx hb dX8_shrink_18 rfl ?_
      refine lv_aload_n hx hb dX8_shrink_19 rfl (lv_at hl 0 rfl) ?_
      obtain ⟨x5, ex5, hs⟩ := bi_inv hs
      refine hv_gR (C := RX8) (T := TX8) (N := 3) (ci := 8) hx hb hts inX8 hown hk hr rfl 0 (by decide) (hts _ tw_36) ex5 dX8_shrink_20 ?_
      refine lv_iload hx hb dX8_shrink_23 (lv_at hl 3 rfl) ?_
      obtain ⟨x6, ex6, hs⟩ := bi_inv hs
      refine hv_aJ hx hb hk hr ex6 dX8_shrink_25 ?_
      refine lv_lor hx hb dX8_shrink_26 ?_
      refine lv_topl (fun x7 ex7 => ?_)
      replace hs := lt_inv hs x7 ex7
      refine lv_lstore (lv' := [(6, .long x7), (0, .ref u0), (1, .long u1), (3, .long w3), (5, .int w5)]) hx hb dX8_shrink_27 hl (by decide) rfl (fun ls hl => ?_)
      refine lv_lload hx hb dX8_shrink_29 (lv_at hl 0 rfl) ?_
      refine lv_lload_n hx hb dX8_shrink_31 rfl (lv_at hl 2 rfl) ?_
      obtain ⟨x8, ex8, hs⟩ := bi_inv hs
      refine hv_S1 (n := 2) [.long x7, .long u1] [] hx hb hml hown hts hk hr hz hS (zm_X8_quotientOfBits l D z ex8) tw_389 tw_390 tw_2 tw_391 (by decide +kernel) (by decide) ⟨(Nat.zero_le _), (Nat.zero_le _)⟩ rfl hl.1 (Nat.le_of_ble_eq_true rfl) dX8_shrink_32 rfl (fun H locs hr hS => ?_)
      refine lv_lstore (lv' := [(8, .long x8), (6, .long x7), (0, .ref u0), (1, .long u1), (3, .long w3), (5, .int w5)]) hx hb dX8_shrink_35 hl (by decide) rfl (fun ls hl => ?_)
      refine lv_lload hx hb dX8_shrink_37 (lv_at hl 1 rfl) ?_
      refine lv_lload hx hb dX8_shrink_39 (lv_at hl 0 rfl) ?_
      refine lv_lload_n hx hb dX8_shrink_41 rfl (lv_at hl 3 rfl) ?_
      refine lv_lmul hx hb dX8_shrink_42 ?_
      refine lv_lsub hx hb dX8_shrink_43 ?_
      refine lv_topl (fun x9 ex9 => ?_)
      replace hs := lt_inv hs x9 ex9
      refine lv_lstore_n (lv' := [(3, .long x9), (8, .long x8), (6, .long x7), (0, .ref u0), (1, .long u1), (5, .int w5)]) hx hb dX8_shrink_44 rfl hl (by decide) rfl (fun ls hl => ?_)
      refine lv_aload_n hx hb dX8_shrink_45 rfl (lv_at hl 3 rfl) ?_
      obtain ⟨x10, ex10, hs⟩ := bi_inv hs
      refine hv_gR (C := RX8) (T := TX8) (N := 3) (ci := 8) hx hb hts inX8 hown hk hr rfl 0 (by decide) (hts _ tw_36) ex10 dX8_shrink_46 ?_
      refine lv_iload hx hb dX8_shrink_49 (lv_at hl 5 rfl) ?_
      refine lv_lload hx hb dX8_shrink_51 (lv_at hl 1 rfl) ?_
      obtain ⟨g11, eg11, hs⟩ := bi_inv hs
      refine hv_sJ hx hb hk hr hS eg11 dX8_shrink_53 (fun H locs hr hS => ?_)
      refine lv_iinc (v := w5 + (-1 : Int32)) (lv' := [(5, .int (w5 + (-1 : Int32))), (3, .long x9), (8, .long x8), (6, .long x7), (0, .ref u0), (1, .long u1)]) hx hb dX8_shrink_54 hl (k := 5) rfl (ii_v _ (by decide)) (by decide) rfl (fun ls hl => ?_)
      refine lv_goto (tgt := 10) hx hb dX8_shrink_57 (by decide) ?_
      obtain rfl := Option.some.inj hs
      exact hcont _ rfl H locs ls hr hS (lv_sub hl [4, 5, 1, 0] rfl)
  · intro H locs ls hr hS hl
    refine lv_aload_n hx hb dX8_shrink_60 rfl (lv_at hl 0 rfl) ?_
    refine lv_aload_n hx hb dX8_shrink_61 rfl (lv_at hl 0 rfl) ?_
    obtain ⟨x13, ex13, hs⟩ := bi_inv hs
    refine hv_gI (C := RX8) (T := TX8) (N := 3) (ci := 8) hx hb hts inX8 hown hk hr rfl 1 (by decide) (hts _ tw_39) ex13 dX8_shrink_62 ?_
    obtain ⟨_, ex14, hs⟩ := bi_inv hs
    obtain ⟨g15, eg15, hs⟩ := bi_inv hs
    refine hv_V0 (n := 1) [.int x13] [] hx hb hml hown hts hk hr hz hS (zm_X8_trim l D z eg15) ex14 rfl tw_70 tw_71 tw_72 tw_2 tw_73 (by decide +kernel) (by decide) ⟨(Nat.zero_le _), (Nat.zero_le _)⟩ rfl hl.1 (Nat.le_of_ble_eq_true rfl) dX8_shrink_65 rfl (fun H locs hr hS => ?_)
    refine lv_aload_n hx hb dX8_shrink_68 rfl (lv_at hl 0 rfl) ?_
    refine lv_aload_n hx hb dX8_shrink_69 rfl (lv_at hl 0 rfl) ?_
    obtain ⟨x16, ex16, hs⟩ := bi_inv hs
    refine hv_gI (C := RX8) (T := TX8) (N := 3) (ci := 8) hx hb hts inX8 hown hk hr rfl 2 (by decide) (hts _ tw_42) ex16 dX8_shrink_70 ?_
    obtain ⟨_, ex17, hs⟩ := bi_inv hs
    obtain ⟨g18, eg18, hs⟩ := bi_inv hs
    refine hv_V0 (n := 1) [.int x16] [] hx hb hml hown hts hk hr hz hS (zm_X8_takeSign l D z eg18) ex17 rfl tw_74 tw_75 tw_76 tw_2 tw_77 (by decide +kernel) (by decide) ⟨(Nat.zero_le _), (Nat.zero_le _)⟩ rfl hl.1 (Nat.le_of_ble_eq_true rfl) dX8_shrink_73 rfl (fun H locs hr hS => ?_)
    refine lv_lload_n hx hb dX8_shrink_76 rfl (lv_at hl 1 rfl) ?_
    obtain ⟨rfl, rfl⟩ := Prod.mk.inj (Option.some.inj hs)
    exact hv_lret hx hb hrt hlk hr hS dX8_shrink_77
theorem dX8_addSizes_0 : decode cX8_addSizes 0 = .ok (.aload_n 0, 1) := by decide +kernel
theorem dX8_addSizes_1 : decode cX8_addSizes 1 = .ok (.getfield 15, 3) := by decide +kernel
theorem dX8_addSizes_4 : decode cX8_addSizes 4 = .ok (.aload_n 1, 1) := by decide +kernel
theorem dX8_addSizes_5 : decode cX8_addSizes 5 = .ok (.getfield 15, 3) := by decide +kernel
theorem dX8_addSizes_8 : decode cX8_addSizes 8 = .ok (.invokestatic 67, 3) := by decide +kernel
theorem dX8_addSizes_11 : decode cX8_addSizes 11 = .ok (.bipush 25, 2) := by decide +kernel
theorem dX8_addSizes_13 : decode cX8_addSizes 13 = .ok (.invokestatic 73, 3) := by decide +kernel
theorem dX8_addSizes_16 : decode cX8_addSizes 16 = .ok (.istore_n 3, 1) := by decide +kernel
theorem dX8_addSizes_17 : decode cX8_addSizes 17 = .ok (.lconst 0, 1) := by decide +kernel
theorem dX8_addSizes_18 : decode cX8_addSizes 18 = .ok (.lstore 4, 2) := by decide +kernel
theorem dX8_addSizes_20 : decode cX8_addSizes 20 = .ok (.iconst 0, 1) := by decide +kernel
theorem dX8_addSizes_21 : decode cX8_addSizes 21 = .ok (.istore 6, 2) := by decide +kernel
theorem dX8_addSizes_23 : decode cX8_addSizes 23 = .ok (.iload 6, 2) := by decide +kernel
theorem dX8_addSizes_25 : decode cX8_addSizes 25 = .ok (.iload_n 3, 1) := by decide +kernel
theorem dX8_addSizes_26 : decode cX8_addSizes 26 = .ok (.if_icmp .ge 47, 3) := by decide +kernel
theorem dX8_addSizes_29 : decode cX8_addSizes 29 = .ok (.aload_n 0, 1) := by decide +kernel
theorem dX8_addSizes_30 : decode cX8_addSizes 30 = .ok (.iload 6, 2) := by decide +kernel
theorem dX8_addSizes_32 : decode cX8_addSizes 32 = .ok (.invokevirtual 33, 3) := by decide +kernel
theorem dX8_addSizes_35 : decode cX8_addSizes 35 = .ok (.aload_n 1, 1) := by decide +kernel
theorem dX8_addSizes_36 : decode cX8_addSizes 36 = .ok (.iload 6, 2) := by decide +kernel
theorem dX8_addSizes_38 : decode cX8_addSizes 38 = .ok (.invokevirtual 33, 3) := by decide +kernel
theorem dX8_addSizes_41 : decode cX8_addSizes 41 = .ok (.ladd, 1) := by decide +kernel
theorem dX8_addSizes_42 : decode cX8_addSizes 42 = .ok (.lload 4, 2) := by decide +kernel
theorem dX8_addSizes_44 : decode cX8_addSizes 44 = .ok (.ladd, 1) := by decide +kernel
theorem dX8_addSizes_45 : decode cX8_addSizes 45 = .ok (.lstore 7, 2) := by decide +kernel
theorem dX8_addSizes_47 : decode cX8_addSizes 47 = .ok (.aload_n 2, 1) := by decide +kernel
theorem dX8_addSizes_48 : decode cX8_addSizes 48 = .ok (.getfield 9, 3) := by decide +kernel
theorem dX8_addSizes_51 : decode cX8_addSizes 51 = .ok (.iload 6, 2) := by decide +kernel
theorem dX8_addSizes_53 : decode cX8_addSizes 53 = .ok (.lload 7, 2) := by decide +kernel
theorem dX8_addSizes_55 : decode cX8_addSizes 55 = .ok (.ldc2_w 23, 3) := by decide +kernel
theorem dX8_addSizes_58 : decode cX8_addSizes 58 = .ok (.land, 1) := by decide +kernel
theorem dX8_addSizes_59 : decode cX8_addSizes 59 = .ok (.lastore, 1) := by decide +kernel
theorem dX8_addSizes_60 : decode cX8_addSizes 60 = .ok (.lload 7, 2) := by decide +kernel
theorem dX8_addSizes_62 : decode cX8_addSizes 62 = .ok (.bipush 32, 2) := by decide +kernel
theorem dX8_addSizes_64 : decode cX8_addSizes 64 = .ok (.lushr, 1) := by decide +kernel
theorem dX8_addSizes_65 : decode cX8_addSizes 65 = .ok (.lstore 4, 2) := by decide +kernel
theorem dX8_addSizes_67 : decode cX8_addSizes 67 = .ok (.iinc 6 1, 3) := by decide +kernel
theorem dX8_addSizes_70 : decode cX8_addSizes 70 = .ok (.goto (-47), 3) := by decide +kernel
theorem dX8_addSizes_73 : decode cX8_addSizes 73 = .ok (.aload_n 2, 1) := by decide +kernel
theorem dX8_addSizes_74 : decode cX8_addSizes 74 = .ok (.getfield 9, 3) := by decide +kernel
theorem dX8_addSizes_77 : decode cX8_addSizes 77 = .ok (.iload_n 3, 1) := by decide +kernel
theorem dX8_addSizes_78 : decode cX8_addSizes 78 = .ok (.lload 4, 2) := by decide +kernel
theorem dX8_addSizes_80 : decode cX8_addSizes 80 = .ok (.lastore, 1) := by decide +kernel
theorem dX8_addSizes_81 : decode cX8_addSizes 81 = .ok (.aload_n 2, 1) := by decide +kernel
theorem dX8_addSizes_82 : decode cX8_addSizes 82 = .ok (.iload_n 3, 1) := by decide +kernel
theorem dX8_addSizes_83 : decode cX8_addSizes 83 = .ok (.iconst 1, 1) := by decide +kernel
theorem dX8_addSizes_84 : decode cX8_addSizes 84 = .ok (.iadd, 1) := by decide +kernel
theorem dX8_addSizes_85 : decode cX8_addSizes 85 = .ok (.invokevirtual 25, 3) := by decide +kernel
theorem dX8_addSizes_88 : decode cX8_addSizes 88 = .ok (.return_, 1) := by decide +kernel
def zb_X8_addSizes_23 (w0 : Nat) (w1 : Nat) (w2 : Nat) (w3 : Int32) (g5 : AH) (w4 : Int64) (w6 : Int32) : Option ((AH × Int64 × Int32) ⊕ ((AH × Int64))) :=
  (if w3 ≤ w6 then some (Sum.inr ((g5, w4))) else (chk g5 w0 8).bind fun _ => (zs_X8_partAt g5 w0 w6).bind fun x8 => (chk g5 w1 8).bind fun _ => (zs_X8_partAt g5 w1 w6).bind fun x10 => lt_ ((x8 + x10) + w4) fun x11 => (gR g5 w2 8 0).bind fun x12 => (sJ g5 x12 1 w6 (x11 &&& ((4294967295 : Int64)))).bind fun g13 => lt_ ((x11.toUInt64 >>> (((32 : Int32)).toInt64.toUInt64 &&& Int64.toUInt64 63)).toInt64) fun x14 => some (Sum.inl ((g13, x14, w6 + (1 : Int32)))))
def zs_X8_addSizes (h : AH) (u0 : Nat) (u1 : Nat) (u2 : Nat) : Option AH :=
  (gI h u0 8 1).bind fun x1 => (gI h u1 8 1).bind fun x2 => lt_ (if x1 < x2 then x2 else x1) fun x3 => lt_ (if (25 : Int32) < x3 then (25 : Int32) else x3) fun x4 => (iter (fun q : AH × Int64 × Int32 => zb_X8_addSizes_23 u0 u1 u2 x4 q.1 q.2.1 q.2.2) FU ((h, (0 : Int64), (0 : Int32)))).bind fun r15 => (gR r15.1 u2 8 0).bind fun x16 => (sJ r15.1 x16 1 x4 r15.2).bind fun g17 => (chk g17 u2 8).bind fun _ => (zs_X8_trim g17 u2 (x4 + ((1 : Int32)))).bind fun g19 => some g19
set_option maxRecDepth 100000 in
set_option maxHeartbeats 4000000 in
theorem zm_X8_addSizes (l : Launch) (D : hG) (z : Nat) {h : AH} {u0 : Nat} {u1 : Nat} {u2 : Nat} {h' : AH} (hs : zs_X8_addSizes h u0 u1 u2 = some h') : hC l D z yX8_addSizes cX8_addSizes 9 (Option.none : Option Jvm.ClassFile.FieldType) 1 21 0 0 [.ref u0, .ref u1, .ref u2] h h' none := by
  refine hC_of (by decide) (Nat.le_of_ble_eq_true rfl) ?_
  intro p e s m below meth c hx hb hml hrt hlk hown hnm hts hk hr hz ls hl
  replace hown : s.vm.findClass RX8 = some m.cls := hown
  replace hl : lv_has ls 9 [(0, .ref u0), (1, .ref u1), (2, .ref u2)] := hl
  have hS : va_S (hA z) s.heap s.heap [] := va_S.rf
  suffices hgo : ∀ (H : Heap) (locs : List Loc), hR D z h H → va_S (hA z) s.heap H locs → W p l e ({ frames := 1, cells := 0, slots := 0, locals := 21 } : Room) s m ([.ref u0, .ref u1, .ref u2] : List Value).toArray below meth c H locs 0 0 (MQ below (hQ D z h' none) ([.ref u0, .ref u1, .ref u2] : List Value).toArray s 0 0 (hA z)) (F0 m 0 ls []) from hgo _ _ hr hS
  clear hr hS
  intro H locs hr hS
  unfold zs_X8_addSizes at hs
  refine lv_aload_n hx hb dX8_addSizes_0 rfl (lv_at hl 0 rfl) ?_
  obtain ⟨x1, ex1, hs⟩ := bi_inv hs
  refine hv_gI (C := RX8) (T := TX8) (N := 3) (ci := 8) hx hb hts inX8 hown hk hr rfl 1 (by decide) (hts _ tw_39) ex1 dX8_addSizes_1 ?_
  refine lv_aload_n hx hb dX8_addSizes_4 rfl (lv_at hl 1 rfl) ?_
  obtain ⟨x2, ex2, hs⟩ := bi_inv hs
  refine hv_gI (C := RX8) (T := TX8) (N := 3) (ci := 8) hx hb hts inX8 hown hk hr rfl 1 (by decide) (hts _ tw_39) ex2 dX8_addSizes_5 ?_
  refine va_mmax hx hb (hml.trans hl.1.symm) hown (hts _ tw_459) (hts _ tw_460) (hts _ tw_15) (hts _ tw_461) (by decide) (Nat.le_of_ble_eq_true rfl) (Nat.zero_le _) (Nat.zero_le _) dX8_addSizes_8 ?_
  refine lv_topi (fun x3 ex3 => ?_)
  replace hs := lt_inv hs x3 ex3
  refine lv_bipush (v := 25) hx hb dX8_addSizes_11 (by decide) ?_
  refine va_mmin hx hb (hml.trans hl.1.symm) hown (hts _ tw_462) (hts _ tw_463) (hts _ tw_15) (hts _ tw_464) (by decide) (Nat.le_of_ble_eq_true rfl) (Nat.zero_le _) (Nat.zero_le _) dX8_addSizes_13 ?_
  refine lv_topi (fun x4 ex4 => ?_)
  replace hs := lt_inv hs x4 ex4
  refine lv_istore_n (lv' := [(3, .int x4), (0, .ref u0), (1, .ref u1), (2, .ref u2)]) hx hb dX8_addSizes_16 rfl hl (by decide) rfl (fun ls hl => ?_)
  refine lv_lconst (v := 0) hx hb dX8_addSizes_17 (by decide) ?_
  refine lv_lstore (lv' := [(4, .long ((0 : Int64))), (3, .int x4), (0, .ref u0), (1, .ref u1), (2, .ref u2)]) hx hb dX8_addSizes_18 hl (by decide) rfl (fun ls hl => ?_)
  refine lv_iconst (v := 0) hx hb dX8_addSizes_20 (by decide) ?_
  refine lv_istore (lv' := [(6, .int ((0 : Int32))), (4, .long ((0 : Int64))), (3, .int x4), (0, .ref u0), (1, .ref u1), (2, .ref u2)]) hx hb dX8_addSizes_21 hl (by decide) rfl (fun ls hl => ?_)
  obtain ⟨r15, er15, hs⟩ := bi_inv hs
  refine iter_W (fun (q : AH × Int64 × Int32) => ∀ (H : Heap) (locs : List Loc) (ls : Array Slot), hR D z q.1 H → va_S (hA z) s.heap H locs → lv_has ls 9 [(0, .ref u0), (1, .ref u1), (2, .ref u2), (3, .int x4), (4, .long q.2.1), (6, .int q.2.2)] → W p l e ({ frames := 1, cells := 0, slots := 0, locals := 21 } : Room) s m ([.ref u0, .ref u1, .ref u2] : List Value).toArray below meth c H locs 0 0 (MQ below (hQ D z h' none) ([.ref u0, .ref u1, .ref u2] : List Value).toArray s 0 0 (hA z)) (F0 m 23 ls [])) (fun (x : (AH × Int64)) => ∀ (H : Heap) (locs : List Loc) (ls : Array Slot), hR D z x.1 H → va_S (hA z) s.heap H locs → lv_has ls 9 [(2, .ref u2), (3, .int x4), (4, .long x.2)] → W p l e ({ frames := 1, cells := 0, slots := 0, locals := 21 } : Room) s m ([.ref u0, .ref u1, .ref u2] : List Value).toArray below meth c H locs 0 0 (MQ below (hQ D z h' none) ([.ref u0, .ref u1, .ref u2] : List Value).toArray s 0 0 (hA z)) (F0 m 73 ls [])) ?_ FU _ r15 er15 ?_ H locs ls hr hS (lv_sub hl [3, 4, 5, 2, 1, 0] rfl)
  · intro q o hs hcont hexit
    obtain ⟨g5, w4, w6⟩ := q
    replace hs : zb_X8_addSizes_23 u0 u1 u2 x4 g5 w4 w6 = some o := hs
    intro H locs ls hr hS hl
    unfold zb_X8_addSizes_23 at hs
    refine lv_iload hx hb dX8_addSizes_23 (lv_at hl 5 rfl) ?_
    refine lv_iload_n hx hb dX8_addSizes_25 rfl (lv_at hl 3 rfl) ?_
    refine lv_icmp_ge (tgt := 73) hx hb dX8_addSizes_26 (by decide) (fun c6 => ?_) (fun c6 => ?_)
    · rw [if_pos c6] at hs
      obtain rfl := Option.some.inj hs
      exact hexit _ rfl H locs ls hr hS (lv_sub hl [2, 3, 4] rfl)
    · rw [if_neg c6] at hs
      refine lv_aload_n hx hb dX8_addSizes_29 rfl (lv_at hl 0 rfl) ?_
      refine lv_iload hx hb dX8_addSizes_30 (lv_at hl 5 rfl) ?_
      obtain ⟨_, ex7, hs⟩ := bi_inv hs
      obtain ⟨x8, ex8, hs⟩ := bi_inv hs
      refine hv_V1 (n := 1) [.int w6] [] hx hb hml hown hts hk hr hz hS (zm_X8_partAt l D z ex8) ex7 rfl tw_415 tw_416 tw_417 tw_2 tw_418 (by decide +kernel) (by decide) ⟨(Nat.zero_le _), (Nat.zero_le _)⟩ rfl hl.1 (Nat.le_of_ble_eq_true rfl) dX8_addSizes_32 rfl (fun H locs hr hS => ?_)
      refine lv_aload_n hx hb dX8_addSizes_35 rfl (lv_at hl 1 rfl) ?_
      refine lv_iload hx hb dX8_addSizes_36 (lv_at hl 5 rfl) ?_
      obtain ⟨_, ex9, hs⟩ := bi_inv hs
      obtain ⟨x10, ex10, hs⟩ := bi_inv hs
      refine hv_V1 (n := 1) [.int w6] [.long x8] hx hb hml hown hts hk hr hz hS (zm_X8_partAt l D z ex10) ex9 rfl tw_415 tw_416 tw_417 tw_2 tw_418 (by decide +kernel) (by decide) ⟨(Nat.zero_le _), (Nat.zero_le _)⟩ rfl hl.1 (Nat.le_of_ble_eq_true rfl) dX8_addSizes_38 rfl (fun H locs hr hS => ?_)
      refine lv_ladd hx hb dX8_addSizes_41 ?_
      refine lv_lload hx hb dX8_addSizes_42 (lv_at hl 4 rfl) ?_
      refine lv_ladd hx hb dX8_addSizes_44 ?_
      refine lv_topl (fun x11 ex11 => ?_)
      replace hs := lt_inv hs x11 ex11
      refine lv_lstore (lv' := [(7, .long x11), (0, .ref u0), (1, .ref u1), (2, .ref u2), (3, .int x4), (4, .long w4), (6, .int w6)]) hx hb dX8_addSizes_45 hl (by decide) rfl (fun ls hl => ?_)
      refine lv_aload_n hx hb dX8_addSizes_47 rfl (lv_at hl 3 rfl) ?_
      obtain ⟨x12, ex12, hs⟩ := bi_inv hs
      refine hv_gR (C := RX8) (T := TX8) (N := 3) (ci := 8) hx hb hts inX8 hown hk hr rfl 0 (by decide) (hts _ tw_36) ex12 dX8_addSizes_48 ?_
      refine lv_iload hx hb dX8_addSizes_51 (lv_at hl 6 rfl) ?_
      refine lv_lload hx hb dX8_addSizes_53 (lv_at hl 0 rfl) ?_
      refine lv_ldc2 hx hb hown (hts _ tw_69) dX8_addSizes_55 ?_
      refine lv_land hx hb dX8_addSizes_58 ?_
      obtain ⟨g13, eg13, hs⟩ := bi_inv hs
      refine hv_sJ hx hb hk hr hS eg13 dX8_addSizes_59 (fun H locs hr hS => ?_)
      refine lv_lload hx hb dX8_addSizes_60 (lv_at hl 0 rfl) ?_
      refine lv_bipush (v := 32) hx hb dX8_addSizes_62 (by decide) ?_
      refine lv_lushr hx hb dX8_addSizes_64 rfl ?_
      refine lv_topl (fun x14 ex14 => ?_)
      replace hs := lt_inv hs x14 ex14
      refine lv_lstore (lv' := [(4, .long x14), (7, .long x11), (0, .ref u0), (1, .ref u1), (2, .ref u2), (3, .int x4), (6, .int w6)]) hx hb dX8_addSizes_65 hl (by decide) rfl (fun ls hl => ?_)
      refine lv_iinc (v := w6 + (1 : Int32)) (lv' := [(6, .int (w6 + (1 : Int32))), (4, .long x14), (7, .long x11), (0, .ref u0), (1, .ref u1), (2, .ref u2), (3, .int x4)]) hx hb dX8_addSizes_67 hl (k := 6) rfl (ii_v _ (by decide)) (by decide) rfl (fun ls hl => ?_)
      refine lv_goto (tgt := 23) hx hb dX8_addSizes_70 (by decide) ?_
      obtain rfl := Option.some.inj hs
      exact hcont _ rfl H locs ls hr hS (lv_sub hl [3, 4, 5, 6, 1, 0] rfl)
  · intro H locs ls hr hS hl
    refine lv_aload_n hx hb dX8_addSizes_73 rfl (lv_at hl 0 rfl) ?_
    obtain ⟨x16, ex16, hs⟩ := bi_inv hs
    refine hv_gR (C := RX8) (T := TX8) (N := 3) (ci := 8) hx hb hts inX8 hown hk hr rfl 0 (by decide) (hts _ tw_36) ex16 dX8_addSizes_74 ?_
    refine lv_iload_n hx hb dX8_addSizes_77 rfl (lv_at hl 1 rfl) ?_
    refine lv_lload hx hb dX8_addSizes_78 (lv_at hl 2 rfl) ?_
    obtain ⟨g17, eg17, hs⟩ := bi_inv hs
    refine hv_sJ hx hb hk hr hS eg17 dX8_addSizes_80 (fun H locs hr hS => ?_)
    refine lv_aload_n hx hb dX8_addSizes_81 rfl (lv_at hl 0 rfl) ?_
    refine lv_iload_n hx hb dX8_addSizes_82 rfl (lv_at hl 1 rfl) ?_
    refine lv_iconst (v := 1) hx hb dX8_addSizes_83 (by decide) ?_
    refine lv_iadd hx hb dX8_addSizes_84 ?_
    obtain ⟨_, ex18, hs⟩ := bi_inv hs
    obtain ⟨g19, eg19, hs⟩ := bi_inv hs
    refine hv_V0 (n := 1) [.int (x4 + ((1 : Int32)))] [] hx hb hml hown hts hk hr hz hS (zm_X8_trim l D z eg19) ex18 rfl tw_70 tw_71 tw_72 tw_2 tw_73 (by decide +kernel) (by decide) ⟨(Nat.zero_le _), (Nat.zero_le _)⟩ rfl hl.1 (Nat.le_of_ble_eq_true rfl) dX8_addSizes_85 rfl (fun H locs hr hS => ?_)
    obtain rfl := Option.some.inj hs
    exact hv_vret hx hb hrt hlk hr hS dX8_addSizes_88
theorem dX8_subtractSizes_0 : decode cX8_subtractSizes 0 = .ok (.aload_n 0, 1) := by decide +kernel
theorem dX8_subtractSizes_1 : decode cX8_subtractSizes 1 = .ok (.getfield 15, 3) := by decide +kernel
theorem dX8_subtractSizes_4 : decode cX8_subtractSizes 4 = .ok (.istore_n 3, 1) := by decide +kernel
theorem dX8_subtractSizes_5 : decode cX8_subtractSizes 5 = .ok (.lconst 0, 1) := by decide +kernel
theorem dX8_subtractSizes_6 : decode cX8_subtractSizes 6 = .ok (.lstore 4, 2) := by decide +kernel
theorem dX8_subtractSizes_8 : decode cX8_subtractSizes 8 = .ok (.iconst 0, 1) := by decide +kernel
theorem dX8_subtractSizes_9 : decode cX8_subtractSizes 9 = .ok (.istore 6, 2) := by decide +kernel
theorem dX8_subtractSizes_11 : decode cX8_subtractSizes 11 = .ok (.iload 6, 2) := by decide +kernel
theorem dX8_subtractSizes_13 : decode cX8_subtractSizes 13 = .ok (.iload_n 3, 1) := by decide +kernel
theorem dX8_subtractSizes_14 : decode cX8_subtractSizes 14 = .ok (.if_icmp .ge 54, 3) := by decide +kernel
theorem dX8_subtractSizes_17 : decode cX8_subtractSizes 17 = .ok (.aload_n 0, 1) := by decide +kernel
theorem dX8_subtractSizes_18 : decode cX8_subtractSizes 18 = .ok (.iload 6, 2) := by decide +kernel
theorem dX8_subtractSizes_20 : decode cX8_subtractSizes 20 = .ok (.invokevirtual 33, 3) := by decide +kernel
theorem dX8_subtractSizes_23 : decode cX8_subtractSizes 23 = .ok (.aload_n 1, 1) := by decide +kernel
theorem dX8_subtractSizes_24 : decode cX8_subtractSizes 24 = .ok (.iload 6, 2) := by decide +kernel
theorem dX8_subtractSizes_26 : decode cX8_subtractSizes 26 = .ok (.invokevirtual 33, 3) := by decide +kernel
theorem dX8_subtractSizes_29 : decode cX8_subtractSizes 29 = .ok (.lsub, 1) := by decide +kernel
theorem dX8_subtractSizes_30 : decode cX8_subtractSizes 30 = .ok (.lload 4, 2) := by decide +kernel
theorem dX8_subtractSizes_32 : decode cX8_subtractSizes 32 = .ok (.lsub, 1) := by decide +kernel
theorem dX8_subtractSizes_33 : decode cX8_subtractSizes 33 = .ok (.lstore 7, 2) := by decide +kernel
theorem dX8_subtractSizes_35 : decode cX8_subtractSizes 35 = .ok (.aload_n 2, 1) := by decide +kernel
theorem dX8_subtractSizes_36 : decode cX8_subtractSizes 36 = .ok (.getfield 9, 3) := by decide +kernel
theorem dX8_subtractSizes_39 : decode cX8_subtractSizes 39 = .ok (.iload 6, 2) := by decide +kernel
theorem dX8_subtractSizes_41 : decode cX8_subtractSizes 41 = .ok (.lload 7, 2) := by decide +kernel
theorem dX8_subtractSizes_43 : decode cX8_subtractSizes 43 = .ok (.ldc2_w 23, 3) := by decide +kernel
theorem dX8_subtractSizes_46 : decode cX8_subtractSizes 46 = .ok (.land, 1) := by decide +kernel
theorem dX8_subtractSizes_47 : decode cX8_subtractSizes 47 = .ok (.lastore, 1) := by decide +kernel
theorem dX8_subtractSizes_48 : decode cX8_subtractSizes 48 = .ok (.lload 7, 2) := by decide +kernel
theorem dX8_subtractSizes_50 : decode cX8_subtractSizes 50 = .ok (.lconst 0, 1) := by decide +kernel
theorem dX8_subtractSizes_51 : decode cX8_subtractSizes 51 = .ok (.lcmp, 1) := by decide +kernel
theorem dX8_subtractSizes_52 : decode cX8_subtractSizes 52 = .ok (.ifCond .ge 7, 3) := by decide +kernel
theorem dX8_subtractSizes_55 : decode cX8_subtractSizes 55 = .ok (.lconst 1, 1) := by decide +kernel
theorem dX8_subtractSizes_56 : decode cX8_subtractSizes 56 = .ok (.goto 4, 3) := by decide +kernel
theorem dX8_subtractSizes_59 : decode cX8_subtractSizes 59 = .ok (.lconst 0, 1) := by decide +kernel
theorem dX8_subtractSizes_60 : decode cX8_subtractSizes 60 = .ok (.lstore 4, 2) := by decide +kernel
theorem dX8_subtractSizes_62 : decode cX8_subtractSizes 62 = .ok (.iinc 6 1, 3) := by decide +kernel
theorem dX8_subtractSizes_65 : decode cX8_subtractSizes 65 = .ok (.goto (-54), 3) := by decide +kernel
theorem dX8_subtractSizes_68 : decode cX8_subtractSizes 68 = .ok (.aload_n 2, 1) := by decide +kernel
theorem dX8_subtractSizes_69 : decode cX8_subtractSizes 69 = .ok (.iload_n 3, 1) := by decide +kernel
theorem dX8_subtractSizes_70 : decode cX8_subtractSizes 70 = .ok (.invokevirtual 25, 3) := by decide +kernel
theorem dX8_subtractSizes_73 : decode cX8_subtractSizes 73 = .ok (.return_, 1) := by decide +kernel
def zb_X8_subtractSizes_11 (w0 : Nat) (w1 : Nat) (w2 : Nat) (w3 : Int32) (g2 : AH) (w4 : Int64) (w6 : Int32) : Option ((AH × Int64 × Int32) ⊕ (AH)) :=
  (if w3 ≤ w6 then some (Sum.inr g2) else (chk g2 w0 8).bind fun _ => (zs_X8_partAt g2 w0 w6).bind fun x5 => (chk g2 w1 8).bind fun _ => (zs_X8_partAt g2 w1 w6).bind fun x7 => lt_ ((x5 - x7) - w4) fun x8 => (gR g2 w2 8 0).bind fun x9 => (sJ g2 x9 1 w6 (x8 &&& ((4294967295 : Int64)))).bind fun g10 => (if (0 : Int64) ≤ x8 then some (Sum.inl ((g10, (0 : Int64), w6 + (1 : Int32)))) else some (Sum.inl ((g10, (1 : Int64), w6 + (1 : Int32))))))
def zs_X8_subtractSizes (h : AH) (u0 : Nat) (u1 : Nat) (u2 : Nat) : Option AH :=
  (gI h u0 8 1).bind fun x1 => (iter (fun q : AH × Int64 × Int32 => zb_X8_subtractSizes_11 u0 u1 u2 x1 q.1 q.2.1 q.2.2) FU ((h, (0 : Int64), (0 : Int32)))).bind fun r12 => (chk r12 u2 8).bind fun _ => (zs_X8_trim r12 u2 x1).bind fun g14 => some g14
set_option maxRecDepth 100000 in
set_option maxHeartbeats 4000000 in
theorem zm_X8_subtractSizes (l : Launch) (D : hG) (z : Nat) {h : AH} {u0 : Nat} {u1 : Nat} {u2 : Nat} {h' : AH} (hs : zs_X8_subtractSizes h u0 u1 u2 = some h') : hC l D z yX8_subtractSizes cX8_subtractSizes 9 (Option.none : Option Jvm.ClassFile.FieldType) 1 21 0 0 [.ref u0, .ref u1, .ref u2] h h' none := by
  refine hC_of (by decide) (Nat.le_of_ble_eq_true rfl) ?_
  intro p e s m below meth c hx hb hml hrt hlk hown hnm hts hk hr hz ls hl
  replace hown : s.vm.findClass RX8 = some m.cls := hown
  replace hl : lv_has ls 9 [(0, .ref u0), (1, .ref u1), (2, .ref u2)] := hl
  have hS : va_S (hA z) s.heap s.heap [] := va_S.rf
  suffices hgo : ∀ (H : Heap) (locs : List Loc), hR D z h H → va_S (hA z) s.heap H locs → W p l e ({ frames := 1, cells := 0, slots := 0, locals := 21 } : Room) s m ([.ref u0, .ref u1, .ref u2] : List Value).toArray below meth c H locs 0 0 (MQ below (hQ D z h' none) ([.ref u0, .ref u1, .ref u2] : List Value).toArray s 0 0 (hA z)) (F0 m 0 ls []) from hgo _ _ hr hS
  clear hr hS
  intro H locs hr hS
  unfold zs_X8_subtractSizes at hs
  refine lv_aload_n hx hb dX8_subtractSizes_0 rfl (lv_at hl 0 rfl) ?_
  obtain ⟨x1, ex1, hs⟩ := bi_inv hs
  refine hv_gI (C := RX8) (T := TX8) (N := 3) (ci := 8) hx hb hts inX8 hown hk hr rfl 1 (by decide) (hts _ tw_39) ex1 dX8_subtractSizes_1 ?_
  refine lv_istore_n (lv' := [(3, .int x1), (0, .ref u0), (1, .ref u1), (2, .ref u2)]) hx hb dX8_subtractSizes_4 rfl hl (by decide) rfl (fun ls hl => ?_)
  refine lv_lconst (v := 0) hx hb dX8_subtractSizes_5 (by decide) ?_
  refine lv_lstore (lv' := [(4, .long ((0 : Int64))), (3, .int x1), (0, .ref u0), (1, .ref u1), (2, .ref u2)]) hx hb dX8_subtractSizes_6 hl (by decide) rfl (fun ls hl => ?_)
  refine lv_iconst (v := 0) hx hb dX8_subtractSizes_8 (by decide) ?_
  refine lv_istore (lv' := [(6, .int ((0 : Int32))), (4, .long ((0 : Int64))), (3, .int x1), (0, .ref u0), (1, .ref u1), (2, .ref u2)]) hx hb dX8_subtractSizes_9 hl (by decide) rfl (fun ls hl => ?_)
  obtain ⟨r12, er12, hs⟩ := bi_inv hs
  refine iter_W (fun (q : AH × Int64 × Int32) => ∀ (H : Heap) (locs : List Loc) (ls : Array Slot), hR D z q.1 H → va_S (hA z) s.heap H locs → lv_has ls 9 [(0, .ref u0), (1, .ref u1), (2, .ref u2), (3, .int x1), (4, .long q.2.1), (6, .int q.2.2)] → W p l e ({ frames := 1, cells := 0, slots := 0, locals := 21 } : Room) s m ([.ref u0, .ref u1, .ref u2] : List Value).toArray below meth c H locs 0 0 (MQ below (hQ D z h' none) ([.ref u0, .ref u1, .ref u2] : List Value).toArray s 0 0 (hA z)) (F0 m 11 ls [])) (fun (x : AH) => ∀ (H : Heap) (locs : List Loc) (ls : Array Slot), hR D z x H → va_S (hA z) s.heap H locs → lv_has ls 9 [(2, .ref u2), (3, .int x1)] → W p l e ({ frames := 1, cells := 0, slots := 0, locals := 21 } : Room) s m ([.ref u0, .ref u1, .ref u2] : List Value).toArray below meth c H locs 0 0 (MQ below (hQ D z h' none) ([.ref u0, .ref u1, .ref u2] : List Value).toArray s 0 0 (hA z)) (F0 m 68 ls [])) ?_ FU _ r12 er12 ?_ H locs ls hr hS (lv_sub hl [3, 4, 5, 2, 1, 0] rfl)
  · intro q o hs hcont hexit
    obtain ⟨g2, w4, w6⟩ := q
    replace hs : zb_X8_subtractSizes_11 u0 u1 u2 x1 g2 w4 w6 = some o := hs
    intro H locs ls hr hS hl
    unfold zb_X8_subtractSizes_11 at hs
    refine lv_iload hx hb dX8_subtractSizes_11 (lv_at hl 5 rfl) ?_
    refine lv_iload_n hx hb dX8_subtractSizes_13 rfl (lv_at hl 3 rfl) ?_
    refine lv_icmp_ge (tgt := 68) hx hb dX8_subtractSizes_14 (by decide) (fun c3 => ?_) (fun c3 => ?_)
    · rw [if_pos c3] at hs
      obtain rfl := Option.some.inj hs
      exact hexit _ rfl H locs ls hr hS (lv_sub hl [2, 3] rfl)
    · rw [if_neg c3] at hs
      refine lv_aload_n hx hb dX8_subtractSizes_17 rfl (lv_at hl 0 rfl) ?_
      refine lv_iload hx hb dX8_subtractSizes_18 (lv_at hl 5 rfl) ?_
      obtain ⟨_, ex4, hs⟩ := bi_inv hs
      obtain ⟨x5, ex5, hs⟩ := bi_inv hs
      refine hv_V1 (n := 1) [.int w6] [] hx hb hml hown hts hk hr hz hS (zm_X8_partAt l D z ex5) ex4 rfl tw_415 tw_416 tw_417 tw_2 tw_418 (by decide +kernel) (by decide) ⟨(Nat.zero_le _), (Nat.zero_le _)⟩ rfl hl.1 (Nat.le_of_ble_eq_true rfl) dX8_subtractSizes_20 rfl (fun H locs hr hS => ?_)
      refine lv_aload_n hx hb dX8_subtractSizes_23 rfl (lv_at hl 1 rfl) ?_
      refine lv_iload hx hb dX8_subtractSizes_24 (lv_at hl 5 rfl) ?_
      obtain ⟨_, ex6, hs⟩ := bi_inv hs
      obtain ⟨x7, ex7, hs⟩ := bi_inv hs
      refine hv_V1 (n := 1) [.int w6] [.long x5] hx hb hml hown hts hk hr hz hS (zm_X8_partAt l D z ex7) ex6 rfl tw_415 tw_416 tw_417 tw_2 tw_418 (by decide +kernel) (by decide) ⟨(Nat.zero_le _), (Nat.zero_le _)⟩ rfl hl.1 (Nat.le_of_ble_eq_true rfl) dX8_subtractSizes_26 rfl (fun H locs hr hS => ?_)
      refine lv_lsub hx hb dX8_subtractSizes_29 ?_
      refine lv_lload hx hb dX8_subtractSizes_30 (lv_at hl 4 rfl) ?_
      refine lv_lsub hx hb dX8_subtractSizes_32 ?_
      refine lv_topl (fun x8 ex8 => ?_)
      replace hs := lt_inv hs x8 ex8
      refine lv_lstore (lv' := [(7, .long x8), (0, .ref u0), (1, .ref u1), (2, .ref u2), (3, .int x1), (4, .long w4), (6, .int w6)]) hx hb dX8_subtractSizes_33 hl (by decide) rfl (fun ls hl => ?_)
      refine lv_aload_n hx hb dX8_subtractSizes_35 rfl (lv_at hl 3 rfl) ?_
      obtain ⟨x9, ex9, hs⟩ := bi_inv hs
      refine hv_gR (C := RX8) (T := TX8) (N := 3) (ci := 8) hx hb hts inX8 hown hk hr rfl 0 (by decide) (hts _ tw_36) ex9 dX8_subtractSizes_36 ?_
      refine lv_iload hx hb dX8_subtractSizes_39 (lv_at hl 6 rfl) ?_
      refine lv_lload hx hb dX8_subtractSizes_41 (lv_at hl 0 rfl) ?_
      refine lv_ldc2 hx hb hown (hts _ tw_69) dX8_subtractSizes_43 ?_
      refine lv_land hx hb dX8_subtractSizes_46 ?_
      obtain ⟨g10, eg10, hs⟩ := bi_inv hs
      refine hv_sJ hx hb hk hr hS eg10 dX8_subtractSizes_47 (fun H locs hr hS => ?_)
      refine lv_lload hx hb dX8_subtractSizes_48 (lv_at hl 0 rfl) ?_
      refine lv_lconst (v := 0) hx hb dX8_subtractSizes_50 (by decide) ?_
      refine hv_lc_ge (tgt := 59) hx hb dX8_subtractSizes_51 dX8_subtractSizes_52 (by decide) (fun c11 => ?_) (fun c11 => ?_)
      · rw [if_pos c11] at hs
        refine lv_lconst (v := 0) hx hb dX8_subtractSizes_59 (by decide) ?_
        refine lv_lstore (lv' := [(4, .long ((0 : Int64))), (7, .long x8), (0, .ref u0), (1, .ref u1), (2, .ref u2), (3, .int x1), (6, .int w6)]) hx hb dX8_subtractSizes_60 hl (by decide) rfl (fun ls hl => ?_)
        refine lv_iinc (v := w6 + (1 : Int32)) (lv' := [(6, .int (w6 + (1 : Int32))), (4, .long ((0 : Int64))), (7, .long x8), (0, .ref u0), (1, .ref u1), (2, .ref u2), (3, .int x1)]) hx hb dX8_subtractSizes_62 hl (k := 6) rfl (ii_v _ (by decide)) (by decide) rfl (fun ls hl => ?_)
        refine lv_goto (tgt := 11) hx hb dX8_subtractSizes_65 (by decide) ?_
        obtain rfl := Option.some.inj hs
        exact hcont _ rfl H locs ls hr hS (lv_sub hl [3, 4, 5, 6, 1, 0] rfl)
      · rw [if_neg c11] at hs
        refine lv_lconst (v := 1) hx hb dX8_subtractSizes_55 (by decide) ?_
        refine lv_goto (tgt := 60) hx hb dX8_subtractSizes_56 (by decide) ?_
        refine lv_lstore (lv' := [(4, .long ((1 : Int64))), (7, .long x8), (0, .ref u0), (1, .ref u1), (2, .ref u2), (3, .int x1), (6, .int w6)]) hx hb dX8_subtractSizes_60 hl (by decide) rfl (fun ls hl => ?_)
        refine lv_iinc (v := w6 + (1 : Int32)) (lv' := [(6, .int (w6 + (1 : Int32))), (4, .long ((1 : Int64))), (7, .long x8), (0, .ref u0), (1, .ref u1), (2, .ref u2), (3, .int x1)]) hx hb dX8_subtractSizes_62 hl (k := 6) rfl (ii_v _ (by decide)) (by decide) rfl (fun ls hl => ?_)
        refine lv_goto (tgt := 11) hx hb dX8_subtractSizes_65 (by decide) ?_
        obtain rfl := Option.some.inj hs
        exact hcont _ rfl H locs ls hr hS (lv_sub hl [3, 4, 5, 6, 1, 0] rfl)
  · intro H locs ls hr hS hl
    refine lv_aload_n hx hb dX8_subtractSizes_68 rfl (lv_at hl 0 rfl) ?_
    refine lv_iload_n hx hb dX8_subtractSizes_69 rfl (lv_at hl 1 rfl) ?_
    obtain ⟨_, ex13, hs⟩ := bi_inv hs
    obtain ⟨g14, eg14, hs⟩ := bi_inv hs
    refine hv_V0 (n := 1) [.int x1] [] hx hb hml hown hts hk hr hz hS (zm_X8_trim l D z eg14) ex13 rfl tw_70 tw_71 tw_72 tw_2 tw_73 (by decide +kernel) (by decide) ⟨(Nat.zero_le _), (Nat.zero_le _)⟩ rfl hl.1 (Nat.le_of_ble_eq_true rfl) dX8_subtractSizes_70 rfl (fun H locs hr hS => ?_)
    obtain rfl := Option.some.inj hs
    exact hv_vret hx hb hrt hlk hr hS dX8_subtractSizes_73
theorem dX8_combine_0 : decode cX8_combine 0 = .ok (.aload_n 0, 1) := by decide +kernel
theorem dX8_combine_1 : decode cX8_combine 1 = .ok (.getfield 19, 3) := by decide +kernel
theorem dX8_combine_4 : decode cX8_combine 4 = .ok (.istore 4, 2) := by decide +kernel
theorem dX8_combine_6 : decode cX8_combine 6 = .ok (.iload 4, 2) := by decide +kernel
theorem dX8_combine_8 : decode cX8_combine 8 = .ok (.iload_n 2, 1) := by decide +kernel
theorem dX8_combine_9 : decode cX8_combine 9 = .ok (.if_icmp .ne 18, 3) := by decide +kernel
theorem dX8_combine_12 : decode cX8_combine 12 = .ok (.aload_n 0, 1) := by decide +kernel
theorem dX8_combine_13 : decode cX8_combine 13 = .ok (.aload_n 1, 1) := by decide +kernel
theorem dX8_combine_14 : decode cX8_combine 14 = .ok (.aload_n 3, 1) := by decide +kernel
theorem dX8_combine_15 : decode cX8_combine 15 = .ok (.invokestatic 60, 3) := by decide +kernel
theorem dX8_combine_18 : decode cX8_combine 18 = .ok (.aload_n 3, 1) := by decide +kernel
theorem dX8_combine_19 : decode cX8_combine 19 = .ok (.iload 4, 2) := by decide +kernel
theorem dX8_combine_21 : decode cX8_combine 21 = .ok (.invokevirtual 29, 3) := by decide +kernel
theorem dX8_combine_24 : decode cX8_combine 24 = .ok (.goto 37, 3) := by decide +kernel
theorem dX8_combine_27 : decode cX8_combine 27 = .ok (.aload_n 0, 1) := by decide +kernel
theorem dX8_combine_28 : decode cX8_combine 28 = .ok (.aload_n 1, 1) := by decide +kernel
theorem dX8_combine_29 : decode cX8_combine 29 = .ok (.invokestatic 52, 3) := by decide +kernel
theorem dX8_combine_32 : decode cX8_combine 32 = .ok (.ifCond .lt 18, 3) := by decide +kernel
theorem dX8_combine_35 : decode cX8_combine 35 = .ok (.aload_n 0, 1) := by decide +kernel
theorem dX8_combine_36 : decode cX8_combine 36 = .ok (.aload_n 1, 1) := by decide +kernel
theorem dX8_combine_37 : decode cX8_combine 37 = .ok (.aload_n 3, 1) := by decide +kernel
theorem dX8_combine_38 : decode cX8_combine 38 = .ok (.invokestatic 64, 3) := by decide +kernel
theorem dX8_combine_41 : decode cX8_combine 41 = .ok (.aload_n 3, 1) := by decide +kernel
theorem dX8_combine_42 : decode cX8_combine 42 = .ok (.iload 4, 2) := by decide +kernel
theorem dX8_combine_44 : decode cX8_combine 44 = .ok (.invokevirtual 29, 3) := by decide +kernel
theorem dX8_combine_47 : decode cX8_combine 47 = .ok (.goto 14, 3) := by decide +kernel
theorem dX8_combine_50 : decode cX8_combine 50 = .ok (.aload_n 1, 1) := by decide +kernel
theorem dX8_combine_51 : decode cX8_combine 51 = .ok (.aload_n 0, 1) := by decide +kernel
theorem dX8_combine_52 : decode cX8_combine 52 = .ok (.aload_n 3, 1) := by decide +kernel
theorem dX8_combine_53 : decode cX8_combine 53 = .ok (.invokestatic 64, 3) := by decide +kernel
theorem dX8_combine_56 : decode cX8_combine 56 = .ok (.aload_n 3, 1) := by decide +kernel
theorem dX8_combine_57 : decode cX8_combine 57 = .ok (.iload_n 2, 1) := by decide +kernel
theorem dX8_combine_58 : decode cX8_combine 58 = .ok (.invokevirtual 29, 3) := by decide +kernel
theorem dX8_combine_61 : decode cX8_combine 61 = .ok (.return_, 1) := by decide +kernel
def zs_X8_combine (h : AH) (u0 : Nat) (u1 : Nat) (u2 : Int32) (u3 : Nat) : Option AH :=
  (gI h u0 8 2).bind fun x1 => (if x1 = u2 then (zs_X8_addSizes h u0 u1 u3).bind fun g11 => (chk g11 u3 8).bind fun _ => (zs_X8_takeSign g11 u3 x1).bind fun g13 => some g13 else (zs_X8_orderSizes h u0 u1).bind fun x3 => (if x3 < 0 then (zs_X8_subtractSizes h u1 u0 u3).bind fun g5 => (chk g5 u3 8).bind fun _ => (zs_X8_takeSign g5 u3 u2).bind fun g7 => some g7 else (zs_X8_subtractSizes h u0 u1 u3).bind fun g8 => (chk g8 u3 8).bind fun _ => (zs_X8_takeSign g8 u3 x1).bind fun g10 => some g10))
set_option maxRecDepth 100000 in
set_option maxHeartbeats 4000000 in
theorem zm_X8_combine (l : Launch) (D : hG) (z : Nat) {h : AH} {u0 : Nat} {u1 : Nat} {u2 : Int32} {u3 : Nat} {h' : AH} (hs : zs_X8_combine h u0 u1 u2 u3 = some h') : hC l D z yX8_combine cX8_combine 5 (Option.none : Option Jvm.ClassFile.FieldType) 2 49 0 0 [.ref u0, .ref u1, .int u2, .ref u3] h h' none := by
  refine hC_of (by decide) (Nat.le_of_ble_eq_true rfl) ?_
  intro p e s m below meth c hx hb hml hrt hlk hown hnm hts hk hr hz ls hl
  replace hown : s.vm.findClass RX8 = some m.cls := hown
  replace hl : lv_has ls 5 [(0, .ref u0), (1, .ref u1), (2, .int u2), (3, .ref u3)] := hl
  have hS : va_S (hA z) s.heap s.heap [] := va_S.rf
  suffices hgo : ∀ (H : Heap) (locs : List Loc), hR D z h H → va_S (hA z) s.heap H locs → W p l e ({ frames := 2, cells := 0, slots := 0, locals := 49 } : Room) s m ([.ref u0, .ref u1, .int u2, .ref u3] : List Value).toArray below meth c H locs 0 0 (MQ below (hQ D z h' none) ([.ref u0, .ref u1, .int u2, .ref u3] : List Value).toArray s 0 0 (hA z)) (F0 m 0 ls []) from hgo _ _ hr hS
  clear hr hS
  intro H locs hr hS
  unfold zs_X8_combine at hs
  refine lv_aload_n hx hb dX8_combine_0 rfl (lv_at hl 0 rfl) ?_
  obtain ⟨x1, ex1, hs⟩ := bi_inv hs
  refine hv_gI (C := RX8) (T := TX8) (N := 3) (ci := 8) hx hb hts inX8 hown hk hr rfl 2 (by decide) (hts _ tw_42) ex1 dX8_combine_1 ?_
  refine lv_istore (lv' := [(4, .int x1), (0, .ref u0), (1, .ref u1), (2, .int u2), (3, .ref u3)]) hx hb dX8_combine_4 hl (by decide) rfl (fun ls hl => ?_)
  refine lv_iload hx hb dX8_combine_6 (lv_at hl 0 rfl) ?_
  refine lv_iload_n hx hb dX8_combine_8 rfl (lv_at hl 3 rfl) ?_
  refine lv_icmp_ne (tgt := 27) hx hb dX8_combine_9 (by decide) (fun c2 => ?_) (fun c2 => ?_)
  · rw [if_neg c2] at hs
    refine lv_aload_n hx hb dX8_combine_27 rfl (lv_at hl 1 rfl) ?_
    refine lv_aload_n hx hb dX8_combine_28 rfl (lv_at hl 2 rfl) ?_
    obtain ⟨x3, ex3, hs⟩ := bi_inv hs
    refine hv_S1 (n := 2) [.ref u0, .ref u1] [] hx hb hml hown hts hk hr hz hS (zm_X8_orderSizes l D z ex3) tw_440 tw_441 tw_2 tw_442 (by decide +kernel) (by decide) ⟨(Nat.zero_le _), (Nat.zero_le _)⟩ rfl hl.1 (Nat.le_of_ble_eq_true rfl) dX8_combine_29 rfl (fun H locs hr hS => ?_)
    refine lv_if_lt (tgt := 50) hx hb dX8_combine_32 (by decide) (fun c4 => ?_) (fun c4 => ?_)
    · rw [if_pos c4] at hs
      refine lv_aload_n hx hb dX8_combine_50 rfl (lv_at hl 2 rfl) ?_
      refine lv_aload_n hx hb dX8_combine_51 rfl (lv_at hl 1 rfl) ?_
      refine lv_aload_n hx hb dX8_combine_52 rfl (lv_at hl 4 rfl) ?_
      obtain ⟨g5, eg5, hs⟩ := bi_inv hs
      refine hv_S0 (n := 3) [.ref u1, .ref u0, .ref u3] [] hx hb hml hown hts hk hr hz hS (zm_X8_subtractSizes l D z eg5) tw_465 tw_466 tw_2 tw_467 (by decide +kernel) (by decide) ⟨(Nat.zero_le _), (Nat.zero_le _)⟩ rfl hl.1 (Nat.le_of_ble_eq_true rfl) dX8_combine_53 rfl (fun H locs hr hS => ?_)
      refine lv_aload_n hx hb dX8_combine_56 rfl (lv_at hl 4 rfl) ?_
      refine lv_iload_n hx hb dX8_combine_57 rfl (lv_at hl 3 rfl) ?_
      obtain ⟨_, ex6, hs⟩ := bi_inv hs
      obtain ⟨g7, eg7, hs⟩ := bi_inv hs
      refine hv_V0 (n := 1) [.int u2] [] hx hb hml hown hts hk hr hz hS (zm_X8_takeSign l D z eg7) ex6 rfl tw_74 tw_75 tw_76 tw_2 tw_77 (by decide +kernel) (by decide) ⟨(Nat.zero_le _), (Nat.zero_le _)⟩ rfl hl.1 (Nat.le_of_ble_eq_true rfl) dX8_combine_58 rfl (fun H locs hr hS => ?_)
      obtain rfl := Option.some.inj hs
      exact hv_vret hx hb hrt hlk hr hS dX8_combine_61
    · rw [if_neg c4] at hs
      refine lv_aload_n hx hb dX8_combine_35 rfl (lv_at hl 1 rfl) ?_
      refine lv_aload_n hx hb dX8_combine_36 rfl (lv_at hl 2 rfl) ?_
      refine lv_aload_n hx hb dX8_combine_37 rfl (lv_at hl 4 rfl) ?_
      obtain ⟨g8, eg8, hs⟩ := bi_inv hs
      refine hv_S0 (n := 3) [.ref u0, .ref u1, .ref u3] [] hx hb hml hown hts hk hr hz hS (zm_X8_subtractSizes l D z eg8) tw_465 tw_466 tw_2 tw_467 (by decide +kernel) (by decide) ⟨(Nat.zero_le _), (Nat.zero_le _)⟩ rfl hl.1 (Nat.le_of_ble_eq_true rfl) dX8_combine_38 rfl (fun H locs hr hS => ?_)
      refine lv_aload_n hx hb dX8_combine_41 rfl (lv_at hl 4 rfl) ?_
      refine lv_iload hx hb dX8_combine_42 (lv_at hl 0 rfl) ?_
      obtain ⟨_, ex9, hs⟩ := bi_inv hs
      obtain ⟨g10, eg10, hs⟩ := bi_inv hs
      refine hv_V0 (n := 1) [.int x1] [] hx hb hml hown hts hk hr hz hS (zm_X8_takeSign l D z eg10) ex9 rfl tw_74 tw_75 tw_76 tw_2 tw_77 (by decide +kernel) (by decide) ⟨(Nat.zero_le _), (Nat.zero_le _)⟩ rfl hl.1 (Nat.le_of_ble_eq_true rfl) dX8_combine_44 rfl (fun H locs hr hS => ?_)
      refine lv_goto (tgt := 61) hx hb dX8_combine_47 (by decide) ?_
      obtain rfl := Option.some.inj hs
      exact hv_vret hx hb hrt hlk hr hS dX8_combine_61
  · rw [if_pos c2] at hs
    refine lv_aload_n hx hb dX8_combine_12 rfl (lv_at hl 1 rfl) ?_
    refine lv_aload_n hx hb dX8_combine_13 rfl (lv_at hl 2 rfl) ?_
    refine lv_aload_n hx hb dX8_combine_14 rfl (lv_at hl 4 rfl) ?_
    obtain ⟨g11, eg11, hs⟩ := bi_inv hs
    refine hv_S0 (n := 3) [.ref u0, .ref u1, .ref u3] [] hx hb hml hown hts hk hr hz hS (zm_X8_addSizes l D z eg11) tw_456 tw_457 tw_2 tw_458 (by decide +kernel) (by decide) ⟨(Nat.zero_le _), (Nat.zero_le _)⟩ rfl hl.1 (Nat.le_of_ble_eq_true rfl) dX8_combine_15 rfl (fun H locs hr hS => ?_)
    refine lv_aload_n hx hb dX8_combine_18 rfl (lv_at hl 4 rfl) ?_
    refine lv_iload hx hb dX8_combine_19 (lv_at hl 0 rfl) ?_
    obtain ⟨_, ex12, hs⟩ := bi_inv hs
    obtain ⟨g13, eg13, hs⟩ := bi_inv hs
    refine hv_V0 (n := 1) [.int x1] [] hx hb hml hown hts hk hr hz hS (zm_X8_takeSign l D z eg13) ex12 rfl tw_74 tw_75 tw_76 tw_2 tw_77 (by decide +kernel) (by decide) ⟨(Nat.zero_le _), (Nat.zero_le _)⟩ rfl hl.1 (Nat.le_of_ble_eq_true rfl) dX8_combine_21 rfl (fun H locs hr hS => ?_)
    refine lv_goto (tgt := 61) hx hb dX8_combine_24 (by decide) ?_
    obtain rfl := Option.some.inj hs
    exact hv_vret hx hb hrt hlk hr hS dX8_combine_61
theorem dX8_difference_0 : decode cX8_difference 0 = .ok (.aload_n 0, 1) := by decide +kernel
theorem dX8_difference_1 : decode cX8_difference 1 = .ok (.aload_n 1, 1) := by decide +kernel
theorem dX8_difference_2 : decode cX8_difference 2 = .ok (.aload_n 1, 1) := by decide +kernel
theorem dX8_difference_3 : decode cX8_difference 3 = .ok (.getfield 19, 3) := by decide +kernel
theorem dX8_difference_6 : decode cX8_difference 6 = .ok (.ifCond .ne 7, 3) := by decide +kernel
theorem dX8_difference_9 : decode cX8_difference 9 = .ok (.iconst 1, 1) := by decide +kernel
theorem dX8_difference_10 : decode cX8_difference 10 = .ok (.goto 4, 3) := by decide +kernel
theorem dX8_difference_13 : decode cX8_difference 13 = .ok (.iconst 0, 1) := by decide +kernel
theorem dX8_difference_14 : decode cX8_difference 14 = .ok (.aload_n 2, 1) := by decide +kernel
theorem dX8_difference_15 : decode cX8_difference 15 = .ok (.invokestatic 56, 3) := by decide +kernel
theorem dX8_difference_18 : decode cX8_difference 18 = .ok (.return_, 1) := by decide +kernel
def zj_X8_difference_14 (g3 : AH) (y2_14 : Nat) (t0_14 : Int32) (t1_14 : Nat) (t2_14 : Nat) : Option AH :=
  (zs_X8_combine g3 t2_14 t1_14 t0_14 y2_14).bind fun g4 => some g4
def zs_X8_difference (h : AH) (u0 : Nat) (u1 : Nat) (u2 : Nat) : Option AH :=
  (gI h u1 8 2).bind fun x1 => (if x1 = 0 then zj_X8_difference_14 h u2 ((1 : Int32)) u1 u0 else zj_X8_difference_14 h u2 ((0 : Int32)) u1 u0)
set_option maxRecDepth 100000 in
set_option maxHeartbeats 4000000 in
theorem zm_X8_difference (l : Launch) (D : hG) (z : Nat) {h : AH} {u0 : Nat} {u1 : Nat} {u2 : Nat} {h' : AH} (hs : zs_X8_difference h u0 u1 u2 = some h') : hC l D z yX8_difference cX8_difference 3 (Option.none : Option Jvm.ClassFile.FieldType) 3 73 0 0 [.ref u0, .ref u1, .ref u2] h h' none := by
  refine hC_of (by decide) (Nat.le_of_ble_eq_true rfl) ?_
  intro p e s m below meth c hx hb hml hrt hlk hown hnm hts hk hr hz ls hl
  replace hown : s.vm.findClass RX8 = some m.cls := hown
  replace hl : lv_has ls 3 [(0, .ref u0), (1, .ref u1), (2, .ref u2)] := hl
  have hS : va_S (hA z) s.heap s.heap [] := va_S.rf
  suffices hgo : ∀ (H : Heap) (locs : List Loc), hR D z h H → va_S (hA z) s.heap H locs → W p l e ({ frames := 3, cells := 0, slots := 0, locals := 73 } : Room) s m ([.ref u0, .ref u1, .ref u2] : List Value).toArray below meth c H locs 0 0 (MQ below (hQ D z h' none) ([.ref u0, .ref u1, .ref u2] : List Value).toArray s 0 0 (hA z)) (F0 m 0 ls []) from hgo _ _ hr hS
  clear hr hS
  intro H locs hr hS
  have hJ14 : ∀ (g3 : AH) (y2_14 : Nat) (t0_14 : Int32) (t1_14 : Nat) (t2_14 : Nat) (H : Heap) (locs : List Loc) (ls : Array Slot), zj_X8_difference_14 g3 y2_14 t0_14 t1_14 t2_14 = some h' → hR D z g3 H → va_S (hA z) s.heap H locs → lv_has ls 3 [(2, .ref y2_14)] → W p l e ({ frames := 3, cells := 0, slots := 0, locals := 73 } : Room) s m ([.ref u0, .ref u1, .ref u2] : List Value).toArray below meth c H locs 0 0 (MQ below (hQ D z h' none) ([.ref u0, .ref u1, .ref u2] : List Value).toArray s 0 0 (hA z)) (F0 m 14 ls [.int t0_14, .ref t1_14, .ref t2_14]) := by
    intro g3 y2_14 t0_14 t1_14 t2_14 H locs ls hs hr hS hl
    unfold zj_X8_difference_14 at hs
    refine lv_aload_n hx hb dX8_difference_14 rfl (lv_at hl 0 rfl) ?_
    obtain ⟨g4, eg4, hs⟩ := bi_inv hs
    refine hv_S0 (n := 4) [.ref t2_14, .ref t1_14, .int t0_14, .ref y2_14] [] hx hb hml hown hts hk hr hz hS (zm_X8_combine l D z eg4) tw_453 tw_454 tw_2 tw_455 (by decide +kernel) (by decide) ⟨(Nat.zero_le _), (Nat.zero_le _)⟩ rfl hl.1 (Nat.le_of_ble_eq_true rfl) dX8_difference_15 rfl (fun H locs hr hS => ?_)
    obtain rfl := Option.some.inj hs
    exact hv_vret hx hb hrt hlk hr hS dX8_difference_18
  unfold zs_X8_difference at hs
  refine lv_aload_n hx hb dX8_difference_0 rfl (lv_at hl 0 rfl) ?_
  refine lv_aload_n hx hb dX8_difference_1 rfl (lv_at hl 1 rfl) ?_
  refine lv_aload_n hx hb dX8_difference_2 rfl (lv_at hl 1 rfl) ?_
  obtain ⟨x1, ex1, hs⟩ := bi_inv hs
  refine hv_gI (C := RX8) (T := TX8) (N := 3) (ci := 8) hx hb hts inX8 hown hk hr rfl 2 (by decide) (hts _ tw_42) ex1 dX8_difference_3 ?_
  refine lv_if_ne (tgt := 13) hx hb dX8_difference_6 (by decide) (fun c2 => ?_) (fun c2 => ?_)
  · rw [if_neg c2] at hs
    refine lv_iconst (v := 0) hx hb dX8_difference_13 (by decide) ?_
    exact hJ14 h u2 ((0 : Int32)) u1 u0 H locs ls hs hr hS (lv_sub hl [2] rfl)
  · rw [if_pos c2] at hs
    refine lv_iconst (v := 1) hx hb dX8_difference_9 (by decide) ?_
    refine lv_goto (tgt := 14) hx hb dX8_difference_10 (by decide) ?_
    exact hJ14 h u2 ((1 : Int32)) u1 u0 H locs ls hs hr hS (lv_sub hl [2] rfl)
theorem dX8_sum_0 : decode cX8_sum 0 = .ok (.aload_n 0, 1) := by decide +kernel
theorem dX8_sum_1 : decode cX8_sum 1 = .ok (.aload_n 1, 1) := by decide +kernel
theorem dX8_sum_2 : decode cX8_sum 2 = .ok (.aload_n 1, 1) := by decide +kernel
theorem dX8_sum_3 : decode cX8_sum 3 = .ok (.getfield 19, 3) := by decide +kernel
theorem dX8_sum_6 : decode cX8_sum 6 = .ok (.aload_n 2, 1) := by decide +kernel
theorem dX8_sum_7 : decode cX8_sum 7 = .ok (.invokestatic 56, 3) := by decide +kernel
theorem dX8_sum_10 : decode cX8_sum 10 = .ok (.return_, 1) := by decide +kernel
def zs_X8_sum (h : AH) (u0 : Nat) (u1 : Nat) (u2 : Nat) : Option AH :=
  (gI h u1 8 2).bind fun x1 => (zs_X8_combine h u0 u1 x1 u2).bind fun g2 => some g2
set_option maxRecDepth 100000 in
set_option maxHeartbeats 4000000 in
theorem zm_X8_sum (l : Launch) (D : hG) (z : Nat) {h : AH} {u0 : Nat} {u1 : Nat} {u2 : Nat} {h' : AH} (hs : zs_X8_sum h u0 u1 u2 = some h') : hC l D z yX8_sum cX8_sum 3 (Option.none : Option Jvm.ClassFile.FieldType) 3 73 0 0 [.ref u0, .ref u1, .ref u2] h h' none := by
  refine hC_of (by decide) (Nat.le_of_ble_eq_true rfl) ?_
  intro p e s m below meth c hx hb hml hrt hlk hown hnm hts hk hr hz ls hl
  replace hown : s.vm.findClass RX8 = some m.cls := hown
  replace hl : lv_has ls 3 [(0, .ref u0), (1, .ref u1), (2, .ref u2)] := hl
  have hS : va_S (hA z) s.heap s.heap [] := va_S.rf
  suffices hgo : ∀ (H : Heap) (locs : List Loc), hR D z h H → va_S (hA z) s.heap H locs → W p l e ({ frames := 3, cells := 0, slots := 0, locals := 73 } : Room) s m ([.ref u0, .ref u1, .ref u2] : List Value).toArray below meth c H locs 0 0 (MQ below (hQ D z h' none) ([.ref u0, .ref u1, .ref u2] : List Value).toArray s 0 0 (hA z)) (F0 m 0 ls []) from hgo _ _ hr hS
  clear hr hS
  intro H locs hr hS
  unfold zs_X8_sum at hs
  refine lv_aload_n hx hb dX8_sum_0 rfl (lv_at hl 0 rfl) ?_
  refine lv_aload_n hx hb dX8_sum_1 rfl (lv_at hl 1 rfl) ?_
  refine lv_aload_n hx hb dX8_sum_2 rfl (lv_at hl 1 rfl) ?_
  obtain ⟨x1, ex1, hs⟩ := bi_inv hs
  refine hv_gI (C := RX8) (T := TX8) (N := 3) (ci := 8) hx hb hts inX8 hown hk hr rfl 2 (by decide) (hts _ tw_42) ex1 dX8_sum_3 ?_
  refine lv_aload_n hx hb dX8_sum_6 rfl (lv_at hl 2 rfl) ?_
  obtain ⟨g2, eg2, hs⟩ := bi_inv hs
  refine hv_S0 (n := 4) [.ref u0, .ref u1, .int x1, .ref u2] [] hx hb hml hown hts hk hr hz hS (zm_X8_combine l D z eg2) tw_453 tw_454 tw_2 tw_455 (by decide +kernel) (by decide) ⟨(Nat.zero_le _), (Nat.zero_le _)⟩ rfl hl.1 (Nat.le_of_ble_eq_true rfl) dX8_sum_7 rfl (fun H locs hr hS => ?_)
  obtain rfl := Option.some.inj hs
  exact hv_vret hx hb hrt hlk hr hS dX8_sum_10
theorem dX8_init_0 : decode cX8_init 0 = .ok (.aload_n 0, 1) := by decide +kernel
theorem dX8_init_1 : decode cX8_init 1 = .ok (.invokespecial 3, 3) := by decide +kernel
theorem dX8_init_4 : decode cX8_init 4 = .ok (.aload_n 0, 1) := by decide +kernel
theorem dX8_init_5 : decode cX8_init 5 = .ok (.bipush 26, 2) := by decide +kernel
theorem dX8_init_7 : decode cX8_init 7 = .ok (.newarray .long, 2) := by decide +kernel
theorem dX8_init_9 : decode cX8_init 9 = .ok (.putfield 9, 3) := by decide +kernel
theorem dX8_init_12 : decode cX8_init 12 = .ok (.aload_n 0, 1) := by decide +kernel
theorem dX8_init_13 : decode cX8_init 13 = .ok (.iconst 0, 1) := by decide +kernel
theorem dX8_init_14 : decode cX8_init 14 = .ok (.putfield 15, 3) := by decide +kernel
theorem dX8_init_17 : decode cX8_init 17 = .ok (.aload_n 0, 1) := by decide +kernel
theorem dX8_init_18 : decode cX8_init 18 = .ok (.iconst 0, 1) := by decide +kernel
theorem dX8_init_19 : decode cX8_init 19 = .ok (.putfield 19, 3) := by decide +kernel
theorem dX8_init_22 : decode cX8_init 22 = .ok (.return_, 1) := by decide +kernel
def zs_X8_init (h : AH) (u0 : Nat) : Option AH :=
  lt_ (nO h (.inl (1, (26, .inr (.inl (fun _ => 0)))))) fun g1 => (pV g1 u0 8 0 (.ref h.2)).bind fun g2 => (pV g2 u0 8 1 (.int ((0 : Int32)))).bind fun g3 => (pV g3 u0 8 2 (.int ((0 : Int32)))).bind fun g4 => some g4
set_option maxRecDepth 100000 in
set_option maxHeartbeats 4000000 in
theorem zm_X8_init (l : Launch) (D : hG) (z : Nat) {h : AH} {u0 : Nat} {h' : AH} (hs : zs_X8_init h u0 = some h') : hC l D z yX8_init cX8_init 1 (Option.none : Option Jvm.ClassFile.FieldType) 1 21 1 26 [.ref u0] h h' none := by
  refine hC_of (by decide) (Nat.le_of_ble_eq_true rfl) ?_
  intro p e s m below meth c hx hb hml hrt hlk hown hnm hts hk hr hz ls hl
  replace hown : s.vm.findClass RX8 = some m.cls := hown
  replace hl : lv_has ls 1 [(0, .ref u0)] := hl
  have hS : va_S (hA z) s.heap s.heap [] := va_S.rf
  suffices hgo : ∀ (H : Heap) (locs : List Loc), hR D z h H → va_S (hA z) s.heap H locs → W p l e ({ frames := 1, cells := 1, slots := 26, locals := 21 } : Room) s m ([.ref u0] : List Value).toArray below meth c H locs 0 0 (MQ below (hQ D z h' none) ([.ref u0] : List Value).toArray s 1 26 (hA z)) (F0 m 0 ls []) from hgo _ _ hr hS
  clear hr hS
  intro H locs hr hS
  unfold zs_X8_init at hs
  refine lv_aload_n hx hb dX8_init_0 rfl (lv_at hl 0 rfl) ?_
  refine W.objInit hx hb hown (hts _ tw_35) (hts _ tw_27) (hts _ tw_28) rfl (by rw [hml]; exact hl.1) rfl dX8_init_1 (by decide) (Nat.le_of_ble_eq_true rfl) ?_
  refine W.eq (g2 := F0 m 4 ls []) rfl ?_
  refine lv_aload_n hx hb dX8_init_4 rfl (lv_at hl 0 rfl) ?_
  refine lv_bipush (v := 26) hx hb dX8_init_5 (by decide) ?_
  refine hv_newa (at_ := .long) hx hb hts 1 rfl rfl tw_55 hk hr hz hS 26 (26, .inr (.inl (fun _ => 0))) (fun _ => rfl) (by decide) (by decide) (by decide) (by show _ ≤ (1 : Nat); omega) (by show _ ≤ (26 : Nat); omega) dX8_init_7 (fun H hr hS => ?_)
  obtain ⟨g1, eg1⟩ : ∃ q, q = nO h (.inl (1, (26, .inr (.inl (fun _ => 0))))) := ⟨_, rfl⟩
  rw [← eg1] at hr
  replace hs := lt_inv hs g1 eg1
  obtain ⟨g2, eg2, hs⟩ := bi_inv hs
  refine hv_pF (C := RX8) (T := TX8) (N := 3) (ci := 8) hx hb hts inX8 tyX8 tyX8_ok nmX8 hown hk hr hS rfl 0 (by decide) (hts _ tw_36) rfl hnm rfl rfl rfl eg2 dX8_init_9 (fun H locs hr hS => ?_)
  refine lv_aload_n hx hb dX8_init_12 rfl (lv_at hl 0 rfl) ?_
  refine lv_iconst (v := 0) hx hb dX8_init_13 (by decide) ?_
  obtain ⟨g3, eg3, hs⟩ := bi_inv hs
  refine hv_pV (C := RX8) (T := TX8) (N := 3) (ci := 8) hx hb hts inX8 tyX8 tyX8_ok nmX8 hown hk hr hS rfl 1 (by decide) (hts _ tw_39) rfl rfl rfl eg3 dX8_init_14 (fun H locs hr hS => ?_)
  refine lv_aload_n hx hb dX8_init_17 rfl (lv_at hl 0 rfl) ?_
  refine lv_iconst (v := 0) hx hb dX8_init_18 (by decide) ?_
  obtain ⟨g4, eg4, hs⟩ := bi_inv hs
  refine hv_pV (C := RX8) (T := TX8) (N := 3) (ci := 8) hx hb hts inX8 tyX8 tyX8_ok nmX8 hown hk hr hS rfl 2 (by decide) (hts _ tw_42) rfl rfl rfl eg4 dX8_init_19 (fun H locs hr hS => ?_)
  obtain rfl := Option.some.inj hs
  exact hv_vret hx hb hrt hlk hr hS dX8_init_22
theorem dX8_leftBy_0 : decode cX8_leftBy 0 = .ok (.lconst 0, 1) := by decide +kernel
theorem dX8_leftBy_1 : decode cX8_leftBy 1 = .ok (.lstore_n 3, 1) := by decide +kernel
theorem dX8_leftBy_2 : decode cX8_leftBy 2 = .ok (.aload_n 0, 1) := by decide +kernel
theorem dX8_leftBy_3 : decode cX8_leftBy 3 = .ok (.getfield 15, 3) := by decide +kernel
theorem dX8_leftBy_6 : decode cX8_leftBy 6 = .ok (.iconst 1, 1) := by decide +kernel
theorem dX8_leftBy_7 : decode cX8_leftBy 7 = .ok (.isub, 1) := by decide +kernel
theorem dX8_leftBy_8 : decode cX8_leftBy 8 = .ok (.istore 5, 2) := by decide +kernel
theorem dX8_leftBy_10 : decode cX8_leftBy 10 = .ok (.iload 5, 2) := by decide +kernel
theorem dX8_leftBy_12 : decode cX8_leftBy 12 = .ok (.ifCond .lt 35, 3) := by decide +kernel
theorem dX8_leftBy_15 : decode cX8_leftBy 15 = .ok (.lload_n 3, 1) := by decide +kernel
theorem dX8_leftBy_16 : decode cX8_leftBy 16 = .ok (.bipush 32, 2) := by decide +kernel
theorem dX8_leftBy_18 : decode cX8_leftBy 18 = .ok (.lshl, 1) := by decide +kernel
theorem dX8_leftBy_19 : decode cX8_leftBy 19 = .ok (.aload_n 0, 1) := by decide +kernel
theorem dX8_leftBy_20 : decode cX8_leftBy 20 = .ok (.getfield 9, 3) := by decide +kernel
theorem dX8_leftBy_23 : decode cX8_leftBy 23 = .ok (.iload 5, 2) := by decide +kernel
theorem dX8_leftBy_25 : decode cX8_leftBy 25 = .ok (.laload, 1) := by decide +kernel
theorem dX8_leftBy_26 : decode cX8_leftBy 26 = .ok (.lor, 1) := by decide +kernel
theorem dX8_leftBy_27 : decode cX8_leftBy 27 = .ok (.lstore 6, 2) := by decide +kernel
theorem dX8_leftBy_29 : decode cX8_leftBy 29 = .ok (.lload 6, 2) := by decide +kernel
theorem dX8_leftBy_31 : decode cX8_leftBy 31 = .ok (.lload 6, 2) := by decide +kernel
theorem dX8_leftBy_33 : decode cX8_leftBy 33 = .ok (.lload_n 1, 1) := by decide +kernel
theorem dX8_leftBy_34 : decode cX8_leftBy 34 = .ok (.invokestatic 43, 3) := by decide +kernel
theorem dX8_leftBy_37 : decode cX8_leftBy 37 = .ok (.lload_n 1, 1) := by decide +kernel
theorem dX8_leftBy_38 : decode cX8_leftBy 38 = .ok (.lmul, 1) := by decide +kernel
theorem dX8_leftBy_39 : decode cX8_leftBy 39 = .ok (.lsub, 1) := by decide +kernel
theorem dX8_leftBy_40 : decode cX8_leftBy 40 = .ok (.lstore_n 3, 1) := by decide +kernel
theorem dX8_leftBy_41 : decode cX8_leftBy 41 = .ok (.iinc 5 (-1), 3) := by decide +kernel
theorem dX8_leftBy_44 : decode cX8_leftBy 44 = .ok (.goto (-34), 3) := by decide +kernel
theorem dX8_leftBy_47 : decode cX8_leftBy 47 = .ok (.lload_n 3, 1) := by decide +kernel
theorem dX8_leftBy_48 : decode cX8_leftBy 48 = .ok (.lreturn, 1) := by decide +kernel
def zb_X8_leftBy_10 (h : AH) (w0 : Nat) (w1 : Int64) (w3 : Int64) (w5 : Int32) : Option ((Int64 × Int32) ⊕ (Int64)) :=
  (if w5 < 0 then some (Sum.inr w3) else (gR h w0 8 0).bind fun x4 => (aJ h x4 1 w5).bind fun x5 => lt_ ((w3 <<< (((32 : Int32)).toInt64 &&& 63)) ||| x5) fun x6 => (zs_X8_quotientOfBits h x6 w1).bind fun x7 => lt_ (x6 - (x7 * w1)) fun x8 => some (Sum.inl ((x8, w5 + (-1 : Int32)))))
def zs_X8_leftBy (h : AH) (u0 : Nat) (u1 : Int64) : Option Int64 :=
  (gI h u0 8 1).bind fun x1 => lt_ (x1 - ((1 : Int32))) fun x2 => (iter (fun q : Int64 × Int32 => zb_X8_leftBy_10 h u0 u1 q.1 q.2) FU (((0 : Int64), x2))).bind fun r9 => some r9
set_option maxRecDepth 100000 in
set_option maxHeartbeats 4000000 in
theorem zm_X8_leftBy (l : Launch) (D : hG) (z : Nat) {h : AH} {u0 : Nat} {u1 : Int64} {r : Int64} (hs : zs_X8_leftBy h u0 u1 = some r) : hC l D z yX8_leftBy cX8_leftBy 8 (Option.some Jvm.ClassFile.FieldType.long) 1 25 0 0 [.ref u0, .long u1] h h (some (.long r)) := by
  refine hC_of (by decide) (Nat.le_of_ble_eq_true rfl) ?_
  intro p e s m below meth c hx hb hml hrt hlk hown hnm hts hk hr hz ls hl
  replace hown : s.vm.findClass RX8 = some m.cls := hown
  replace hl : lv_has ls 8 [(0, .ref u0), (1, .long u1)] := hl
  have hS : va_S (hA z) s.heap s.heap [] := va_S.rf
  suffices hgo : ∀ (H : Heap) (locs : List Loc), hR D z h H → va_S (hA z) s.heap H locs → W p l e ({ frames := 1, cells := 0, slots := 0, locals := 25 } : Room) s m ([.ref u0, .long u1] : List Value).toArray below meth c H locs 0 0 (MQ below (hQ D z h (some (.long r))) ([.ref u0, .long u1] : List Value).toArray s 0 0 (hA z)) (F0 m 0 ls []) from hgo _ _ hr hS
  clear hr hS
  intro H locs hr hS
  unfold zs_X8_leftBy at hs
  refine lv_lconst (v := 0) hx hb dX8_leftBy_0 (by decide) ?_
  refine lv_lstore_n (lv' := [(3, .long ((0 : Int64))), (0, .ref u0), (1, .long u1)]) hx hb dX8_leftBy_1 rfl hl (by decide) rfl (fun ls hl => ?_)
  refine lv_aload_n hx hb dX8_leftBy_2 rfl (lv_at hl 1 rfl) ?_
  obtain ⟨x1, ex1, hs⟩ := bi_inv hs
  refine hv_gI (C := RX8) (T := TX8) (N := 3) (ci := 8) hx hb hts inX8 hown hk hr rfl 1 (by decide) (hts _ tw_39) ex1 dX8_leftBy_3 ?_
  refine lv_iconst (v := 1) hx hb dX8_leftBy_6 (by decide) ?_
  refine lv_isub hx hb dX8_leftBy_7 ?_
  refine lv_topi (fun x2 ex2 => ?_)
  replace hs := lt_inv hs x2 ex2
  refine lv_istore (lv' := [(5, .int x2), (3, .long ((0 : Int64))), (0, .ref u0), (1, .long u1)]) hx hb dX8_leftBy_8 hl (by decide) rfl (fun ls hl => ?_)
  obtain ⟨r9, er9, hs⟩ := bi_inv hs
  refine iter_W (fun (q : Int64 × Int32) => ∀ (H : Heap) (locs : List Loc) (ls : Array Slot), hR D z h H → va_S (hA z) s.heap H locs → lv_has ls 8 [(0, .ref u0), (1, .long u1), (3, .long q.1), (5, .int q.2)] → W p l e ({ frames := 1, cells := 0, slots := 0, locals := 25 } : Room) s m ([.ref u0, .long u1] : List Value).toArray below meth c H locs 0 0 (MQ below (hQ D z h (some (.long r))) ([.ref u0, .long u1] : List Value).toArray s 0 0 (hA z)) (F0 m 10 ls [])) (fun (x : Int64) => ∀ (H : Heap) (locs : List Loc) (ls : Array Slot), hR D z h H → va_S (hA z) s.heap H locs → lv_has ls 8 [(3, .long x)] → W p l e ({ frames := 1, cells := 0, slots := 0, locals := 25 } : Room) s m ([.ref u0, .long u1] : List Value).toArray below meth c H locs 0 0 (MQ below (hQ D z h (some (.long r))) ([.ref u0, .long u1] : List Value).toArray s 0 0 (hA z)) (F0 m 47 ls [])) ?_ FU _ r9 er9 ?_ H locs ls hr hS (lv_sub hl [2, 3, 1, 0] rfl)
  · intro q o hs hcont hexit
    obtain ⟨w3, w5⟩ := q
    replace hs : zb_X8_leftBy_10 h u0 u1 w3 w5 = some o := hs
    intro H locs ls hr hS hl
    unfold zb_X8_leftBy_10 at hs
    refine lv_iload hx hb dX8_leftBy_10 (lv_at hl 3 rfl) ?_
    refine lv_if_lt (tgt := 47) hx hb dX8_leftBy_12 (by decide) (fun c3 => ?_) (fun c3 => ?_)
    · rw [if_pos c3] at hs
      obtain rfl := Option.some.inj hs
      exact hexit _ rfl H locs ls hr hS (lv_sub hl [2] rfl)
    · rw [if_neg c3] at hs
      refine lv_lload_n hx hb dX8_leftBy_15 rfl (lv_at hl 2 rfl) ?_
      refine lv_bipush (v := 32) hx hb dX8_leftBy_16 (by decide) ?_
      refine lv_lshl hx hb dX8_leftBy_18 rfl ?_
      refine lv_aload_n hx hb dX8_leftBy_19 rfl (lv_at hl 0 rfl) ?_
      obtain ⟨x4, ex4, hs⟩ := bi_inv hs
      refine hv_gR (C := RX8) (T := TX8) (N := 3) (ci := 8) hx hb hts inX8 hown hk hr rfl 0 (by decide) (hts _ tw_36) ex4 dX8_leftBy_20 ?_
      refine lv_iload hx hb dX8_leftBy_23 (lv_at hl 3 rfl) ?_
      obtain ⟨x5, ex5, hs⟩ := bi_inv hs
      refine hv_aJ hx hb hk hr ex5 dX8_leftBy_25 ?_
      refine lv_lor hx hb dX8_leftBy_26 ?_
      refine lv_topl (fun x6 ex6 => ?_)
      replace hs := lt_inv hs x6 ex6
      refine lv_lstore (lv' := [(6, .long x6), (0, .ref u0), (1, .long u1), (3, .long w3), (5, .int w5)]) hx hb dX8_leftBy_27 hl (by decide) rfl (fun ls hl => ?_)
      refine lv_lload hx hb dX8_leftBy_29 (lv_at hl 0 rfl) ?_
      refine lv_lload hx hb dX8_leftBy_31 (lv_at hl 0 rfl) ?_
      refine lv_lload_n hx hb dX8_leftBy_33 rfl (lv_at hl 2 rfl) ?_
      obtain ⟨x7, ex7, hs⟩ := bi_inv hs
      refine hv_S1 (n := 2) [.long x6, .long u1] [.long x6] hx hb hml hown hts hk hr hz hS (zm_X8_quotientOfBits l D z ex7) tw_389 tw_390 tw_2 tw_391 (by decide +kernel) (by decide) ⟨(Nat.zero_le _), (Nat.zero_le _)⟩ rfl hl.1 (Nat.le_of_ble_eq_true rfl) dX8_leftBy_34 rfl (fun H locs hr hS => ?_)
      refine lv_lload_n hx hb dX8_leftBy_37 rfl (lv_at hl 2 rfl) ?_
      refine lv_lmul hx hb dX8_leftBy_38 ?_
      refine lv_lsub hx hb dX8_leftBy_39 ?_
      refine lv_topl (fun x8 ex8 => ?_)
      replace hs := lt_inv hs x8 ex8
      refine lv_lstore_n (lv' := [(3, .long x8), (6, .long x6), (0, .ref u0), (1, .long u1), (5, .int w5)]) hx hb dX8_leftBy_40 rfl hl (by decide) rfl (fun ls hl => ?_)
      refine lv_iinc (v := w5 + (-1 : Int32)) (lv' := [(5, .int (w5 + (-1 : Int32))), (3, .long x8), (6, .long x6), (0, .ref u0), (1, .long u1)]) hx hb dX8_leftBy_41 hl (k := 4) rfl (ii_v _ (by decide)) (by decide) rfl (fun ls hl => ?_)
      refine lv_goto (tgt := 10) hx hb dX8_leftBy_44 (by decide) ?_
      obtain rfl := Option.some.inj hs
      exact hcont _ rfl H locs ls hr hS (lv_sub hl [3, 4, 1, 0] rfl)
  · intro H locs ls hr hS hl
    refine lv_lload_n hx hb dX8_leftBy_47 rfl (lv_at hl 0 rfl) ?_
    obtain rfl := Option.some.inj hs
    exact hv_lret hx hb hrt hlk hr hS dX8_leftBy_48
theorem dX8_grow_0 : decode cX8_grow 0 = .ok (.lload_n 3, 1) := by decide +kernel
theorem dX8_grow_1 : decode cX8_grow 1 = .ok (.lstore 5, 2) := by decide +kernel
theorem dX8_grow_3 : decode cX8_grow 3 = .ok (.iconst 0, 1) := by decide +kernel
theorem dX8_grow_4 : decode cX8_grow 4 = .ok (.istore 7, 2) := by decide +kernel
theorem dX8_grow_6 : decode cX8_grow 6 = .ok (.iload 7, 2) := by decide +kernel
theorem dX8_grow_8 : decode cX8_grow 8 = .ok (.aload_n 0, 1) := by decide +kernel
theorem dX8_grow_9 : decode cX8_grow 9 = .ok (.getfield 15, 3) := by decide +kernel
theorem dX8_grow_12 : decode cX8_grow 12 = .ok (.if_icmp .ge 43, 3) := by decide +kernel
theorem dX8_grow_15 : decode cX8_grow 15 = .ok (.aload_n 0, 1) := by decide +kernel
theorem dX8_grow_16 : decode cX8_grow 16 = .ok (.getfield 9, 3) := by decide +kernel
theorem dX8_grow_19 : decode cX8_grow 19 = .ok (.iload 7, 2) := by decide +kernel
theorem dX8_grow_21 : decode cX8_grow 21 = .ok (.laload, 1) := by decide +kernel
theorem dX8_grow_22 : decode cX8_grow 22 = .ok (.lload_n 1, 1) := by decide +kernel
theorem dX8_grow_23 : decode cX8_grow 23 = .ok (.lmul, 1) := by decide +kernel
theorem dX8_grow_24 : decode cX8_grow 24 = .ok (.lload 5, 2) := by decide +kernel
theorem dX8_grow_26 : decode cX8_grow 26 = .ok (.ladd, 1) := by decide +kernel
theorem dX8_grow_27 : decode cX8_grow 27 = .ok (.lstore 8, 2) := by decide +kernel
theorem dX8_grow_29 : decode cX8_grow 29 = .ok (.aload_n 0, 1) := by decide +kernel
theorem dX8_grow_30 : decode cX8_grow 30 = .ok (.getfield 9, 3) := by decide +kernel
theorem dX8_grow_33 : decode cX8_grow 33 = .ok (.iload 7, 2) := by decide +kernel
theorem dX8_grow_35 : decode cX8_grow 35 = .ok (.lload 8, 2) := by decide +kernel
theorem dX8_grow_37 : decode cX8_grow 37 = .ok (.ldc2_w 23, 3) := by decide +kernel
theorem dX8_grow_40 : decode cX8_grow 40 = .ok (.land, 1) := by decide +kernel
theorem dX8_grow_41 : decode cX8_grow 41 = .ok (.lastore, 1) := by decide +kernel
theorem dX8_grow_42 : decode cX8_grow 42 = .ok (.lload 8, 2) := by decide +kernel
theorem dX8_grow_44 : decode cX8_grow 44 = .ok (.bipush 32, 2) := by decide +kernel
theorem dX8_grow_46 : decode cX8_grow 46 = .ok (.lushr, 1) := by decide +kernel
theorem dX8_grow_47 : decode cX8_grow 47 = .ok (.lstore 5, 2) := by decide +kernel
theorem dX8_grow_49 : decode cX8_grow 49 = .ok (.iinc 7 1, 3) := by decide +kernel
theorem dX8_grow_52 : decode cX8_grow 52 = .ok (.goto (-46), 3) := by decide +kernel
theorem dX8_grow_55 : decode cX8_grow 55 = .ok (.lload 5, 2) := by decide +kernel
theorem dX8_grow_57 : decode cX8_grow 57 = .ok (.lconst 0, 1) := by decide +kernel
theorem dX8_grow_58 : decode cX8_grow 58 = .ok (.lcmp, 1) := by decide +kernel
theorem dX8_grow_59 : decode cX8_grow 59 = .ok (.ifCond .eq 33, 3) := by decide +kernel
theorem dX8_grow_62 : decode cX8_grow 62 = .ok (.aload_n 0, 1) := by decide +kernel
theorem dX8_grow_63 : decode cX8_grow 63 = .ok (.getfield 15, 3) := by decide +kernel
theorem dX8_grow_66 : decode cX8_grow 66 = .ok (.bipush 26, 2) := by decide +kernel
theorem dX8_grow_68 : decode cX8_grow 68 = .ok (.if_icmp .ge 24, 3) := by decide +kernel
theorem dX8_grow_71 : decode cX8_grow 71 = .ok (.aload_n 0, 1) := by decide +kernel
theorem dX8_grow_72 : decode cX8_grow 72 = .ok (.getfield 9, 3) := by decide +kernel
theorem dX8_grow_75 : decode cX8_grow 75 = .ok (.aload_n 0, 1) := by decide +kernel
theorem dX8_grow_76 : decode cX8_grow 76 = .ok (.getfield 15, 3) := by decide +kernel
theorem dX8_grow_79 : decode cX8_grow 79 = .ok (.lload 5, 2) := by decide +kernel
theorem dX8_grow_81 : decode cX8_grow 81 = .ok (.lastore, 1) := by decide +kernel
theorem dX8_grow_82 : decode cX8_grow 82 = .ok (.aload_n 0, 1) := by decide +kernel
theorem dX8_grow_83 : decode cX8_grow 83 = .ok (.dup, 1) := by decide +kernel
theorem dX8_grow_84 : decode cX8_grow 84 = .ok (.getfield 15, 3) := by decide +kernel
theorem dX8_grow_87 : decode cX8_grow 87 = .ok (.iconst 1, 1) := by decide +kernel
theorem dX8_grow_88 : decode cX8_grow 88 = .ok (.iadd, 1) := by decide +kernel
theorem dX8_grow_89 : decode cX8_grow 89 = .ok (.putfield 15, 3) := by decide +kernel
theorem dX8_grow_92 : decode cX8_grow 92 = .ok (.return_, 1) := by decide +kernel
def zb_X8_grow_6 (w0 : Nat) (w1 : Int64) (g1 : AH) (w5 : Int64) (w7 : Int32) : Option ((AH × Int64 × Int32) ⊕ ((AH × Int64))) :=
  (gI g1 w0 8 1).bind fun x2 => (if x2 ≤ w7 then some (Sum.inr ((g1, w5))) else (gR g1 w0 8 0).bind fun x4 => (aJ g1 x4 1 w7).bind fun x5 => lt_ ((x5 * w1) + w5) fun x6 => (gR g1 w0 8 0).bind fun x7 => (sJ g1 x7 1 w7 (x6 &&& ((4294967295 : Int64)))).bind fun g8 => lt_ ((x6.toUInt64 >>> (((32 : Int32)).toInt64.toUInt64 &&& Int64.toUInt64 63)).toInt64) fun x9 => some (Sum.inl ((g8, x9, w7 + (1 : Int32)))))
def zs_X8_grow (h : AH) (u0 : Nat) (u1 : Int64) (u3 : Int64) : Option AH :=
  (iter (fun q : AH × Int64 × Int32 => zb_X8_grow_6 u0 u1 q.1 q.2.1 q.2.2) FU ((h, u3, (0 : Int32)))).bind fun r10 => (if r10.2 = (0 : Int64) then some r10.1 else (gI r10.1 u0 8 1).bind fun x12 => (if (26 : Int32) ≤ x12 then some r10.1 else (gR r10.1 u0 8 0).bind fun x14 => (gI r10.1 u0 8 1).bind fun x15 => (sJ r10.1 x14 1 x15 r10.2).bind fun g16 => (gI g16 u0 8 1).bind fun x17 => (pV g16 u0 8 1 (.int (x17 + ((1 : Int32))))).bind fun g18 => some g18))
set_option maxRecDepth 100000 in
set_option maxHeartbeats 4000000 in
theorem zm_X8_grow (l : Launch) (D : hG) (z : Nat) {h : AH} {u0 : Nat} {u1 : Int64} {u3 : Int64} {h' : AH} (hs : zs_X8_grow h u0 u1 u3 = some h') : hC l D z yX8_grow cX8_grow 10 (Option.none : Option Jvm.ClassFile.FieldType) 0 0 0 0 [.ref u0, .long u1, .long u3] h h' none := by
  refine hC_of (by decide) (Nat.le_of_ble_eq_true rfl) ?_
  intro p e s m below meth c hx hb hml hrt hlk hown hnm hts hk hr hz ls hl
  replace hown : s.vm.findClass RX8 = some m.cls := hown
  replace hl : lv_has ls 10 [(0, .ref u0), (1, .long u1), (3, .long u3)] := hl
  have hS : va_S (hA z) s.heap s.heap [] := va_S.rf
  suffices hgo : ∀ (H : Heap) (locs : List Loc), hR D z h H → va_S (hA z) s.heap H locs → W p l e ({ frames := 0, cells := 0, slots := 0, locals := 0 } : Room) s m ([.ref u0, .long u1, .long u3] : List Value).toArray below meth c H locs 0 0 (MQ below (hQ D z h' none) ([.ref u0, .long u1, .long u3] : List Value).toArray s 0 0 (hA z)) (F0 m 0 ls []) from hgo _ _ hr hS
  clear hr hS
  intro H locs hr hS
  unfold zs_X8_grow at hs
  refine lv_lload_n hx hb dX8_grow_0 rfl (lv_at hl 2 rfl) ?_
  refine lv_lstore (lv' := [(5, .long u3), (0, .ref u0), (1, .long u1), (3, .long u3)]) hx hb dX8_grow_1 hl (by decide) rfl (fun ls hl => ?_)
  refine lv_iconst (v := 0) hx hb dX8_grow_3 (by decide) ?_
  refine lv_istore (lv' := [(7, .int ((0 : Int32))), (5, .long u3), (0, .ref u0), (1, .long u1), (3, .long u3)]) hx hb dX8_grow_4 hl (by decide) rfl (fun ls hl => ?_)
  obtain ⟨r10, er10, hs⟩ := bi_inv hs
  refine iter_W (fun (q : AH × Int64 × Int32) => ∀ (H : Heap) (locs : List Loc) (ls : Array Slot), hR D z q.1 H → va_S (hA z) s.heap H locs → lv_has ls 10 [(0, .ref u0), (1, .long u1), (5, .long q.2.1), (7, .int q.2.2)] → W p l e ({ frames := 0, cells := 0, slots := 0, locals := 0 } : Room) s m ([.ref u0, .long u1, .long u3] : List Value).toArray below meth c H locs 0 0 (MQ below (hQ D z h' none) ([.ref u0, .long u1, .long u3] : List Value).toArray s 0 0 (hA z)) (F0 m 6 ls [])) (fun (x : (AH × Int64)) => ∀ (H : Heap) (locs : List Loc) (ls : Array Slot), hR D z x.1 H → va_S (hA z) s.heap H locs → lv_has ls 10 [(0, .ref u0), (5, .long x.2)] → W p l e ({ frames := 0, cells := 0, slots := 0, locals := 0 } : Room) s m ([.ref u0, .long u1, .long u3] : List Value).toArray below meth c H locs 0 0 (MQ below (hQ D z h' none) ([.ref u0, .long u1, .long u3] : List Value).toArray s 0 0 (hA z)) (F0 m 55 ls [])) ?_ FU _ r10 er10 ?_ H locs ls hr hS (lv_sub hl [2, 3, 1, 0] rfl)
  · intro q o hs hcont hexit
    obtain ⟨g1, w5, w7⟩ := q
    replace hs : zb_X8_grow_6 u0 u1 g1 w5 w7 = some o := hs
    intro H locs ls hr hS hl
    unfold zb_X8_grow_6 at hs
    refine lv_iload hx hb dX8_grow_6 (lv_at hl 3 rfl) ?_
    refine lv_aload_n hx hb dX8_grow_8 rfl (lv_at hl 0 rfl) ?_
    obtain ⟨x2, ex2, hs⟩ := bi_inv hs
    refine hv_gI (C := RX8) (T := TX8) (N := 3) (ci := 8) hx hb hts inX8 hown hk hr rfl 1 (by decide) (hts _ tw_39) ex2 dX8_grow_9 ?_
    refine lv_icmp_ge (tgt := 55) hx hb dX8_grow_12 (by decide) (fun c3 => ?_) (fun c3 => ?_)
    · rw [if_pos c3] at hs
      obtain rfl := Option.some.inj hs
      exact hexit _ rfl H locs ls hr hS (lv_sub hl [0, 2] rfl)
    · rw [if_neg c3] at hs
      refine lv_aload_n hx hb dX8_grow_15 rfl (lv_at hl 0 rfl) ?_
      obtain ⟨x4, ex4, hs⟩ := bi_inv hs
      refine hv_gR (C := RX8) (T := TX8) (N := 3) (ci := 8) hx hb hts inX8 hown hk hr rfl 0 (by decide) (hts _ tw_36) ex4 dX8_grow_16 ?_
      refine lv_iload hx hb dX8_grow_19 (lv_at hl 3 rfl) ?_
      obtain ⟨x5, ex5, hs⟩ := bi_inv hs
      refine hv_aJ hx hb hk hr ex5 dX8_grow_21 ?_
      refine lv_lload_n hx hb dX8_grow_22 rfl (lv_at hl 1 rfl) ?_
      refine lv_lmul hx hb dX8_grow_23 ?_
      refine lv_lload hx hb dX8_grow_24 (lv_at hl 2 rfl) ?_
      refine lv_ladd hx hb dX8_grow_26 ?_
      refine lv_topl (fun x6 ex6 => ?_)
      replace hs := lt_inv hs x6 ex6
      refine lv_lstore (lv' := [(8, .long x6), (0, .ref u0), (1, .long u1), (5, .long w5), (7, .int w7)]) hx hb dX8_grow_27 hl (by decide) rfl (fun ls hl => ?_)
      refine lv_aload_n hx hb dX8_grow_29 rfl (lv_at hl 1 rfl) ?_
      obtain ⟨x7, ex7, hs⟩ := bi_inv hs
      refine hv_gR (C := RX8) (T := TX8) (N := 3) (ci := 8) hx hb hts inX8 hown hk hr rfl 0 (by decide) (hts _ tw_36) ex7 dX8_grow_30 ?_
      refine lv_iload hx hb dX8_grow_33 (lv_at hl 4 rfl) ?_
      refine lv_lload hx hb dX8_grow_35 (lv_at hl 0 rfl) ?_
      refine lv_ldc2 hx hb hown (hts _ tw_69) dX8_grow_37 ?_
      refine lv_land hx hb dX8_grow_40 ?_
      obtain ⟨g8, eg8, hs⟩ := bi_inv hs
      refine hv_sJ hx hb hk hr hS eg8 dX8_grow_41 (fun H locs hr hS => ?_)
      refine lv_lload hx hb dX8_grow_42 (lv_at hl 0 rfl) ?_
      refine lv_bipush (v := 32) hx hb dX8_grow_44 (by decide) ?_
      refine lv_lushr hx hb dX8_grow_46 rfl ?_
      refine lv_topl (fun x9 ex9 => ?_)
      replace hs := lt_inv hs x9 ex9
      refine lv_lstore (lv' := [(5, .long x9), (8, .long x6), (0, .ref u0), (1, .long u1), (7, .int w7)]) hx hb dX8_grow_47 hl (by decide) rfl (fun ls hl => ?_)
      refine lv_iinc (v := w7 + (1 : Int32)) (lv' := [(7, .int (w7 + (1 : Int32))), (5, .long x9), (8, .long x6), (0, .ref u0), (1, .long u1)]) hx hb dX8_grow_49 hl (k := 4) rfl (ii_v _ (by decide)) (by decide) rfl (fun ls hl => ?_)
      refine lv_goto (tgt := 6) hx hb dX8_grow_52 (by decide) ?_
      obtain rfl := Option.some.inj hs
      exact hcont _ rfl H locs ls hr hS (lv_sub hl [3, 4, 1, 0] rfl)
  · intro H locs ls hr hS hl
    refine lv_lload hx hb dX8_grow_55 (lv_at hl 1 rfl) ?_
    refine lv_lconst (v := 0) hx hb dX8_grow_57 (by decide) ?_
    refine hv_lc_eq (tgt := 92) hx hb dX8_grow_58 dX8_grow_59 (by decide) (fun c11 => ?_) (fun c11 => ?_)
    · rw [if_pos c11] at hs
      obtain rfl := Option.some.inj hs
      exact hv_vret hx hb hrt hlk hr hS dX8_grow_92
    · rw [if_neg c11] at hs
      refine lv_aload_n hx hb dX8_grow_62 rfl (lv_at hl 0 rfl) ?_
      obtain ⟨x12, ex12, hs⟩ := bi_inv hs
      refine hv_gI (C := RX8) (T := TX8) (N := 3) (ci := 8) hx hb hts inX8 hown hk hr rfl 1 (by decide) (hts _ tw_39) ex12 dX8_grow_63 ?_
      refine lv_bipush (v := 26) hx hb dX8_grow_66 (by decide) ?_
      refine lv_icmp_ge (tgt := 92) hx hb dX8_grow_68 (by decide) (fun c13 => ?_) (fun c13 => ?_)
      · rw [if_pos c13] at hs
        obtain rfl := Option.some.inj hs
        exact hv_vret hx hb hrt hlk hr hS dX8_grow_92
      · rw [if_neg c13] at hs
        refine lv_aload_n hx hb dX8_grow_71 rfl (lv_at hl 0 rfl) ?_
        obtain ⟨x14, ex14, hs⟩ := bi_inv hs
        refine hv_gR (C := RX8) (T := TX8) (N := 3) (ci := 8) hx hb hts inX8 hown hk hr rfl 0 (by decide) (hts _ tw_36) ex14 dX8_grow_72 ?_
        refine lv_aload_n hx hb dX8_grow_75 rfl (lv_at hl 0 rfl) ?_
        obtain ⟨x15, ex15, hs⟩ := bi_inv hs
        refine hv_gI (C := RX8) (T := TX8) (N := 3) (ci := 8) hx hb hts inX8 hown hk hr rfl 1 (by decide) (hts _ tw_39) ex15 dX8_grow_76 ?_
        refine lv_lload hx hb dX8_grow_79 (lv_at hl 1 rfl) ?_
        obtain ⟨g16, eg16, hs⟩ := bi_inv hs
        refine hv_sJ hx hb hk hr hS eg16 dX8_grow_81 (fun H locs hr hS => ?_)
        refine lv_aload_n hx hb dX8_grow_82 rfl (lv_at hl 0 rfl) ?_
        refine lv_dup hx hb dX8_grow_83 rfl ?_
        obtain ⟨x17, ex17, hs⟩ := bi_inv hs
        refine hv_gI (C := RX8) (T := TX8) (N := 3) (ci := 8) hx hb hts inX8 hown hk hr rfl 1 (by decide) (hts _ tw_39) ex17 dX8_grow_84 ?_
        refine lv_iconst (v := 1) hx hb dX8_grow_87 (by decide) ?_
        refine lv_iadd hx hb dX8_grow_88 ?_
        obtain ⟨g18, eg18, hs⟩ := bi_inv hs
        refine hv_pV (C := RX8) (T := TX8) (N := 3) (ci := 8) hx hb hts inX8 tyX8 tyX8_ok nmX8 hown hk hr hS rfl 1 (by decide) (hts _ tw_39) rfl rfl rfl eg18 dX8_grow_89 (fun H locs hr hS => ?_)
        obtain rfl := Option.some.inj hs
        exact hv_vret hx hb hrt hlk hr hS dX8_grow_92
theorem dX8_product_0 : decode cX8_product 0 = .ok (.aload_n 0, 1) := by decide +kernel
theorem dX8_product_1 : decode cX8_product 1 = .ok (.getfield 15, 3) := by decide +kernel
theorem dX8_product_4 : decode cX8_product 4 = .ok (.aload_n 1, 1) := by decide +kernel
theorem dX8_product_5 : decode cX8_product 5 = .ok (.getfield 15, 3) := by decide +kernel
theorem dX8_product_8 : decode cX8_product 8 = .ok (.iadd, 1) := by decide +kernel
theorem dX8_product_9 : decode cX8_product 9 = .ok (.bipush 26, 2) := by decide +kernel
theorem dX8_product_11 : decode cX8_product 11 = .ok (.invokestatic 73, 3) := by decide +kernel
theorem dX8_product_14 : decode cX8_product 14 = .ok (.istore_n 3, 1) := by decide +kernel
theorem dX8_product_15 : decode cX8_product 15 = .ok (.iconst 0, 1) := by decide +kernel
theorem dX8_product_16 : decode cX8_product 16 = .ok (.istore 4, 2) := by decide +kernel
theorem dX8_product_18 : decode cX8_product 18 = .ok (.iload 4, 2) := by decide +kernel
theorem dX8_product_20 : decode cX8_product 20 = .ok (.iload_n 3, 1) := by decide +kernel
theorem dX8_product_21 : decode cX8_product 21 = .ok (.if_icmp .ge 17, 3) := by decide +kernel
theorem dX8_product_24 : decode cX8_product 24 = .ok (.aload_n 2, 1) := by decide +kernel
theorem dX8_product_25 : decode cX8_product 25 = .ok (.getfield 9, 3) := by decide +kernel
theorem dX8_product_28 : decode cX8_product 28 = .ok (.iload 4, 2) := by decide +kernel
theorem dX8_product_30 : decode cX8_product 30 = .ok (.lconst 0, 1) := by decide +kernel
theorem dX8_product_31 : decode cX8_product 31 = .ok (.lastore, 1) := by decide +kernel
theorem dX8_product_32 : decode cX8_product 32 = .ok (.iinc 4 1, 3) := by decide +kernel
theorem dX8_product_35 : decode cX8_product 35 = .ok (.goto (-17), 3) := by decide +kernel
theorem dX8_product_38 : decode cX8_product 38 = .ok (.iconst 0, 1) := by decide +kernel
theorem dX8_product_39 : decode cX8_product 39 = .ok (.istore 4, 2) := by decide +kernel
theorem dX8_product_41 : decode cX8_product 41 = .ok (.iload 4, 2) := by decide +kernel
theorem dX8_product_43 : decode cX8_product 43 = .ok (.aload_n 0, 1) := by decide +kernel
theorem dX8_product_44 : decode cX8_product 44 = .ok (.getfield 15, 3) := by decide +kernel
theorem dX8_product_47 : decode cX8_product 47 = .ok (.if_icmp .ge 122, 3) := by decide +kernel
theorem dX8_product_50 : decode cX8_product 50 = .ok (.aload_n 0, 1) := by decide +kernel
theorem dX8_product_51 : decode cX8_product 51 = .ok (.getfield 9, 3) := by decide +kernel
theorem dX8_product_54 : decode cX8_product 54 = .ok (.iload 4, 2) := by decide +kernel
theorem dX8_product_56 : decode cX8_product 56 = .ok (.laload, 1) := by decide +kernel
theorem dX8_product_57 : decode cX8_product 57 = .ok (.lstore 5, 2) := by decide +kernel
theorem dX8_product_59 : decode cX8_product 59 = .ok (.lconst 0, 1) := by decide +kernel
theorem dX8_product_60 : decode cX8_product 60 = .ok (.lstore 7, 2) := by decide +kernel
theorem dX8_product_62 : decode cX8_product 62 = .ok (.iconst 0, 1) := by decide +kernel
theorem dX8_product_63 : decode cX8_product 63 = .ok (.istore 9, 2) := by decide +kernel
theorem dX8_product_65 : decode cX8_product 65 = .ok (.iload 9, 2) := by decide +kernel
theorem dX8_product_67 : decode cX8_product 67 = .ok (.aload_n 1, 1) := by decide +kernel
theorem dX8_product_68 : decode cX8_product 68 = .ok (.getfield 15, 3) := by decide +kernel
theorem dX8_product_71 : decode cX8_product 71 = .ok (.if_icmp .ge 67, 3) := by decide +kernel
theorem dX8_product_74 : decode cX8_product 74 = .ok (.iload 4, 2) := by decide +kernel
theorem dX8_product_76 : decode cX8_product 76 = .ok (.iload 9, 2) := by decide +kernel
theorem dX8_product_78 : decode cX8_product 78 = .ok (.iadd, 1) := by decide +kernel
theorem dX8_product_79 : decode cX8_product 79 = .ok (.iload_n 3, 1) := by decide +kernel
theorem dX8_product_80 : decode cX8_product 80 = .ok (.if_icmp .ge 58, 3) := by decide +kernel
theorem dX8_product_83 : decode cX8_product 83 = .ok (.lload 5, 2) := by decide +kernel
theorem dX8_product_85 : decode cX8_product 85 = .ok (.aload_n 1, 1) := by decide +kernel
theorem dX8_product_86 : decode cX8_product 86 = .ok (.getfield 9, 3) := by decide +kernel
theorem dX8_product_89 : decode cX8_product 89 = .ok (.iload 9, 2) := by decide +kernel
theorem dX8_product_91 : decode cX8_product 91 = .ok (.laload, 1) := by decide +kernel
theorem dX8_product_92 : decode cX8_product 92 = .ok (.lmul, 1) := by decide +kernel
theorem dX8_product_93 : decode cX8_product 93 = .ok (.aload_n 2, 1) := by decide +kernel
theorem dX8_product_94 : decode cX8_product 94 = .ok (.getfield 9, 3) := by decide +kernel
theorem dX8_product_97 : decode cX8_product 97 = .ok (.iload 4, 2) := by decide +kernel
theorem dX8_product_99 : decode cX8_product 99 = .ok (.iload 9, 2) := by decide +kernel
theorem dX8_product_101 : decode cX8_product 101 = .ok (.iadd, 1) := by decide +kernel
theorem dX8_product_102 : decode cX8_product 102 = .ok (.laload, 1) := by decide +kernel
theorem dX8_product_103 : decode cX8_product 103 = .ok (.ladd, 1) := by decide +kernel
theorem dX8_product_104 : decode cX8_product 104 = .ok (.lload 7, 2) := by decide +kernel
theorem dX8_product_106 : decode cX8_product 106 = .ok (.ladd, 1) := by decide +kernel
theorem dX8_product_107 : decode cX8_product 107 = .ok (.lstore 10, 2) := by decide +kernel
theorem dX8_product_109 : decode cX8_product 109 = .ok (.aload_n 2, 1) := by decide +kernel
theorem dX8_product_110 : decode cX8_product 110 = .ok (.getfield 9, 3) := by decide +kernel
theorem dX8_product_113 : decode cX8_product 113 = .ok (.iload 4, 2) := by decide +kernel
theorem dX8_product_115 : decode cX8_product 115 = .ok (.iload 9, 2) := by decide +kernel
theorem dX8_product_117 : decode cX8_product 117 = .ok (.iadd, 1) := by decide +kernel
theorem dX8_product_118 : decode cX8_product 118 = .ok (.lload 10, 2) := by decide +kernel
theorem dX8_product_120 : decode cX8_product 120 = .ok (.ldc2_w 23, 3) := by decide +kernel
theorem dX8_product_123 : decode cX8_product 123 = .ok (.land, 1) := by decide +kernel
theorem dX8_product_124 : decode cX8_product 124 = .ok (.lastore, 1) := by decide +kernel
theorem dX8_product_125 : decode cX8_product 125 = .ok (.lload 10, 2) := by decide +kernel
theorem dX8_product_127 : decode cX8_product 127 = .ok (.bipush 32, 2) := by decide +kernel
theorem dX8_product_129 : decode cX8_product 129 = .ok (.lushr, 1) := by decide +kernel
theorem dX8_product_130 : decode cX8_product 130 = .ok (.lstore 7, 2) := by decide +kernel
theorem dX8_product_132 : decode cX8_product 132 = .ok (.iinc 9 1, 3) := by decide +kernel
theorem dX8_product_135 : decode cX8_product 135 = .ok (.goto (-70), 3) := by decide +kernel
theorem dX8_product_138 : decode cX8_product 138 = .ok (.iload 4, 2) := by decide +kernel
theorem dX8_product_140 : decode cX8_product 140 = .ok (.aload_n 1, 1) := by decide +kernel
theorem dX8_product_141 : decode cX8_product 141 = .ok (.getfield 15, 3) := by decide +kernel
theorem dX8_product_144 : decode cX8_product 144 = .ok (.iadd, 1) := by decide +kernel
theorem dX8_product_145 : decode cX8_product 145 = .ok (.iload_n 3, 1) := by decide +kernel
theorem dX8_product_146 : decode cX8_product 146 = .ok (.if_icmp .ge 17, 3) := by decide +kernel
theorem dX8_product_149 : decode cX8_product 149 = .ok (.aload_n 2, 1) := by decide +kernel
theorem dX8_product_150 : decode cX8_product 150 = .ok (.getfield 9, 3) := by decide +kernel
theorem dX8_product_153 : decode cX8_product 153 = .ok (.iload 4, 2) := by decide +kernel
theorem dX8_product_155 : decode cX8_product 155 = .ok (.aload_n 1, 1) := by decide +kernel
theorem dX8_product_156 : decode cX8_product 156 = .ok (.getfield 15, 3) := by decide +kernel
theorem dX8_product_159 : decode cX8_product 159 = .ok (.iadd, 1) := by decide +kernel
theorem dX8_product_160 : decode cX8_product 160 = .ok (.lload 7, 2) := by decide +kernel
theorem dX8_product_162 : decode cX8_product 162 = .ok (.lastore, 1) := by decide +kernel
theorem dX8_product_163 : decode cX8_product 163 = .ok (.iinc 4 1, 3) := by decide +kernel
theorem dX8_product_166 : decode cX8_product 166 = .ok (.goto (-125), 3) := by decide +kernel
theorem dX8_product_169 : decode cX8_product 169 = .ok (.aload_n 2, 1) := by decide +kernel
theorem dX8_product_170 : decode cX8_product 170 = .ok (.iload_n 3, 1) := by decide +kernel
theorem dX8_product_171 : decode cX8_product 171 = .ok (.invokevirtual 25, 3) := by decide +kernel
theorem dX8_product_174 : decode cX8_product 174 = .ok (.aload_n 2, 1) := by decide +kernel
theorem dX8_product_175 : decode cX8_product 175 = .ok (.aload_n 0, 1) := by decide +kernel
theorem dX8_product_176 : decode cX8_product 176 = .ok (.getfield 19, 3) := by decide +kernel
theorem dX8_product_179 : decode cX8_product 179 = .ok (.aload_n 1, 1) := by decide +kernel
theorem dX8_product_180 : decode cX8_product 180 = .ok (.getfield 19, 3) := by decide +kernel
theorem dX8_product_183 : decode cX8_product 183 = .ok (.if_icmp .eq 7, 3) := by decide +kernel
theorem dX8_product_186 : decode cX8_product 186 = .ok (.iconst 1, 1) := by decide +kernel
theorem dX8_product_187 : decode cX8_product 187 = .ok (.goto 4, 3) := by decide +kernel
theorem dX8_product_190 : decode cX8_product 190 = .ok (.iconst 0, 1) := by decide +kernel
theorem dX8_product_191 : decode cX8_product 191 = .ok (.invokevirtual 29, 3) := by decide +kernel
theorem dX8_product_194 : decode cX8_product 194 = .ok (.return_, 1) := by decide +kernel
def zb_X8_product_18 (w0 : Nat) (w1 : Nat) (w2 : Nat) (w3 : Int32) (g4 : AH) (w4 : Int32) : Option ((AH × Int32) ⊕ (AH)) :=
  (if w3 ≤ w4 then some (Sum.inr g4) else (gR g4 w2 8 0).bind fun x6 => (sJ g4 x6 1 w4 ((0 : Int64))).bind fun g7 => some (Sum.inl ((g7, w4 + (1 : Int32)))))
def zb_X8_product_65 (w0 : Nat) (w1 : Nat) (w2 : Nat) (w3 : Int32) (w4 : Int32) (w5 : Int64) (g14 : AH) (w7 : Int64) (w9 : Int32) : Option ((AH × Int64 × Int32) ⊕ ((AH × Int64))) :=
  (gI g14 w1 8 1).bind fun x15 => (if x15 ≤ w9 then some (Sum.inr ((g14, w7))) else (if w3 ≤ w4 + w9 then some (Sum.inr ((g14, w7))) else (gR g14 w1 8 0).bind fun x18 => (aJ g14 x18 1 w9).bind fun x19 => (gR g14 w2 8 0).bind fun x20 => (aJ g14 x20 1 (w4 + w9)).bind fun x21 => lt_ (((w5 * x19) + x21) + w7) fun x22 => (gR g14 w2 8 0).bind fun x23 => (sJ g14 x23 1 (w4 + w9) (x22 &&& ((4294967295 : Int64)))).bind fun g24 => lt_ ((x22.toUInt64 >>> (((32 : Int32)).toInt64.toUInt64 &&& Int64.toUInt64 63)).toInt64) fun x25 => some (Sum.inl ((g24, x25, w9 + (1 : Int32))))))
def zb_X8_product_41 (w0 : Nat) (w1 : Nat) (w2 : Nat) (w3 : Int32) (g9 : AH) (w4 : Int32) : Option ((AH × Int32) ⊕ (AH)) :=
  (gI g9 w0 8 1).bind fun x10 => (if x10 ≤ w4 then some (Sum.inr g9) else (gR g9 w0 8 0).bind fun x12 => (aJ g9 x12 1 w4).bind fun x13 => (iter (fun q : AH × Int64 × Int32 => zb_X8_product_65 w0 w1 w2 w3 w4 x13 q.1 q.2.1 q.2.2) FU ((g9, (0 : Int64), (0 : Int32)))).bind fun r26 => (gI r26.1 w1 8 1).bind fun x27 => (if w3 ≤ w4 + x27 then some (Sum.inl ((r26.1, w4 + (1 : Int32)))) else (gR r26.1 w2 8 0).bind fun x29 => (gI r26.1 w1 8 1).bind fun x30 => (sJ r26.1 x29 1 (w4 + x30) r26.2).bind fun g31 => some (Sum.inl ((g31, w4 + (1 : Int32))))))
def zj_X8_product_191 (g38 : AH) (t0_191 : Int32) (t1_191 : Nat) : Option AH :=
  (chk g38 t1_191 8).bind fun _ => (zs_X8_takeSign g38 t1_191 t0_191).bind fun g40 => some g40
def zs_X8_product (h : AH) (u0 : Nat) (u1 : Nat) (u2 : Nat) : Option AH :=
  (gI h u0 8 1).bind fun x1 => (gI h u1 8 1).bind fun x2 => lt_ (if (26 : Int32) < x1 + x2 then (26 : Int32) else x1 + x2) fun x3 => (iter (fun q : AH × Int32 => zb_X8_product_18 u0 u1 u2 x3 q.1 q.2) FU ((h, (0 : Int32)))).bind fun r8 => (iter (fun q : AH × Int32 => zb_X8_product_41 u0 u1 u2 x3 q.1 q.2) FU ((r8, (0 : Int32)))).bind fun r32 => (chk r32 u2 8).bind fun _ => (zs_X8_trim r32 u2 x3).bind fun g34 => (gI g34 u0 8 2).bind fun x35 => (gI g34 u1 8 2).bind fun x36 => (if x35 = x36 then zj_X8_product_191 g34 ((0 : Int32)) u2 else zj_X8_product_191 g34 ((1 : Int32)) u2)
set_option maxRecDepth 100000 in
set_option maxHeartbeats 4000000 in
theorem zm_X8_product (l : Launch) (D : hG) (z : Nat) {h : AH} {u0 : Nat} {u1 : Nat} {u2 : Nat} {h' : AH} (hs : zs_X8_product h u0 u1 u2 = some h') : hC l D z yX8_product cX8_product 12 (Option.none : Option Jvm.ClassFile.FieldType) 1 21 0 0 [.ref u0, .ref u1, .ref u2] h h' none := by
  refine hC_of (by decide) (Nat.le_of_ble_eq_true rfl) ?_
  intro p e s m below meth c hx hb hml hrt hlk hown hnm hts hk hr hz ls hl
  replace hown : s.vm.findClass RX8 = some m.cls := hown
  replace hl : lv_has ls 12 [(0, .ref u0), (1, .ref u1), (2, .ref u2)] := hl
  have hS : va_S (hA z) s.heap s.heap [] := va_S.rf
  suffices hgo : ∀ (H : Heap) (locs : List Loc), hR D z h H → va_S (hA z) s.heap H locs → W p l e ({ frames := 1, cells := 0, slots := 0, locals := 21 } : Room) s m ([.ref u0, .ref u1, .ref u2] : List Value).toArray below meth c H locs 0 0 (MQ below (hQ D z h' none) ([.ref u0, .ref u1, .ref u2] : List Value).toArray s 0 0 (hA z)) (F0 m 0 ls []) from hgo _ _ hr hS
  clear hr hS
  intro H locs hr hS
  have hJ191 : ∀ (g38 : AH) (t0_191 : Int32) (t1_191 : Nat) (H : Heap) (locs : List Loc) (ls : Array Slot), zj_X8_product_191 g38 t0_191 t1_191 = some h' → hR D z g38 H → va_S (hA z) s.heap H locs → lv_has ls 12 [] → W p l e ({ frames := 1, cells := 0, slots := 0, locals := 21 } : Room) s m ([.ref u0, .ref u1, .ref u2] : List Value).toArray below meth c H locs 0 0 (MQ below (hQ D z h' none) ([.ref u0, .ref u1, .ref u2] : List Value).toArray s 0 0 (hA z)) (F0 m 191 ls [.int t0_191, .ref t1_191]) := by
    intro g38 t0_191 t1_191 H locs ls hs hr hS hl
    unfold zj_X8_product_191 at hs
    obtain ⟨_, ex39, hs⟩ := bi_inv hs
    obtain ⟨g40, eg40, hs⟩ := bi_inv hs
    refine hv_V0 (n := 1) [.int t0_191] [] hx hb hml hown hts hk hr hz hS (zm_X8_takeSign l D z eg40) ex39 rfl tw_74 tw_75 tw_76 tw_2 tw_77 (by decide +kernel) (by decide) ⟨(Nat.zero_le _), (Nat.zero_le _)⟩ rfl hl.1 (Nat.le_of_ble_eq_true rfl) dX8_product_191 rfl (fun H locs hr hS => ?_)
    obtain rfl := Option.some.inj hs
    exact hv_vret hx hb hrt hlk hr hS dX8_product_194
  unfold zs_X8_product at hs
  refine lv_aload_n hx hb dX8_product_0 rfl (lv_at hl 0 rfl) ?_
  obtain ⟨x1, ex1, hs⟩ := bi_inv hs
  refine hv_gI (C := RX8) (T := TX8) (N := 3) (ci := 8) hx hb hts inX8 hown hk hr rfl 1 (by decide) (hts _ tw_39) ex1 dX8_product_1 ?_
  refine lv_aload_n hx hb dX8_product_4 rfl (lv_at hl 1 rfl) ?_
  obtain ⟨x2, ex2, hs⟩ := bi_inv hs
  refine hv_gI (C := RX8) (T := TX8) (N := 3) (ci := 8) hx hb hts inX8 hown hk hr rfl 1 (by decide) (hts _ tw_39) ex2 dX8_product_5 ?_
  refine lv_iadd hx hb dX8_product_8 ?_
  refine lv_bipush (v := 26) hx hb dX8_product_9 (by decide) ?_
  refine va_mmin hx hb (hml.trans hl.1.symm) hown (hts _ tw_462) (hts _ tw_463) (hts _ tw_15) (hts _ tw_464) (by decide) (Nat.le_of_ble_eq_true rfl) (Nat.zero_le _) (Nat.zero_le _) dX8_product_11 ?_
  refine lv_topi (fun x3 ex3 => ?_)
  replace hs := lt_inv hs x3 ex3
  refine lv_istore_n (lv' := [(3, .int x3), (0, .ref u0), (1, .ref u1), (2, .ref u2)]) hx hb dX8_product_14 rfl hl (by decide) rfl (fun ls hl => ?_)
  refine lv_iconst (v := 0) hx hb dX8_product_15 (by decide) ?_
  refine lv_istore (lv' := [(4, .int ((0 : Int32))), (3, .int x3), (0, .ref u0), (1, .ref u1), (2, .ref u2)]) hx hb dX8_product_16 hl (by decide) rfl (fun ls hl => ?_)
  obtain ⟨r8, er8, hs⟩ := bi_inv hs
  refine iter_W (fun (q : AH × Int32) => ∀ (H : Heap) (locs : List Loc) (ls : Array Slot), hR D z q.1 H → va_S (hA z) s.heap H locs → lv_has ls 12 [(0, .ref u0), (1, .ref u1), (2, .ref u2), (3, .int x3), (4, .int q.2)] → W p l e ({ frames := 1, cells := 0, slots := 0, locals := 21 } : Room) s m ([.ref u0, .ref u1, .ref u2] : List Value).toArray below meth c H locs 0 0 (MQ below (hQ D z h' none) ([.ref u0, .ref u1, .ref u2] : List Value).toArray s 0 0 (hA z)) (F0 m 18 ls [])) (fun (x : AH) => ∀ (H : Heap) (locs : List Loc) (ls : Array Slot), hR D z x H → va_S (hA z) s.heap H locs → lv_has ls 12 [(0, .ref u0), (1, .ref u1), (2, .ref u2), (3, .int x3)] → W p l e ({ frames := 1, cells := 0, slots := 0, locals := 21 } : Room) s m ([.ref u0, .ref u1, .ref u2] : List Value).toArray below meth c H locs 0 0 (MQ below (hQ D z h' none) ([.ref u0, .ref u1, .ref u2] : List Value).toArray s 0 0 (hA z)) (F0 m 38 ls [])) ?_ FU _ r8 er8 ?_ H locs ls hr hS (lv_sub hl [2, 3, 4, 1, 0] rfl)
  · intro q o hs hcont hexit
    obtain ⟨g4, w4⟩ := q
    replace hs : zb_X8_product_18 u0 u1 u2 x3 g4 w4 = some o := hs
    intro H locs ls hr hS hl
    unfold zb_X8_product_18 at hs
    refine lv_iload hx hb dX8_product_18 (lv_at hl 4 rfl) ?_
    refine lv_iload_n hx hb dX8_product_20 rfl (lv_at hl 3 rfl) ?_
    refine lv_icmp_ge (tgt := 38) hx hb dX8_product_21 (by decide) (fun c5 => ?_) (fun c5 => ?_)
    · rw [if_pos c5] at hs
      obtain rfl := Option.some.inj hs
      exact hexit _ rfl H locs ls hr hS (lv_sub hl [0, 1, 2, 3] rfl)
    · rw [if_neg c5] at hs
      refine lv_aload_n hx hb dX8_product_24 rfl (lv_at hl 2 rfl) ?_
      obtain ⟨x6, ex6, hs⟩ := bi_inv hs
      refine hv_gR (C := RX8) (T := TX8) (N := 3) (ci := 8) hx hb hts inX8 hown hk hr rfl 0 (by decide) (hts _ tw_36) ex6 dX8_product_25 ?_
      refine lv_iload hx hb dX8_product_28 (lv_at hl 4 rfl) ?_
      refine lv_lconst (v := 0) hx hb dX8_product_30 (by decide) ?_
      obtain ⟨g7, eg7, hs⟩ := bi_inv hs
      refine hv_sJ hx hb hk hr hS eg7 dX8_product_31 (fun H locs hr hS => ?_)
      refine lv_iinc (v := w4 + (1 : Int32)) (lv' := [(4, .int (w4 + (1 : Int32))), (0, .ref u0), (1, .ref u1), (2, .ref u2), (3, .int x3)]) hx hb dX8_product_32 hl (k := 4) rfl (ii_v _ (by decide)) (by decide) rfl (fun ls hl => ?_)
      refine lv_goto (tgt := 18) hx hb dX8_product_35 (by decide) ?_
      obtain rfl := Option.some.inj hs
      exact hcont _ rfl H locs ls hr hS (lv_sub hl [1, 2, 3, 4, 0] rfl)
  · intro H locs ls hr hS hl
    refine lv_iconst (v := 0) hx hb dX8_product_38 (by decide) ?_
    refine lv_istore (lv' := [(4, .int ((0 : Int32))), (0, .ref u0), (1, .ref u1), (2, .ref u2), (3, .int x3)]) hx hb dX8_product_39 hl (by decide) rfl (fun ls hl => ?_)
    obtain ⟨r32, er32, hs⟩ := bi_inv hs
    refine iter_W (fun (q : AH × Int32) => ∀ (H : Heap) (locs : List Loc) (ls : Array Slot), hR D z q.1 H → va_S (hA z) s.heap H locs → lv_has ls 12 [(0, .ref u0), (1, .ref u1), (2, .ref u2), (3, .int x3), (4, .int q.2)] → W p l e ({ frames := 1, cells := 0, slots := 0, locals := 21 } : Room) s m ([.ref u0, .ref u1, .ref u2] : List Value).toArray below meth c H locs 0 0 (MQ below (hQ D z h' none) ([.ref u0, .ref u1, .ref u2] : List Value).toArray s 0 0 (hA z)) (F0 m 41 ls [])) (fun (x : AH) => ∀ (H : Heap) (locs : List Loc) (ls : Array Slot), hR D z x H → va_S (hA z) s.heap H locs → lv_has ls 12 [(0, .ref u0), (1, .ref u1), (2, .ref u2), (3, .int x3)] → W p l e ({ frames := 1, cells := 0, slots := 0, locals := 21 } : Room) s m ([.ref u0, .ref u1, .ref u2] : List Value).toArray below meth c H locs 0 0 (MQ below (hQ D z h' none) ([.ref u0, .ref u1, .ref u2] : List Value).toArray s 0 0 (hA z)) (F0 m 169 ls [])) ?_ FU _ r32 er32 ?_ H locs ls hr hS (lv_sub hl [1, 2, 3, 4, 0] rfl)
    · intro q o hs hcont hexit
      obtain ⟨g9, w4⟩ := q
      replace hs : zb_X8_product_41 u0 u1 u2 x3 g9 w4 = some o := hs
      intro H locs ls hr hS hl
      unfold zb_X8_product_41 at hs
      refine lv_iload hx hb dX8_product_41 (lv_at hl 4 rfl) ?_
      refine lv_aload_n hx hb dX8_product_43 rfl (lv_at hl 0 rfl) ?_
      obtain ⟨x10, ex10, hs⟩ := bi_inv hs
      refine hv_gI (C := RX8) (T := TX8) (N := 3) (ci := 8) hx hb hts inX8 hown hk hr rfl 1 (by decide) (hts _ tw_39) ex10 dX8_product_44 ?_
      refine lv_icmp_ge (tgt := 169) hx hb dX8_product_47 (by decide) (fun c11 => ?_) (fun c11 => ?_)
      · rw [if_pos c11] at hs
        obtain rfl := Option.some.inj hs
        exact hexit _ rfl H locs ls hr hS (lv_sub hl [0, 1, 2, 3] rfl)
      · rw [if_neg c11] at hs
        refine lv_aload_n hx hb dX8_product_50 rfl (lv_at hl 0 rfl) ?_
        obtain ⟨x12, ex12, hs⟩ := bi_inv hs
        refine hv_gR (C := RX8) (T := TX8) (N := 3) (ci := 8) hx hb hts inX8 hown hk hr rfl 0 (by decide) (hts _ tw_36) ex12 dX8_product_51 ?_
        refine lv_iload hx hb dX8_product_54 (lv_at hl 4 rfl) ?_
        obtain ⟨x13, ex13, hs⟩ := bi_inv hs
        refine hv_aJ hx hb hk hr ex13 dX8_product_56 ?_
        refine lv_lstore (lv' := [(5, .long x13), (0, .ref u0), (1, .ref u1), (2, .ref u2), (3, .int x3), (4, .int w4)]) hx hb dX8_product_57 hl (by decide) rfl (fun ls hl => ?_)
        refine lv_lconst (v := 0) hx hb dX8_product_59 (by decide) ?_
        refine lv_lstore (lv' := [(7, .long ((0 : Int64))), (5, .long x13), (0, .ref u0), (1, .ref u1), (2, .ref u2), (3, .int x3), (4, .int w4)]) hx hb dX8_product_60 hl (by decide) rfl (fun ls hl => ?_)
        refine lv_iconst (v := 0) hx hb dX8_product_62 (by decide) ?_
        refine lv_istore (lv' := [(9, .int ((0 : Int32))), (7, .long ((0 : Int64))), (5, .long x13), (0, .ref u0), (1, .ref u1), (2, .ref u2), (3, .int x3), (4, .int w4)]) hx hb dX8_product_63 hl (by decide) rfl (fun ls hl => ?_)
        obtain ⟨r26, er26, hs⟩ := bi_inv hs
        refine iter_W (fun (q : AH × Int64 × Int32) => ∀ (H : Heap) (locs : List Loc) (ls : Array Slot), hR D z q.1 H → va_S (hA z) s.heap H locs → lv_has ls 12 [(0, .ref u0), (1, .ref u1), (2, .ref u2), (3, .int x3), (4, .int w4), (5, .long x13), (7, .long q.2.1), (9, .int q.2.2)] → W p l e ({ frames := 1, cells := 0, slots := 0, locals := 21 } : Room) s m ([.ref u0, .ref u1, .ref u2] : List Value).toArray below meth c H locs 0 0 (MQ below (hQ D z h' none) ([.ref u0, .ref u1, .ref u2] : List Value).toArray s 0 0 (hA z)) (F0 m 65 ls [])) (fun (x : (AH × Int64)) => ∀ (H : Heap) (locs : List Loc) (ls : Array Slot), hR D z x.1 H → va_S (hA z) s.heap H locs → lv_has ls 12 [(0, .ref u0), (1, .ref u1), (2, .ref u2), (3, .int x3), (4, .int w4), (7, .long x.2)] → W p l e ({ frames := 1, cells := 0, slots := 0, locals := 21 } : Room) s m ([.ref u0, .ref u1, .ref u2] : List Value).toArray below meth c H locs 0 0 (MQ below (hQ D z h' none) ([.ref u0, .ref u1, .ref u2] : List Value).toArray s 0 0 (hA z)) (F0 m 138 ls [])) ?_ FU _ r26 er26 ?_ H locs ls hr hS (lv_sub hl [3, 4, 5, 6, 7, 2, 1, 0] rfl)
        · intro q o hs hcont hexit
          obtain ⟨g14, w7, w9⟩ := q
          replace hs : zb_X8_product_65 u0 u1 u2 x3 w4 x13 g14 w7 w9 = some o := hs
          intro H locs ls hr hS hl
          unfold zb_X8_product_65 at hs
          refine lv_iload hx hb dX8_product_65 (lv_at hl 7 rfl) ?_
          refine lv_aload_n hx hb dX8_product_67 rfl (lv_at hl 1 rfl) ?_
          obtain ⟨x15, ex15, hs⟩ := bi_inv hs
          refine hv_gI (C := RX8) (T := TX8) (N := 3) (ci := 8) hx hb hts inX8 hown hk hr rfl 1 (by decide) (hts _ tw_39) ex15 dX8_product_68 ?_
          refine lv_icmp_ge (tgt := 138) hx hb dX8_product_71 (by decide) (fun c16 => ?_) (fun c16 => ?_)
          · rw [if_pos c16] at hs
            obtain rfl := Option.some.inj hs
            exact hexit _ rfl H locs ls hr hS (lv_sub hl [0, 1, 2, 3, 4, 6] rfl)
          · rw [if_neg c16] at hs
            refine lv_iload hx hb dX8_product_74 (lv_at hl 4 rfl) ?_
            refine lv_iload hx hb dX8_product_76 (lv_at hl 7 rfl) ?_
            refine lv_iadd hx hb dX8_product_78 ?_
            refine lv_iload_n hx hb dX8_product_79 rfl (lv_at hl 3 rfl) ?_
            refine lv_icmp_ge (tgt := 138) hx hb dX8_product_80 (by decide) (fun c17 => ?_) (fun c17 => ?_)
            · rw [if_pos c17] at hs
              obtain rfl := Option.some.inj hs
              exact hexit _ rfl H locs ls hr hS (lv_sub hl [0, 1, 2, 3, 4, 6] rfl)
            · rw [if_neg c17] at hs
              refine lv_lload hx hb dX8_product_83 (lv_at hl 5 rfl) ?_
              refine lv_aload_n hx hb dX8_product_85 rfl (lv_at hl 1 rfl) ?_
              obtain ⟨x18, ex18, hs⟩ := bi_inv hs
              refine hv_gR (C := RX8) (T := TX8) (N := 3) (ci := 8) hx hb hts inX8 hown hk hr rfl 0 (by decide) (hts _ tw_36) ex18 dX8_product_86 ?_
              refine lv_iload hx hb dX8_product_89 (lv_at hl 7 rfl) ?_
              obtain ⟨x19, ex19, hs⟩ := bi_inv hs
              refine hv_aJ hx hb hk hr ex19 dX8_product_91 ?_
              refine lv_lmul hx hb dX8_product_92 ?_
              refine lv_aload_n hx hb dX8_product_93 rfl (lv_at hl 2 rfl) ?_
              obtain ⟨x20, ex20, hs⟩ := bi_inv hs
              refine hv_gR (C := RX8) (T := TX8) (N := 3) (ci := 8) hx hb hts inX8 hown hk hr rfl 0 (by decide) (hts _ tw_36) ex20 dX8_product_94 ?_
              refine lv_iload hx hb dX8_product_97 (lv_at hl 4 rfl) ?_
              refine lv_iload hx hb dX8_product_99 (lv_at hl 7 rfl) ?_
              refine lv_iadd hx hb dX8_product_101 ?_
              obtain ⟨x21, ex21, hs⟩ := bi_inv hs
              refine hv_aJ hx hb hk hr ex21 dX8_product_102 ?_
              refine lv_ladd hx hb dX8_product_103 ?_
              refine lv_lload hx hb dX8_product_104 (lv_at hl 6 rfl) ?_
              refine lv_ladd hx hb dX8_product_106 ?_
              refine lv_topl (fun x22 ex22 => ?_)
              replace hs := lt_inv hs x22 ex22
              refine lv_lstore (lv' := [(10, .long x22), (0, .ref u0), (1, .ref u1), (2, .ref u2), (3, .int x3), (4, .int w4), (5, .long x13), (7, .long w7), (9, .int w9)]) hx hb dX8_product_107 hl (by decide) rfl (fun ls hl => ?_)
              refine lv_aload_n hx hb dX8_product_109 rfl (lv_at hl 3 rfl) ?_
              obtain ⟨x23, ex23, hs⟩ := bi_inv hs
              refine hv_gR (C := RX8) (T := TX8) (N := 3) (ci := 8) hx hb hts inX8 hown hk hr rfl 0 (by decide) (hts _ tw_36) ex23 dX8_product_110 ?_
              refine lv_iload hx hb dX8_product_113 (lv_at hl 5 rfl) ?_
              refine lv_iload hx hb dX8_product_115 (lv_at hl 8 rfl) ?_
              refine lv_iadd hx hb dX8_product_117 ?_
              refine lv_lload hx hb dX8_product_118 (lv_at hl 0 rfl) ?_
              refine lv_ldc2 hx hb hown (hts _ tw_69) dX8_product_120 ?_
              refine lv_land hx hb dX8_product_123 ?_
              obtain ⟨g24, eg24, hs⟩ := bi_inv hs
              refine hv_sJ hx hb hk hr hS eg24 dX8_product_124 (fun H locs hr hS => ?_)
              refine lv_lload hx hb dX8_product_125 (lv_at hl 0 rfl) ?_
              refine lv_bipush (v := 32) hx hb dX8_product_127 (by decide) ?_
              refine lv_lushr hx hb dX8_product_129 rfl ?_
              refine lv_topl (fun x25 ex25 => ?_)
              replace hs := lt_inv hs x25 ex25
              refine lv_lstore (lv' := [(7, .long x25), (10, .long x22), (0, .ref u0), (1, .ref u1), (2, .ref u2), (3, .int x3), (4, .int w4), (5, .long x13), (9, .int w9)]) hx hb dX8_product_130 hl (by decide) rfl (fun ls hl => ?_)
              refine lv_iinc (v := w9 + (1 : Int32)) (lv' := [(9, .int (w9 + (1 : Int32))), (7, .long x25), (10, .long x22), (0, .ref u0), (1, .ref u1), (2, .ref u2), (3, .int x3), (4, .int w4), (5, .long x13)]) hx hb dX8_product_132 hl (k := 8) rfl (ii_v _ (by decide)) (by decide) rfl (fun ls hl => ?_)
              refine lv_goto (tgt := 65) hx hb dX8_product_135 (by decide) ?_
              obtain rfl := Option.some.inj hs
              exact hcont _ rfl H locs ls hr hS (lv_sub hl [3, 4, 5, 6, 7, 8, 1, 0] rfl)
        · intro H locs ls hr hS hl
          refine lv_iload hx hb dX8_product_138 (lv_at hl 4 rfl) ?_
          refine lv_aload_n hx hb dX8_product_140 rfl (lv_at hl 1 rfl) ?_
          obtain ⟨x27, ex27, hs⟩ := bi_inv hs
          refine hv_gI (C := RX8) (T := TX8) (N := 3) (ci := 8) hx hb hts inX8 hown hk hr rfl 1 (by decide) (hts _ tw_39) ex27 dX8_product_141 ?_
          refine lv_iadd hx hb dX8_product_144 ?_
          refine lv_iload_n hx hb dX8_product_145 rfl (lv_at hl 3 rfl) ?_
          refine lv_icmp_ge (tgt := 163) hx hb dX8_product_146 (by decide) (fun c28 => ?_) (fun c28 => ?_)
          · rw [if_pos c28] at hs
            refine lv_iinc (v := w4 + (1 : Int32)) (lv' := [(4, .int (w4 + (1 : Int32))), (0, .ref u0), (1, .ref u1), (2, .ref u2), (3, .int x3), (7, .long r26.2)]) hx hb dX8_product_163 hl (k := 4) rfl (ii_v _ (by decide)) (by decide) rfl (fun ls hl => ?_)
            refine lv_goto (tgt := 41) hx hb dX8_product_166 (by decide) ?_
            obtain rfl := Option.some.inj hs
            exact hcont _ rfl H locs ls hr hS (lv_sub hl [1, 2, 3, 4, 0] rfl)
          · rw [if_neg c28] at hs
            refine lv_aload_n hx hb dX8_product_149 rfl (lv_at hl 2 rfl) ?_
            obtain ⟨x29, ex29, hs⟩ := bi_inv hs
            refine hv_gR (C := RX8) (T := TX8) (N := 3) (ci := 8) hx hb hts inX8 hown hk hr rfl 0 (by decide) (hts _ tw_36) ex29 dX8_product_150 ?_
            refine lv_iload hx hb dX8_product_153 (lv_at hl 4 rfl) ?_
            refine lv_aload_n hx hb dX8_product_155 rfl (lv_at hl 1 rfl) ?_
            obtain ⟨x30, ex30, hs⟩ := bi_inv hs
            refine hv_gI (C := RX8) (T := TX8) (N := 3) (ci := 8) hx hb hts inX8 hown hk hr rfl 1 (by decide) (hts _ tw_39) ex30 dX8_product_156 ?_
            refine lv_iadd hx hb dX8_product_159 ?_
            refine lv_lload hx hb dX8_product_160 (lv_at hl 5 rfl) ?_
            obtain ⟨g31, eg31, hs⟩ := bi_inv hs
            refine hv_sJ hx hb hk hr hS eg31 dX8_product_162 (fun H locs hr hS => ?_)
            refine lv_iinc (v := w4 + (1 : Int32)) (lv' := [(4, .int (w4 + (1 : Int32))), (0, .ref u0), (1, .ref u1), (2, .ref u2), (3, .int x3), (7, .long r26.2)]) hx hb dX8_product_163 hl (k := 4) rfl (ii_v _ (by decide)) (by decide) rfl (fun ls hl => ?_)
            refine lv_goto (tgt := 41) hx hb dX8_product_166 (by decide) ?_
            obtain rfl := Option.some.inj hs
            exact hcont _ rfl H locs ls hr hS (lv_sub hl [1, 2, 3, 4, 0] rfl)
    · intro H locs ls hr hS hl
      refine lv_aload_n hx hb dX8_product_169 rfl (lv_at hl 2 rfl) ?_
      refine lv_iload_n hx hb dX8_product_170 rfl (lv_at hl 3 rfl) ?_
      obtain ⟨_, ex33, hs⟩ := bi_inv hs
      obtain ⟨g34, eg34, hs⟩ := bi_inv hs
      refine hv_V0 (n := 1) [.int x3] [] hx hb hml hown hts hk hr hz hS (zm_X8_trim l D z eg34) ex33 rfl tw_70 tw_71 tw_72 tw_2 tw_73 (by decide +kernel) (by decide) ⟨(Nat.zero_le _), (Nat.zero_le _)⟩ rfl hl.1 (Nat.le_of_ble_eq_true rfl) dX8_product_171 rfl (fun H locs hr hS => ?_)
      refine lv_aload_n hx hb dX8_product_174 rfl (lv_at hl 2 rfl) ?_
      refine lv_aload_n hx hb dX8_product_175 rfl (lv_at hl 0 rfl) ?_
      obtain ⟨x35, ex35, hs⟩ := bi_inv hs
      refine hv_gI (C := RX8) (T := TX8) (N := 3) (ci := 8) hx hb hts inX8 hown hk hr rfl 2 (by decide) (hts _ tw_42) ex35 dX8_product_176 ?_
      refine lv_aload_n hx hb dX8_product_179 rfl (lv_at hl 1 rfl) ?_
      obtain ⟨x36, ex36, hs⟩ := bi_inv hs
      refine hv_gI (C := RX8) (T := TX8) (N := 3) (ci := 8) hx hb hts inX8 hown hk hr rfl 2 (by decide) (hts _ tw_42) ex36 dX8_product_180 ?_
      refine lv_icmp_eq (tgt := 190) hx hb dX8_product_183 (by decide) (fun c37 => ?_) (fun c37 => ?_)
      · rw [if_pos c37] at hs
        refine lv_iconst (v := 0) hx hb dX8_product_190 (by decide) ?_
        exact hJ191 g34 ((0 : Int32)) u2 H locs ls hs hr hS (lv_sub hl [] rfl)
      · rw [if_neg c37] at hs
        refine lv_iconst (v := 1) hx hb dX8_product_186 (by decide) ?_
        refine lv_goto (tgt := 191) hx hb dX8_product_187 (by decide) ?_
        exact hJ191 g34 ((1 : Int32)) u2 H locs ls hs hr hS (lv_sub hl [] rfl)
theorem dX8_isOdd_0 : decode cX8_isOdd 0 = .ok (.aload_n 0, 1) := by decide +kernel
theorem dX8_isOdd_1 : decode cX8_isOdd 1 = .ok (.iconst 0, 1) := by decide +kernel
theorem dX8_isOdd_2 : decode cX8_isOdd 2 = .ok (.invokevirtual 33, 3) := by decide +kernel
theorem dX8_isOdd_5 : decode cX8_isOdd 5 = .ok (.lconst 1, 1) := by decide +kernel
theorem dX8_isOdd_6 : decode cX8_isOdd 6 = .ok (.land, 1) := by decide +kernel
theorem dX8_isOdd_7 : decode cX8_isOdd 7 = .ok (.lconst 1, 1) := by decide +kernel
theorem dX8_isOdd_8 : decode cX8_isOdd 8 = .ok (.lcmp, 1) := by decide +kernel
theorem dX8_isOdd_9 : decode cX8_isOdd 9 = .ok (.ifCond .ne 7, 3) := by decide +kernel
theorem dX8_isOdd_12 : decode cX8_isOdd 12 = .ok (.iconst 1, 1) := by decide +kernel
theorem dX8_isOdd_13 : decode cX8_isOdd 13 = .ok (.goto 4, 3) := by decide +kernel
theorem dX8_isOdd_16 : decode cX8_isOdd 16 = .ok (.iconst 0, 1) := by decide +kernel
theorem dX8_isOdd_17 : decode cX8_isOdd 17 = .ok (.ireturn, 1) := by decide +kernel
def zs_X8_isOdd (h : AH) (u0 : Nat) : Option Int32 :=
  (chk h u0 8).bind fun _ => (zs_X8_partAt h u0 ((0 : Int32))).bind fun x2 => (if x2 &&& ((1 : Int64)) = (1 : Int64) then some ((1 : Int32)) else some ((0 : Int32)))
set_option maxRecDepth 100000 in
set_option maxHeartbeats 4000000 in
theorem zm_X8_isOdd (l : Launch) (D : hG) (z : Nat) {h : AH} {u0 : Nat} {r : Int32} (hs : zs_X8_isOdd h u0 = some r) : hC l D z yX8_isOdd cX8_isOdd 1 (Option.some Jvm.ClassFile.FieldType.boolean) 1 21 0 0 [.ref u0] h h (some (.int r)) := by
  refine hC_of (by decide) (Nat.le_of_ble_eq_true rfl) ?_
  intro p e s m below meth c hx hb hml hrt hlk hown hnm hts hk hr hz ls hl
  replace hown : s.vm.findClass RX8 = some m.cls := hown
  replace hl : lv_has ls 1 [(0, .ref u0)] := hl
  have hS : va_S (hA z) s.heap s.heap [] := va_S.rf
  suffices hgo : ∀ (H : Heap) (locs : List Loc), hR D z h H → va_S (hA z) s.heap H locs → W p l e ({ frames := 1, cells := 0, slots := 0, locals := 21 } : Room) s m ([.ref u0] : List Value).toArray below meth c H locs 0 0 (MQ below (hQ D z h (some (.int r))) ([.ref u0] : List Value).toArray s 0 0 (hA z)) (F0 m 0 ls []) from hgo _ _ hr hS
  clear hr hS
  intro H locs hr hS
  unfold zs_X8_isOdd at hs
  refine lv_aload_n hx hb dX8_isOdd_0 rfl (lv_at hl 0 rfl) ?_
  refine lv_iconst (v := 0) hx hb dX8_isOdd_1 (by decide) ?_
  obtain ⟨_, ex1, hs⟩ := bi_inv hs
  obtain ⟨x2, ex2, hs⟩ := bi_inv hs
  refine hv_V1 (n := 1) [.int ((0 : Int32))] [] hx hb hml hown hts hk hr hz hS (zm_X8_partAt l D z ex2) ex1 rfl tw_415 tw_416 tw_417 tw_2 tw_418 (by decide +kernel) (by decide) ⟨(Nat.zero_le _), (Nat.zero_le _)⟩ rfl hl.1 (Nat.le_of_ble_eq_true rfl) dX8_isOdd_2 rfl (fun H locs hr hS => ?_)
  refine lv_lconst (v := 1) hx hb dX8_isOdd_5 (by decide) ?_
  refine lv_land hx hb dX8_isOdd_6 ?_
  refine lv_lconst (v := 1) hx hb dX8_isOdd_7 (by decide) ?_
  refine hv_lc_ne (tgt := 16) hx hb dX8_isOdd_8 dX8_isOdd_9 (by decide) (fun c3 => ?_) (fun c3 => ?_)
  · rw [if_neg c3] at hs
    refine lv_iconst (v := 0) hx hb dX8_isOdd_16 (by decide) ?_
    obtain rfl := Option.some.inj hs
    exact hv_zret hx hb hrt hlk hr hS (by decide) dX8_isOdd_17
  · rw [if_pos c3] at hs
    refine lv_iconst (v := 1) hx hb dX8_isOdd_12 (by decide) ?_
    refine lv_goto (tgt := 17) hx hb dX8_isOdd_13 (by decide) ?_
    obtain rfl := Option.some.inj hs
    exact hv_zret hx hb hrt hlk hr hS (by decide) dX8_isOdd_17
theorem dX8_order_0 : decode cX8_order 0 = .ok (.aload_n 0, 1) := by decide +kernel
theorem dX8_order_1 : decode cX8_order 1 = .ok (.getfield 19, 3) := by decide +kernel
theorem dX8_order_4 : decode cX8_order 4 = .ok (.aload_n 1, 1) := by decide +kernel
theorem dX8_order_5 : decode cX8_order 5 = .ok (.getfield 19, 3) := by decide +kernel
theorem dX8_order_8 : decode cX8_order 8 = .ok (.if_icmp .eq 16, 3) := by decide +kernel
theorem dX8_order_11 : decode cX8_order 11 = .ok (.aload_n 0, 1) := by decide +kernel
theorem dX8_order_12 : decode cX8_order 12 = .ok (.getfield 19, 3) := by decide +kernel
theorem dX8_order_15 : decode cX8_order 15 = .ok (.ifCond .eq 7, 3) := by decide +kernel
theorem dX8_order_18 : decode cX8_order 18 = .ok (.iconst (-1), 1) := by decide +kernel
theorem dX8_order_19 : decode cX8_order 19 = .ok (.goto 4, 3) := by decide +kernel
theorem dX8_order_22 : decode cX8_order 22 = .ok (.iconst 1, 1) := by decide +kernel
theorem dX8_order_23 : decode cX8_order 23 = .ok (.ireturn, 1) := by decide +kernel
theorem dX8_order_24 : decode cX8_order 24 = .ok (.aload_n 0, 1) := by decide +kernel
theorem dX8_order_25 : decode cX8_order 25 = .ok (.getfield 19, 3) := by decide +kernel
theorem dX8_order_28 : decode cX8_order 28 = .ok (.ifCond .eq 11, 3) := by decide +kernel
theorem dX8_order_31 : decode cX8_order 31 = .ok (.aload_n 1, 1) := by decide +kernel
theorem dX8_order_32 : decode cX8_order 32 = .ok (.aload_n 0, 1) := by decide +kernel
theorem dX8_order_33 : decode cX8_order 33 = .ok (.invokestatic 52, 3) := by decide +kernel
theorem dX8_order_36 : decode cX8_order 36 = .ok (.goto 8, 3) := by decide +kernel
theorem dX8_order_39 : decode cX8_order 39 = .ok (.aload_n 0, 1) := by decide +kernel
theorem dX8_order_40 : decode cX8_order 40 = .ok (.aload_n 1, 1) := by decide +kernel
theorem dX8_order_41 : decode cX8_order 41 = .ok (.invokestatic 52, 3) := by decide +kernel
theorem dX8_order_44 : decode cX8_order 44 = .ok (.ireturn, 1) := by decide +kernel
def zs_X8_order (h : AH) (u0 : Nat) (u1 : Nat) : Option Int32 :=
  (gI h u0 8 2).bind fun x1 => (gI h u1 8 2).bind fun x2 => (if x1 = x2 then (gI h u0 8 2).bind fun x4 => (if x4 = 0 then (zs_X8_orderSizes h u0 u1).bind fun x6 => some x6 else (zs_X8_orderSizes h u1 u0).bind fun x7 => some x7) else (gI h u0 8 2).bind fun x8 => (if x8 = 0 then some ((1 : Int32)) else some ((-1 : Int32))))
set_option maxRecDepth 100000 in
set_option maxHeartbeats 4000000 in
theorem zm_X8_order (l : Launch) (D : hG) (z : Nat) {h : AH} {u0 : Nat} {u1 : Nat} {r : Int32} (hs : zs_X8_order h u0 u1 = some r) : hC l D z yX8_order cX8_order 2 (Option.some Jvm.ClassFile.FieldType.int) 1 22 0 0 [.ref u0, .ref u1] h h (some (.int r)) := by
  refine hC_of (by decide) (Nat.le_of_ble_eq_true rfl) ?_
  intro p e s m below meth c hx hb hml hrt hlk hown hnm hts hk hr hz ls hl
  replace hown : s.vm.findClass RX8 = some m.cls := hown
  replace hl : lv_has ls 2 [(0, .ref u0), (1, .ref u1)] := hl
  have hS : va_S (hA z) s.heap s.heap [] := va_S.rf
  suffices hgo : ∀ (H : Heap) (locs : List Loc), hR D z h H → va_S (hA z) s.heap H locs → W p l e ({ frames := 1, cells := 0, slots := 0, locals := 22 } : Room) s m ([.ref u0, .ref u1] : List Value).toArray below meth c H locs 0 0 (MQ below (hQ D z h (some (.int r))) ([.ref u0, .ref u1] : List Value).toArray s 0 0 (hA z)) (F0 m 0 ls []) from hgo _ _ hr hS
  clear hr hS
  intro H locs hr hS
  unfold zs_X8_order at hs
  refine lv_aload_n hx hb dX8_order_0 rfl (lv_at hl 0 rfl) ?_
  obtain ⟨x1, ex1, hs⟩ := bi_inv hs
  refine hv_gI (C := RX8) (T := TX8) (N := 3) (ci := 8) hx hb hts inX8 hown hk hr rfl 2 (by decide) (hts _ tw_42) ex1 dX8_order_1 ?_
  refine lv_aload_n hx hb dX8_order_4 rfl (lv_at hl 1 rfl) ?_
  obtain ⟨x2, ex2, hs⟩ := bi_inv hs
  refine hv_gI (C := RX8) (T := TX8) (N := 3) (ci := 8) hx hb hts inX8 hown hk hr rfl 2 (by decide) (hts _ tw_42) ex2 dX8_order_5 ?_
  refine lv_icmp_eq (tgt := 24) hx hb dX8_order_8 (by decide) (fun c3 => ?_) (fun c3 => ?_)
  · rw [if_pos c3] at hs
    refine lv_aload_n hx hb dX8_order_24 rfl (lv_at hl 0 rfl) ?_
    obtain ⟨x4, ex4, hs⟩ := bi_inv hs
    refine hv_gI (C := RX8) (T := TX8) (N := 3) (ci := 8) hx hb hts inX8 hown hk hr rfl 2 (by decide) (hts _ tw_42) ex4 dX8_order_25 ?_
    refine lv_if_eq (tgt := 39) hx hb dX8_order_28 (by decide) (fun c5 => ?_) (fun c5 => ?_)
    · rw [if_pos c5] at hs
      refine lv_aload_n hx hb dX8_order_39 rfl (lv_at hl 0 rfl) ?_
      refine lv_aload_n hx hb dX8_order_40 rfl (lv_at hl 1 rfl) ?_
      obtain ⟨x6, ex6, hs⟩ := bi_inv hs
      refine hv_S1 (n := 2) [.ref u0, .ref u1] [] hx hb hml hown hts hk hr hz hS (zm_X8_orderSizes l D z ex6) tw_440 tw_441 tw_2 tw_442 (by decide +kernel) (by decide) ⟨(Nat.zero_le _), (Nat.zero_le _)⟩ rfl hl.1 (Nat.le_of_ble_eq_true rfl) dX8_order_41 rfl (fun H locs hr hS => ?_)
      obtain rfl := Option.some.inj hs
      exact hv_iret hx hb hrt hlk hr hS dX8_order_44
    · rw [if_neg c5] at hs
      refine lv_aload_n hx hb dX8_order_31 rfl (lv_at hl 1 rfl) ?_
      refine lv_aload_n hx hb dX8_order_32 rfl (lv_at hl 0 rfl) ?_
      obtain ⟨x7, ex7, hs⟩ := bi_inv hs
      refine hv_S1 (n := 2) [.ref u1, .ref u0] [] hx hb hml hown hts hk hr hz hS (zm_X8_orderSizes l D z ex7) tw_440 tw_441 tw_2 tw_442 (by decide +kernel) (by decide) ⟨(Nat.zero_le _), (Nat.zero_le _)⟩ rfl hl.1 (Nat.le_of_ble_eq_true rfl) dX8_order_33 rfl (fun H locs hr hS => ?_)
      refine lv_goto (tgt := 44) hx hb dX8_order_36 (by decide) ?_
      obtain rfl := Option.some.inj hs
      exact hv_iret hx hb hrt hlk hr hS dX8_order_44
  · rw [if_neg c3] at hs
    refine lv_aload_n hx hb dX8_order_11 rfl (lv_at hl 0 rfl) ?_
    obtain ⟨x8, ex8, hs⟩ := bi_inv hs
    refine hv_gI (C := RX8) (T := TX8) (N := 3) (ci := 8) hx hb hts inX8 hown hk hr rfl 2 (by decide) (hts _ tw_42) ex8 dX8_order_12 ?_
    refine lv_if_eq (tgt := 22) hx hb dX8_order_15 (by decide) (fun c9 => ?_) (fun c9 => ?_)
    · rw [if_pos c9] at hs
      refine lv_iconst (v := 1) hx hb dX8_order_22 (by decide) ?_
      obtain rfl := Option.some.inj hs
      exact hv_iret hx hb hrt hlk hr hS dX8_order_23
    · rw [if_neg c9] at hs
      refine lv_iconst (v := (-1)) hx hb dX8_order_18 (by decide) ?_
      refine lv_goto (tgt := 23) hx hb dX8_order_19 (by decide) ?_
      obtain rfl := Option.some.inj hs
      exact hv_iret hx hb hrt hlk hr hS dX8_order_23
theorem dX8_isWithin_0 : decode cX8_isWithin 0 = .ok (.aload_n 0, 1) := by decide +kernel
theorem dX8_isWithin_1 : decode cX8_isWithin 1 = .ok (.getfield 15, 3) := by decide +kernel
theorem dX8_isWithin_4 : decode cX8_isWithin 4 = .ok (.bipush 12, 2) := by decide +kernel
theorem dX8_isWithin_6 : decode cX8_isWithin 6 = .ok (.if_icmp .gt 7, 3) := by decide +kernel
theorem dX8_isWithin_9 : decode cX8_isWithin 9 = .ok (.iconst 1, 1) := by decide +kernel
theorem dX8_isWithin_10 : decode cX8_isWithin 10 = .ok (.goto 4, 3) := by decide +kernel
theorem dX8_isWithin_13 : decode cX8_isWithin 13 = .ok (.iconst 0, 1) := by decide +kernel
theorem dX8_isWithin_14 : decode cX8_isWithin 14 = .ok (.ireturn, 1) := by decide +kernel
def zs_X8_isWithin (h : AH) (u0 : Nat) : Option Int32 :=
  (gI h u0 8 1).bind fun x1 => (if (12 : Int32) < x1 then some ((0 : Int32)) else some ((1 : Int32)))
set_option maxRecDepth 100000 in
set_option maxHeartbeats 4000000 in
theorem zm_X8_isWithin (l : Launch) (D : hG) (z : Nat) {h : AH} {u0 : Nat} {r : Int32} (hs : zs_X8_isWithin h u0 = some r) : hC l D z yX8_isWithin cX8_isWithin 1 (Option.some Jvm.ClassFile.FieldType.boolean) 0 0 0 0 [.ref u0] h h (some (.int r)) := by
  refine hC_of (by decide) (Nat.le_of_ble_eq_true rfl) ?_
  intro p e s m below meth c hx hb hml hrt hlk hown hnm hts hk hr hz ls hl
  replace hown : s.vm.findClass RX8 = some m.cls := hown
  replace hl : lv_has ls 1 [(0, .ref u0)] := hl
  have hS : va_S (hA z) s.heap s.heap [] := va_S.rf
  suffices hgo : ∀ (H : Heap) (locs : List Loc), hR D z h H → va_S (hA z) s.heap H locs → W p l e ({ frames := 0, cells := 0, slots := 0, locals := 0 } : Room) s m ([.ref u0] : List Value).toArray below meth c H locs 0 0 (MQ below (hQ D z h (some (.int r))) ([.ref u0] : List Value).toArray s 0 0 (hA z)) (F0 m 0 ls []) from hgo _ _ hr hS
  clear hr hS
  intro H locs hr hS
  unfold zs_X8_isWithin at hs
  refine lv_aload_n hx hb dX8_isWithin_0 rfl (lv_at hl 0 rfl) ?_
  obtain ⟨x1, ex1, hs⟩ := bi_inv hs
  refine hv_gI (C := RX8) (T := TX8) (N := 3) (ci := 8) hx hb hts inX8 hown hk hr rfl 1 (by decide) (hts _ tw_39) ex1 dX8_isWithin_1 ?_
  refine lv_bipush (v := 12) hx hb dX8_isWithin_4 (by decide) ?_
  refine lv_icmp_gt (tgt := 13) hx hb dX8_isWithin_6 (by decide) (fun c2 => ?_) (fun c2 => ?_)
  · rw [if_pos c2] at hs
    refine lv_iconst (v := 0) hx hb dX8_isWithin_13 (by decide) ?_
    obtain rfl := Option.some.inj hs
    exact hv_zret hx hb hrt hlk hr hS (by decide) dX8_isWithin_14
  · rw [if_neg c2] at hs
    refine lv_iconst (v := 1) hx hb dX8_isWithin_9 (by decide) ?_
    refine lv_goto (tgt := 14) hx hb dX8_isWithin_10 (by decide) ?_
    obtain rfl := Option.some.inj hs
    exact hv_zret hx hb hrt hlk hr hS (by decide) dX8_isWithin_14
theorem dX8_raiseBit_0 : decode cX8_raiseBit 0 = .ok (.iload_n 1, 1) := by decide +kernel
theorem dX8_raiseBit_1 : decode cX8_raiseBit 1 = .ok (.iconst 5, 1) := by decide +kernel
theorem dX8_raiseBit_2 : decode cX8_raiseBit 2 = .ok (.ishr, 1) := by decide +kernel
theorem dX8_raiseBit_3 : decode cX8_raiseBit 3 = .ok (.istore_n 2, 1) := by decide +kernel
theorem dX8_raiseBit_4 : decode cX8_raiseBit 4 = .ok (.iload_n 2, 1) := by decide +kernel
theorem dX8_raiseBit_5 : decode cX8_raiseBit 5 = .ok (.ifCond .lt 9, 3) := by decide +kernel
theorem dX8_raiseBit_8 : decode cX8_raiseBit 8 = .ok (.iload_n 2, 1) := by decide +kernel
theorem dX8_raiseBit_9 : decode cX8_raiseBit 9 = .ok (.bipush 26, 2) := by decide +kernel
theorem dX8_raiseBit_11 : decode cX8_raiseBit 11 = .ok (.if_icmp .lt 4, 3) := by decide +kernel
theorem dX8_raiseBit_14 : decode cX8_raiseBit 14 = .ok (.return_, 1) := by decide +kernel
theorem dX8_raiseBit_15 : decode cX8_raiseBit 15 = .ok (.aload_n 0, 1) := by decide +kernel
theorem dX8_raiseBit_16 : decode cX8_raiseBit 16 = .ok (.getfield 15, 3) := by decide +kernel
theorem dX8_raiseBit_19 : decode cX8_raiseBit 19 = .ok (.iload_n 2, 1) := by decide +kernel
theorem dX8_raiseBit_20 : decode cX8_raiseBit 20 = .ok (.if_icmp .gt 26, 3) := by decide +kernel
theorem dX8_raiseBit_23 : decode cX8_raiseBit 23 = .ok (.aload_n 0, 1) := by decide +kernel
theorem dX8_raiseBit_24 : decode cX8_raiseBit 24 = .ok (.getfield 9, 3) := by decide +kernel
theorem dX8_raiseBit_27 : decode cX8_raiseBit 27 = .ok (.aload_n 0, 1) := by decide +kernel
theorem dX8_raiseBit_28 : decode cX8_raiseBit 28 = .ok (.getfield 15, 3) := by decide +kernel
theorem dX8_raiseBit_31 : decode cX8_raiseBit 31 = .ok (.lconst 0, 1) := by decide +kernel
theorem dX8_raiseBit_32 : decode cX8_raiseBit 32 = .ok (.lastore, 1) := by decide +kernel
theorem dX8_raiseBit_33 : decode cX8_raiseBit 33 = .ok (.aload_n 0, 1) := by decide +kernel
theorem dX8_raiseBit_34 : decode cX8_raiseBit 34 = .ok (.dup, 1) := by decide +kernel
theorem dX8_raiseBit_35 : decode cX8_raiseBit 35 = .ok (.getfield 15, 3) := by decide +kernel
theorem dX8_raiseBit_38 : decode cX8_raiseBit 38 = .ok (.iconst 1, 1) := by decide +kernel
theorem dX8_raiseBit_39 : decode cX8_raiseBit 39 = .ok (.iadd, 1) := by decide +kernel
theorem dX8_raiseBit_40 : decode cX8_raiseBit 40 = .ok (.putfield 15, 3) := by decide +kernel
theorem dX8_raiseBit_43 : decode cX8_raiseBit 43 = .ok (.goto (-28), 3) := by decide +kernel
theorem dX8_raiseBit_46 : decode cX8_raiseBit 46 = .ok (.aload_n 0, 1) := by decide +kernel
theorem dX8_raiseBit_47 : decode cX8_raiseBit 47 = .ok (.getfield 9, 3) := by decide +kernel
theorem dX8_raiseBit_50 : decode cX8_raiseBit 50 = .ok (.iload_n 2, 1) := by decide +kernel
theorem dX8_raiseBit_51 : decode cX8_raiseBit 51 = .ok (.dup2, 1) := by decide +kernel
theorem dX8_raiseBit_52 : decode cX8_raiseBit 52 = .ok (.laload, 1) := by decide +kernel
theorem dX8_raiseBit_53 : decode cX8_raiseBit 53 = .ok (.lconst 1, 1) := by decide +kernel
theorem dX8_raiseBit_54 : decode cX8_raiseBit 54 = .ok (.iload_n 1, 1) := by decide +kernel
theorem dX8_raiseBit_55 : decode cX8_raiseBit 55 = .ok (.bipush 31, 2) := by decide +kernel
theorem dX8_raiseBit_57 : decode cX8_raiseBit 57 = .ok (.iand, 1) := by decide +kernel
theorem dX8_raiseBit_58 : decode cX8_raiseBit 58 = .ok (.lshl, 1) := by decide +kernel
theorem dX8_raiseBit_59 : decode cX8_raiseBit 59 = .ok (.lor, 1) := by decide +kernel
theorem dX8_raiseBit_60 : decode cX8_raiseBit 60 = .ok (.lastore, 1) := by decide +kernel
theorem dX8_raiseBit_61 : decode cX8_raiseBit 61 = .ok (.return_, 1) := by decide +kernel
def zb_X8_raiseBit_15 (w0 : Nat) (w1 : Int32) (w2 : Int32) (g4 : AH) : Option ((AH) ⊕ (AH)) :=
  (gI g4 w0 8 1).bind fun x5 => (if w2 < x5 then some (Sum.inr g4) else (gR g4 w0 8 0).bind fun x7 => (gI g4 w0 8 1).bind fun x8 => (sJ g4 x7 1 x8 ((0 : Int64))).bind fun g9 => (gI g9 w0 8 1).bind fun x10 => (pV g9 w0 8 1 (.int (x10 + ((1 : Int32))))).bind fun g11 => some (Sum.inl g11))
def zs_X8_raiseBit (h : AH) (u0 : Nat) (u1 : Int32) : Option AH :=
  lt_ (u1 >>> (((5 : Int32)) &&& 31)) fun x1 => (if x1 < 0 then some h else (if x1 < (26 : Int32) then (iter (fun q : AH => zb_X8_raiseBit_15 u0 u1 x1 q) FU h).bind fun r12 => (gR r12 u0 8 0).bind fun x13 => (aJ r12 x13 1 x1).bind fun x14 => (sJ r12 x13 1 x1 (x14 ||| (((1 : Int64)) <<< ((u1 &&& ((31 : Int32))).toInt64 &&& 63)))).bind fun g15 => some g15 else some h))
set_option maxRecDepth 100000 in
set_option maxHeartbeats 4000000 in
theorem zm_X8_raiseBit (l : Launch) (D : hG) (z : Nat) {h : AH} {u0 : Nat} {u1 : Int32} {h' : AH} (hs : zs_X8_raiseBit h u0 u1 = some h') : hC l D z yX8_raiseBit cX8_raiseBit 3 (Option.none : Option Jvm.ClassFile.FieldType) 0 0 0 0 [.ref u0, .int u1] h h' none := by
  refine hC_of (by decide) (Nat.le_of_ble_eq_true rfl) ?_
  intro p e s m below meth c hx hb hml hrt hlk hown hnm hts hk hr hz ls hl
  replace hown : s.vm.findClass RX8 = some m.cls := hown
  replace hl : lv_has ls 3 [(0, .ref u0), (1, .int u1)] := hl
  have hS : va_S (hA z) s.heap s.heap [] := va_S.rf
  suffices hgo : ∀ (H : Heap) (locs : List Loc), hR D z h H → va_S (hA z) s.heap H locs → W p l e ({ frames := 0, cells := 0, slots := 0, locals := 0 } : Room) s m ([.ref u0, .int u1] : List Value).toArray below meth c H locs 0 0 (MQ below (hQ D z h' none) ([.ref u0, .int u1] : List Value).toArray s 0 0 (hA z)) (F0 m 0 ls []) from hgo _ _ hr hS
  clear hr hS
  intro H locs hr hS
  unfold zs_X8_raiseBit at hs
  refine lv_iload_n hx hb dX8_raiseBit_0 rfl (lv_at hl 1 rfl) ?_
  refine lv_iconst (v := 5) hx hb dX8_raiseBit_1 (by decide) ?_
  refine lv_ishr hx hb dX8_raiseBit_2 ?_
  refine lv_topi (fun x1 ex1 => ?_)
  replace hs := lt_inv hs x1 ex1
  refine lv_istore_n (lv' := [(2, .int x1), (0, .ref u0), (1, .int u1)]) hx hb dX8_raiseBit_3 rfl hl (by decide) rfl (fun ls hl => ?_)
  refine lv_iload_n hx hb dX8_raiseBit_4 rfl (lv_at hl 0 rfl) ?_
  refine lv_if_lt (tgt := 14) hx hb dX8_raiseBit_5 (by decide) (fun c2 => ?_) (fun c2 => ?_)
  · rw [if_pos c2] at hs
    obtain rfl := Option.some.inj hs
    exact hv_vret hx hb hrt hlk hr hS dX8_raiseBit_14
  · rw [if_neg c2] at hs
    refine lv_iload_n hx hb dX8_raiseBit_8 rfl (lv_at hl 0 rfl) ?_
    refine lv_bipush (v := 26) hx hb dX8_raiseBit_9 (by decide) ?_
    refine lv_icmp_lt (tgt := 15) hx hb dX8_raiseBit_11 (by decide) (fun c3 => ?_) (fun c3 => ?_)
    · rw [if_pos c3] at hs
      obtain ⟨r12, er12, hs⟩ := bi_inv hs
      refine iter_W (fun (q : AH) => ∀ (H : Heap) (locs : List Loc) (ls : Array Slot), hR D z q H → va_S (hA z) s.heap H locs → lv_has ls 3 [(0, .ref u0), (1, .int u1), (2, .int x1)] → W p l e ({ frames := 0, cells := 0, slots := 0, locals := 0 } : Room) s m ([.ref u0, .int u1] : List Value).toArray below meth c H locs 0 0 (MQ below (hQ D z h' none) ([.ref u0, .int u1] : List Value).toArray s 0 0 (hA z)) (F0 m 15 ls [])) (fun (x : AH) => ∀ (H : Heap) (locs : List Loc) (ls : Array Slot), hR D z x H → va_S (hA z) s.heap H locs → lv_has ls 3 [(0, .ref u0), (1, .int u1), (2, .int x1)] → W p l e ({ frames := 0, cells := 0, slots := 0, locals := 0 } : Room) s m ([.ref u0, .int u1] : List Value).toArray below meth c H locs 0 0 (MQ below (hQ D z h' none) ([.ref u0, .int u1] : List Value).toArray s 0 0 (hA z)) (F0 m 46 ls [])) ?_ FU _ r12 er12 ?_ H locs ls hr hS (lv_sub hl [1, 2, 0] rfl)
      · intro q o hs hcont hexit
        obtain ⟨g4, rfl⟩ : ∃ q2, q2 = q := ⟨_, rfl⟩
        replace hs : zb_X8_raiseBit_15 u0 u1 x1 g4 = some o := hs
        intro H locs ls hr hS hl
        unfold zb_X8_raiseBit_15 at hs
        refine lv_aload_n hx hb dX8_raiseBit_15 rfl (lv_at hl 0 rfl) ?_
        obtain ⟨x5, ex5, hs⟩ := bi_inv hs
        refine hv_gI (C := RX8) (T := TX8) (N := 3) (ci := 8) hx hb hts inX8 hown hk hr rfl 1 (by decide) (hts _ tw_39) ex5 dX8_raiseBit_16 ?_
        refine lv_iload_n hx hb dX8_raiseBit_19 rfl (lv_at hl 2 rfl) ?_
        refine lv_icmp_gt (tgt := 46) hx hb dX8_raiseBit_20 (by decide) (fun c6 => ?_) (fun c6 => ?_)
        · rw [if_pos c6] at hs
          obtain rfl := Option.some.inj hs
          exact hexit _ rfl H locs ls hr hS (lv_sub hl [0, 1, 2] rfl)
        · rw [if_neg c6] at hs
          refine lv_aload_n hx hb dX8_raiseBit_23 rfl (lv_at hl 0 rfl) ?_
          obtain ⟨x7, ex7, hs⟩ := bi_inv hs
          refine hv_gR (C := RX8) (T := TX8) (N := 3) (ci := 8) hx hb hts inX8 hown hk hr rfl 0 (by decide) (hts _ tw_36) ex7 dX8_raiseBit_24 ?_
          refine lv_aload_n hx hb dX8_raiseBit_27 rfl (lv_at hl 0 rfl) ?_
          obtain ⟨x8, ex8, hs⟩ := bi_inv hs
          refine hv_gI (C := RX8) (T := TX8) (N := 3) (ci := 8) hx hb hts inX8 hown hk hr rfl 1 (by decide) (hts _ tw_39) ex8 dX8_raiseBit_28 ?_
          refine lv_lconst (v := 0) hx hb dX8_raiseBit_31 (by decide) ?_
          obtain ⟨g9, eg9, hs⟩ := bi_inv hs
          refine hv_sJ hx hb hk hr hS eg9 dX8_raiseBit_32 (fun H locs hr hS => ?_)
          refine lv_aload_n hx hb dX8_raiseBit_33 rfl (lv_at hl 0 rfl) ?_
          refine lv_dup hx hb dX8_raiseBit_34 rfl ?_
          obtain ⟨x10, ex10, hs⟩ := bi_inv hs
          refine hv_gI (C := RX8) (T := TX8) (N := 3) (ci := 8) hx hb hts inX8 hown hk hr rfl 1 (by decide) (hts _ tw_39) ex10 dX8_raiseBit_35 ?_
          refine lv_iconst (v := 1) hx hb dX8_raiseBit_38 (by decide) ?_
          refine lv_iadd hx hb dX8_raiseBit_39 ?_
          obtain ⟨g11, eg11, hs⟩ := bi_inv hs
          refine hv_pV (C := RX8) (T := TX8) (N := 3) (ci := 8) hx hb hts inX8 tyX8 tyX8_ok nmX8 hown hk hr hS rfl 1 (by decide) (hts _ tw_39) rfl rfl rfl eg11 dX8_raiseBit_40 (fun H locs hr hS => ?_)
          refine lv_goto (tgt := 15) hx hb dX8_raiseBit_43 (by decide) ?_
          obtain rfl := Option.some.inj hs
          exact hcont _ rfl H locs ls hr hS (lv_sub hl [0, 1, 2] rfl)
      · intro H locs ls hr hS hl
        refine lv_aload_n hx hb dX8_raiseBit_46 rfl (lv_at hl 0 rfl) ?_
        obtain ⟨x13, ex13, hs⟩ := bi_inv hs
        refine hv_gR (C := RX8) (T := TX8) (N := 3) (ci := 8) hx hb hts inX8 hown hk hr rfl 0 (by decide) (hts _ tw_36) ex13 dX8_raiseBit_47 ?_
        refine lv_iload_n hx hb dX8_raiseBit_50 rfl (lv_at hl 2 rfl) ?_
        refine lv_dup2_11 hx hb dX8_raiseBit_51 rfl rfl ?_
        obtain ⟨x14, ex14, hs⟩ := bi_inv hs
        refine hv_aJ hx hb hk hr ex14 dX8_raiseBit_52 ?_
        refine lv_lconst (v := 1) hx hb dX8_raiseBit_53 (by decide) ?_
        refine lv_iload_n hx hb dX8_raiseBit_54 rfl (lv_at hl 1 rfl) ?_
        refine lv_bipush (v := 31) hx hb dX8_raiseBit_55 (by decide) ?_
        refine lv_iand hx hb dX8_raiseBit_57 ?_
        refine lv_lshl hx hb dX8_raiseBit_58 rfl ?_
        refine lv_lor hx hb dX8_raiseBit_59 ?_
        obtain ⟨g15, eg15, hs⟩ := bi_inv hs
        refine hv_sJ hx hb hk hr hS eg15 dX8_raiseBit_60 (fun H locs hr hS => ?_)
        obtain rfl := Option.some.inj hs
        exact hv_vret hx hb hrt hlk hr hS dX8_raiseBit_61
    · rw [if_neg c3] at hs
      obtain rfl := Option.some.inj hs
      exact hv_vret hx hb hrt hlk hr hS dX8_raiseBit_14
theorem dX8_sizeBits_0 : decode cX8_sizeBits 0 = .ok (.aload_n 0, 1) := by decide +kernel
theorem dX8_sizeBits_1 : decode cX8_sizeBits 1 = .ok (.getfield 15, 3) := by decide +kernel
theorem dX8_sizeBits_4 : decode cX8_sizeBits 4 = .ok (.ifCond .ne 7, 3) := by decide +kernel
theorem dX8_sizeBits_7 : decode cX8_sizeBits 7 = .ok (.iconst 0, 1) := by decide +kernel
theorem dX8_sizeBits_8 : decode cX8_sizeBits 8 = .ok (.goto 26, 3) := by decide +kernel
theorem dX8_sizeBits_11 : decode cX8_sizeBits 11 = .ok (.aload_n 0, 1) := by decide +kernel
theorem dX8_sizeBits_12 : decode cX8_sizeBits 12 = .ok (.getfield 15, 3) := by decide +kernel
theorem dX8_sizeBits_15 : decode cX8_sizeBits 15 = .ok (.iconst 1, 1) := by decide +kernel
theorem dX8_sizeBits_16 : decode cX8_sizeBits 16 = .ok (.isub, 1) := by decide +kernel
theorem dX8_sizeBits_17 : decode cX8_sizeBits 17 = .ok (.bipush 32, 2) := by decide +kernel
theorem dX8_sizeBits_19 : decode cX8_sizeBits 19 = .ok (.imul, 1) := by decide +kernel
theorem dX8_sizeBits_20 : decode cX8_sizeBits 20 = .ok (.aload_n 0, 1) := by decide +kernel
theorem dX8_sizeBits_21 : decode cX8_sizeBits 21 = .ok (.aload_n 0, 1) := by decide +kernel
theorem dX8_sizeBits_22 : decode cX8_sizeBits 22 = .ok (.getfield 15, 3) := by decide +kernel
theorem dX8_sizeBits_25 : decode cX8_sizeBits 25 = .ok (.iconst 1, 1) := by decide +kernel
theorem dX8_sizeBits_26 : decode cX8_sizeBits 26 = .ok (.isub, 1) := by decide +kernel
theorem dX8_sizeBits_27 : decode cX8_sizeBits 27 = .ok (.invokevirtual 33, 3) := by decide +kernel
theorem dX8_sizeBits_30 : decode cX8_sizeBits 30 = .ok (.invokestatic 39, 3) := by decide +kernel
theorem dX8_sizeBits_33 : decode cX8_sizeBits 33 = .ok (.iadd, 1) := by decide +kernel
theorem dX8_sizeBits_34 : decode cX8_sizeBits 34 = .ok (.ireturn, 1) := by decide +kernel
def zs_X8_sizeBits (h : AH) (u0 : Nat) : Option Int32 :=
  (gI h u0 8 1).bind fun x1 => (if x1 = 0 then some ((0 : Int32)) else (gI h u0 8 1).bind fun x3 => (gI h u0 8 1).bind fun x4 => (chk h u0 8).bind fun _ => (zs_X8_partAt h u0 (x4 - ((1 : Int32)))).bind fun x6 => (zs_X8_bitsOf h x6).bind fun x7 => some (((x3 - ((1 : Int32))) * ((32 : Int32))) + x7))
set_option maxRecDepth 100000 in
set_option maxHeartbeats 4000000 in
theorem zm_X8_sizeBits (l : Launch) (D : hG) (z : Nat) {h : AH} {u0 : Nat} {r : Int32} (hs : zs_X8_sizeBits h u0 = some r) : hC l D z yX8_sizeBits cX8_sizeBits 1 (Option.some Jvm.ClassFile.FieldType.int) 2 44 0 0 [.ref u0] h h (some (.int r)) := by
  refine hC_of (by decide) (Nat.le_of_ble_eq_true rfl) ?_
  intro p e s m below meth c hx hb hml hrt hlk hown hnm hts hk hr hz ls hl
  replace hown : s.vm.findClass RX8 = some m.cls := hown
  replace hl : lv_has ls 1 [(0, .ref u0)] := hl
  have hS : va_S (hA z) s.heap s.heap [] := va_S.rf
  suffices hgo : ∀ (H : Heap) (locs : List Loc), hR D z h H → va_S (hA z) s.heap H locs → W p l e ({ frames := 2, cells := 0, slots := 0, locals := 44 } : Room) s m ([.ref u0] : List Value).toArray below meth c H locs 0 0 (MQ below (hQ D z h (some (.int r))) ([.ref u0] : List Value).toArray s 0 0 (hA z)) (F0 m 0 ls []) from hgo _ _ hr hS
  clear hr hS
  intro H locs hr hS
  unfold zs_X8_sizeBits at hs
  refine lv_aload_n hx hb dX8_sizeBits_0 rfl (lv_at hl 0 rfl) ?_
  obtain ⟨x1, ex1, hs⟩ := bi_inv hs
  refine hv_gI (C := RX8) (T := TX8) (N := 3) (ci := 8) hx hb hts inX8 hown hk hr rfl 1 (by decide) (hts _ tw_39) ex1 dX8_sizeBits_1 ?_
  refine lv_if_ne (tgt := 11) hx hb dX8_sizeBits_4 (by decide) (fun c2 => ?_) (fun c2 => ?_)
  · rw [if_neg c2] at hs
    refine lv_aload_n hx hb dX8_sizeBits_11 rfl (lv_at hl 0 rfl) ?_
    obtain ⟨x3, ex3, hs⟩ := bi_inv hs
    refine hv_gI (C := RX8) (T := TX8) (N := 3) (ci := 8) hx hb hts inX8 hown hk hr rfl 1 (by decide) (hts _ tw_39) ex3 dX8_sizeBits_12 ?_
    refine lv_iconst (v := 1) hx hb dX8_sizeBits_15 (by decide) ?_
    refine lv_isub hx hb dX8_sizeBits_16 ?_
    refine lv_bipush (v := 32) hx hb dX8_sizeBits_17 (by decide) ?_
    refine lv_imul hx hb dX8_sizeBits_19 ?_
    refine lv_aload_n hx hb dX8_sizeBits_20 rfl (lv_at hl 0 rfl) ?_
    refine lv_aload_n hx hb dX8_sizeBits_21 rfl (lv_at hl 0 rfl) ?_
    obtain ⟨x4, ex4, hs⟩ := bi_inv hs
    refine hv_gI (C := RX8) (T := TX8) (N := 3) (ci := 8) hx hb hts inX8 hown hk hr rfl 1 (by decide) (hts _ tw_39) ex4 dX8_sizeBits_22 ?_
    refine lv_iconst (v := 1) hx hb dX8_sizeBits_25 (by decide) ?_
    refine lv_isub hx hb dX8_sizeBits_26 ?_
    obtain ⟨_, ex5, hs⟩ := bi_inv hs
    obtain ⟨x6, ex6, hs⟩ := bi_inv hs
    refine hv_V1 (n := 1) [.int (x4 - ((1 : Int32)))] [.int ((x3 - ((1 : Int32))) * ((32 : Int32)))] hx hb hml hown hts hk hr hz hS (zm_X8_partAt l D z ex6) ex5 rfl tw_415 tw_416 tw_417 tw_2 tw_418 (by decide +kernel) (by decide) ⟨(Nat.zero_le _), (Nat.zero_le _)⟩ rfl hl.1 (Nat.le_of_ble_eq_true rfl) dX8_sizeBits_27 rfl (fun H locs hr hS => ?_)
    obtain ⟨x7, ex7, hs⟩ := bi_inv hs
    refine hv_S1 (n := 1) [.long x6] [.int ((x3 - ((1 : Int32))) * ((32 : Int32)))] hx hb hml hown hts hk hr hz hS (zm_X8_bitsOf l D z ex7) tw_568 tw_497 tw_2 tw_498 (by decide +kernel) (by decide) ⟨(Nat.zero_le _), (Nat.zero_le _)⟩ rfl hl.1 (Nat.le_of_ble_eq_true rfl) dX8_sizeBits_30 rfl (fun H locs hr hS => ?_)
    refine lv_iadd hx hb dX8_sizeBits_33 ?_
    obtain rfl := Option.some.inj hs
    exact hv_iret hx hb hrt hlk hr hS dX8_sizeBits_34
  · rw [if_pos c2] at hs
    refine lv_iconst (v := 0) hx hb dX8_sizeBits_7 (by decide) ?_
    refine lv_goto (tgt := 34) hx hb dX8_sizeBits_8 (by decide) ?_
    obtain rfl := Option.some.inj hs
    exact hv_iret hx hb hrt hlk hr hS dX8_sizeBits_34
theorem dX8_isOne_0 : decode cX8_isOne 0 = .ok (.aload_n 0, 1) := by decide +kernel
theorem dX8_isOne_1 : decode cX8_isOne 1 = .ok (.getfield 15, 3) := by decide +kernel
theorem dX8_isOne_4 : decode cX8_isOne 4 = .ok (.iconst 1, 1) := by decide +kernel
theorem dX8_isOne_5 : decode cX8_isOne 5 = .ok (.if_icmp .ne 25, 3) := by decide +kernel
theorem dX8_isOne_8 : decode cX8_isOne 8 = .ok (.aload_n 0, 1) := by decide +kernel
theorem dX8_isOne_9 : decode cX8_isOne 9 = .ok (.getfield 9, 3) := by decide +kernel
theorem dX8_isOne_12 : decode cX8_isOne 12 = .ok (.iconst 0, 1) := by decide +kernel
theorem dX8_isOne_13 : decode cX8_isOne 13 = .ok (.laload, 1) := by decide +kernel
theorem dX8_isOne_14 : decode cX8_isOne 14 = .ok (.lconst 1, 1) := by decide +kernel
theorem dX8_isOne_15 : decode cX8_isOne 15 = .ok (.lcmp, 1) := by decide +kernel
theorem dX8_isOne_16 : decode cX8_isOne 16 = .ok (.ifCond .ne 14, 3) := by decide +kernel
theorem dX8_isOne_19 : decode cX8_isOne 19 = .ok (.aload_n 0, 1) := by decide +kernel
theorem dX8_isOne_20 : decode cX8_isOne 20 = .ok (.getfield 19, 3) := by decide +kernel
theorem dX8_isOne_23 : decode cX8_isOne 23 = .ok (.ifCond .ne 7, 3) := by decide +kernel
theorem dX8_isOne_26 : decode cX8_isOne 26 = .ok (.iconst 1, 1) := by decide +kernel
theorem dX8_isOne_27 : decode cX8_isOne 27 = .ok (.goto 4, 3) := by decide +kernel
theorem dX8_isOne_30 : decode cX8_isOne 30 = .ok (.iconst 0, 1) := by decide +kernel
theorem dX8_isOne_31 : decode cX8_isOne 31 = .ok (.ireturn, 1) := by decide +kernel
def zs_X8_isOne (h : AH) (u0 : Nat) : Option Int32 :=
  (gI h u0 8 1).bind fun x1 => (if x1 = (1 : Int32) then (gR h u0 8 0).bind fun x3 => (aJ h x3 1 ((0 : Int32))).bind fun x4 => (if x4 = (1 : Int64) then (gI h u0 8 2).bind fun x6 => (if x6 = 0 then some ((1 : Int32)) else some ((0 : Int32))) else some ((0 : Int32))) else some ((0 : Int32)))
set_option maxRecDepth 100000 in
set_option maxHeartbeats 4000000 in
theorem zm_X8_isOne (l : Launch) (D : hG) (z : Nat) {h : AH} {u0 : Nat} {r : Int32} (hs : zs_X8_isOne h u0 = some r) : hC l D z yX8_isOne cX8_isOne 1 (Option.some Jvm.ClassFile.FieldType.boolean) 0 0 0 0 [.ref u0] h h (some (.int r)) := by
  refine hC_of (by decide) (Nat.le_of_ble_eq_true rfl) ?_
  intro p e s m below meth c hx hb hml hrt hlk hown hnm hts hk hr hz ls hl
  replace hown : s.vm.findClass RX8 = some m.cls := hown
  replace hl : lv_has ls 1 [(0, .ref u0)] := hl
  have hS : va_S (hA z) s.heap s.heap [] := va_S.rf
  suffices hgo : ∀ (H : Heap) (locs : List Loc), hR D z h H → va_S (hA z) s.heap H locs → W p l e ({ frames := 0, cells := 0, slots := 0, locals := 0 } : Room) s m ([.ref u0] : List Value).toArray below meth c H locs 0 0 (MQ below (hQ D z h (some (.int r))) ([.ref u0] : List Value).toArray s 0 0 (hA z)) (F0 m 0 ls []) from hgo _ _ hr hS
  clear hr hS
  intro H locs hr hS
  unfold zs_X8_isOne at hs
  refine lv_aload_n hx hb dX8_isOne_0 rfl (lv_at hl 0 rfl) ?_
  obtain ⟨x1, ex1, hs⟩ := bi_inv hs
  refine hv_gI (C := RX8) (T := TX8) (N := 3) (ci := 8) hx hb hts inX8 hown hk hr rfl 1 (by decide) (hts _ tw_39) ex1 dX8_isOne_1 ?_
  refine lv_iconst (v := 1) hx hb dX8_isOne_4 (by decide) ?_
  refine lv_icmp_ne (tgt := 30) hx hb dX8_isOne_5 (by decide) (fun c2 => ?_) (fun c2 => ?_)
  · rw [if_neg c2] at hs
    refine lv_iconst (v := 0) hx hb dX8_isOne_30 (by decide) ?_
    obtain rfl := Option.some.inj hs
    exact hv_zret hx hb hrt hlk hr hS (by decide) dX8_isOne_31
  · rw [if_pos c2] at hs
    refine lv_aload_n hx hb dX8_isOne_8 rfl (lv_at hl 0 rfl) ?_
    obtain ⟨x3, ex3, hs⟩ := bi_inv hs
    refine hv_gR (C := RX8) (T := TX8) (N := 3) (ci := 8) hx hb hts inX8 hown hk hr rfl 0 (by decide) (hts _ tw_36) ex3 dX8_isOne_9 ?_
    refine lv_iconst (v := 0) hx hb dX8_isOne_12 (by decide) ?_
    obtain ⟨x4, ex4, hs⟩ := bi_inv hs
    refine hv_aJ hx hb hk hr ex4 dX8_isOne_13 ?_
    refine lv_lconst (v := 1) hx hb dX8_isOne_14 (by decide) ?_
    refine hv_lc_ne (tgt := 30) hx hb dX8_isOne_15 dX8_isOne_16 (by decide) (fun c5 => ?_) (fun c5 => ?_)
    · rw [if_neg c5] at hs
      refine lv_iconst (v := 0) hx hb dX8_isOne_30 (by decide) ?_
      obtain rfl := Option.some.inj hs
      exact hv_zret hx hb hrt hlk hr hS (by decide) dX8_isOne_31
    · rw [if_pos c5] at hs
      refine lv_aload_n hx hb dX8_isOne_19 rfl (lv_at hl 0 rfl) ?_
      obtain ⟨x6, ex6, hs⟩ := bi_inv hs
      refine hv_gI (C := RX8) (T := TX8) (N := 3) (ci := 8) hx hb hts inX8 hown hk hr rfl 2 (by decide) (hts _ tw_42) ex6 dX8_isOne_20 ?_
      refine lv_if_ne (tgt := 30) hx hb dX8_isOne_23 (by decide) (fun c7 => ?_) (fun c7 => ?_)
      · rw [if_neg c7] at hs
        refine lv_iconst (v := 0) hx hb dX8_isOne_30 (by decide) ?_
        obtain rfl := Option.some.inj hs
        exact hv_zret hx hb hrt hlk hr hS (by decide) dX8_isOne_31
      · rw [if_pos c7] at hs
        refine lv_iconst (v := 1) hx hb dX8_isOne_26 (by decide) ?_
        refine lv_goto (tgt := 31) hx hb dX8_isOne_27 (by decide) ?_
        obtain rfl := Option.some.inj hs
        exact hv_zret hx hb hrt hlk hr hS (by decide) dX8_isOne_31
theorem dX8_isShort_0 : decode cX8_isShort 0 = .ok (.aload_n 0, 1) := by decide +kernel
theorem dX8_isShort_1 : decode cX8_isShort 1 = .ok (.getfield 15, 3) := by decide +kernel
theorem dX8_isShort_4 : decode cX8_isShort 4 = .ok (.iconst 2, 1) := by decide +kernel
theorem dX8_isShort_5 : decode cX8_isShort 5 = .ok (.if_icmp .le 5, 3) := by decide +kernel
theorem dX8_isShort_8 : decode cX8_isShort 8 = .ok (.iconst 0, 1) := by decide +kernel
theorem dX8_isShort_9 : decode cX8_isShort 9 = .ok (.ireturn, 1) := by decide +kernel
theorem dX8_isShort_10 : decode cX8_isShort 10 = .ok (.aload_n 0, 1) := by decide +kernel
theorem dX8_isShort_11 : decode cX8_isShort 11 = .ok (.iconst 1, 1) := by decide +kernel
theorem dX8_isShort_12 : decode cX8_isShort 12 = .ok (.invokevirtual 33, 3) := by decide +kernel
theorem dX8_isShort_15 : decode cX8_isShort 15 = .ok (.bipush 32, 2) := by decide +kernel
theorem dX8_isShort_17 : decode cX8_isShort 17 = .ok (.lshl, 1) := by decide +kernel
theorem dX8_isShort_18 : decode cX8_isShort 18 = .ok (.aload_n 0, 1) := by decide +kernel
theorem dX8_isShort_19 : decode cX8_isShort 19 = .ok (.iconst 0, 1) := by decide +kernel
theorem dX8_isShort_20 : decode cX8_isShort 20 = .ok (.invokevirtual 33, 3) := by decide +kernel
theorem dX8_isShort_23 : decode cX8_isShort 23 = .ok (.lor, 1) := by decide +kernel
theorem dX8_isShort_24 : decode cX8_isShort 24 = .ok (.lstore_n 1, 1) := by decide +kernel
theorem dX8_isShort_25 : decode cX8_isShort 25 = .ok (.lload_n 1, 1) := by decide +kernel
theorem dX8_isShort_26 : decode cX8_isShort 26 = .ok (.lconst 0, 1) := by decide +kernel
theorem dX8_isShort_27 : decode cX8_isShort 27 = .ok (.lcmp, 1) := by decide +kernel
theorem dX8_isShort_28 : decode cX8_isShort 28 = .ok (.ifCond .ge 18, 3) := by decide +kernel
theorem dX8_isShort_31 : decode cX8_isShort 31 = .ok (.aload_n 0, 1) := by decide +kernel
theorem dX8_isShort_32 : decode cX8_isShort 32 = .ok (.getfield 19, 3) := by decide +kernel
theorem dX8_isShort_35 : decode cX8_isShort 35 = .ok (.ifCond .eq 15, 3) := by decide +kernel
theorem dX8_isShort_38 : decode cX8_isShort 38 = .ok (.lload_n 1, 1) := by decide +kernel
theorem dX8_isShort_39 : decode cX8_isShort 39 = .ok (.ldc2_w 37, 3) := by decide +kernel
theorem dX8_isShort_42 : decode cX8_isShort 42 = .ok (.lcmp, 1) := by decide +kernel
theorem dX8_isShort_43 : decode cX8_isShort 43 = .ok (.ifCond .ne 7, 3) := by decide +kernel
theorem dX8_isShort_46 : decode cX8_isShort 46 = .ok (.iconst 1, 1) := by decide +kernel
theorem dX8_isShort_47 : decode cX8_isShort 47 = .ok (.goto 4, 3) := by decide +kernel
theorem dX8_isShort_50 : decode cX8_isShort 50 = .ok (.iconst 0, 1) := by decide +kernel
theorem dX8_isShort_51 : decode cX8_isShort 51 = .ok (.ireturn, 1) := by decide +kernel
def zs_X8_isShort (h : AH) (u0 : Nat) : Option Int32 :=
  (gI h u0 8 1).bind fun x1 => (if x1 ≤ (2 : Int32) then (chk h u0 8).bind fun _ => (zs_X8_partAt h u0 ((1 : Int32))).bind fun x4 => (chk h u0 8).bind fun _ => (zs_X8_partAt h u0 ((0 : Int32))).bind fun x6 => lt_ ((x4 <<< (((32 : Int32)).toInt64 &&& 63)) ||| x6) fun x7 => (if (0 : Int64) ≤ x7 then some ((1 : Int32)) else (gI h u0 8 2).bind fun x9 => (if x9 = 0 then some ((0 : Int32)) else (if x7 = (-9223372036854775808 : Int64) then some ((1 : Int32)) else some ((0 : Int32))))) else some ((0 : Int32)))
set_option maxRecDepth 100000 in
set_option maxHeartbeats 4000000 in
theorem zm_X8_isShort (l : Launch) (D : hG) (z : Nat) {h : AH} {u0 : Nat} {r : Int32} (hs : zs_X8_isShort h u0 = some r) : hC l D z yX8_isShort cX8_isShort 3 (Option.some Jvm.ClassFile.FieldType.boolean) 1 21 0 0 [.ref u0] h h (some (.int r)) := by
  refine hC_of (by decide) (Nat.le_of_ble_eq_true rfl) ?_
  intro p e s m below meth c hx hb hml hrt hlk hown hnm hts hk hr hz ls hl
  replace hown : s.vm.findClass RX8 = some m.cls := hown
  replace hl : lv_has ls 3 [(0, .ref u0)] := hl
  have hS : va_S (hA z) s.heap s.heap [] := va_S.rf
  suffices hgo : ∀ (H : Heap) (locs : List Loc), hR D z h H → va_S (hA z) s.heap H locs → W p l e ({ frames := 1, cells := 0, slots := 0, locals := 21 } : Room) s m ([.ref u0] : List Value).toArray below meth c H locs 0 0 (MQ below (hQ D z h (some (.int r))) ([.ref u0] : List Value).toArray s 0 0 (hA z)) (F0 m 0 ls []) from hgo _ _ hr hS
  clear hr hS
  intro H locs hr hS
  unfold zs_X8_isShort at hs
  refine lv_aload_n hx hb dX8_isShort_0 rfl (lv_at hl 0 rfl) ?_
  obtain ⟨x1, ex1, hs⟩ := bi_inv hs
  refine hv_gI (C := RX8) (T := TX8) (N := 3) (ci := 8) hx hb hts inX8 hown hk hr rfl 1 (by decide) (hts _ tw_39) ex1 dX8_isShort_1 ?_
  refine lv_iconst (v := 2) hx hb dX8_isShort_4 (by decide) ?_
  refine lv_icmp_le (tgt := 10) hx hb dX8_isShort_5 (by decide) (fun c2 => ?_) (fun c2 => ?_)
  · rw [if_pos c2] at hs
    refine lv_aload_n hx hb dX8_isShort_10 rfl (lv_at hl 0 rfl) ?_
    refine lv_iconst (v := 1) hx hb dX8_isShort_11 (by decide) ?_
    obtain ⟨_, ex3, hs⟩ := bi_inv hs
    obtain ⟨x4, ex4, hs⟩ := bi_inv hs
    refine hv_V1 (n := 1) [.int ((1 : Int32))] [] hx hb hml hown hts hk hr hz hS (zm_X8_partAt l D z ex4) ex3 rfl tw_415 tw_416 tw_417 tw_2 tw_418 (by decide +kernel) (by decide) ⟨(Nat.zero_le _), (Nat.zero_le _)⟩ rfl hl.1 (Nat.le_of_ble_eq_true rfl) dX8_isShort_12 rfl (fun H locs hr hS => ?_)
    refine lv_bipush (v := 32) hx hb dX8_isShort_15 (by decide) ?_
    refine lv_lshl hx hb dX8_isShort_17 rfl ?_
    refine lv_aload_n hx hb dX8_isShort_18 rfl (lv_at hl 0 rfl) ?_
    refine lv_iconst (v := 0) hx hb dX8_isShort_19 (by decide) ?_
    obtain ⟨_, ex5, hs⟩ := bi_inv hs
    obtain ⟨x6, ex6, hs⟩ := bi_inv hs
    refine hv_V1 (n := 1) [.int ((0 : Int32))] [.long (x4 <<< (((32 : Int32)).toInt64 &&& 63))] hx hb hml hown hts hk hr hz hS (zm_X8_partAt l D z ex6) ex5 rfl tw_415 tw_416 tw_417 tw_2 tw_418 (by decide +kernel) (by decide) ⟨(Nat.zero_le _), (Nat.zero_le _)⟩ rfl hl.1 (Nat.le_of_ble_eq_true rfl) dX8_isShort_20 rfl (fun H locs hr hS => ?_)
    refine lv_lor hx hb dX8_isShort_23 ?_
    refine lv_topl (fun x7 ex7 => ?_)
    replace hs := lt_inv hs x7 ex7
    refine lv_lstore_n (lv' := [(1, .long x7), (0, .ref u0)]) hx hb dX8_isShort_24 rfl hl (by decide) rfl (fun ls hl => ?_)
    refine lv_lload_n hx hb dX8_isShort_25 rfl (lv_at hl 0 rfl) ?_
    refine lv_lconst (v := 0) hx hb dX8_isShort_26 (by decide) ?_
    refine hv_lc_ge (tgt := 46) hx hb dX8_isShort_27 dX8_isShort_28 (by decide) (fun c8 => ?_) (fun c8 => ?_)
    · rw [if_pos c8] at hs
      refine lv_iconst (v := 1) hx hb dX8_isShort_46 (by decide) ?_
      refine lv_goto (tgt := 51) hx hb dX8_isShort_47 (by decide) ?_
      obtain rfl := Option.some.inj hs
      exact hv_zret hx hb hrt hlk hr hS (by decide) dX8_isShort_51
    · rw [if_neg c8] at hs
      refine lv_aload_n hx hb dX8_isShort_31 rfl (lv_at hl 1 rfl) ?_
      obtain ⟨x9, ex9, hs⟩ := bi_inv hs
      refine hv_gI (C := RX8) (T := TX8) (N := 3) (ci := 8) hx hb hts inX8 hown hk hr rfl 2 (by decide) (hts _ tw_42) ex9 dX8_isShort_32 ?_
      refine lv_if_eq (tgt := 50) hx hb dX8_isShort_35 (by decide) (fun c10 => ?_) (fun c10 => ?_)
      · rw [if_pos c10] at hs
        refine lv_iconst (v := 0) hx hb dX8_isShort_50 (by decide) ?_
        obtain rfl := Option.some.inj hs
        exact hv_zret hx hb hrt hlk hr hS (by decide) dX8_isShort_51
      · rw [if_neg c10] at hs
        refine lv_lload_n hx hb dX8_isShort_38 rfl (lv_at hl 0 rfl) ?_
        refine lv_ldc2 hx hb hown (hts _ tw_427) dX8_isShort_39 ?_
        refine hv_lc_ne (tgt := 50) hx hb dX8_isShort_42 dX8_isShort_43 (by decide) (fun c11 => ?_) (fun c11 => ?_)
        · rw [if_neg c11] at hs
          refine lv_iconst (v := 0) hx hb dX8_isShort_50 (by decide) ?_
          obtain rfl := Option.some.inj hs
          exact hv_zret hx hb hrt hlk hr hS (by decide) dX8_isShort_51
        · rw [if_pos c11] at hs
          refine lv_iconst (v := 1) hx hb dX8_isShort_46 (by decide) ?_
          refine lv_goto (tgt := 51) hx hb dX8_isShort_47 (by decide) ?_
          obtain rfl := Option.some.inj hs
          exact hv_zret hx hb hrt hlk hr hS (by decide) dX8_isShort_51
  · rw [if_neg c2] at hs
    refine lv_iconst (v := 0) hx hb dX8_isShort_8 (by decide) ?_
    obtain rfl := Option.some.inj hs
    exact hv_zret hx hb hrt hlk hr hS (by decide) dX8_isShort_9
theorem dX8_lowest64_0 : decode cX8_lowest64 0 = .ok (.aload_n 0, 1) := by decide +kernel
theorem dX8_lowest64_1 : decode cX8_lowest64 1 = .ok (.iconst 1, 1) := by decide +kernel
theorem dX8_lowest64_2 : decode cX8_lowest64 2 = .ok (.invokevirtual 33, 3) := by decide +kernel
theorem dX8_lowest64_5 : decode cX8_lowest64 5 = .ok (.bipush 32, 2) := by decide +kernel
theorem dX8_lowest64_7 : decode cX8_lowest64 7 = .ok (.lshl, 1) := by decide +kernel
theorem dX8_lowest64_8 : decode cX8_lowest64 8 = .ok (.aload_n 0, 1) := by decide +kernel
theorem dX8_lowest64_9 : decode cX8_lowest64 9 = .ok (.iconst 0, 1) := by decide +kernel
theorem dX8_lowest64_10 : decode cX8_lowest64 10 = .ok (.invokevirtual 33, 3) := by decide +kernel
theorem dX8_lowest64_13 : decode cX8_lowest64 13 = .ok (.lor, 1) := by decide +kernel
theorem dX8_lowest64_14 : decode cX8_lowest64 14 = .ok (.lstore_n 1, 1) := by decide +kernel
theorem dX8_lowest64_15 : decode cX8_lowest64 15 = .ok (.aload_n 0, 1) := by decide +kernel
theorem dX8_lowest64_16 : decode cX8_lowest64 16 = .ok (.getfield 19, 3) := by decide +kernel
theorem dX8_lowest64_19 : decode cX8_lowest64 19 = .ok (.ifCond .eq 8, 3) := by decide +kernel
theorem dX8_lowest64_22 : decode cX8_lowest64 22 = .ok (.lload_n 1, 1) := by decide +kernel
theorem dX8_lowest64_23 : decode cX8_lowest64 23 = .ok (.lneg, 1) := by decide +kernel
theorem dX8_lowest64_24 : decode cX8_lowest64 24 = .ok (.goto 4, 3) := by decide +kernel
theorem dX8_lowest64_27 : decode cX8_lowest64 27 = .ok (.lload_n 1, 1) := by decide +kernel
theorem dX8_lowest64_28 : decode cX8_lowest64 28 = .ok (.lreturn, 1) := by decide +kernel
def zs_X8_lowest64 (h : AH) (u0 : Nat) : Option Int64 :=
  (chk h u0 8).bind fun _ => (zs_X8_partAt h u0 ((1 : Int32))).bind fun x2 => (chk h u0 8).bind fun _ => (zs_X8_partAt h u0 ((0 : Int32))).bind fun x4 => lt_ ((x2 <<< (((32 : Int32)).toInt64 &&& 63)) ||| x4) fun x5 => (gI h u0 8 2).bind fun x6 => (if x6 = 0 then some x5 else some (-x5))
set_option maxRecDepth 100000 in
set_option maxHeartbeats 4000000 in
theorem zm_X8_lowest64 (l : Launch) (D : hG) (z : Nat) {h : AH} {u0 : Nat} {r : Int64} (hs : zs_X8_lowest64 h u0 = some r) : hC l D z yX8_lowest64 cX8_lowest64 3 (Option.some Jvm.ClassFile.FieldType.long) 1 21 0 0 [.ref u0] h h (some (.long r)) := by
  refine hC_of (by decide) (Nat.le_of_ble_eq_true rfl) ?_
  intro p e s m below meth c hx hb hml hrt hlk hown hnm hts hk hr hz ls hl
  replace hown : s.vm.findClass RX8 = some m.cls := hown
  replace hl : lv_has ls 3 [(0, .ref u0)] := hl
  have hS : va_S (hA z) s.heap s.heap [] := va_S.rf
  suffices hgo : ∀ (H : Heap) (locs : List Loc), hR D z h H → va_S (hA z) s.heap H locs → W p l e ({ frames := 1, cells := 0, slots := 0, locals := 21 } : Room) s m ([.ref u0] : List Value).toArray below meth c H locs 0 0 (MQ below (hQ D z h (some (.long r))) ([.ref u0] : List Value).toArray s 0 0 (hA z)) (F0 m 0 ls []) from hgo _ _ hr hS
  clear hr hS
  intro H locs hr hS
  unfold zs_X8_lowest64 at hs
  refine lv_aload_n hx hb dX8_lowest64_0 rfl (lv_at hl 0 rfl) ?_
  refine lv_iconst (v := 1) hx hb dX8_lowest64_1 (by decide) ?_
  obtain ⟨_, ex1, hs⟩ := bi_inv hs
  obtain ⟨x2, ex2, hs⟩ := bi_inv hs
  refine hv_V1 (n := 1) [.int ((1 : Int32))] [] hx hb hml hown hts hk hr hz hS (zm_X8_partAt l D z ex2) ex1 rfl tw_415 tw_416 tw_417 tw_2 tw_418 (by decide +kernel) (by decide) ⟨(Nat.zero_le _), (Nat.zero_le _)⟩ rfl hl.1 (Nat.le_of_ble_eq_true rfl) dX8_lowest64_2 rfl (fun H locs hr hS => ?_)
  refine lv_bipush (v := 32) hx hb dX8_lowest64_5 (by decide) ?_
  refine lv_lshl hx hb dX8_lowest64_7 rfl ?_
  refine lv_aload_n hx hb dX8_lowest64_8 rfl (lv_at hl 0 rfl) ?_
  refine lv_iconst (v := 0) hx hb dX8_lowest64_9 (by decide) ?_
  obtain ⟨_, ex3, hs⟩ := bi_inv hs
  obtain ⟨x4, ex4, hs⟩ := bi_inv hs
  refine hv_V1 (n := 1) [.int ((0 : Int32))] [.long (x2 <<< (((32 : Int32)).toInt64 &&& 63))] hx hb hml hown hts hk hr hz hS (zm_X8_partAt l D z ex4) ex3 rfl tw_415 tw_416 tw_417 tw_2 tw_418 (by decide +kernel) (by decide) ⟨(Nat.zero_le _), (Nat.zero_le _)⟩ rfl hl.1 (Nat.le_of_ble_eq_true rfl) dX8_lowest64_10 rfl (fun H locs hr hS => ?_)
  refine lv_lor hx hb dX8_lowest64_13 ?_
  refine lv_topl (fun x5 ex5 => ?_)
  replace hs := lt_inv hs x5 ex5
  refine lv_lstore_n (lv' := [(1, .long x5), (0, .ref u0)]) hx hb dX8_lowest64_14 rfl hl (by decide) rfl (fun ls hl => ?_)
  refine lv_aload_n hx hb dX8_lowest64_15 rfl (lv_at hl 1 rfl) ?_
  obtain ⟨x6, ex6, hs⟩ := bi_inv hs
  refine hv_gI (C := RX8) (T := TX8) (N := 3) (ci := 8) hx hb hts inX8 hown hk hr rfl 2 (by decide) (hts _ tw_42) ex6 dX8_lowest64_16 ?_
  refine lv_if_eq (tgt := 27) hx hb dX8_lowest64_19 (by decide) (fun c7 => ?_) (fun c7 => ?_)
  · rw [if_pos c7] at hs
    refine lv_lload_n hx hb dX8_lowest64_27 rfl (lv_at hl 0 rfl) ?_
    obtain rfl := Option.some.inj hs
    exact hv_lret hx hb hrt hlk hr hS dX8_lowest64_28
  · rw [if_neg c7] at hs
    refine lv_lload_n hx hb dX8_lowest64_22 rfl (lv_at hl 0 rfl) ?_
    refine lv_lneg hx hb dX8_lowest64_23 ?_
    refine lv_goto (tgt := 28) hx hb dX8_lowest64_24 (by decide) ?_
    obtain rfl := Option.some.inj hs
    exact hv_lret hx hb hrt hlk hr hS dX8_lowest64_28
theorem dX8_move_0 : decode cX8_move 0 = .ok (.iconst 0, 1) := by decide +kernel
theorem dX8_move_1 : decode cX8_move 1 = .ok (.aload_n 0, 1) := by decide +kernel
theorem dX8_move_2 : decode cX8_move 2 = .ok (.getfield 15, 3) := by decide +kernel
theorem dX8_move_5 : decode cX8_move 5 = .ok (.iload_n 1, 1) := by decide +kernel
theorem dX8_move_6 : decode cX8_move 6 = .ok (.iconst 5, 1) := by decide +kernel
theorem dX8_move_7 : decode cX8_move 7 = .ok (.ishr, 1) := by decide +kernel
theorem dX8_move_8 : decode cX8_move 8 = .ok (.iadd, 1) := by decide +kernel
theorem dX8_move_9 : decode cX8_move 9 = .ok (.iconst 1, 1) := by decide +kernel
theorem dX8_move_10 : decode cX8_move 10 = .ok (.iadd, 1) := by decide +kernel
theorem dX8_move_11 : decode cX8_move 11 = .ok (.bipush 26, 2) := by decide +kernel
theorem dX8_move_13 : decode cX8_move 13 = .ok (.invokestatic 73, 3) := by decide +kernel
theorem dX8_move_16 : decode cX8_move 16 = .ok (.invokestatic 67, 3) := by decide +kernel
theorem dX8_move_19 : decode cX8_move 19 = .ok (.istore_n 3, 1) := by decide +kernel
theorem dX8_move_20 : decode cX8_move 20 = .ok (.iconst 0, 1) := by decide +kernel
theorem dX8_move_21 : decode cX8_move 21 = .ok (.istore 4, 2) := by decide +kernel
theorem dX8_move_23 : decode cX8_move 23 = .ok (.iload 4, 2) := by decide +kernel
theorem dX8_move_25 : decode cX8_move 25 = .ok (.iload_n 3, 1) := by decide +kernel
theorem dX8_move_26 : decode cX8_move 26 = .ok (.if_icmp .ge 23, 3) := by decide +kernel
theorem dX8_move_29 : decode cX8_move 29 = .ok (.aload_n 2, 1) := by decide +kernel
theorem dX8_move_30 : decode cX8_move 30 = .ok (.getfield 9, 3) := by decide +kernel
theorem dX8_move_33 : decode cX8_move 33 = .ok (.iload 4, 2) := by decide +kernel
theorem dX8_move_35 : decode cX8_move 35 = .ok (.aload_n 0, 1) := by decide +kernel
theorem dX8_move_36 : decode cX8_move 36 = .ok (.iload 4, 2) := by decide +kernel
theorem dX8_move_38 : decode cX8_move 38 = .ok (.iload_n 1, 1) := by decide +kernel
theorem dX8_move_39 : decode cX8_move 39 = .ok (.invokevirtual 76, 3) := by decide +kernel
theorem dX8_move_42 : decode cX8_move 42 = .ok (.lastore, 1) := by decide +kernel
theorem dX8_move_43 : decode cX8_move 43 = .ok (.iinc 4 1, 3) := by decide +kernel
theorem dX8_move_46 : decode cX8_move 46 = .ok (.goto (-23), 3) := by decide +kernel
theorem dX8_move_49 : decode cX8_move 49 = .ok (.aload_n 0, 1) := by decide +kernel
theorem dX8_move_50 : decode cX8_move 50 = .ok (.getfield 19, 3) := by decide +kernel
theorem dX8_move_53 : decode cX8_move 53 = .ok (.istore 4, 2) := by decide +kernel
theorem dX8_move_55 : decode cX8_move 55 = .ok (.aload_n 2, 1) := by decide +kernel
theorem dX8_move_56 : decode cX8_move 56 = .ok (.iload_n 3, 1) := by decide +kernel
theorem dX8_move_57 : decode cX8_move 57 = .ok (.invokevirtual 25, 3) := by decide +kernel
theorem dX8_move_60 : decode cX8_move 60 = .ok (.aload_n 2, 1) := by decide +kernel
theorem dX8_move_61 : decode cX8_move 61 = .ok (.iload 4, 2) := by decide +kernel
theorem dX8_move_63 : decode cX8_move 63 = .ok (.invokevirtual 29, 3) := by decide +kernel
theorem dX8_move_66 : decode cX8_move 66 = .ok (.return_, 1) := by decide +kernel
def zb_X8_move_23 (w0 : Nat) (w1 : Int32) (w2 : Nat) (w3 : Int32) (g4 : AH) (w4 : Int32) : Option ((AH × Int32) ⊕ (AH)) :=
  (if w3 ≤ w4 then some (Sum.inr g4) else (gR g4 w2 8 0).bind fun x6 => (chk g4 w0 8).bind fun _ => (zs_X8_movedPart g4 w0 w4 w1).bind fun x8 => (sJ g4 x6 1 w4 x8).bind fun g9 => some (Sum.inl ((g9, w4 + (1 : Int32)))))
def zs_X8_move (h : AH) (u0 : Nat) (u1 : Int32) (u2 : Nat) : Option AH :=
  (gI h u0 8 1).bind fun x1 => lt_ (if (26 : Int32) < (x1 + (u1 >>> (((5 : Int32)) &&& 31))) + ((1 : Int32)) then (26 : Int32) else (x1 + (u1 >>> (((5 : Int32)) &&& 31))) + ((1 : Int32))) fun x2 => lt_ (if (0 : Int32) < x2 then x2 else (0 : Int32)) fun x3 => (iter (fun q : AH × Int32 => zb_X8_move_23 u0 u1 u2 x3 q.1 q.2) FU ((h, (0 : Int32)))).bind fun r10 => (gI r10 u0 8 2).bind fun x11 => (chk r10 u2 8).bind fun _ => (zs_X8_trim r10 u2 x3).bind fun g13 => (chk g13 u2 8).bind fun _ => (zs_X8_takeSign g13 u2 x11).bind fun g15 => some g15
set_option maxRecDepth 100000 in
set_option maxHeartbeats 4000000 in
theorem zm_X8_move (l : Launch) (D : hG) (z : Nat) {h : AH} {u0 : Nat} {u1 : Int32} {u2 : Nat} {h' : AH} (hs : zs_X8_move h u0 u1 u2 = some h') : hC l D z yX8_move cX8_move 5 (Option.none : Option Jvm.ClassFile.FieldType) 2 45 0 0 [.ref u0, .int u1, .ref u2] h h' none := by
  refine hC_of (by decide) (Nat.le_of_ble_eq_true rfl) ?_
  intro p e s m below meth c hx hb hml hrt hlk hown hnm hts hk hr hz ls hl
  replace hown : s.vm.findClass RX8 = some m.cls := hown
  replace hl : lv_has ls 5 [(0, .ref u0), (1, .int u1), (2, .ref u2)] := hl
  have hS : va_S (hA z) s.heap s.heap [] := va_S.rf
  suffices hgo : ∀ (H : Heap) (locs : List Loc), hR D z h H → va_S (hA z) s.heap H locs → W p l e ({ frames := 2, cells := 0, slots := 0, locals := 45 } : Room) s m ([.ref u0, .int u1, .ref u2] : List Value).toArray below meth c H locs 0 0 (MQ below (hQ D z h' none) ([.ref u0, .int u1, .ref u2] : List Value).toArray s 0 0 (hA z)) (F0 m 0 ls []) from hgo _ _ hr hS
  clear hr hS
  intro H locs hr hS
  unfold zs_X8_move at hs
  refine lv_iconst (v := 0) hx hb dX8_move_0 (by decide) ?_
  refine lv_aload_n hx hb dX8_move_1 rfl (lv_at hl 0 rfl) ?_
  obtain ⟨x1, ex1, hs⟩ := bi_inv hs
  refine hv_gI (C := RX8) (T := TX8) (N := 3) (ci := 8) hx hb hts inX8 hown hk hr rfl 1 (by decide) (hts _ tw_39) ex1 dX8_move_2 ?_
  refine lv_iload_n hx hb dX8_move_5 rfl (lv_at hl 1 rfl) ?_
  refine lv_iconst (v := 5) hx hb dX8_move_6 (by decide) ?_
  refine lv_ishr hx hb dX8_move_7 ?_
  refine lv_iadd hx hb dX8_move_8 ?_
  refine lv_iconst (v := 1) hx hb dX8_move_9 (by decide) ?_
  refine lv_iadd hx hb dX8_move_10 ?_
  refine lv_bipush (v := 26) hx hb dX8_move_11 (by decide) ?_
  refine va_mmin hx hb (hml.trans hl.1.symm) hown (hts _ tw_462) (hts _ tw_463) (hts _ tw_15) (hts _ tw_464) (by decide) (Nat.le_of_ble_eq_true rfl) (Nat.zero_le _) (Nat.zero_le _) dX8_move_13 ?_
  refine lv_topi (fun x2 ex2 => ?_)
  replace hs := lt_inv hs x2 ex2
  refine va_mmax hx hb (hml.trans hl.1.symm) hown (hts _ tw_459) (hts _ tw_460) (hts _ tw_15) (hts _ tw_461) (by decide) (Nat.le_of_ble_eq_true rfl) (Nat.zero_le _) (Nat.zero_le _) dX8_move_16 ?_
  refine lv_topi (fun x3 ex3 => ?_)
  replace hs := lt_inv hs x3 ex3
  refine lv_istore_n (lv' := [(3, .int x3), (0, .ref u0), (1, .int u1), (2, .ref u2)]) hx hb dX8_move_19 rfl hl (by decide) rfl (fun ls hl => ?_)
  refine lv_iconst (v := 0) hx hb dX8_move_20 (by decide) ?_
  refine lv_istore (lv' := [(4, .int ((0 : Int32))), (3, .int x3), (0, .ref u0), (1, .int u1), (2, .ref u2)]) hx hb dX8_move_21 hl (by decide) rfl (fun ls hl => ?_)
  obtain ⟨r10, er10, hs⟩ := bi_inv hs
  refine iter_W (fun (q : AH × Int32) => ∀ (H : Heap) (locs : List Loc) (ls : Array Slot), hR D z q.1 H → va_S (hA z) s.heap H locs → lv_has ls 5 [(0, .ref u0), (1, .int u1), (2, .ref u2), (3, .int x3), (4, .int q.2)] → W p l e ({ frames := 2, cells := 0, slots := 0, locals := 45 } : Room) s m ([.ref u0, .int u1, .ref u2] : List Value).toArray below meth c H locs 0 0 (MQ below (hQ D z h' none) ([.ref u0, .int u1, .ref u2] : List Value).toArray s 0 0 (hA z)) (F0 m 23 ls [])) (fun (x : AH) => ∀ (H : Heap) (locs : List Loc) (ls : Array Slot), hR D z x H → va_S (hA z) s.heap H locs → lv_has ls 5 [(0, .ref u0), (2, .ref u2), (3, .int x3)] → W p l e ({ frames := 2, cells := 0, slots := 0, locals := 45 } : Room) s m ([.ref u0, .int u1, .ref u2] : List Value).toArray below meth c H locs 0 0 (MQ below (hQ D z h' none) ([.ref u0, .int u1, .ref u2] : List Value).toArray s 0 0 (hA z)) (F0 m 49 ls [])) ?_ FU _ r10 er10 ?_ H locs ls hr hS (lv_sub hl [2, 3, 4, 1, 0] rfl)
  · intro q o hs hcont hexit
    obtain ⟨g4, w4⟩ := q
    replace hs : zb_X8_move_23 u0 u1 u2 x3 g4 w4 = some o := hs
    intro H locs ls hr hS hl
    unfold zb_X8_move_23 at hs
    refine lv_iload hx hb dX8_move_23 (lv_at hl 4 rfl) ?_
    refine lv_iload_n hx hb dX8_move_25 rfl (lv_at hl 3 rfl) ?_
    refine lv_icmp_ge (tgt := 49) hx hb dX8_move_26 (by decide) (fun c5 => ?_) (fun c5 => ?_)
    · rw [if_pos c5] at hs
      obtain rfl := Option.some.inj hs
      exact hexit _ rfl H locs ls hr hS (lv_sub hl [0, 2, 3] rfl)
    · rw [if_neg c5] at hs
      refine lv_aload_n hx hb dX8_move_29 rfl (lv_at hl 2 rfl) ?_
      obtain ⟨x6, ex6, hs⟩ := bi_inv hs
      refine hv_gR (C := RX8) (T := TX8) (N := 3) (ci := 8) hx hb hts inX8 hown hk hr rfl 0 (by decide) (hts _ tw_36) ex6 dX8_move_30 ?_
      refine lv_iload hx hb dX8_move_33 (lv_at hl 4 rfl) ?_
      refine lv_aload_n hx hb dX8_move_35 rfl (lv_at hl 0 rfl) ?_
      refine lv_iload hx hb dX8_move_36 (lv_at hl 4 rfl) ?_
      refine lv_iload_n hx hb dX8_move_38 rfl (lv_at hl 1 rfl) ?_
      obtain ⟨_, ex7, hs⟩ := bi_inv hs
      obtain ⟨x8, ex8, hs⟩ := bi_inv hs
      refine hv_V1 (n := 2) [.int w4, .int u1] [.int w4, .ref x6] hx hb hml hown hts hk hr hz hS (zm_X8_movedPart l D z ex8) ex7 rfl tw_646 tw_506 tw_507 tw_2 tw_508 (by decide +kernel) (by decide) ⟨(Nat.zero_le _), (Nat.zero_le _)⟩ rfl hl.1 (Nat.le_of_ble_eq_true rfl) dX8_move_39 rfl (fun H locs hr hS => ?_)
      obtain ⟨g9, eg9, hs⟩ := bi_inv hs
      refine hv_sJ hx hb hk hr hS eg9 dX8_move_42 (fun H locs hr hS => ?_)
      refine lv_iinc (v := w4 + (1 : Int32)) (lv' := [(4, .int (w4 + (1 : Int32))), (0, .ref u0), (1, .int u1), (2, .ref u2), (3, .int x3)]) hx hb dX8_move_43 hl (k := 4) rfl (ii_v _ (by decide)) (by decide) rfl (fun ls hl => ?_)
      refine lv_goto (tgt := 23) hx hb dX8_move_46 (by decide) ?_
      obtain rfl := Option.some.inj hs
      exact hcont _ rfl H locs ls hr hS (lv_sub hl [1, 2, 3, 4, 0] rfl)
  · intro H locs ls hr hS hl
    refine lv_aload_n hx hb dX8_move_49 rfl (lv_at hl 0 rfl) ?_
    obtain ⟨x11, ex11, hs⟩ := bi_inv hs
    refine hv_gI (C := RX8) (T := TX8) (N := 3) (ci := 8) hx hb hts inX8 hown hk hr rfl 2 (by decide) (hts _ tw_42) ex11 dX8_move_50 ?_
    refine lv_istore (lv' := [(4, .int x11), (0, .ref u0), (2, .ref u2), (3, .int x3)]) hx hb dX8_move_53 hl (by decide) rfl (fun ls hl => ?_)
    refine lv_aload_n hx hb dX8_move_55 rfl (lv_at hl 2 rfl) ?_
    refine lv_iload_n hx hb dX8_move_56 rfl (lv_at hl 3 rfl) ?_
    obtain ⟨_, ex12, hs⟩ := bi_inv hs
    obtain ⟨g13, eg13, hs⟩ := bi_inv hs
    refine hv_V0 (n := 1) [.int x3] [] hx hb hml hown hts hk hr hz hS (zm_X8_trim l D z eg13) ex12 rfl tw_70 tw_71 tw_72 tw_2 tw_73 (by decide +kernel) (by decide) ⟨(Nat.zero_le _), (Nat.zero_le _)⟩ rfl hl.1 (Nat.le_of_ble_eq_true rfl) dX8_move_57 rfl (fun H locs hr hS => ?_)
    refine lv_aload_n hx hb dX8_move_60 rfl (lv_at hl 2 rfl) ?_
    refine lv_iload hx hb dX8_move_61 (lv_at hl 0 rfl) ?_
    obtain ⟨_, ex14, hs⟩ := bi_inv hs
    obtain ⟨g15, eg15, hs⟩ := bi_inv hs
    refine hv_V0 (n := 1) [.int x11] [] hx hb hml hown hts hk hr hz hS (zm_X8_takeSign l D z eg15) ex14 rfl tw_74 tw_75 tw_76 tw_2 tw_77 (by decide +kernel) (by decide) ⟨(Nat.zero_le _), (Nat.zero_le _)⟩ rfl hl.1 (Nat.le_of_ble_eq_true rfl) dX8_move_63 rfl (fun H locs hr hS => ?_)
    obtain rfl := Option.some.inj hs
    exact hv_vret hx hb hrt hlk hr hS dX8_move_66
